/-! off, loss, notice: the value in the world, in the class and in the reference -/
/-- what the line at p sees at its place i, against the mouth v -/
def sv (h : Hp) (p i : Nat) (v : Int32) : Int32 := if ci (h p 5) ≤ i then 0 else if h 2 (ci (h p 4) + i) = 3 then 0 else f_8_seenOf (h p 2) (h p 3) (tA h 6 0 (h 2 (ci (h p 4) + i)) v (nI i))
def ws (h : Hp) (p j : Nat) : Nat → Nat → Nat → Int32 → Int32
  | 0, _, _, acc => acc
  | n + 1, k, i, acc => ws h p j n (k + 1) (i + 1) (acc + sv h p i (h (17 + 2 * j) k))
def wl (h : Hp) (j : Nat) : Nat := ci (h (16 + 2 * j) 2)
/-- the sum over a row of words: what is off, and the length -/
def rs (h : Hp) (p : Nat) (R : Nat → Nat) : Nat → Nat → Nat → Int32 → Int32 × Nat
  | 0, _, i, acc => (acc, i)
  | n + 1, k, i, acc => rs h p R n (k + 1) (i + wl h (R k)) (ws h p (R k) (wl h (R k)) 0 i acc)
def ov (h : Hp) (p : Nat) (R : Nat → Nat) (s : Nat) : Int32 := (rs h p R s 0 0 0).1 + f_8_endsOf (h p 2) (h p 3) (iabs (nI (rs h p R s 0 0 0).2 - h p 5))
/-- the words of the line at p -/
def rw_ (h : Hp) (p : Nat) : Nat → Nat := fun k => ci (h (p + 1) k)
def of_ (h : Hp) (p : Nat) : Int32 := ov h p (rw_ h p) (ci (h p 1))
def ls (h : Hp) (R : Nat → Nat) : Nat → Nat → Int32 → Int32
  | 0, _, acc => acc
  | n + 1, k, acc => ls h R n (k + 1) (acc + h (16 + 2 * R k) 3)
def lo_ (h : Hp) (p : Nat) (R : Nat → Nat) (s : Nat) : Int32 := imax 0 (h p 6 - ls h R s 0 0)
theorem filmAt_c {h : Hp} {k : Nat} (hk : k < 2 ^ 31) : f_7_filmAt (nI k) h = some (if k < 60 then h 2 k else 3) := by
  unfold f_7_filmAt
  rcases wiC (nI k) (A := 0) (B := 59) 0 59 (by decide) (by decide) (by decide) with ⟨e, q⟩ | ⟨e, j, _, j2, q⟩
  · rw [e, if_pos rfl, if_neg]
    exact fun a => absurd rfl (q k (Nat.zero_le k) (by omega))
  · have : k = j := (nI_eq hk (by omega)).mp q
    rw [e, if_neg (by decide), gd_s _ (inb_nI (by omega) (by decide)), ci_nI hk, if_pos (by omega)]
theorem sm_ci {x : Int32} {n : Nat} (a : sm x n) (hn : n < 2 ^ 31) : x = nI (ci x) ∧ ci x ≤ n := by
  obtain ⟨k, k1, rfl⟩ := a
  rw [ci_nI (by omega)]
  exact ⟨rfl, k1⟩
variable {h : Hp} {D : Nat → Int32}
theorem seen_c {p s W i : Nat} (T : TX h 6 D 0) (N : LN h p D s W) (hi : i ≤ 45) (v : Int32) : ∃ h1, f_7_seenAt p (nI i) v h = some (sv h p i v, h1) ∧ ∀ q, q ≠ 8 → h1 q = h q := by
  obtain ⟨K, m, b, n, z, w, ⟨a1, a2, a3, a4, a5, a6, a7⟩, _, _, ⟨c1, _⟩, ⟨d1, _⟩, _⟩ := N
  unfold f_7_seenAt sv
  rw [c1, d1, ci_nI (by omega), ci_nI (by omega), nI_add, filmAt_c (by omega), bnd_s]
  by_cases x1 : n ≤ i
  · rw [if_pos (nI_le x1 (by omega)), if_pos x1]
    exact ⟨h, rfl, fun _ _ => rfl⟩
  · rw [if_neg (nI_ge (by omega) (by omega)), if_neg x1, if_pos (show b + i < 60 by omega)]
    by_cases x2 : h 2 (b + i) = 3
    · rw [if_pos x2, if_pos x2]
      exact ⟨h, rfl, fun _ _ => rfl⟩
    · rw [if_neg x2, if_neg x2]
      obtain ⟨h1, e1, e2⟩ := apart_c T (h 2 (b + i)) v (nI i)
      refine ⟨h1, ?_, e2⟩
      rw [e1, bnd2_s]
/-- the places that the values read -/
def RD (h h1 : Hp) : Prop := ∀ q, q < 48 → q ≠ 8 → q ≠ 11 → q ≠ 14 → q ≠ 15 → h1 q = h q
theorem PF.rd {h h1 : Hp} (a : PF h h1) : RD h h1 := fun q _ _ _ _ _ => a.1 q (by unfold scr; omega)
theorem RD.of8 {h h1 : Hp} (a : ∀ q, q ≠ 8 → h1 q = h q) : RD h h1 := fun q _ x _ _ _ => a q x
theorem tA_cong {h h1 : Hp} {p u : Nat} (a : h1 p = h p) (b : h1 (p + 1) = h (p + 1)) (x y z : Int32) : tA h1 p u x y z = tA h p u x y z := by
  unfold tA
  rw [a, b]
theorem sv_cong {h h1 : Hp} {p i : Nat} {v : Int32} (r : RD h h1) (p1 : 36 ≤ p) (p2 : p < 47) : sv h1 p i v = sv h p i v := by
  unfold sv
  rw [r p (by omega) (by omega) (by omega) (by omega) (by omega), r 2 (by decide) (by decide) (by decide) (by decide) (by decide)]
  rw [tA_cong (r 6 (by decide) (by decide) (by decide) (by decide) (by decide)) (r 7 (by decide) (by decide) (by decide) (by decide) (by decide))]
theorem ws_cong {h h1 : Hp} {p j : Nat} (r : RD h h1) (p1 : 36 ≤ p) (p2 : p < 47) (hj : j < 10) : ∀ (d k i : Nat) (acc : Int32), ws h1 p j d k i acc = ws h p j d k i acc
  | 0, _, _, _ => rfl
  | d + 1, k, i, acc => by
    show ws h1 p j d (k + 1) (i + 1) _ = ws h p j d (k + 1) (i + 1) _
    rw [ws_cong r p1 p2 hj d, sv_cong r p1 p2, r (17 + 2 * j) (by omega) (by omega) (by omega) (by omega) (by omega)]
theorem wl_cong {h h1 : Hp} {j : Nat} (r : RD h h1) (hj : j < 10) : wl h1 j = wl h j := by
  unfold wl
  rw [r (16 + 2 * j) (by omega) (by omega) (by omega) (by omega) (by omega)]
theorem rs_cong {h h1 : Hp} {p : Nat} {R R1 : Nat → Nat} (r : RD h h1) (p1 : 36 ≤ p) (p2 : p < 47) : ∀ (d k i : Nat) (acc : Int32), (∀ t, t < k + d → R t < 10 ∧ R1 t = R t) → rs h1 p R1 d k i acc = rs h p R d k i acc
  | 0, _, _, _, _ => rfl
  | d + 1, k, i, acc, hR => by
    show rs h1 p R1 d (k + 1) _ _ = rs h p R d (k + 1) _ _
    obtain ⟨a, b⟩ := hR k (by omega)
    rw [b, wl_cong r a, ws_cong r p1 p2 a, rs_cong r p1 p2 d (k + 1) _ _ (fun t ht => hR t (by omega))]
theorem ov_cong {h h1 : Hp} {p z : Nat} {R R1 : Nat → Nat} (r : RD h h1) (p1 : 36 ≤ p) (p2 : p < 47) (hR : ∀ t, t < z → R t < 10 ∧ R1 t = R t) : ov h1 p R1 z = ov h p R z := by
  unfold ov
  rw [rs_cong r p1 p2 z 0 0 0 (fun t ht => hR t (by omega)), r p (by omega) (by omega) (by omega) (by omega) (by omega)]
theorem rs_len {h : Hp} {p : Nat} {R : Nat → Nat} : ∀ (d k i : Nat) (acc : Int32), (∀ t, t < k + d → wl h (R t) ≤ 5) → (rs h p R d k i acc).2 ≤ i + 5 * d
  | 0, _, i, _, _ => Nat.le_refl i
  | d + 1, k, i, acc, hR => by
    have a := hR k (by omega)
    have b := rs_len (h := h) (p := p) (R := R) d (k + 1) (i + wl h (R k)) (ws h p (R k) (wl h (R k)) 0 i acc) (fun t ht => hR t (by omega))
    show (rs h p R d (k + 1) (i + wl h (R k)) (ws h p (R k) (wl h (R k)) 0 i acc)).2 ≤ _
    omega
/-- a word's sum, in the class -/
theorem off32 {p s W j N : Nat} (T : TX h 6 D 0) (L : LN h p D s W) (p1 : 36 ≤ p) (p2 : p < 47) (hj : j < 10) (hN : h (16 + 2 * j) 2 = nI N) (N5 : N ≤ 5) (K : Int32 → Int32 → Int32 → Hp → Option (Int32 × Hp)) (x4 : Int32) : ∀ (d k i n : Nat) (acc : Int32) (h0 : Hp), N = k + d → i + d ≤ 45 → d < n → (∀ q, q ≠ 8 → h0 q = h q) →
    ∃ h1, (∀ q, q ≠ 8 → h1 q = h q) ∧ f_7_off_32 K p x4 (16 + 2 * j) n acc (nI i) (nI k) h0 = K (ws h p j d k i acc) (nI (i + d)) (x4 + 1) h1 := by
  intro d
  induction d with
  | zero =>
    intro k i n acc h0 e1 e2 e3 f
    obtain ⟨n, rfl⟩ : ∃ z, n = z + 1 := ⟨n - 1, by omega⟩
    refine ⟨h0, f, ?_⟩
    rw [f_7_off_32, f (16 + 2 * j) (by omega), hN, if_pos (nI_le (by omega) (by omega))]
    rfl
  | succ d ih =>
    intro k i n acc h0 e1 e2 e3 f
    obtain ⟨n, rfl⟩ : ∃ z, n = z + 1 := ⟨n - 1, by omega⟩
    have hk : k < N := by omega
    have T0 : TX h0 6 D 0 := T.fr (f 6 (by decide)) (f 7 (by decide))
    have L0 : LN h0 p D s W := L.fr (f p (by omega)) (f (p + 1) (by omega))
    obtain ⟨h1, g1, g2⟩ := seen_c T0 L0 (show i ≤ 45 by omega) (h0 (17 + 2 * j) k)
    obtain ⟨h2, a1, a2⟩ := ih (k + 1) (i + 1) n (acc + sv h p i (h (17 + 2 * j) k)) h1 (by omega) (by omega) (by omega) (fun q hq => (g2 q hq).trans (f q hq))
    refine ⟨h2, a1, ?_⟩
    rw [f_7_off_32, f (16 + 2 * j) (by omega), hN, if_neg (nI_ge hk (by omega)), gd_s _ (inb_nI (show k < 5 by omega) (by decide)), ci_nI (by omega), show 16 + 2 * j + 1 = 17 + 2 * j by omega, g1, bnd2_s, nI_1, nI_1, sv_cong (RD.of8 f) p1 p2, f (17 + 2 * j) (by omega), a2, show i + 1 + d = i + (d + 1) by omega]
    rfl
theorem wordAt_c {j : Nat} (hj : j < 10) : f_7_wordAt (nI j) = some (16 + 2 * j) := by
  unfold f_7_wordAt
  rcases wiC (nI j) (A := 0) (B := 9) 0 9 (by decide) (by decide) (by decide) with ⟨e, q⟩ | ⟨e, _⟩
  · exact absurd rfl (q j (by omega) (by omega))
  · rw [e, if_neg (by decide), gd_s _ (inb_nI hj (by decide)), ci_nI (by omega)]
/-- the words that a row may name -/
def WS (h : Hp) (R : Nat → Nat) (z : Nat) : Prop := ∀ t, t < z → R t < 10 ∧ ∃ N : Nat, N ≤ 5 ∧ h (16 + 2 * R t) 2 = nI N
theorem WS.len {R : Nat → Nat} {z t : Nat} (w : WS h R z) (ht : t < z) : wl h (R t) ≤ 5 ∧ h (16 + 2 * R t) 2 = nI (wl h (R t)) := by
  obtain ⟨_, N, n1, n2⟩ := w t ht
  have e : wl h (R t) = N := by
    unfold wl
    rw [n2, ci_nI (by omega)]
  rw [e]
  exact ⟨n1, n2⟩
theorem off7 {p s W z : Nat} {R : Nat → Nat} (T : TX h 6 D 0) (L : LN h p D s W) (p1 : 36 ≤ p) (p2 : p < 47) (z3 : z ≤ 3) (hz : h p 1 = nI z) (hR : ∀ t, t < z → h (p + 1) t = nI (R t)) (w : WS h R z) : ∀ (d k i n : Nat) (acc : Int32) (h0 : Hp), z = k + d → i + 5 * d ≤ 15 → d < n → (∀ q, q ≠ 8 → h0 q = h q) →
    ∃ h1, (∀ q, q ≠ 8 → h1 q = h q) ∧ f_7_off_7 p n acc (nI i) (nI k) h0 = some ((rs h p R d k i acc).1 + f_8_endsOf (h p 2) (h p 3) (iabs (nI (rs h p R d k i acc).2 - h p 5)), h1) := by
  intro d
  induction d with
  | zero =>
    intro k i n acc h0 e1 e2 e3 f
    obtain ⟨n, rfl⟩ : ∃ z, n = z + 1 := ⟨n - 1, by omega⟩
    refine ⟨h0, f, ?_⟩
    rw [f_7_off_7, f p (by omega), hz, if_pos (nI_le (by omega) (by omega))]
    rfl
  | succ d ih =>
    intro k i n acc h0 e1 e2 e3 f
    obtain ⟨n, rfl⟩ : ∃ z, n = z + 1 := ⟨n - 1, by omega⟩
    have hk : k < z := by omega
    obtain ⟨w1, w2⟩ := w.len hk
    have r10 := (w k hk).1
    obtain ⟨h1, g1, g2⟩ := off32 T L p1 p2 r10 w2 w1 (f_7_off_7 p n) (nI k) (wl h (R k)) 0 i FU acc h0 (by omega) (by omega) (by show _ < 4096; omega) f
    obtain ⟨h2, a1, a2⟩ := ih (k + 1) (i + wl h (R k)) n (ws h p (R k) (wl h (R k)) 0 i acc) h1 (by omega) (by omega) (by omega) g1
    refine ⟨h2, a1, ?_⟩
    rw [f_7_off_7, f p (by omega), hz, if_neg (nI_ge hk (by omega)), gd_s _ (inb_nI (show k < 3 by omega) (by decide)), ci_nI (by omega), f (p + 1) (by omega), hR k hk, wordAt_c r10, bnd_s]
    have g2 : f_7_off_32 (f_7_off_7 p n) p (nI k) (16 + 2 * R k) FU acc (nI i) 0 h0 = f_7_off_7 p n (ws h p (R k) (wl h (R k)) 0 i acc) (nI (i + wl h (R k))) (nI k + 1) h1 := g2
    rw [g2, nI_1, a2]
    rfl
