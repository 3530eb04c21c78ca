/-! the search: a row is weighed -/
section
variable {h : Hp}
def cw (M : Int32) (h : Hp) (p nn : Nat) (R : Nat → Nat) : Nat → Nat → Nat → Int32 → Int32 × Nat
  | 0, _, i, acc => (acc, i)
  | n + 1, k, i, acc => cw M h p nn R n (k + 1) (i + wl h (R k)) (acc + (if nn ≤ i then 0 else PW M h p (R k) i))
def rl (h : Hp) (R : Nat → Nat) : Nat → Nat → Nat → Nat
  | 0, _, i => i
  | n + 1, k, i => rl h R n (k + 1) (i + wl h (R k))
theorem cw_len {M : Int32} {p nn : Nat} {R : Nat → Nat} : ∀ (d k i : Nat) (acc : Int32), (cw M h p nn R d k i acc).2 = rl h R d k i
  | 0, _, _, _ => rfl
  | d + 1, k, i, acc => cw_len d (k + 1) _ _
theorem rs_rl {p : Nat} {R : Nat → Nat} : ∀ (d k i : Nat) (acc : Int32), (rs h p R d k i acc).2 = rl h R d k i
  | 0, _, _, _ => rfl
  | d + 1, k, i, acc => rs_rl d (k + 1) _ _
def fin_ (p1 : Nat) (x2 x3 x4 x5 x6 x7 : Int32) (h : Hp) : Option Hp := if x2 = 0 then (if x3 < (imax 0 ((h p1 6) - x7)) then (if x2 = 1 then (if x3 < (x5 + (f_8_endsOf (h p1 2) (h p1 3) (iabs (x6 - (h p1 5))))) then (if x2 = 2 then (if x6 = (h p1 5) then (if x5 = 0 then (bnd (f_2_offer 0 x4 h) (fun h10 => some h10)) else (some h)) else (some h)) else (some h)) else (bnd (f_2_offer (imax 0 ((h p1 6) - x7)) x4 h) (fun h12 => some h12))) else (if x2 = 2 then (if x6 = (h p1 5) then (if x5 = 0 then (bnd (f_2_offer 0 x4 h) (fun h17 => some h17)) else (some h)) else (some h)) else (some h))) else (bnd (f_2_offer (x5 + (f_8_endsOf (h p1 2) (h p1 3) (iabs (x6 - (h p1 5))))) x4 h) (fun h19 => some h19))) else (if x2 = 1 then (if x3 < (x5 + (f_8_endsOf (h p1 2) (h p1 3) (iabs (x6 - (h p1 5))))) then (if x2 = 2 then (if x6 = (h p1 5) then (if x5 = 0 then (bnd (f_2_offer 0 x4 h) (fun h26 => some h26)) else (some h)) else (some h)) else (some h)) else (bnd (f_2_offer (imax 0 ((h p1 6) - x7)) x4 h) (fun h28 => some h28))) else (if x2 = 2 then (if x6 = (h p1 5) then (if x5 = 0 then (bnd (f_2_offer 0 x4 h) (fun h33 => some h33)) else (some h)) else (some h)) else (some h)))
theorem fin0 (p : Nat) (x3 s a b c : Int32) : fin_ p 0 x3 s a b c h = if x3 < imax 0 (h p 6 - c) then some h else f_2_offer (a + f_8_endsOf (h p 2) (h p 3) (iabs (b - h p 5))) s h := by
  have k : ∀ o : Option Hp, bnd o (fun h => some h) = o := fun o => by cases o <;> rfl
  unfold fin_
  simp only [if_pos (show (0 : Int32) = 0 from rfl), if_neg (show ¬ (0 : Int32) = 1 by decide), if_neg (show ¬ (0 : Int32) = 2 by decide), k, if_true]
theorem fin1 (p : Nat) (x3 s a b c : Int32) : fin_ p 1 x3 s a b c h = if x3 < a + f_8_endsOf (h p 2) (h p 3) (iabs (b - h p 5)) then some h else f_2_offer (imax 0 (h p 6 - c)) s h := by
  have k : ∀ o : Option Hp, bnd o (fun h => some h) = o := fun o => by cases o <;> rfl
  unfold fin_
  simp only [if_pos (show (1 : Int32) = 1 from rfl), if_neg (show ¬ (1 : Int32) = 0 by decide), if_neg (show ¬ (1 : Int32) = 2 by decide), k, if_true]
theorem fin2 (p : Nat) (x3 s a b c : Int32) : fin_ p 2 x3 s a b c h = if b = h p 5 then (if a = 0 then f_2_offer 0 s h else some h) else some h := by
  have k : ∀ o : Option Hp, bnd o (fun h => some h) = o := fun o => by cases o <;> rfl
  unfold fin_
  simp only [if_pos (show (2 : Int32) = 2 from rfl), if_neg (show ¬ (2 : Int32) = 0 by decide), if_neg (show ¬ (2 : Int32) = 1 by decide), k, if_true]
/-- the loop over a row's words -/
theorem wgh_l {M : Int32} (x : INV h) {l nn s : Nat} {R : Nat → Nat} (hl : l < ci (h 1 11)) (hn : h (36 + 2 * l) 5 = nI nn) (n15 : nn ≤ 15) (s3 : s ≤ 3) (hR : ∀ t, t < s → R t < ci (h 1 10)) (x3 : Int32) (h0 : Hp) (f : ∀ q, q ≠ 8 → ¬ (95 ≤ q ∧ q ≤ 99) → h0 q = h q) (u : T97 M h (36 + 2 * l) nn (ci (h 1 10)) 0 h0) (v : ∀ t, t < s → h0 98 t = nI (R t)) : ∀ (d k i n : Nat) (acc x7 : Int32), s = k + d → i + 5 * d ≤ 15 → d < n → f_2_weigh_12 (36 + 2 * l) M x3 (nI s) n acc (nI i) x7 (nI k) h0 = fin_ (36 + 2 * l) M x3 (nI s) (cw M h (36 + 2 * l) nn R d k i acc).1 (nI (rl h R d k i)) (ls h R d k x7) h0
  | 0, k, i, n, acc, x7, e1, e2, e3 => by
    obtain ⟨n, rfl⟩ : ∃ z, n = z + 1 := ⟨n - 1, by omega⟩
    rw [f_2_weigh_12, if_pos (nI_le (by omega) (by omega))]
    rfl
  | d + 1, k, i, n, acc, x7, e1, e2, e3 => by
    obtain ⟨n, rfl⟩ : ∃ z, n = z + 1 := ⟨n - 1, by omega⟩
    have l6 := x.L.2
    have w10 := x.W.2
    have r := hR k (by omega)
    obtain ⟨N, g, N1, N5, g9, c1, _, c3, _, _, _⟩ := x.word r
    have eW : wl h (R k) = N := by unfold wl; rw [c1, ci_nI (by omega)]
    have fw : h0 (16 + 2 * R k) = h (16 + 2 * R k) := f _ (by omega) (by omega)
    rw [f_2_weigh_12, if_neg (nI_ge (by omega) (by omega)), gd_s _ (inb_nI (show k < 3 by omega) (by decide)), ci_nI (by omega), v k (by omega), wordAt_c (by omega), bnd_s, f _ (by omega) (by omega), hn, fw, c1, nI_add, nI_1]
    have ih := fun acc => wgh_l x hl hn n15 s3 hR x3 h0 f u v d (k + 1) (i + N) n acc (x7 + h (16 + 2 * R k) 3) (by omega) (by omega) (by omega)
    by_cases c : nn ≤ i
    · rw [if_pos (nI_le c (by omega)), ih, cw, if_pos c, rl, eW]
      rfl
    · have e : (15 : Int32) * nI (R k) + nI i = nI (15 * R k + i) := by rw [lit_nI 15, pk_mul, nI_add]
      rw [if_neg (nI_ge (by omega) (by omega)), gd_s _ (inb_nI (show k < 3 by omega) (by decide)), e, gd_s _ (inb_nI (show 15 * R k + i < 150 by omega) (by decide)), ci_nI (by omega), u (R k) i (by omega) (by omega), ih, cw, if_neg c, rl, eW]
      rfl
theorem wg_add {G : Nat → Int32 → Int32} {j : Nat} (a : Int32) : ∀ (n k i : Nat) (b : Int32), wg G h j n k i (a + b) = a + wg G h j n k i b
  | 0, _, _, _ => rfl
  | n + 1, k, i, b => by
    rw [wg, wg, Int32.add_assoc, wg_add a n]
theorem wg_a0 {G : Nat → Int32 → Int32} {j : Nat} (a : Int32) (n k i : Nat) : a + wg G h j n k i 0 = wg G h j n k i a := by
  rw [← wg_add, Int32.add_zero]
theorem wg_ws {M : Int32} {p nn j : Nat} (hM : ¬ M = 2) (hn : h p 5 = nI nn) (n15 : nn ≤ 15) : ∀ (n k i : Nat) (a : Int32), wg (GX M h p) h j n k i a = ws h p j n k i a
  | 0, _, _, _ => rfl
  | n + 1, k, i, a => by
    rw [wg, ws, wg_ws hM hn n15 n]
    congr 2
    unfold GX PX
    rw [if_neg hM]
    by_cases c : 15 ≤ i
    · rw [if_pos c]
      unfold sv
      rw [hn, ci_nI (by omega), if_pos (by omega)]
    · rw [if_neg c]
theorem ws_z {p nn j : Nat} (hn : h p 5 = nI nn) (n15 : nn ≤ 15) : ∀ (n k i : Nat) (a : Int32), nn ≤ i → ws h p j n k i a = a
  | 0, _, _, _, _ => rfl
  | n + 1, k, i, a, c => by
    rw [ws, ws_z hn n15 n _ _ _ (by omega)]
    unfold sv
    rw [hn, ci_nI (by omega), if_pos c, Int32.add_zero]
theorem cw_rs {M : Int32} {p nn : Nat} {R : Nat → Nat} (hM : ¬ M = 2) (hn : h p 5 = nI nn) (n15 : nn ≤ 15) : ∀ (d k i : Nat) (acc : Int32), cw M h p nn R d k i acc = rs h p R d k i acc
  | 0, _, _, _ => rfl
  | d + 1, k, i, acc => by
    rw [cw, rs, cw_rs hM hn n15 d]
    congr 1
    by_cases c : nn ≤ i
    · rw [if_pos c, Int32.add_zero, ws_z hn n15 _ _ _ _ c]
    · rw [if_neg c]
      unfold PW
      rw [wg_a0, wg_ws hM hn n15]
/-! what is heard -/
def fl_ (h : Hp) (p i : Nat) : Int32 := if ci (h p 4) + i < 60 then h 2 (ci (h p 4) + i) else 3
def mt (h : Hp) (p i : Nat) (v : Int32) : Bool := decide (fl_ h p i = 3) || decide (fl_ h p i = v)
def hw (h : Hp) (p j : Nat) : Nat → Nat → Nat → Bool → Bool
  | 0, _, _, f => f
  | n + 1, k, i, f => hw h p j n (k + 1) (i + 1) (f && mt h p i (h (17 + 2 * j) k))
def hr (h : Hp) (p : Nat) (R : Nat → Nat) : Nat → Nat → Nat → Bool → Bool
  | 0, _, _, f => f
  | n + 1, k, i, f => hr h p R n (k + 1) (i + wl h (R k)) (hw h p (R k) (wl h (R k)) 0 i f)
theorem mft_e (p i : Nat) (v : Int32) : mft h p i v = nI (if mt h p i v = true then 0 else 1) := by
  unfold mft mt fl_
  generalize (if ci (h p 4) + i < 60 then h 2 (ci (h p 4) + i) else 3) = r
  by_cases c1 : r = 3
  · rw [if_pos c1]
    simp [c1]; rfl
  · rw [if_neg c1]
    by_cases c2 : r = v
    · rw [if_pos c2]
      simp [c2]; rfl
    · rw [if_neg c2]
      simp [c1, c2]; rfl
theorem wg_h {p j : Nat} : ∀ (n k i S : Nat) (f : Bool), i + n ≤ 15 → (S = 0 ↔ f = true) → ∃ S', wg (GX 2 h p) h j n k i (nI S) = nI S' ∧ S' ≤ S + n ∧ (S' = 0 ↔ hw h p j n k i f = true)
  | 0, _, _, S, f, _, q => ⟨S, rfl, by omega, q⟩
  | n + 1, k, i, S, f, e, q => by
    rw [wg, hw]
    have g : GX 2 h p i (h (17 + 2 * j) k) = nI (if mt h p i (h (17 + 2 * j) k) = true then 0 else 1) := by
      unfold GX PX
      rw [if_neg (by omega), if_pos rfl, mft_e]
    rw [g, nI_add]
    obtain ⟨S', a1, a2, a3⟩ := wg_h n (k + 1) (i + 1) (S + (if mt h p i (h (17 + 2 * j) k) = true then 0 else 1)) (f && mt h p i (h (17 + 2 * j) k)) (by omega) (by
      by_cases c : mt h p i (h (17 + 2 * j) k) = true
      · rw [if_pos c, c, Bool.and_true]; exact q
      · rw [if_neg c]
        have c2 : mt h p i (h (17 + 2 * j) k) = false := by simpa using c
        rw [c2, Bool.and_false]
        simp)
    refine ⟨S', a1, ?_, a3⟩
    have : (if mt h p i (h (17 + 2 * j) k) = true then 0 else 1) ≤ 1 := by split <;> omega
    omega
theorem rl_ge {R : Nat → Nat} : ∀ (d k i : Nat), (∀ t, k ≤ t → t < k + d → 1 ≤ wl h (R t)) → i + d ≤ rl h R d k i
  | 0, _, i, _ => Nat.le_refl i
  | d + 1, k, i, q => by
    rw [rl]
    have a := q k (Nat.le_refl k) (by omega)
    have b := rl_ge d (k + 1) (i + wl h (R k)) (fun t t1 t2 => q t (by omega) (by omega))
    omega
theorem cw_h {p nn : Nat} {R : Nat → Nat} (n15 : nn ≤ 15) : ∀ (d k i S : Nat) (f : Bool), rl h R d k i = nn → (∀ t, k ≤ t → t < k + d → 1 ≤ wl h (R t)) → S ≤ i → (S = 0 ↔ f = true) → ∃ S', (cw 2 h p nn R d k i (nI S)).1 = nI S' ∧ S' ≤ nn ∧ (S' = 0 ↔ hr h p R d k i f = true)
  | 0, _, i, S, f, e, _, s, q => ⟨S, rfl, by have : i = nn := e; omega, q⟩
  | d + 1, k, i, S, f, e, w, s15, q => by
    have a := w k (Nat.le_refl k) (by omega)
    rw [rl] at e
    have b := rl_ge (h := h) (R := R) d (k + 1) (i + wl h (R k)) (fun t t1 t2 => w t (by omega) (by omega))
    rw [cw, hr, if_neg (by omega)]
    unfold PW
    rw [wg_a0]
    obtain ⟨S', a1, a2, a3⟩ := wg_h (h := h) (p := p) (j := R k) (wl h (R k)) 0 i S f (by omega) q
    rw [a1]
    exact cw_h n15 d (k + 1) (i + wl h (R k)) S' _ e (fun t t1 t2 => w t (by omega) (by omega)) (by omega) a3
/-! what is found -/
/-- how many, the size, the worth, the row -/
abbrev Fnd : Type := Nat × Nat × Int32 × (Nat → Nat)
def offer_ (w : Int32) (s : Nat) (R : Nat → Nat) (F : Fnd) : Fnd := if F.1 = 0 ∨ ¬ F.2.2.1 ≤ w then (F.1 + 1, s, w, R) else (F.1 + 1, F.2.1, F.2.2.1, F.2.2.2)
def acb (M x3 : Int32) (h : Hp) (p s : Nat) (R : Nat → Nat) : Bool := if M = 0 then !decide (x3 < lo_ h p R s) else if M = 1 then !decide (x3 < ov h p R s) else (decide (rl h R s 0 0 = ci (h p 5)) && hr h p R s 0 0 true)
def wrt (M : Int32) (h : Hp) (p s : Nat) (R : Nat → Nat) : Int32 := if M = 0 then ov h p R s else if M = 1 then lo_ h p R s else 0
def row_ (M x3 : Int32) (h : Hp) (p s : Nat) (R : Nat → Nat) (F : Fnd) : Fnd := if acb M x3 h p s R = true then offer_ (wrt M h p s R) s R F else F
def FW (F : Fnd) : Prop := F.2.1 ≤ 3 ∧ (F.1 = 0 ↔ F.2.1 = 0)
def RC (h0 : Hp) (F : Fnd) : Prop := h0 95 7 = nI F.1 ∧ h0 95 5 = nI F.2.1 ∧ (F.1 ≠ 0 → h0 95 6 = F.2.2.1) ∧ ∀ t, t < F.2.1 → h0 99 t = nI (F.2.2.2 t)
theorem offer_w {w : Int32} {s : Nat} {R : Nat → Nat} {F : Fnd} (s1 : 1 ≤ s) (s3 : s ≤ 3) (q : FW F) : FW (offer_ w s R F) ∧ (offer_ w s R F).1 = F.1 + 1 := by
  unfold offer_ FW at *
  obtain ⟨q1, q2⟩ := q
  by_cases c : F.1 = 0 ∨ ¬ F.2.2.1 ≤ w
  · rw [if_pos c]
    exact ⟨⟨s3, ⟨fun e => absurd e (Nat.succ_ne_zero _), fun e => absurd e (show ¬ s = 0 by omega)⟩⟩, rfl⟩
  · rw [if_neg c]
    have n1 : ¬ F.1 = 0 := fun e => c (Or.inl e)
    have n2 : ¬ F.2.1 = 0 := fun e => n1 (q2.mpr e)
    exact ⟨⟨q1, ⟨fun e => absurd e (Nat.succ_ne_zero _), fun e => absurd e n2⟩⟩, rfl⟩
theorem row_w {M x3 : Int32} {p s : Nat} {R : Nat → Nat} {F : Fnd} (s1 : 1 ≤ s) (s3 : s ≤ 3) (q : FW F) : FW (row_ M x3 h p s R F) ∧ (row_ M x3 h p s R F).1 ≤ F.1 + 1 := by
  unfold row_
  by_cases c : acb M x3 h p s R = true
  · rw [if_pos c]
    obtain ⟨a, b⟩ := offer_w (w := wrt M h p s R) (R := R) s1 s3 q
    exact ⟨a, by omega⟩
  · rw [if_neg c]
    exact ⟨q, by omega⟩
theorem offer_c {w : Int32} {s : Nat} {R : Nat → Nat} {F : Fnd} {h0 : Hp} (s3 : s ≤ 3) (hF : F.1 < 100000) (v : ∀ t, t < s → h0 98 t = nI (R t)) (q : RC h0 F) : ∃ h1, f_2_offer w (nI s) h0 = some h1 ∧ (∀ q, q ≠ 95 → q ≠ 99 → h1 q = h0 q) ∧ RC h1 (offer_ w s R F) := by
  obtain ⟨q1, q2, q3, q4⟩ := q
  have g : cpok 0 0 3 3 3 = true := by decide
  have put : ∀ ha : Hp, (∀ q, q ≠ 95 → ha q = h0 q) → ha 95 7 = nI (F.1 + 1) → ∃ h1, uA (u2 (u2 ha 95 6 w) 95 5 (nI s)) 99 (va_cpy ((u2 (u2 ha 95 6 w) 95 5 (nI s)) 98) ((u2 (u2 ha 95 6 w) 95 5 (nI s)) 99) (ci 0) (ci 0) (ci 3)) = h1 ∧ (∀ q, q ≠ 95 → q ≠ 99 → h1 q = h0 q) ∧ RC h1 (F.1 + 1, s, w, R) := fun ha a1 a2 => by
    refine ⟨_, rfl, fun q x1 x2 => by rw [uA_n x2, u2_p _ _ x1, u2_p _ _ x1, a1 q x1], ?_, ?_, fun _ => ?_, fun t ht => ?_⟩
    · rw [uA_n (by decide), u2_k _ _ (by decide), u2_k _ _ (by decide)]; exact a2
    · rw [uA_n (by decide), u2_s]
    · rw [uA_n (by decide), u2_k _ _ (by decide), u2_s]
    · have ht : t < s := ht
      rw [uA_i, il_0, il_3]
      unfold va_cpy
      rw [if_pos (by omega), Nat.zero_add, Nat.sub_zero, u2_p _ _ (by decide), u2_p _ _ (by decide), a1 98 (by decide)]
      exact v t ht
  have e7 : u2 h0 95 7 (h0 95 7 + 1) 95 7 = nI (F.1 + 1) := by rw [u2_s, q1, nI_1]
  have e6 : u2 h0 95 7 (h0 95 7 + 1) 95 6 = h0 95 6 := u2_k _ _ (by decide)
  have e5 : u2 h0 95 7 (h0 95 7 + 1) 95 5 = h0 95 5 := u2_k _ _ (by decide)
  have fr : ∀ q, q ≠ 95 → u2 h0 95 7 (h0 95 7 + 1) q = h0 q := fun q hq => u2_p _ _ hq
  unfold f_2_offer offer_
  rw [hl_eq, e7]
  generalize u2 h0 95 7 (h0 95 7 + 1) = ha at e7 e6 e5 fr
  obtain ⟨h1, p1, p2, p3⟩ := put ha fr e7
  by_cases z : F.1 = 0
  · have z1 : nI (F.1 + 1) = (1 : Int32) := by rw [z]; rfl
    refine ⟨h1, ?_, p2, ?_⟩
    · rw [if_pos z1, hl_eq, hl_eq, gd_s _ g, hl_eq, p1]
    · rw [if_pos (Or.inl z)]; exact p3
  · have z1 : ¬ nI (F.1 + 1) = (1 : Int32) := fun e => by
      have := (nI_eq (b := 1) (by omega) (by decide)).mp e
      omega
    have q3 := q3 z
    rw [if_neg z1, e6, q3]
    by_cases c : F.2.2.1 ≤ w
    · refine ⟨ha, by rw [if_pos c], fun q x1 _ => fr q x1, ?_⟩
      rw [if_neg (fun e => e.elim z (fun e => e c))]
      exact ⟨e7, by rw [e5]; exact q2, fun _ => by rw [e6]; exact q3, fun t ht => by rw [fr 99 (by decide)]; exact q4 t ht⟩
    · refine ⟨h1, ?_, p2, ?_⟩
      · rw [if_neg c, hl_eq, hl_eq, gd_s _ g, hl_eq, p1]
      · rw [if_pos (Or.inr c)]; exact p3
/-- a row, weighed by the class -/
theorem row_c {M : Int32} (x : INV h) {l nn s : Nat} {R : Nat → Nat} {F : Fnd} (hM : M = 0 ∨ M = 1 ∨ M = 2) (hl : l < ci (h 1 11)) (hn : h (36 + 2 * l) 5 = nI nn) (n15 : nn ≤ 15) (s3 : s ≤ 3) (hR : ∀ t, t < s → R t < ci (h 1 10)) (x3 : Int32) (h0 : Hp) (f : ∀ q, q ≠ 8 → ¬ (95 ≤ q ∧ q ≤ 99) → h0 q = h q) (u : T97 M h (36 + 2 * l) nn (ci (h 1 10)) 0 h0) (v : ∀ t, t < s → h0 98 t = nI (R t)) (hF : F.1 < 100000) (q : RC h0 F) : ∃ h1, f_2_weigh (36 + 2 * l) M x3 (nI s) h0 = some h1 ∧ (∀ q, q ≠ 95 → q ≠ 99 → h1 q = h0 q) ∧ RC h1 (row_ M x3 h (36 + 2 * l) s R F) := by
  have l6 := x.L.2
  have W := wgh_l (M := M) x hl hn n15 s3 hR x3 h0 f u v s 0 0 FU 0 0 (by omega) (by omega) (by show _ < 4096; omega)
  have W : f_2_weigh (36 + 2 * l) M x3 (nI s) h0 = _ := W
  have e6 : h0 (36 + 2 * l) = h (36 + 2 * l) := f _ (by omega) (by omega)
  have lo : imax 0 (h0 (36 + 2 * l) 6 - ls h R s 0 0) = lo_ h (36 + 2 * l) R s := by rw [e6]; rfl
  unfold row_ acb wrt
  rw [W]
  rcases hM with rfl | rfl | rfl
  · have off : (cw 0 h (36 + 2 * l) nn R s 0 0 0).1 + f_8_endsOf (h0 (36 + 2 * l) 2) (h0 (36 + 2 * l) 3) (iabs (nI (rl h R s 0 0) - h0 (36 + 2 * l) 5)) = ov h (36 + 2 * l) R s := by
      rw [cw_rs (by decide) hn n15, e6, ← rs_rl (p := 36 + 2 * l) s 0 0 0]
      rfl
    rw [fin0, lo, off, if_pos rfl, if_pos rfl]
    by_cases c : x3 < lo_ h (36 + 2 * l) R s
    · refine ⟨h0, by rw [if_pos c], fun _ _ _ => rfl, ?_⟩
      rw [if_neg (by simp [c])]; exact q
    · obtain ⟨h1, a1, a2, a3⟩ := offer_c (w := ov h (36 + 2 * l) R s) s3 hF v q
      refine ⟨h1, by rw [if_neg c]; exact a1, a2, ?_⟩
      rw [if_pos (by simp [c])]; exact a3
  · have off : (cw 1 h (36 + 2 * l) nn R s 0 0 0).1 + f_8_endsOf (h0 (36 + 2 * l) 2) (h0 (36 + 2 * l) 3) (iabs (nI (rl h R s 0 0) - h0 (36 + 2 * l) 5)) = ov h (36 + 2 * l) R s := by
      rw [cw_rs (by decide) hn n15, e6, ← rs_rl (p := 36 + 2 * l) s 0 0 0]
      rfl
    rw [fin1, lo, off, if_neg (show ¬ (1 : Int32) = 0 by decide), if_pos rfl, if_neg (show ¬ (1 : Int32) = 0 by decide), if_pos rfl]
    by_cases c : x3 < ov h (36 + 2 * l) R s
    · refine ⟨h0, by rw [if_pos c], fun _ _ _ => rfl, ?_⟩
      rw [if_neg (by simp [c])]; exact q
    · obtain ⟨h1, a1, a2, a3⟩ := offer_c (w := lo_ h (36 + 2 * l) R s) s3 hF v q
      refine ⟨h1, by rw [if_neg c]; exact a1, a2, ?_⟩
      rw [if_pos (by simp [c])]; exact a3
  · rw [fin2, if_neg (show ¬ (2 : Int32) = 0 by decide), if_neg (show ¬ (2 : Int32) = 1 by decide), if_neg (show ¬ (2 : Int32) = 0 by decide), if_neg (show ¬ (2 : Int32) = 1 by decide), e6, hn, ci_nI (by omega)]
    have w : ∀ t, t < s → 1 ≤ wl h (R t) ∧ wl h (R t) ≤ 5 := fun t ht => by
      obtain ⟨N, g, N1, N5, g9, c1, _⟩ := x.word (hR t ht)
      unfold wl
      rw [c1, ci_nI (by omega)]
      exact ⟨N1, N5⟩
    have rle := rs_len (h := h) (p := 36 + 2 * l) (R := R) s 0 0 0 (fun t ht => (w t (by omega)).2)
    rw [rs_rl] at rle
    by_cases c : rl h R s 0 0 = nn
    · obtain ⟨S', a1, a2, a3⟩ := cw_h (h := h) (p := 36 + 2 * l) (R := R) n15 s 0 0 0 true c (fun t _ ht => (w t (by omega)).1) (Nat.le_refl 0) (by simp)
      have a1 : (cw 2 h (36 + 2 * l) nn R s 0 0 0).1 = nI S' := a1
      rw [a1, if_pos (by rw [c])]
      by_cases z : S' = 0
      · have hh := a3.mp z
        obtain ⟨h1, b1, b2, b3⟩ := offer_c (w := 0) s3 hF v q
        refine ⟨h1, by rw [if_pos (by rw [z]; rfl)]; exact b1, b2, ?_⟩
        rw [if_pos (by simp [c, hh])]; exact b3
      · have hh : ¬ hr h (36 + 2 * l) R s 0 0 true = true := fun e => z (a3.mpr e)
        refine ⟨h0, ?_, fun _ _ _ => rfl, ?_⟩
        · have zz : ¬ nI S' = (0 : Int32) := fun e => z ((nI_eq (b := 0) (by omega) (by decide)).mp e)
          rw [if_neg zz]
        · rw [if_neg (by simp [hh])]; exact q
    · refine ⟨h0, ?_, fun _ _ _ => rfl, ?_⟩
      · rw [if_neg (fun e => c ((nI_eq (by omega) (by omega)).mp e))]
      · rw [if_neg (by simp [c])]; exact q
end
