/-! the search: what a mouth costs at a place, what a word costs -/
section
variable {h : Hp}
/-- a mouth that does not fit -/
def mft (h : Hp) (p i : Nat) (v : Int32) : Int32 := if (if ci (h p 4) + i < 60 then h 2 (ci (h p 4) + i) else 3) = 3 then 0 else if (if ci (h p 4) + i < 60 then h 2 (ci (h p 4) + i) else 3) = v then 0 else 1
def PX (M : Int32) (h : Hp) (p i : Nat) (v : Int32) : Int32 := if M = 2 then mft h p i v else sv h p i v
def GX (M : Int32) (h : Hp) (p i : Nat) (v : Int32) : Int32 := if 15 ≤ i then 0 else PX M h p i v
def wg (G : Nat → Int32 → Int32) (h : Hp) (j : Nat) : Nat → Nat → Nat → Int32 → Int32
  | 0, _, _, acc => acc
  | n + 1, k, i, acc => wg G h j n (k + 1) (i + 1) (acc + G i (h (17 + 2 * j) k))
/-- the price of a word at a place -/
def PW (M : Int32) (h : Hp) (p j i : Nat) : Int32 := wg (GX M h p) h j (wl h j) 0 i 0
def T96 (M : Int32) (h : Hp) (p n : Nat) (h0 : Hp) : Prop := ∀ e, e < n → h0 96 e = PX M h p (e / 3) (nI (e % 3))
theorem misfit_c {p i : Nat} (hb : h p 4 = nI (ci (h p 4))) (b60 : ci (h p 4) ≤ 60) (hi : i < 100) (v : Int32) (h0 : Hp) (f : h0 p = h p) (f2 : h0 2 = h 2) : f_2_misfit p (nI i) v h0 = some (mft h p i v) := by
  have q := filmAt_c (h := h0) (k := ci (h p 4) + i) (by omega)
  rw [f2] at q
  unfold f_2_misfit mft
  rw [f, hb, nI_add, ci_nI (by omega), q, bnd_s]
  generalize (if ci (h p 4) + i < 60 then h 2 (ci (h p 4) + i) else 3) = r
  by_cases c1 : r = 3
  · rw [if_pos c1, if_pos c1]
  · rw [if_neg c1, if_neg c1]
    by_cases c2 : r = v
    · rw [if_pos c2, if_pos c2]
    · rw [if_neg c2, if_neg c2]
theorem price_i {M : Int32} (x : INV h) {l : Nat} (hl : l < ci (h 1 11)) {i : Nat} (hi : i < 15) (K2 : Int32 → Hp → Option Hp) : ∀ (d v n : Nat) (h0 : Hp), 3 = v + d → d < n → (∀ q, q ≠ 8 → ¬ (95 ≤ q ∧ q ≤ 99) → h0 q = h q) → T96 M h (36 + 2 * l) (3 * i + v) h0 → ∃ h1, f_2_priceMouths_11 K2 (36 + 2 * l) M (nI i) n (nI v) h0 = K2 (nI (i + 1)) h1 ∧ (∀ q, q ≠ 8 → ¬ (95 ≤ q ∧ q ≤ 99) → h1 q = h q) ∧ T96 M h (36 + 2 * l) (3 * (i + 1)) h1 ∧ h1 95 = h0 95
  | 0, v, n, h0, e1, e2, f, t => by
    obtain ⟨n, rfl⟩ : ∃ z, n = z + 1 := ⟨n - 1, by omega⟩
    refine ⟨h0, ?_, f, fun e he => t e (by omega), rfl⟩
    have c : (3 : Int32) ≤ nI v := nI_le (a := 3) (by omega) (by omega)
    rw [f_2_priceMouths_11, if_pos c, nI_1]
  | d + 1, v, n, h0, e1, e2, f, t => by
    obtain ⟨n, rfl⟩ : ∃ z, n = z + 1 := ⟨n - 1, by omega⟩
    have l6 := x.L.2
    have c : ¬ (3 : Int32) ≤ nI v := nI_ge (b := 3) (by omega) (by decide)
    have g45 : inb (3 * nI i + nI v) 45 = true := by
      rw [lit_nI 3, pk_mul, nI_add]
      exact inb_nI (by omega) (by decide)
    have c45 : ci (3 * nI i + nI v) = 3 * i + v := by rw [lit_nI 3, pk_mul, nI_add, ci_nI (by omega)]
    have go : ∀ h2 : Hp, (∀ q, q ≠ 8 → h2 q = h0 q) → ∃ h1, f_2_priceMouths_11 K2 (36 + 2 * l) M (nI i) n (nI v + 1) (u2 h2 96 (3 * i + v) (PX M h (36 + 2 * l) i (nI v))) = K2 (nI (i + 1)) h1 ∧ (∀ q, q ≠ 8 → ¬ (95 ≤ q ∧ q ≤ 99) → h1 q = h q) ∧ T96 M h (36 + 2 * l) (3 * (i + 1)) h1 ∧ h1 95 = h0 95 := fun h2 g => by
      rw [nI_1, ← g 95 (by decide), ← u2_p h2 (p := 96) (k := 3 * i + v) (q := 95) (PX M h (36 + 2 * l) i (nI v)) (by decide)]
      refine price_i x hl hi K2 d (v + 1) n _ (by omega) (by omega) (fun q q1 q2 => by rw [u2_p _ _ (by omega), g q q1, f q q1 q2]) (fun e he => ?_)
      by_cases k : e = 3 * i + v
      · rw [k, u2_s, show (3 * i + v) / 3 = i by omega, show (3 * i + v) % 3 = v by omega]
      · rw [u2_k _ _ k, g 96 (by decide)]
        exact t e (by omega)
    rw [f_2_priceMouths_11, if_neg c]
    obtain ⟨K, m, b, nn, z, w, ⟨_, _, _, n15, bn, _, _⟩, _, _, ⟨c3, _⟩, ⟨c4, _⟩, _⟩ := x.line hl
    by_cases cm : M = 2
    · have mc := misfit_c (h := h) (p := 36 + 2 * l) (i := i) (by rw [c3, ci_nI (by omega)]) (by rw [c3, ci_nI (by omega)]; omega) (by omega) (nI v) h0 (f _ (by omega) (by omega)) (f 2 (by decide) (by decide))
      have := go h0 (fun _ _ => rfl)
      unfold PX at this
      rw [if_pos cm] at this
      rw [if_pos cm, mc, bnd_s, gd_s _ g45, hl_eq, c45]
      exact this
    · have T0 : TX h0 6 (h 115) 0 := x.T6.fr (f 6 (by decide) (by decide)) (f 7 (by decide) (by decide))
      have L0 : LN h0 (36 + 2 * l) (h 115) (154 + 9 * l) (ci (h 1 10)) := (x.line hl).fr (f _ (by omega) (by omega)) (f _ (by omega) (by omega))
      obtain ⟨h2, g1, g2⟩ := seen_c T0 L0 (show i ≤ 45 by omega) (nI v)
      have es : sv h0 (36 + 2 * l) i (nI v) = sv h (36 + 2 * l) i (nI v) := sv_cong (fun q q1 q2 _ _ _ => f q q2 (by omega)) (by omega) (by omega)
      have := go h2 g2
      unfold PX at this
      rw [if_neg cm] at this
      rw [if_neg cm, g1, bnd2_s, gd_s _ g45, hl_eq, c45, es]
      exact this
theorem price_o {M : Int32} (x : INV h) {l : Nat} (hl : l < ci (h 1 11)) : ∀ (d i n : Nat) (h0 : Hp), 15 = i + d → d < n → (∀ q, q ≠ 8 → ¬ (95 ≤ q ∧ q ≤ 99) → h0 q = h q) → T96 M h (36 + 2 * l) (3 * i) h0 → ∃ h1, f_2_priceMouths_2 (36 + 2 * l) M n (nI i) h0 = some h1 ∧ (∀ q, q ≠ 8 → ¬ (95 ≤ q ∧ q ≤ 99) → h1 q = h q) ∧ T96 M h (36 + 2 * l) 45 h1 ∧ h1 95 = h0 95
  | 0, i, n, h0, e1, e2, f, t => by
    obtain ⟨n, rfl⟩ : ∃ z, n = z + 1 := ⟨n - 1, by omega⟩
    refine ⟨h0, ?_, f, fun e he => t e (by omega), rfl⟩
    have c : (15 : Int32) ≤ nI i := nI_le (a := 15) (by omega) (by omega)
    rw [f_2_priceMouths_2, if_pos c]
  | d + 1, i, n, h0, e1, e2, f, t => by
    obtain ⟨n, rfl⟩ : ∃ z, n = z + 1 := ⟨n - 1, by omega⟩
    have c : ¬ (15 : Int32) ≤ nI i := nI_ge (b := 15) (by omega) (by decide)
    obtain ⟨h1, a1, a2, a3, a4⟩ := price_i (M := M) x hl (show i < 15 by omega) (f_2_priceMouths_2 (36 + 2 * l) M n) 3 0 FU h0 (by omega) (by show _ < 4096; omega) f t
    obtain ⟨h2, b1, b2, b3, b4⟩ := price_o x hl d (i + 1) n h1 (by omega) (by omega) a2 a3
    refine ⟨h2, ?_, b2, b3, b4.trans a4⟩
    have a1 : f_2_priceMouths_11 (f_2_priceMouths_2 (36 + 2 * l) M n) (36 + 2 * l) M (nI i) FU 0 h0 = _ := a1
    rw [f_2_priceMouths_2, if_neg c, a1, b1]
theorem wg_z {M : Int32} {p j : Nat} : ∀ (d k i : Nat) (acc : Int32), 15 ≤ i → wg (GX M h p) h j d k i acc = acc
  | 0, _, _, _, _ => rfl
  | d + 1, k, i, acc, e => by
    rw [wg, wg_z d (k + 1) (i + 1) _ (by omega)]
    unfold GX
    rw [if_pos e, Int32.add_zero]
theorem priceOf_c {M : Int32} {p j N : Nat} (hj : j < 10) (h0 : Hp) (fw : h0 (16 + 2 * j) = h (16 + 2 * j)) (fw1 : h0 (17 + 2 * j) = h (17 + 2 * j)) (t : T96 M h p 45 h0) (hN : h (16 + 2 * j) 2 = nI N) (N5 : N ≤ 5) (hm : ∀ k, k < N → ∃ y : Nat, y < 3 ∧ h (17 + 2 * j) k = nI y) {i : Nat} (hi : i < 15) : ∀ (d k n : Nat) (acc : Int32), N = k + d → d < n → f_2_priceOf_5 (16 + 2 * j) (nI i) h0 n acc (nI k) = some (wg (GX M h p) h j d k (i + k) acc)
  | 0, k, n, acc, e1, e2 => by
    obtain ⟨n, rfl⟩ : ∃ z, n = z + 1 := ⟨n - 1, by omega⟩
    rw [f_2_priceOf_5, fw, hN, if_pos (nI_le (by omega) (by omega))]
    rfl
  | d + 1, k, n, acc, e1, e2 => by
    obtain ⟨n, rfl⟩ : ∃ z, n = z + 1 := ⟨n - 1, by omega⟩
    obtain ⟨y, y3, hy⟩ := hm k (by omega)
    rw [f_2_priceOf_5, fw, hN, if_neg (nI_ge (by omega) (by omega)), nI_add]
    by_cases c : 15 ≤ i + k
    · have c1 : (15 : Int32) ≤ nI (i + k) := nI_le (a := 15) c (by omega)
      rw [if_pos c1, wg_z _ _ _ _ c]
    · have c1 : ¬ (15 : Int32) ≤ nI (i + k) := nI_ge (b := 15) (by omega) (by decide)
      have e : (3 : Int32) * nI (i + k) + nI y = nI (3 * (i + k) + y) := by rw [lit_nI 3, pk_mul, nI_add]
      rw [if_neg c1, gd_s _ (inb_nI (show k < 5 by omega) (by decide)), ci_nI (by omega), show 16 + 2 * j + 1 = 17 + 2 * j by omega, fw1, hy, e, gd_s _ (inb_nI (show 3 * (i + k) + y < 45 by omega) (by decide)), ci_nI (by omega), t _ (by omega), show (3 * (i + k) + y) / 3 = i + k by omega, show (3 * (i + k) + y) % 3 = y by omega, nI_1, priceOf_c hj h0 fw fw1 t hN N5 hm hi d (k + 1) n _ (by omega) (by omega)]
      rw [wg, hy]
      unfold GX
      rw [if_neg c, show i + (k + 1) = i + k + 1 by omega]
def T97 (M : Int32) (h : Hp) (p nn j i : Nat) (h0 : Hp) : Prop := ∀ a b, b < nn → (a < j ∨ (a = j ∧ b < i)) → h0 97 (15 * a + b) = PW M h p a b
theorem words_i {M : Int32} (x : INV h) {l nn : Nat} (hl : l < ci (h 1 11)) (hn : h (36 + 2 * l) 5 = nI nn) (n15 : nn ≤ 15) {j : Nat} (hj : j < ci (h 1 10)) (K2 : Int32 → Hp → Option Hp) : ∀ (d i n : Nat) (h0 : Hp), nn = i + d → d < n → (∀ q, q ≠ 8 → ¬ (95 ≤ q ∧ q ≤ 99) → h0 q = h q) → T96 M h (36 + 2 * l) 45 h0 → T97 M h (36 + 2 * l) nn j i h0 → ∃ h1, f_2_priceWords_15 K2 (36 + 2 * l) (nI j) n (nI i) h0 = K2 (nI (j + 1)) h1 ∧ (∀ q, q ≠ 8 → ¬ (95 ≤ q ∧ q ≤ 99) → h1 q = h q) ∧ T96 M h (36 + 2 * l) 45 h1 ∧ T97 M h (36 + 2 * l) nn (j + 1) 0 h1 ∧ h1 95 = h0 95
  | 0, i, n, h0, e1, e2, f, t, u => by
    obtain ⟨n, rfl⟩ : ∃ z, n = z + 1 := ⟨n - 1, by omega⟩
    refine ⟨h0, ?_, f, t, fun a b b1 b2 => u a b b1 (by omega), rfl⟩
    have l6 := x.L.2
    rw [f_2_priceWords_15, f _ (by omega) (by omega), hn, if_pos (nI_le (by omega) (by omega)), nI_1]
  | d + 1, i, n, h0, e1, e2, f, t, u => by
    obtain ⟨n, rfl⟩ : ∃ z, n = z + 1 := ⟨n - 1, by omega⟩
    have l6 := x.L.2
    have w10 := x.W.2
    obtain ⟨N, g, N1, N5, _, c1, _, _, _, _, c6⟩ := x.word hj
    have P := priceOf_c (h := h) (M := M) (p := 36 + 2 * l) (j := j) (by omega) h0 (f _ (by omega) (by omega)) (f _ (by omega) (by omega)) t c1 N5 (fun k hk => by
      obtain ⟨y, y1, y2, _⟩ := c6 k hk
      exact ⟨y, y1, by rw [show 17 + 2 * j = 16 + 2 * j + 1 by omega]; exact y2⟩) (show i < 15 by omega) N 0 FU 0 (by omega) (by show _ < 4096; omega)
    have eW : wl h j = N := by unfold wl; rw [c1, ci_nI (by omega)]
    have P : f_2_priceOf (16 + 2 * j) (nI i) h0 = some (PW M h (36 + 2 * l) j i) := by
      unfold PW
      rw [eW]
      exact P
    have e : (15 : Int32) * nI j + nI i = nI (15 * j + i) := by rw [lit_nI 15, pk_mul, nI_add]
    obtain ⟨h1, a1, a2, a3, a4, a5⟩ := words_i (M := M) x hl hn n15 hj K2 d (i + 1) n (u2 h0 97 (15 * j + i) (PW M h (36 + 2 * l) j i)) (by omega) (by omega) (fun q q1 q2 => by rw [u2_p _ _ (by omega)]; exact f q q1 q2) (fun e he => by rw [u2_p _ _ (by decide)]; exact t e he) (fun a b b1 b2 => by
      by_cases k : 15 * a + b = 15 * j + i
      · have ka : a = j := by omega
        have kb : b = i := by omega
        rw [k, u2_s, ka, kb]
      · rw [u2_k _ _ k]
        exact u a b b1 (by omega))
    refine ⟨h1, ?_, a2, a3, a4, by rw [a5, u2_p _ _ (by decide)]⟩
    rw [f_2_priceWords_15, f _ (by omega) (by omega), hn, if_neg (nI_ge (by omega) (by omega)), wordAt_c (by omega), bnd_s, P, bnd_s, e, gd_s _ (inb_nI (show 15 * j + i < 150 by omega) (by decide)), hl_eq, ci_nI (by omega), nI_1, a1]
theorem words_o {M : Int32} (x : INV h) {l nn : Nat} (hl : l < ci (h 1 11)) (hn : h (36 + 2 * l) 5 = nI nn) (n15 : nn ≤ 15) : ∀ (d j n : Nat) (h0 : Hp), ci (h 1 10) = j + d → d < n → (∀ q, q ≠ 8 → ¬ (95 ≤ q ∧ q ≤ 99) → h0 q = h q) → T96 M h (36 + 2 * l) 45 h0 → T97 M h (36 + 2 * l) nn j 0 h0 → ∃ h1, f_2_priceWords_2 (36 + 2 * l) n (nI j) h0 = some h1 ∧ (∀ q, q ≠ 8 → ¬ (95 ≤ q ∧ q ≤ 99) → h1 q = h q) ∧ T97 M h (36 + 2 * l) nn (ci (h 1 10)) 0 h1 ∧ h1 95 = h0 95
  | 0, j, n, h0, e1, e2, f, t, u => by
    obtain ⟨n, rfl⟩ : ∃ z, n = z + 1 := ⟨n - 1, by omega⟩
    obtain ⟨w1, w10⟩ := x.W
    refine ⟨h0, ?_, f, by rw [e1]; exact u, rfl⟩
    have c : h 1 10 ≤ nI j := by rw [w1]; exact nI_le (by omega) (by omega)
    rw [f_2_priceWords_2, f 1 (by decide) (by decide), if_pos c]
  | d + 1, j, n, h0, e1, e2, f, t, u => by
    obtain ⟨n, rfl⟩ : ∃ z, n = z + 1 := ⟨n - 1, by omega⟩
    obtain ⟨w1, w10⟩ := x.W
    have c : ¬ h 1 10 ≤ nI j := by rw [w1]; exact nI_ge (by omega) (by omega)
    obtain ⟨h1, a1, a2, a3, a4, a5⟩ := words_i (M := M) x hl hn n15 (show j < ci (h 1 10) by omega) (f_2_priceWords_2 (36 + 2 * l) n) nn 0 FU h0 (by omega) (by show _ < 4096; omega) f t u
    obtain ⟨h2, b1, b2, b3, b4⟩ := words_o x hl hn n15 d (j + 1) n h1 (by omega) (by omega) a2 a3 a4
    refine ⟨h2, ?_, b2, b3, b4.trans a5⟩
    have a1 : f_2_priceWords_15 (f_2_priceWords_2 (36 + 2 * l) n) (36 + 2 * l) (nI j) FU 0 h0 = _ := a1
    rw [f_2_priceWords_2, f 1 (by decide) (by decide), if_neg c, a1, b1]
end
