/-! what a line is worth, in both -/
section
variable {h : Hp}
theorem INV.W (x : INV h) : h 1 10 = nI (ci (h 1 10)) ∧ ci (h 1 10) ≤ 10 := sm_ci x.1.1.1.1 (by decide)
theorem INV.L (x : INV h) : h 1 11 = nI (ci (h 1 11)) ∧ ci (h 1 11) ≤ 6 := sm_ci x.1.1.2.1.1 (by decide)
theorem INV.M (x : INV h) : h 1 14 = nI (ci (h 1 14)) ∧ ci (h 1 14) ≤ 9999 := sm_ci x.1.1.2.2.1.1 (by decide)
theorem INV.T6 (x : INV h) : TX h 6 (h 115) 0 := x.1.2.2.2.2.1
theorem INV.T9 (x : INV h) : TX h 9 (h 115) 1 := x.1.2.2.2.2.2
theorem INV.film (x : INV h) : ∀ k, k < 60 → h 115 (24 + k) = h 2 k := x.1.2.1.1
theorem INV.line (x : INV h) {l : Nat} (hl : l < ci (h 1 11)) : LN h (36 + 2 * l) (h 115) (154 + 9 * l) (ci (h 1 10)) := by
  have q := x.1.2.2.2.1 l hl
  rw [show 1 + 35 + 2 * l = 36 + 2 * l by omega] at q
  exact q
theorem INV.word (x : INV h) {j : Nat} (hj : j < ci (h 1 10)) : WD h (16 + 2 * j) (h 115) (84 + 7 * j) := by
  have q := x.1.2.2.1 j hj
  rw [show 1 + 15 + 2 * j = 16 + 2 * j by omega] at q
  exact q
theorem INV.WM (x : INV h) {R : Nat → Nat} {z : Nat} (r : ∀ t, t < z → R t < ci (h 1 10)) : WM h R z := fun t ht => by
  have w := x.W.2
  have q := r t ht
  obtain ⟨n, g, n1, n5, g9, a, b, c, d, e, f⟩ := x.word q
  refine ⟨by omega, n, n5, a, b, fun k hk => ?_, ?_⟩
  · obtain ⟨y, _, y1, y2⟩ := f k hk
    rw [y2, show 17 + 2 * R t = 16 + 2 * R t + 1 by omega, y1]
  · rw [show 85 + 7 * R t = 84 + 7 * R t + 1 by omega, d, c]
/-- a line's words, by numbers -/
theorem INV.row (x : INV h) {l : Nat} (hl : l < ci (h 1 11)) : h (36 + 2 * l) 1 = nI (ci (h (36 + 2 * l) 1)) ∧ ci (h (36 + 2 * l) 1) ≤ 3 ∧ h 115 (159 + 9 * l) = h (36 + 2 * l) 1 ∧ ∀ t, t < ci (h (36 + 2 * l) 1) → rw_ h (36 + 2 * l) t < ci (h 1 10) ∧ h (37 + 2 * l) t = nI (rw_ h (36 + 2 * l) t) ∧ h 115 (160 + 9 * l + t) = nI (rw_ h (36 + 2 * l) t) := by
  obtain ⟨K, m, b, n, z, w, ⟨a1, a2, a3, a4, a5, a6, a7⟩, _, _, _, _, _, ⟨c1, c2⟩, c3⟩ := x.line hl
  have w10 := x.W.2
  rw [c1, ci_nI (by omega)]
  refine ⟨rfl, a6, by rw [← c2]; congr 1; omega, fun t ht => ?_⟩
  obtain ⟨j, j1, j2, j3⟩ := c3 t ht
  unfold rw_
  rw [j2, ci_nI (by omega), show 37 + 2 * l = 36 + 2 * l + 1 by omega, j2, show 160 + 9 * l + t = 154 + 9 * l + 6 + t by omega, j3]
  exact ⟨j1, rfl, rfl⟩
theorem off_c (x : INV h) {l : Nat} (hl : l < ci (h 1 11)) : ∃ h1, f_7_off (36 + 2 * l) h = some (of_ h (36 + 2 * l), h1) ∧ ∀ q, q ≠ 8 → h1 q = h q := by
  obtain ⟨r1, r2, r3, r4⟩ := x.row hl
  have l6 := x.L.2
  obtain ⟨h1, a, b⟩ := off7 (z := ci (h (36 + 2 * l) 1)) (R := rw_ h (36 + 2 * l)) x.T6 (x.line hl) (by omega) (by omega) r2 r1 (fun t ht => by rw [show 36 + 2 * l + 1 = 37 + 2 * l by omega]; exact (r4 t ht).2.1) (x.WM (fun t ht => (r4 t ht).1)).ws (ci (h (36 + 2 * l) 1)) 0 0 FU 0 h (by omega) (by omega) (by show _ < 4096; omega) (fun _ _ => rfl)
  exact ⟨h1, b, a⟩
/-- the sum of the senses -/
theorem ls_b {R : Nat → Nat} {z : Nat} (g : ∀ t, t < z → ∃ g : Nat, g ≤ 99 ∧ h (16 + 2 * R t) 3 = nI g) : ∀ (d k s : Nat), z = k + d → s ≤ 99 * k → ∃ S : Nat, S ≤ 99 * z ∧ ls h R d k (nI s) = nI S
  | 0, k, s, e, b => ⟨s, by rw [e]; exact b, rfl⟩
  | d + 1, k, s, e, b => by
    obtain ⟨v, v1, v2⟩ := g k (by omega)
    show ∃ S : Nat, S ≤ 99 * z ∧ ls h R d (k + 1) (nI s + h (16 + 2 * R k) 3) = nI S
    rw [v2, nI_add]
    exact ls_b g d (k + 1) (s + v) (by omega) (by omega)
theorem INV.sense (x : INV h) {R : Nat → Nat} {z : Nat} (r : ∀ t, t < z → R t < ci (h 1 10)) : ∀ t, t < z → ∃ g : Nat, g ≤ 99 ∧ h (16 + 2 * R t) 3 = nI g := fun t ht => by
  obtain ⟨n, g, n1, n5, g9, a, b, c, _⟩ := x.word (r t ht)
  exact ⟨g, g9, c⟩
theorem loss_l {p : Nat} {R : Nat → Nat} {z : Nat} (hz : h p 1 = nI z) (z3 : z ≤ 3) (hR : ∀ t, t < z → R t < 10 ∧ h (p + 1) t = nI (R t)) : ∀ (d k n : Nat) (acc : Int32), z = k + d → d < n → f_7_loss_4 p h n acc (nI k) = some (imax 0 (h p 6 - ls h R d k acc))
  | 0, k, n, acc, e1, e2 => by
    obtain ⟨n, rfl⟩ : ∃ z, n = z + 1 := ⟨n - 1, by omega⟩
    rw [f_7_loss_4, hz, if_pos (nI_le (by omega) (by omega))]
    rfl
  | d + 1, k, n, acc, e1, e2 => by
    obtain ⟨n, rfl⟩ : ∃ z, n = z + 1 := ⟨n - 1, by omega⟩
    obtain ⟨a, b⟩ := hR k (by omega)
    rw [f_7_loss_4, hz, if_neg (nI_ge (by omega) (by omega)), gd_s _ (inb_nI (show k < 3 by omega) (by decide)), ci_nI (by omega), b, wordAt_c a, bnd_s, nI_1, loss_l hz z3 hR d (k + 1) n _ (by omega) (by omega)]
    rfl
/-- what is lost for the line at p -/
def los (h : Hp) (p : Nat) : Int32 := lo_ h p (rw_ h p) (ci (h p 1))
theorem loss_c (x : INV h) {l : Nat} (hl : l < ci (h 1 11)) : f_7_loss (36 + 2 * l) h = some (los h (36 + 2 * l)) := by
  obtain ⟨r1, r2, r3, r4⟩ := x.row hl
  have w10 := x.W.2
  exact loss_l (R := rw_ h (36 + 2 * l)) r1 r2 (fun t ht => ⟨by have := (r4 t ht).1; omega, by rw [show 36 + 2 * l + 1 = 37 + 2 * l by omega]; exact (r4 t ht).2.1⟩) (ci (h (36 + 2 * l) 1)) 0 FU 0 (by omega) (by show _ < 4096; omega)
/-- the loss in the reference, for any row -/
theorem loss4_m {l w z : Nat} {R : Nat → Nat} (hl : l < 6) (hw : h 115 (158 + 9 * l) = nI w) (w9 : w ≤ 99) (z3 : z ≤ 3) (hz : h 114 11 = nI z) (hR : ∀ t, t < z → h 119 t = nI (R t)) (m : WM h R z) (g : ∀ t, t < z → ∃ g : Nat, g ≤ 99 ∧ h (16 + 2 * R t) 3 = nI g) : ∀ (d k n s : Nat), z = k + d → d < n → s ≤ 99 * k → f_9_lossNow_4 (nI l) h n (nI s) (nI k) = some (imax 0 (nI w - ls h R d k (nI s)))
  | 0, k, n, s, e1, e2, e3 => by
    obtain ⟨n, rfl⟩ : ∃ z, n = z + 1 := ⟨n - 1, by omega⟩
    have a : f_9_of (nI l) 4 h = some (nI w) := by
      have q := of_m (h := h) (k := 4) hl (by decide)
      rw [show 154 + 9 * l + 4 = 158 + 9 * l by omega, hw] at q
      exact q
    rw [f_9_lossNow_4, hz, if_pos (nI_le (by omega) (by omega)), a]
    simp only [bnd_s]
    show _ = some (imax 0 (nI w - nI s))
    by_cases c : w ≤ s
    · rw [if_pos (nI_le c (by omega))]
      congr 1
      unfold imax
      rw [if_neg]
      by_cases c2 : w = s
      · subst c2
        rw [pk_sub (Nat.le_refl w), Nat.sub_self]
        decide
      · rw [show nI w - nI s = -(nI (s - w)) by rw [← pk_sub c, Int32.neg_sub], Int32.lt_iff_toInt_lt, Int32.toInt_neg, nI_toInt (by omega)]
        have : ((-((s - w : Nat) : Int)).bmod (2 ^ 32)) = -((s - w : Nat) : Int) := by
          apply Int.bmod_eq_of_le
          · omega
          · omega
        rw [this]
        have e0 : (0 : Int32).toInt = 0 := by decide
        omega
    · rw [if_neg (nI_ge (by omega) (by omega)), pk_sub (by omega)]
      congr 1
      unfold imax
      have q : (0 : Int32) < nI (w - s) := (nI_ltI (a := 0) (by decide) (by omega)).mpr (by omega)
      rw [if_pos q]
  | d + 1, k, n, s, e1, e2, e3 => by
    obtain ⟨n, rfl⟩ : ∃ z, n = z + 1 := ⟨n - 1, by omega⟩
    obtain ⟨a, N, b1, b2, b3, b4, b5⟩ := m k (by omega)
    obtain ⟨v, v1, v2⟩ := g k (by omega)
    have q : f_9_its (nI (R k)) 1 h = some (nI v) := by
      have q := its_m (h := h) (k := 1) a (by decide)
      rw [show 84 + 7 * R k + 1 = 85 + 7 * R k by omega, b5, v2] at q
      exact q
    rw [f_9_lossNow_4, hz, if_neg (nI_ge (by omega) (by omega)), gd_s _ (inb_nI (show k < 3 by omega) (by decide)), ci_nI (by omega), hR k (by omega), q, bnd_s, nI_1, nI_add, loss4_m hl hw w9 z3 hz hR m g d (k + 1) n (s + v) (by omega) (by omega) (by omega)]
    show _ = some (imax 0 (nI w - ls h R d (k + 1) (nI s + h (16 + 2 * R k) 3)))
    rw [v2, nI_add]
/-- the reference takes a line's words -/
theorem takes_l {l : Nat} (hl : l < 6) : ∀ (d k n : Nat) (h0 : Hp), 3 = k + d → d < n → (∀ q, q ≠ 114 → q ≠ 119 → h0 q = h q) → (∀ j, j ≠ 11 → h0 114 j = h 114 j) → (∀ t, t < k → h0 119 t = h 115 (160 + 9 * l + t)) → ∃ h1, f_9_takes0_12 (nI l) n (nI k) h0 = some h1 ∧ (∀ q, q ≠ 114 → q ≠ 119 → h1 q = h q) ∧ (∀ j, j ≠ 11 → h1 114 j = h 114 j) ∧ h1 114 11 = h0 114 11 ∧ ∀ t, t < 3 → h1 119 t = h 115 (160 + 9 * l + t)
  | 0, k, n, h0, e1, e2, f1, f2, f3 => by
    obtain ⟨n, rfl⟩ : ∃ z, n = z + 1 := ⟨n - 1, by omega⟩
    refine ⟨h0, ?_, f1, f2, rfl, fun t ht => f3 t (by omega)⟩
    have c : (3 : Int32) ≤ nI k := nI_le (a := 3) (by omega) (by omega)
    rw [f_9_takes0_12, if_pos c]
  | d + 1, k, n, h0, e1, e2, f1, f2, f3 => by
    obtain ⟨n, rfl⟩ : ∃ z, n = z + 1 := ⟨n - 1, by omega⟩
    have c : ¬ (3 : Int32) ≤ nI k := nI_ge (b := 3) (by omega) (by omega)
    have q : f_9_of (nI l) (6 + nI k) h0 = some (h0 115 (154 + 9 * l + (6 + k))) := by rw [lit_nI 6, nI_add]; exact of_m hl (by omega)
    obtain ⟨h1, a1, a2, a3, a4, a5⟩ := takes_l hl d (k + 1) n (u2 h0 119 k (h0 115 (154 + 9 * l + (6 + k)))) (by omega) (by omega) (fun p p1 p2 => (u2_p _ _ p2).trans (f1 p p1 p2)) (fun j hj => by rw [u2_p _ _ (by decide)]; exact f2 j hj) (fun t ht => by
      by_cases e : t = k
      · subst e
        rw [u2_s, f1 115 (by decide) (by decide), show 154 + 9 * l + (6 + t) = 160 + 9 * l + t by omega]
      · rw [u2_k _ _ e]; exact f3 t (by omega))
    refine ⟨h1, ?_, a2, a3, by rw [a4, u2_p _ _ (by decide)], a5⟩
    rw [f_9_takes0_12, if_neg c, q, bnd_s, gd_s _ (inb_nI (show k < 3 by omega) (by decide)), hl_eq, ci_nI (by omega), nI_1, a1]
theorem takes0_m (x : INV h) {l : Nat} (hl : l < ci (h 1 11)) : ∃ h1, f_9_takes0 (nI l) h = some h1 ∧ PF h h1 ∧ h1 114 11 = nI (ci (h (36 + 2 * l) 1)) ∧ ∀ t, t < ci (h (36 + 2 * l) 1) → h1 119 t = nI (rw_ h (36 + 2 * l) t) := by
  obtain ⟨r1, r2, r3, r4⟩ := x.row hl
  have l6 := x.L.2
  have a : f_9_of (nI l) 5 h = some (h (36 + 2 * l) 1) := by
    have q := of_m (h := h) (k := 5) (show l < 6 by omega) (by decide)
    rw [show 154 + 9 * l + 5 = 159 + 9 * l by omega, r3] at q
    exact q
  obtain ⟨h1, a1, a2, a3, a4, a5⟩ := takes_l (h := h) (show l < 6 by omega) 3 0 FU (u2 h 114 11 (h (36 + 2 * l) 1)) (by omega) (by show _ < 4096; omega) (fun q q1 q2 => u2_p _ _ q1) (fun j hj => u2_k _ _ hj) (fun t ht => absurd ht (Nat.not_lt_zero t))
  refine ⟨h1, ?_, ⟨fun q hq => a2 q (fun e => hq (by unfold scr; omega)) (fun e => hq (by unfold scr; omega)), a3 2 (by decide), a3 19 (by decide)⟩, ?_, fun t ht => ?_⟩
  · unfold f_9_takes0
    rw [a, bnd_s, hl_eq]
    exact a1
  · rw [a4, u2_s, ← r1]
  · rw [a5 t (by omega), (r4 t ht).2.2]
end
