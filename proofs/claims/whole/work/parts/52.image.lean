/-! image, restore -/
section
variable {h : Hp}
theorem TP.cgC {B : Nat → Int32} {n u m : Nat} {C C2 : Nat → Int32} (e : ∀ i, i < m → C2 i = C i) (t : TP B n u C m) : TP B n u C2 m := fun b e' h' M => by
  obtain ⟨v, h1, a1, a2, a3, a4, a5⟩ := t b e' h' M
  exact ⟨v, h1, a1, a2, a3, a4, a5.cong (Nat.zero_le m) e⟩
/-- a line's copy -/
def LC (h h1 : Hp) (P Q : Nat) : Prop := h1 P 2 = (10 * h Q 2 + h Q 3) / 10 ∧ h1 P 3 = irm (10 * h Q 2 + h Q 3) 10 ∧ (∀ j, j = 1 ∨ j = 4 ∨ j = 5 ∨ j = 6 → h1 P j = h Q j) ∧ ∀ i, i < 3 → h1 (P + 1) i = h (Q + 1) i
def WC (h h1 : Hp) (P Q : Nat) : Prop := (∀ j, j = 1 ∨ j = 2 ∨ j = 3 → h1 P j = h Q j) ∧ ∀ k, k < 5 → h1 (P + 1) k = h (Q + 1) k
def XC (h h1 : Hp) (P Q : Nat) : Prop := h1 P 2 = imax 0 (imin 50 (h Q 2)) ∧ ∀ k, k < 50 → h1 (P + 1) k = h (Q + 1) k
theorem lcopy (P Q : Nat) (h0 : Hp) (d : Q ≠ P) (d1 : Q + 1 ≠ P) (d2 : Q ≠ P + 1) : ∃ h1, f_0_copy P Q h0 = some h1 ∧ LC h0 h1 P Q ∧ ∀ q, q ≠ P → q ≠ P + 1 → h1 q = h0 q := by
  have pp : P + 1 ≠ P := by omega
  have pp' : P ≠ P + 1 := by omega
  have qq : Q + 1 ≠ P + 1 := by omega
  refine ⟨_, rfl, ?_, ?_⟩
  · refine ⟨?_, ?_, fun j hj => ?_, fun i hi => ?_⟩
    · simp [u2, upd, pp']
    · simp [u2, upd, pp']
    · rcases hj with rfl | rfl | rfl | rfl <;> simp [u2, upd, pp', d, d1, d2, pp]
    · obtain rfl | rfl | rfl : i = 0 ∨ i = 1 ∨ i = 2 := by omega
      all_goals simp [u2, upd, pp', d, d1, d2, pp]
  · intro q q1 q2
    simp [u2, q1, q2]
theorem wcopy (P Q : Nat) (h0 : Hp) (d : Q ≠ P) (d1 : Q + 1 ≠ P) (d2 : Q ≠ P + 1) : ∃ h1, f_6_copy P Q h0 = some h1 ∧ WC h0 h1 P Q ∧ ∀ q, q ≠ P → q ≠ P + 1 → h1 q = h0 q := by
  have pp : P + 1 ≠ P := by omega
  have pp' : P ≠ P + 1 := by omega
  have g : cpok 0 0 5 5 5 = true := by decide
  refine ⟨uA (u2 (u2 (u2 h0 P 1 (h0 Q 1)) P 2 (h0 Q 2)) P 3 (h0 Q 3)) (P + 1) (va_cpy (h0 (Q + 1)) (h0 (P + 1)) 0 0 5), ?_, ⟨fun j hj => ?_, fun k hk => ?_⟩, ?_⟩
  · unfold f_6_copy
    simp only [hl_eq, gd_s _ g, il_0, il_5]
    rw [u2_p _ _ d, u2_p _ _ d, u2_p _ _ d, u2_p _ _ d1, u2_p _ _ d1, u2_p _ _ d1, u2_p _ _ pp, u2_p _ _ pp, u2_p _ _ pp]
  · rw [uA_n pp']
    rcases hj with rfl | rfl | rfl <;> simp [u2, upd]
  · rw [uA_i]
    unfold va_cpy
    rw [if_pos (by omega), Nat.zero_add, Nat.sub_zero]
  · intro q q1 q2
    rw [uA_n q2, u2_p _ _ q1, u2_p _ _ q1, u2_p _ _ q1]
theorem xcopy (P Q1 : Nat) (s : Int32) (h0 : Hp) (d : Q1 ≠ P) : ∃ h1, f_5_hold P Q1 s h0 = some h1 ∧ h1 P 2 = imax 0 (imin 50 s) ∧ (∀ k, k < 50 → h1 (P + 1) k = h0 Q1 k) ∧ (∀ j, j ≠ 2 → h1 P j = h0 P j) ∧ ∀ q, q ≠ P → q ≠ P + 1 → h1 q = h0 q := by
  have pp : P + 1 ≠ P := by omega
  have pp' : P ≠ P + 1 := by omega
  have g : cpok 0 0 50 50 50 = true := by decide
  have i50 : ci 50 = 50 := by decide
  refine ⟨uA (u2 h0 P 2 (imax 0 (imin 50 s))) (P + 1) (va_cpy (h0 Q1) (h0 (P + 1)) 0 0 50), ?_, ?_, fun k hk => ?_, fun j hj => ?_, ?_⟩
  · unfold f_5_hold
    simp only [hl_eq, gd_s _ g, il_0, i50]
    rw [u2_p _ _ d, u2_p _ _ pp]
  · rw [uA_n pp', u2_s]
  · rw [uA_i]
    unfold va_cpy
    rw [if_pos (by omega), Nat.zero_add, Nat.sub_zero]
  · rw [uA_n pp', u2_k _ _ hj]
  · intro q q1 q2
    rw [uA_n q2, u2_p _ _ q1]
/-- the last loop of a copy -/
theorem cp91 {P Q : Nat} (dis : P + 47 ≤ Q ∨ Q + 47 ≤ P) : ∀ (d k n : Nat) (h0 : Hp), 6 = k + d → d < n → ∃ h1, f_7_copy_91 P Q n (nI k) h0 = some h1 ∧ (∀ q, q ≠ P → q ≠ P + 5 → q ≠ P + 6 → q ≠ P + 8 → q ≠ P + 9 → (q < P + 35 + 2 * k ∨ P + 47 ≤ q) → h1 q = h0 q) ∧ (∀ j, 10 ≤ j → j ≤ 16 → h1 P j = h0 Q j) ∧ XC h0 h1 (P + 5) (Q + 5) ∧ XC h0 h1 (P + 8) (Q + 8) ∧ ∀ l, k ≤ l → l < 6 → LC h0 h1 (P + 35 + 2 * l) (Q + 35 + 2 * l)
  | 0, k, n, h0, e1, e2 => by
    obtain ⟨n, rfl⟩ : ∃ z, n = z + 1 := ⟨n - 1, by omega⟩
    have c : (6 : Int32) ≤ nI k := nI_le (a := 6) (by omega) (by omega)
    obtain ⟨h1, a1, a2, a3, _, a4⟩ := xcopy (P + 5) (Q + 5 + 1) (h0 (Q + 5) 2) h0 (by omega)
    obtain ⟨h2, b1, b2, b3, _, b4⟩ := xcopy (P + 8) (Q + 8 + 1) (h1 (Q + 8) 2) h1 (by omega)
    have PQ : Q ≠ P := by omega
    refine ⟨u2 (u2 (u2 (u2 (u2 (u2 (u2 h2 P 10 (h2 Q 10)) P 11 (h2 Q 11)) P 12 (h2 Q 12)) P 13 (h2 Q 13)) P 14 (h2 Q 14)) P 15 (h2 Q 15)) P 16 (h2 Q 16), ?_, fun q q1 q2 q3 q4 q5 _ => ?_, fun j j1 j2 => ?_, ?_, ?_, fun l l1 l2 => absurd l1 (by omega)⟩
    · rw [f_7_copy_91, if_pos c, a1, bnd_s, b1, bnd_s]
      simp only [hl_eq, u2_p _ _ PQ]
    · rw [u2_p _ _ q1, u2_p _ _ q1, u2_p _ _ q1, u2_p _ _ q1, u2_p _ _ q1, u2_p _ _ q1, u2_p _ _ q1, b4 q q4 q5, a4 q q2 q3]
    · rw [← a4 Q (by omega) (by omega), ← b4 Q (by omega) (by omega)]
      obtain rfl | rfl | rfl | rfl | rfl | rfl | rfl : j = 10 ∨ j = 11 ∨ j = 12 ∨ j = 13 ∨ j = 14 ∨ j = 15 ∨ j = 16 := by omega
      all_goals simp [u2, upd]
    · have e5 : ∀ q, q ≠ P → q ≠ P + 8 → q ≠ P + 9 → u2 (u2 (u2 (u2 (u2 (u2 (u2 h2 P 10 (h2 Q 10)) P 11 (h2 Q 11)) P 12 (h2 Q 12)) P 13 (h2 Q 13)) P 14 (h2 Q 14)) P 15 (h2 Q 15)) P 16 (h2 Q 16) q = h1 q := fun q q1 q4 q5 => by
        rw [u2_p _ _ q1, u2_p _ _ q1, u2_p _ _ q1, u2_p _ _ q1, u2_p _ _ q1, u2_p _ _ q1, u2_p _ _ q1, b4 q q4 q5]
      exact ⟨by rw [e5 _ (by omega) (by omega) (by omega)]; exact a2, fun k hk => by rw [e5 _ (by omega) (by omega) (by omega)]; exact a3 k hk⟩
    · have e5 : ∀ q, q ≠ P → u2 (u2 (u2 (u2 (u2 (u2 (u2 h2 P 10 (h2 Q 10)) P 11 (h2 Q 11)) P 12 (h2 Q 12)) P 13 (h2 Q 13)) P 14 (h2 Q 14)) P 15 (h2 Q 15)) P 16 (h2 Q 16) q = h2 q := fun q q1 => by
        rw [u2_p _ _ q1, u2_p _ _ q1, u2_p _ _ q1, u2_p _ _ q1, u2_p _ _ q1, u2_p _ _ q1, u2_p _ _ q1]
      refine ⟨by rw [e5 _ (by omega), b2, a4 (Q + 8) (by omega) (by omega)], fun k hk => ?_⟩
      rw [e5 _ (by omega), b3 k hk, a4 (Q + 8 + 1) (by omega) (by omega)]
  | d + 1, k, n, h0, e1, e2 => by
    obtain ⟨n, rfl⟩ : ∃ z, n = z + 1 := ⟨n - 1, by omega⟩
    have c : ¬ (6 : Int32) ≤ nI k := nI_ge (b := 6) (by omega) (by decide)
    obtain ⟨h1, a1, a2, a3⟩ := lcopy (P + 35 + 2 * k) (Q + 35 + 2 * k) h0 (by omega) (by omega) (by omega)
    obtain ⟨h2, b1, b2, b3, b4, b5, b6⟩ := cp91 dis d (k + 1) n h1 (by omega) (by omega)
    have gk : inb (nI k) 6 = true := inb_nI (by omega) (by decide)
    have fQ : ∀ q, Q ≤ q → q < Q + 47 → h1 q = h0 q := fun q q1 q2 => a3 q (by omega) (by omega)
    refine ⟨h2, ?_, fun q q1 q2 q3 q4 q5 q6 => ?_, fun j j1 j2 => ?_, ⟨?_, fun k hk => ?_⟩, ⟨?_, fun k hk => ?_⟩, fun l l1 l2 => ?_⟩
    · rw [f_7_copy_91, if_neg c, gd_s _ gk, gd_s _ gk, ci_nI (by omega), a1, bnd_s, nI_1, b1]
    · rw [b2 q q1 q2 q3 q4 q5 (by omega), a3 q (by omega) (by omega)]
    · rw [b3 j j1 j2, fQ Q (by omega) (by omega)]
    · rw [b4.1, fQ _ (by omega) (by omega)]
    · rw [b4.2 k hk, fQ _ (by omega) (by omega)]
    · rw [b5.1, fQ _ (by omega) (by omega)]
    · rw [b5.2 k hk, fQ _ (by omega) (by omega)]
    · by_cases e : l = k
      · subst e
        have s0 : h2 (P + 35 + 2 * l) = h1 (P + 35 + 2 * l) := b2 _ (by omega) (by omega) (by omega) (by omega) (by omega) (by omega)
        have s1 : h2 (P + 35 + 2 * l + 1) = h1 (P + 35 + 2 * l + 1) := b2 _ (by omega) (by omega) (by omega) (by omega) (by omega) (by omega)
        unfold LC
        rw [s0, s1]
        exact a2
      · have q := b6 l (by omega) l2
        unfold LC at q ⊢
        rw [fQ _ (by omega) (by omega), fQ _ (by omega) (by omega)] at q
        exact q
theorem cp62 {P Q : Nat} (dis : P + 47 ≤ Q ∨ Q + 47 ≤ P) : ∀ (d k n : Nat) (h0 : Hp), 10 = k + d → d < n → ∃ h1, f_7_copy_62 P Q n (nI k) h0 = some h1 ∧ (∀ q, q ≠ P → q ≠ P + 5 → q ≠ P + 6 → q ≠ P + 8 → q ≠ P + 9 → (q < P + 15 + 2 * k ∨ P + 47 ≤ q) → h1 q = h0 q) ∧ (∀ j, 10 ≤ j → j ≤ 16 → h1 P j = h0 Q j) ∧ XC h0 h1 (P + 5) (Q + 5) ∧ XC h0 h1 (P + 8) (Q + 8) ∧ (∀ l, l < 6 → LC h0 h1 (P + 35 + 2 * l) (Q + 35 + 2 * l)) ∧ ∀ j, k ≤ j → j < 10 → WC h0 h1 (P + 15 + 2 * j) (Q + 15 + 2 * j)
  | 0, k, n, h0, e1, e2 => by
    obtain ⟨n, rfl⟩ : ∃ z, n = z + 1 := ⟨n - 1, by omega⟩
    have c : (10 : Int32) ≤ nI k := nI_le (a := 10) (by omega) (by omega)
    obtain ⟨h1, a1, a2, a3, a4, a5, a6⟩ := cp91 dis 6 0 FU h0 (by omega) (by show _ < 4096; omega)
    refine ⟨h1, ?_, fun q q1 q2 q3 q4 q5 q6 => a2 q q1 q2 q3 q4 q5 (by omega), a3, a4, a5, fun l hl => a6 l (Nat.zero_le l) hl, fun j j1 j2 => absurd j1 (by omega)⟩
    rw [f_7_copy_62, if_pos c]
    exact a1
  | d + 1, k, n, h0, e1, e2 => by
    obtain ⟨n, rfl⟩ : ∃ z, n = z + 1 := ⟨n - 1, by omega⟩
    have c : ¬ (10 : Int32) ≤ nI k := nI_ge (b := 10) (by omega) (by decide)
    obtain ⟨h1, a1, a2, a3⟩ := wcopy (P + 15 + 2 * k) (Q + 15 + 2 * k) h0 (by omega) (by omega) (by omega)
    obtain ⟨h2, b1, b2, b3, b4, b5, b6, b7⟩ := cp62 dis d (k + 1) n h1 (by omega) (by omega)
    have gk : inb (nI k) 10 = true := inb_nI (by omega) (by decide)
    have fQ : ∀ q, Q ≤ q → q < Q + 47 → h1 q = h0 q := fun q q1 q2 => a3 q (by omega) (by omega)
    refine ⟨h2, ?_, fun q q1 q2 q3 q4 q5 q6 => ?_, fun j j1 j2 => ?_, ⟨?_, fun k hk => ?_⟩, ⟨?_, fun k hk => ?_⟩, fun l l2 => ?_, fun l l1 l2 => ?_⟩
    · rw [f_7_copy_62, if_neg c, gd_s _ gk, gd_s _ gk, ci_nI (by omega), a1, bnd_s, nI_1, b1]
    · rw [b2 q q1 q2 q3 q4 q5 (by omega), a3 q (by omega) (by omega)]
    · rw [b3 j j1 j2, fQ Q (by omega) (by omega)]
    · rw [b4.1, fQ _ (by omega) (by omega)]
    · rw [b4.2 k hk, fQ _ (by omega) (by omega)]
    · rw [b5.1, fQ _ (by omega) (by omega)]
    · rw [b5.2 k hk, fQ _ (by omega) (by omega)]
    · have q := b6 l l2
      unfold LC at q ⊢
      rw [fQ _ (by omega) (by omega), fQ _ (by omega) (by omega)] at q
      exact q
    · by_cases e : l = k
      · subst e
        have s0 : h2 (P + 15 + 2 * l) = h1 (P + 15 + 2 * l) := b2 _ (by omega) (by omega) (by omega) (by omega) (by omega) (by omega)
        have s1 : h2 (P + 15 + 2 * l + 1) = h1 (P + 15 + 2 * l + 1) := b2 _ (by omega) (by omega) (by omega) (by omega) (by omega) (by omega)
        unfold WC
        rw [s0, s1]
        exact a2
      · have q := b7 l (by omega) l2
        unfold WC at q ⊢
        rw [fQ _ (by omega) (by omega), fQ _ (by omega) (by omega)] at q
        exact q
/-- what a copy of a world is -/
def CC (h h1 : Hp) (P Q : Nat) : Prop := (∀ q, (q < P ∨ P + 47 ≤ q) → h1 q = h q) ∧ (∀ j, 10 ≤ j → j ≤ 16 → h1 P j = h Q j) ∧ XC h h1 (P + 5) (Q + 5) ∧ XC h h1 (P + 8) (Q + 8) ∧ (∀ l, l < 6 → LC h h1 (P + 35 + 2 * l) (Q + 35 + 2 * l)) ∧ (∀ j, j < 10 → WC h h1 (P + 15 + 2 * j) (Q + 15 + 2 * j)) ∧ (∀ k, k < 60 → h1 (P + 1) k = h (Q + 1) k) ∧ (∀ k, k < 50 → h1 (P + 4) k = h (Q + 4) k) ∧ (∀ k, k < 16 → h1 (P + 11) k = h (Q + 11) k) ∧ ∀ k, k < 20 → h1 (P + 12) k = h (Q + 12) k
theorem copy_c {P Q : Nat} (dis : P + 47 ≤ Q ∨ Q + 47 ≤ P) : ∃ h1, f_7_copy P Q h = some h1 ∧ CC h h1 P Q := by
  have c1 : cpok 0 0 60 60 60 = true := by decide
  have c2 : cpok 0 0 50 50 50 = true := by decide
  have c3 : cpok 0 0 16 16 16 = true := by decide
  have c4 : cpok 0 0 20 20 20 = true := by decide
  have i60 : ci 60 = 60 := by decide
  have i50 : ci 50 = 50 := by decide
  have i16 : ci 16 = 16 := by decide
  have i20 : ci 20 = 20 := by decide
  unfold f_7_copy
  rw [gd_s _ c1, hl_eq, gd_s _ c2, hl_eq, gd_s _ c3, hl_eq, gd_s _ c4, hl_eq, il_0, i60, i50, i16, i20]
  have k0 : ∀ (F G : Nat → Int32) (n k : Nat), k < n → va_cpy F G 0 0 n k = F k := fun F G n k hk => by
    unfold va_cpy
    rw [if_pos (by omega), Nat.zero_add, Nat.sub_zero]
  have g1 : ∀ q, q ≠ P + 1 → uA h (P + 1) (va_cpy (h (Q + 1)) (h (P + 1)) 0 0 60) q = h q := fun q hq => uA_n hq
  have g1' : ∀ k, k < 60 → uA h (P + 1) (va_cpy (h (Q + 1)) (h (P + 1)) 0 0 60) (P + 1) k = h (Q + 1) k := fun k hk => by rw [uA_i, k0 _ _ _ _ hk]
  generalize uA h (P + 1) (va_cpy (h (Q + 1)) (h (P + 1)) 0 0 60) = a1 at g1 g1'
  have g2 : ∀ q, q ≠ P + 4 → uA a1 (P + 4) (va_cpy (a1 (Q + 4)) (a1 (P + 4)) 0 0 50) q = a1 q := fun q hq => uA_n hq
  have g2' : ∀ k, k < 50 → uA a1 (P + 4) (va_cpy (a1 (Q + 4)) (a1 (P + 4)) 0 0 50) (P + 4) k = h (Q + 4) k := fun k hk => by rw [uA_i, k0 _ _ _ _ hk, g1 _ (by omega)]
  generalize uA a1 (P + 4) (va_cpy (a1 (Q + 4)) (a1 (P + 4)) 0 0 50) = a2 at g2 g2'
  have g3 : ∀ q, q ≠ P + 11 → uA a2 (P + 11) (va_cpy (a2 (Q + 11)) (a2 (P + 11)) 0 0 16) q = a2 q := fun q hq => uA_n hq
  have g3' : ∀ k, k < 16 → uA a2 (P + 11) (va_cpy (a2 (Q + 11)) (a2 (P + 11)) 0 0 16) (P + 11) k = h (Q + 11) k := fun k hk => by rw [uA_i, k0 _ _ _ _ hk, g2 _ (by omega), g1 _ (by omega)]
  generalize uA a2 (P + 11) (va_cpy (a2 (Q + 11)) (a2 (P + 11)) 0 0 16) = a3 at g3 g3'
  have g4 : ∀ q, q ≠ P + 12 → uA a3 (P + 12) (va_cpy (a3 (Q + 12)) (a3 (P + 12)) 0 0 20) q = a3 q := fun q hq => uA_n hq
  have g4' : ∀ k, k < 20 → uA a3 (P + 12) (va_cpy (a3 (Q + 12)) (a3 (P + 12)) 0 0 20) (P + 12) k = h (Q + 12) k := fun k hk => by rw [uA_i, k0 _ _ _ _ hk, g3 _ (by omega), g2 _ (by omega), g1 _ (by omega)]
  generalize uA a3 (P + 12) (va_cpy (a3 (Q + 12)) (a3 (P + 12)) 0 0 20) = a4 at g4 g4'
  obtain ⟨h1, b1, b2, b3, b4, b5, b6, b7⟩ := cp62 dis 10 0 FU a4 (by omega) (by show _ < 4096; omega)
  have fQ : ∀ q, q ≠ P + 1 → q ≠ P + 4 → q ≠ P + 11 → q ≠ P + 12 → a4 q = h q := fun q q1 q2 q3 q4 => by rw [g4 q q4, g3 q q3, g2 q q2, g1 q q1]
  refine ⟨h1, b1, fun q hq => ?_, fun j j1 j2 => ?_, ⟨?_, fun k hk => ?_⟩, ⟨?_, fun k hk => ?_⟩, fun l hl => ?_, fun j hj => ?_, fun k hk => ?_, fun k hk => ?_, fun k hk => ?_, fun k hk => ?_⟩
  · rw [b2 q (by omega) (by omega) (by omega) (by omega) (by omega) (by omega), fQ q (by omega) (by omega) (by omega) (by omega)]
  · rw [b3 j j1 j2, fQ _ (by omega) (by omega) (by omega) (by omega)]
  · rw [b4.1, fQ _ (by omega) (by omega) (by omega) (by omega)]
  · rw [b4.2 k hk, fQ _ (by omega) (by omega) (by omega) (by omega)]
  · rw [b5.1, fQ _ (by omega) (by omega) (by omega) (by omega)]
  · rw [b5.2 k hk, fQ _ (by omega) (by omega) (by omega) (by omega)]
  · have q := b6 l hl
    unfold LC at q ⊢
    rw [fQ _ (by omega) (by omega) (by omega) (by omega), fQ _ (by omega) (by omega) (by omega) (by omega)] at q
    exact q
  · have q := b7 j (Nat.zero_le j) hj
    unfold WC at q ⊢
    rw [fQ _ (by omega) (by omega) (by omega) (by omega), fQ _ (by omega) (by omega) (by omega) (by omega)] at q
    exact q
  · rw [b2 _ (by omega) (by omega) (by omega) (by omega) (by omega) (by omega), g4 _ (by omega), g3 _ (by omega), g2 _ (by omega)]; exact g1' k hk
  · rw [b2 _ (by omega) (by omega) (by omega) (by omega) (by omega) (by omega), g4 _ (by omega), g3 _ (by omega)]; exact g2' k hk
  · rw [b2 _ (by omega) (by omega) (by omega) (by omega) (by omega) (by omega), g4 _ (by omega)]; exact g3' k hk
  · rw [b2 _ (by omega) (by omega) (by omega) (by omega) (by omega) (by omega)]; exact g4' k hk
theorem TX.cp {h1 : Hp} {P Q u : Nat} {D D2 : Nat → Int32} (x : TX h Q D u) (c : XC h h1 P Q) (a : D2 (208 + u) = D (208 + u)) (b : ∀ i, i < 50 → D2 (230 + 50 * u + i) = D (230 + 50 * u + i)) : TX h1 P D2 u := by
  obtain ⟨c1, c2⟩ := c
  rcases x with ⟨z, d⟩ | ⟨n, m, n1, n2, m1, m2, d, s, t⟩
  · refine Or.inl ⟨?_, a.trans d⟩
    rw [c1, z]; rfl
  · refine Or.inr ⟨n, m, n1, n2, m1, m2, a.trans d, ?_, (t.cg (fun i hi => b i (by omega))).cgC (fun i hi => c2 i (by omega))⟩
    rw [c1, s]
    have f : ∀ m : Fin 51, imax 0 (imin 50 (nI m.val)) = nI m.val := by decide
    exact f ⟨m, by omega⟩
theorem dg_cg {f g : Nat → Int32} : ∀ n, (∀ k, k < n → f k = g k) → dg f n = dg g n
  | 0, _ => rfl
  | n + 1, q => by
    show 10 * dg f n + f n + 1 = 10 * dg g n + g n + 1
    rw [dg_cg n (fun k hk => q k (by omega)), q n (by omega)]
theorem WI.cp {h1 : Hp} {P Q : Nat} {D D2 : Nat → Int32} (x : WI h Q D) (c : CC h h1 P Q) (d : ∀ k, k < 380 → D2 k = D k) : WI h1 P D2 := by
  obtain ⟨x1, ⟨g1, g2, g3, g4⟩, x3, x4, x5⟩ := x
  obtain ⟨_, cs, ct1, ct2, cl, cw, cf, ctp, clk, cwt⟩ := c
  have W10 := x1.1.1
  have L6 := x1.2.1.1
  refine ⟨?_, ⟨fun k hk => ?_, fun k hk => ?_, fun k hk => ?_, fun k hk => ?_⟩, fun j hj => ?_, fun l hl => ?_, ?_, ?_⟩
  · unfold gS at x1 ⊢
    rw [cs 10 (by decide) (by decide), cs 11 (by decide) (by decide), cs 12 (by decide) (by decide), cs 13 (by decide) (by decide), cs 14 (by decide) (by decide), cs 15 (by decide) (by decide), cs 16 (by decide) (by decide), d 0 (by decide), d 1 (by decide), d 2 (by decide), d 3 (by decide), d 4 (by decide), d 5 (by decide), d 6 (by decide)]
    exact x1
  · rw [d _ (by omega), cf k hk]; exact g1 k hk
  · rw [d _ (by omega), clk k hk]; exact g2 k hk
  · rw [d _ (by omega), cwt k hk]; exact g3 k hk
  · rw [d _ (by omega), ctp k hk]; exact g4 k hk
  · rw [cs 10 (by decide) (by decide)] at hj
    obtain ⟨k, k1, k2⟩ := W10
    have j10 : j < 10 := by rw [k2, ci_nI (by omega)] at hj; omega
    obtain ⟨n, g, n1, n5, g9, a1, a2, a3, a4, a5, a6⟩ := x3 j hj
    obtain ⟨w1, w2⟩ := cw j j10
    refine ⟨n, g, n1, n5, g9, by rw [w1 2 (by decide)]; exact a1, by rw [d _ (by omega)]; exact a2, by rw [w1 3 (by decide)]; exact a3, by rw [d _ (by omega)]; exact a4, ?_, fun k hk => ?_⟩
    · rw [w1 1 (by decide), a5]
      exact dg_cg n (fun k hk => (w2 k (by omega)).symm)
    · obtain ⟨y, y1, y2, y3⟩ := a6 k hk
      exact ⟨y, y1, by rw [w2 k (by omega)]; exact y2, by rw [d _ (by omega)]; exact y3⟩
  · rw [cs 11 (by decide) (by decide)] at hl
    obtain ⟨k, k1, k2⟩ := L6
    have l6 : l < 6 := by rw [k2, ci_nI (by omega)] at hl; omega
    rw [cs 10 (by decide) (by decide)]
    obtain ⟨K, m, b, n, z, w, A, ⟨c1, c1'⟩, ⟨c2, c2'⟩, ⟨c3, c3'⟩, ⟨c4, c4'⟩, ⟨c5, c5'⟩, ⟨c6, c6'⟩, c7⟩ := x4 l hl
    obtain ⟨A1, A2, A3, A4, A5, A6, A7⟩ := A
    obtain ⟨p1, p2, p3, p4⟩ := cl l l6
    have v : (10 : Int32) * nI K + nI m = nI (10 * K + m) := by rw [lit_nI 10, pk_mul, nI_add]
    obtain ⟨v1, v2⟩ := div10 (v := 10 * K + m) (by omega)
    rw [c1, c2, v] at p1 p2
    rw [v1, show (10 * K + m) / 10 = K by omega] at p1
    rw [v2, show (10 * K + m) % 10 = m by omega] at p2
    refine ⟨K, m, b, n, z, w, ⟨A1, A2, A3, A4, A5, A6, A7⟩, ⟨p1, by rw [d _ (by omega)]; exact c1'⟩, ⟨p2, by rw [d _ (by omega)]; exact c2'⟩, ⟨by rw [p3 4 (by decide)]; exact c3, by rw [d _ (by omega)]; exact c3'⟩, ⟨by rw [p3 5 (by decide)]; exact c4, by rw [d _ (by omega)]; exact c4'⟩, ⟨by rw [p3 6 (by decide)]; exact c5, by rw [d _ (by omega)]; exact c5'⟩, ⟨by rw [p3 1 (by decide)]; exact c6, by rw [d _ (by omega)]; exact c6'⟩, fun i hi => ?_⟩
    obtain ⟨j, j1, j2, j3⟩ := c7 i hi
    exact ⟨j, j1, by rw [p4 i (by omega)]; exact j2, by rw [d _ (by omega)]; exact j3⟩
  · exact x5.1.cp ct1 (d _ (by omega)) (fun i hi => d _ (by omega))
  · exact x5.2.cp ct2 (d _ (by omega)) (fun i hi => d _ (by omega))
theorem img_m : ∀ (d k n : Nat) (h0 : Hp), 380 = k + d → d < n → ∃ h1, f_9_image_2 n (nI k) h0 = some (h0 114 2 + 1, u2 h1 114 2 (h0 114 2 + 1)) ∧ (∀ q, q ≠ 116 → h1 q = h0 q) ∧ (∀ j, j < k → h1 116 j = h0 116 j) ∧ ∀ j, k ≤ j → j < 380 → h1 116 j = h0 115 j
  | 0, k, n, h0, e1, e2 => by
    obtain ⟨n, rfl⟩ : ∃ z, n = z + 1 := ⟨n - 1, by omega⟩
    have c : (380 : Int32) ≤ nI k := nI_le (a := 380) (by omega) (by omega)
    refine ⟨h0, ?_, fun _ _ => rfl, fun _ _ => rfl, fun j a b => absurd a (by omega)⟩
    rw [f_9_image_2, if_pos c, hl_eq, u2_s]
  | d + 1, k, n, h0, e1, e2 => by
    obtain ⟨n, rfl⟩ : ∃ z, n = z + 1 := ⟨n - 1, by omega⟩
    have c : ¬ (380 : Int32) ≤ nI k := nI_ge (b := 380) (by omega) (by decide)
    have gk : inb (nI k) 380 = true := inb_nI (by omega) (by decide)
    obtain ⟨h1, a1, a2, a3, a4⟩ := img_m d (k + 1) n (u2 h0 116 k (h0 115 k)) (by omega) (by omega)
    rw [u2_p (q := 114) _ _ (by decide)] at a1
    refine ⟨h1, ?_, fun q hq => (a2 q hq).trans (u2_p _ _ hq), fun j hj => by rw [a3 j (by omega), u2_k _ _ (by omega)], fun j j1 j2 => ?_⟩
    · rw [f_9_image_2, if_neg c, gd_s _ gk, gd_s _ gk, hl_eq, ci_nI (by omega), nI_1, a1]
    · by_cases e : j = k
      · subst e
        rw [a3 j (by omega), u2_s]
      · rw [a4 j (by omega) j2, u2_p _ _ (by decide)]
theorem rest_m : ∀ (d k n : Nat) (h0 : Hp), 380 = k + d → d < n → ∃ h1, f_9_restore_15 n (nI k) h0 = some (h1 115 2, h1) ∧ (∀ q, q ≠ 115 → h1 q = h0 q) ∧ (∀ j, j < k → h1 115 j = h0 115 j) ∧ ∀ j, k ≤ j → j < 380 → h1 115 j = h0 116 j
  | 0, k, n, h0, e1, e2 => by
    obtain ⟨n, rfl⟩ : ∃ z, n = z + 1 := ⟨n - 1, by omega⟩
    have c : (380 : Int32) ≤ nI k := nI_le (a := 380) (by omega) (by omega)
    refine ⟨h0, ?_, fun _ _ => rfl, fun _ _ => rfl, fun j a b => absurd a (by omega)⟩
    rw [f_9_restore_15, if_pos c]
  | d + 1, k, n, h0, e1, e2 => by
    obtain ⟨n, rfl⟩ : ∃ z, n = z + 1 := ⟨n - 1, by omega⟩
    have c : ¬ (380 : Int32) ≤ nI k := nI_ge (b := 380) (by omega) (by decide)
    have gk : inb (nI k) 380 = true := inb_nI (by omega) (by decide)
    obtain ⟨h1, a1, a2, a3, a4⟩ := rest_m d (k + 1) n (u2 h0 115 k (h0 116 k)) (by omega) (by omega)
    refine ⟨h1, ?_, fun q hq => (a2 q hq).trans (u2_p _ _ hq), fun j hj => by rw [a3 j (by omega), u2_k _ _ (by omega)], fun j j1 j2 => ?_⟩
    · rw [f_9_restore_15, if_neg c, gd_s _ gk, gd_s _ gk, hl_eq, ci_nI (by omega), nI_1, a1]
    · by_cases e : j = k
      · subst e
        rw [a3 j (by omega), u2_s]
      · rw [a4 j (by omega) j2, u2_p _ _ (by decide)]
theorem al_image (X : AI h) : Al f_8_image f_9_image h := by
  have x := X.1
  obtain ⟨hc, c1, c2⟩ := copy_c (h := h) (P := 48) (Q := 1) (by omega)
  have e0 : hc 0 7 = h 0 7 := by rw [c2.1 0 (by omega)]
  have f1 : ∀ q, q ≠ 0 → u2 hc 0 7 (h 0 7 + 1) q = hc q := fun q hq => u2_p _ _ hq
  have C : f_8_image h = some (h 0 7 + 1, u2 hc 0 7 (h 0 7 + 1)) := by
    unfold f_8_image
    rw [c1, bnd_s, hl_eq, e0, u2_s]
  have e7 : u2 hc 0 7 (h 0 7 + 1) 0 7 = h 0 7 + 1 := u2_s _ _ _ _
  generalize u2 hc 0 7 (h 0 7 + 1) = h1 at f1 C e7
  obtain ⟨h2, a1, a2, _, a4⟩ := img_m 380 0 FU h1 (by omega) (by show _ < 4096; omega)
  have e2 : h1 114 2 = h 0 7 := by rw [f1 114 (by decide), c2.1 114 (by omega)]; exact x.2.2.1
  rw [e2] at a1
  refine ⟨h 0 7 + 1, h1, u2 h2 114 2 (h 0 7 + 1), C, a1, ?_⟩
  have g : ∀ q, q ≠ 0 → (q < 48 ∨ 95 ≤ q) → q ≠ 114 → q ≠ 116 → u2 h2 114 2 (h 0 7 + 1) q = h q := fun q q1 q2 q3 q4 => by
    rw [u2_p _ _ q3, a2 q q4, f1 q q1, c2.1 q (by omega)]
  have g48 : ∀ q, 48 ≤ q → q < 95 → u2 h2 114 2 (h 0 7 + 1) q = hc q := fun q q1 q2 => by
    rw [u2_p _ _ (by omega), a2 q (by omega), f1 q (by omega)]
  obtain ⟨⟨x1, x2, x3, x5, x6⟩, y⟩ := X
  refine ⟨⟨?_, Or.inr ?_, ?_, ?_, ?_⟩, ?_⟩
  · rw [g 115 (by decide) (by decide) (by decide) (by decide)]
    exact x1.fr (fun q hq => g _ (by omega) (by unfold kp at hq; omega) (by unfold kp at hq; omega) (by unfold kp at hq; omega))
  · have q := x1.cp c2 (D2 := u2 h2 114 2 (h 0 7 + 1) 116) (fun k hk => by
      rw [u2_p _ _ (by decide), a4 k (Nat.zero_le k) hk, f1 115 (by decide), c2.1 115 (by omega)])
    exact q.fr (fun q hq => g48 _ (by omega) (by unfold kp at hq; omega))
  · rw [u2_s, u2_p _ _ (by decide), a2 0 (by decide), e7]
  · unfold TR
    rw [u2_k (j := 19) _ _ (by decide), g 103 (by decide) (by decide) (by decide) (by decide), g 104 (by decide) (by decide) (by decide) (by decide), g 121 (by decide) (by decide) (by decide) (by decide), a2 114 (by decide), f1 114 (by decide), c2.1 114 (by omega)]; exact x5
  · intro s hs
    rw [g 106 (by decide) (by decide) (by decide) (by decide), g 107 (by decide) (by decide) (by decide) (by decide), g 122 (by decide) (by decide) (by decide) (by decide), g 123 (by decide) (by decide) (by decide) (by decide), g 124 (by decide) (by decide) (by decide) (by decide), g (109 + s) (by omega) (by omega) (by omega) (by omega)]
    exact x6 s hs
  · intro k hk
    rw [g 117 (by decide) (by decide) (by decide) (by decide), g 113 (by decide) (by decide) (by decide) (by decide)]
    exact y k hk
theorem al_restore (X : AI h) : Al f_8_restore f_9_restore h := by
  have x := X.1
  by_cases z : h 0 7 = 0
  · refine Al.er X (k := 2) (by decide) (by decide) ?_ (fun h1 f => ?_)
    · unfold f_8_restore
      rw [if_pos z, b2_id]; rfl
    · unfold f_9_restore
      rw [f 114 (by decide), x.2.2.1, if_pos z, b2_id]; rfl
  have K : WI h 48 (h 116) := by
    rcases x.2.1 with q | q
    · exact absurd q z
    · exact q
  obtain ⟨hc, c1, c2⟩ := copy_c (h := h) (P := 1) (Q := 48) (by omega)
  obtain ⟨h2, a1, a2, _, a4⟩ := rest_m 380 0 FU hc (by omega) (by show _ < 4096; omega)
  have w := K.cp c2 (D2 := h2 115) (fun k hk => by rw [a4 k (Nat.zero_le k) hk, c2.1 116 (by omega)])
  have w2 : WI h2 1 (h2 115) := w.fr (fun q hq => a2 _ (by unfold kp at hq; omega))
  have g : ∀ q, (q < 1 ∨ 48 ≤ q) → q ≠ 115 → h2 q = h q := fun q q1 q2 => by rw [a2 q q2, c2.1 q (by omega)]
  refine ⟨hc 1 14, hc, h2, ?_, ?_, ai_w X (g 0 (by decide) (by decide)) (fun q q1 q2 => g q (by omega) q2) w2⟩
  · unfold f_8_restore
    rw [if_neg z, c1, bnd_s]
  · have e : h2 115 2 = hc 1 14 := by rw [← a2 1 (by decide)]; exact w2.1.2.2.1.2
    unfold f_9_restore
    rw [c2.1 114 (by omega), x.2.2.1, if_neg z]
    rw [e] at a1
    exact a1
end
