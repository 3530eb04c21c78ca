/-! rows of words, in order -/
section
variable {h : Hp}
def dgr (W : Nat) : Nat → Nat → Nat → Nat
  | 0, _, _ => 0
  | d + 1, x, t => if t = d then x % W else dgr W d (x / W) t
theorem dgr_lt {W : Nat} (hW : 0 < W) : ∀ (d x t : Nat), dgr W d x t < W
  | 0, _, _ => hW
  | d + 1, x, t => by
    unfold dgr
    by_cases c : t = d
    · rw [if_pos c]; exact Nat.mod_lt _ hW
    · rw [if_neg c]; exact dgr_lt hW d (x / W) t
theorem dgr_0 (W : Nat) : ∀ (d t : Nat), dgr W d 0 t = 0
  | 0, _ => rfl
  | d + 1, t => by
    unfold dgr
    by_cases c : t = d
    · rw [if_pos c]; exact Nat.zero_mod W
    · rw [if_neg c, Nat.zero_div]; exact dgr_0 W d t
theorem try_c {W : Nat} (W1 : 0 < W) (W2 : W ≤ 10) : ∀ (d x n : Nat) (h0 : Hp), d ≤ 3 → x < 100000 → d < n → h0 1 10 = nI W → ∃ h1, f_2_tryRow_7 n (nI x) (nI d - 1) h0 = some h1 ∧ (∀ q, q ≠ 98 → h1 q = h0 q) ∧ (∀ t, d ≤ t → h1 98 t = h0 98 t) ∧ ∀ t, t < d → h1 98 t = nI (dgr W d x t)
  | 0, x, n, h0, e1, e2, e3, e4 => by
    obtain ⟨n, rfl⟩ : ∃ z, n = z + 1 := ⟨n - 1, by omega⟩
    refine ⟨h0, ?_, fun _ _ => rfl, fun _ _ => rfl, fun t ht => absurd ht (Nat.not_lt_zero t)⟩
    rw [f_2_tryRow_7, if_pos (by decide)]
  | d + 1, x, n, h0, e1, e2, e3, e4 => by
    obtain ⟨n, rfl⟩ : ∃ z, n = z + 1 := ⟨n - 1, by omega⟩
    have ex : x / W < 100000 := Nat.lt_of_le_of_lt (Nat.div_le_self x W) e2
    obtain ⟨h1, a1, a2, a3, a4⟩ := try_c W1 W2 d (x / W) n (u2 h0 98 d (nI (x % W))) (by omega) ex (by omega) (by rw [u2_p _ _ (by decide)]; exact e4)
    have c : ¬ nI d < (0 : Int32) := fun q => absurd ((nI_ltI (b := 0) (by omega) (by decide)).mp q) (Nat.not_lt_zero _)
    have c2 : ¬ nI W ≤ (0 : Int32) := nI_ge (a := 0) (by omega) (by omega)
    have nz : decide (¬ nI W = 0) = true := decide_eq_true (fun q => by
      have := (nI_eq (a := W) (b := 0) (by omega) (by decide)).mp q
      omega)
    have e5 : u2 h0 98 d (nI (x % W)) 1 10 = nI W := by rw [u2_p _ _ (by decide)]; exact e4
    refine ⟨h1, ?_, fun q hq => (a2 q hq).trans (u2_p _ _ hq), fun t ht => by rw [a3 t (by omega), u2_k _ _ (by omega)], fun t ht => ?_⟩
    · rw [nI_pred, f_2_tryRow_7, if_neg c, e4, if_neg c2, gd_s _ nz, gd_s _ (inb_nI (show d < 3 by omega) (by decide)), hl_eq, ci_nI (by omega), rem_nI (by omega) W1 (by omega), e5, gd_s _ nz, pk_div (by omega) W1 (by omega), ← Int32.sub_eq_add_neg, a1]
    · unfold dgr
      by_cases k : t = d
      · subst k
        rw [if_pos rfl, a3 t (Nat.le_refl t), u2_s]
      · rw [if_neg k]
        exact a4 t (by omega)
theorem next_m {W : Nat} (W1 : 0 < W) (W2 : W ≤ 10) : ∀ (d x n : Nat) (h0 : Hp), d ≤ 3 → x < W ^ d → d < n → h0 115 0 = nI W → (∀ t, t < d → h0 119 t = nI (dgr W d x t)) → ∃ r h1, f_9_nextRow_7 n (nI d - 1) h0 = some (r, h1) ∧ (∀ q, q ≠ 119 → h1 q = h0 q) ∧ (∀ t, d ≤ t → h1 119 t = h0 119 t) ∧ ((x + 1 < W ^ d ∧ r = 1 ∧ ∀ t, t < d → h1 119 t = nI (dgr W d (x + 1) t)) ∨ (x + 1 = W ^ d ∧ r = 0))
  | 0, x, n, h0, e1, e2, e3, e4, e5 => by
    obtain ⟨n, rfl⟩ : ∃ z, n = z + 1 := ⟨n - 1, by omega⟩
    have x0 : x = 0 := by
      have : x < 1 := e2
      omega
    refine ⟨0, h0, ?_, fun _ _ => rfl, fun _ _ => rfl, Or.inr ⟨by rw [x0]; rfl, rfl⟩⟩
    rw [f_9_nextRow_7, if_pos (by decide), if_neg (by decide)]
  | d + 1, x, n, h0, e1, e2, e3, e4, e5 => by
    obtain ⟨n, rfl⟩ : ∃ z, n = z + 1 := ⟨n - 1, by omega⟩
    have c : ¬ nI d < (0 : Int32) := fun q => absurd ((nI_ltI (b := 0) (by omega) (by decide)).mp q) (Nat.not_lt_zero _)
    have c0 : (0 : Int32) ≤ nI d := nI_le (a := 0) (Nat.zero_le d) (by omega)
    have gd3 : inb (nI d) 3 = true := inb_nI (by omega) (by decide)
    have r := Nat.mod_lt x W1
    have qr := Nat.div_add_mod x W
    have qd : x / W < W ^ d := by
      rw [Nat.div_lt_iff_lt_mul W1]
      rw [Nat.pow_succ] at e2
      exact e2
    have last : h0 119 d = nI (x % W) := by
      rw [e5 d (by omega), dgr, if_pos rfl]
    have pre : ∀ t, t < d → h0 119 t = nI (dgr W d (x / W) t) := fun t ht => by
      rw [e5 t (by omega), dgr, if_neg (by omega)]
    have w1 : h0 115 0 - 1 = nI (W - 1) := by rw [e4, lit_nI 1, pk_sub W1]
    rw [nI_pred, f_9_nextRow_7, if_neg c, gd_s _ gd3, ci_nI (by omega), last, w1]
    by_cases k : x % W = W - 1
    · have k2 : nI (x % W) = nI (W - 1) := by rw [k]
      have sx : x + 1 = W * (x / W + 1) := by
        rw [Nat.mul_add, Nat.mul_one]
        omega
      obtain ⟨r1, h1, a1, a2, a3, a4⟩ := next_m W1 W2 d (x / W) n (u2 h0 119 d 0) (by omega) qd (by omega) (by rw [u2_p _ _ (by decide)]; exact e4) (fun t ht => by rw [u2_k _ _ (by omega)]; exact pre t ht)
      refine ⟨r1, h1, ?_, fun q hq => (a2 q hq).trans (u2_p _ _ hq), fun t ht => by rw [a3 t (by omega), u2_k _ _ (by omega)], ?_⟩
      · rw [if_pos k2, gd_s _ gd3, hl_eq, ← Int32.sub_eq_add_neg, a1]
      · rcases a4 with ⟨b1, b2, b3⟩ | ⟨b1, b2⟩
        · refine Or.inl ⟨?_, b2, fun t ht => ?_⟩
          · rw [sx, Nat.pow_succ, Nat.mul_comm (W ^ d) W]
            exact Nat.mul_lt_mul_of_pos_left b1 W1
          · rw [dgr]
            by_cases k3 : t = d
            · subst k3
              rw [if_pos rfl, a3 t (Nat.le_refl t), u2_s, sx, Nat.mul_mod_right]
              rfl
            · rw [if_neg k3, sx, Nat.mul_div_cancel_left _ W1]
              exact b3 t (by omega)
        · refine Or.inr ⟨?_, b2⟩
          rw [sx, b1, Nat.pow_succ, Nat.mul_comm]
    · have k2 : ¬ nI (x % W) = nI (W - 1) := fun q => k ((nI_eq (by omega) (by omega)).mp q)
      have sx : x + 1 = W * (x / W) + (x % W + 1) := by omega
      refine ⟨1, u2 h0 119 d (nI (x % W) + 1), ?_, fun q hq => u2_p _ _ hq, fun t ht => u2_k _ _ (by omega), Or.inl ⟨?_, rfl, fun t ht => ?_⟩⟩
      · rw [if_neg k2, if_pos c0, gd_s _ gd3, gd_s _ gd3, hl_eq]
      · rw [sx, Nat.pow_succ, Nat.mul_comm (W ^ d) W]
        have : W * (x / W) + (x % W + 1) < W * (x / W + 1) := by rw [Nat.mul_add, Nat.mul_one]; omega
        exact Nat.lt_of_lt_of_le this (Nat.mul_le_mul_left W qd)
      · have dv : (x + 1) / W = x / W := by
          rw [sx, Nat.mul_add_div W1, Nat.div_eq_of_lt (show x % W + 1 < W by omega), Nat.add_zero]
        have md : (x + 1) % W = x % W + 1 := by
          rw [sx, Nat.mul_add_mod, Nat.mod_eq_of_lt (show x % W + 1 < W by omega)]
        rw [dgr]
        by_cases k3 : t = d
        · subst k3
          rw [if_pos rfl, u2_s, md, nI_1]
        · rw [if_neg k3, u2_k _ _ k3, dv]
          exact pre t (by omega)
end
