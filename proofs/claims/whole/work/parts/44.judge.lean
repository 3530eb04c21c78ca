/-! judge -/
section
variable {h : Hp}
def jg (h : Hp) (s : Nat) : Nat → Nat → Option Nat
  | 0, _ => none
  | d + 1, k => if h (109 + s) k = of_ h (36 + 2 * k) then jg h s d (k + 1) else some k
theorem at_c {s k : Nat} (hs : s < 4) (hk : k < 40) : f_3_at (nI s) (nI k) h = some (h (109 + s) k) := by
  unfold f_3_at
  rw [gd_s _ (inb_nI hs (by decide)), gd_s _ (inb_nI hk (by decide)), ci_nI (by omega), ci_nI (by omega)]
theorem judge_c (x : INV h) {s N : Nat} (hs : s < 4) (N40 : N ≤ 40) (b : Nat) (hb : b ≤ N) (hb2 : b ≤ ci (h 1 11)) : ∀ (d k m : Nat) (h0 : Hp), b = k + d → d < m → PF h h0 → ∃ h1, PF h h1 ∧ f_8_judge_56 (nI s) (nI N) (nI b) m (nI k) h0 = some (match jg h s d k with
    | some t => nI t
    | none => if nI N = h 1 11 then -1 else nI b, h1)
  | 0, k, m, h0, e1, e2, f => by
    obtain ⟨m, rfl⟩ : ∃ z, m = z + 1 := ⟨m - 1, by omega⟩
    refine ⟨h0, f, ?_⟩
    rw [f_8_judge_56, if_pos (nI_le (by omega) (by omega)), f.M]
    show _ = some (if nI N = h 1 11 then -1 else nI b, h0)
    by_cases z : nI N = h 1 11
    · rw [if_pos z, if_pos z]
    · rw [if_neg z, if_neg z]
  | d + 1, k, m, h0, e1, e2, f => by
    obtain ⟨m, rfl⟩ : ∃ z, m = z + 1 := ⟨m - 1, by omega⟩
    have l6 := x.L.2
    obtain ⟨h1, a1, a2⟩ := off_c (f.inv x) (l := k) (by rw [f.L]; omega)
    rw [of_cong x f.rd (by omega)] at a1
    have p1 := f.tr (pf8 a2)
    rw [f_8_judge_56, if_neg (nI_ge (by omega) (by omega)), at_c hs (by omega), bnd_s, gd_s _ (inb_nI (show k < 6 by omega) (by decide)), ci_nI (by omega), a1, bnd2_s, f.1 (109 + s) (by unfold scr; omega), nI_1]
    unfold jg
    by_cases z : h (109 + s) k = of_ h (36 + 2 * k)
    · obtain ⟨h2, b1, b2⟩ := judge_c x hs N40 b hb hb2 d (k + 1) m h1 (by omega) (by omega) p1
      refine ⟨h2, b1, ?_⟩
      rw [if_pos z, if_pos z, b2]
    · exact ⟨h1, p1, by rw [if_neg z, if_neg z]⟩
theorem judge_m (x : INV h) {s N : Nat} (hs : s < 4) (N40 : N ≤ 40) (h3 : h 123 s = nI N) (h4 : ∀ k, k < 40 → h 124 (40 * s + k) = h (109 + s) k) (b : Nat) (hb : b = min N (ci (h 1 11))) : ∀ (d k m : Nat) (h0 : Hp), b = k + d → d < m → PF h h0 → ∃ h1, PF h h1 ∧ f_9_judge_30 (nI s) m (nI k) h0 = some (match jg h s d k with
    | some t => nI t
    | none => if nI N = h 1 11 then -1 else nI b, h1)
  | 0, k, m, h0, e1, e2, f => by
    obtain ⟨m, rfl⟩ : ∃ z, m = z + 1 := ⟨m - 1, by omega⟩
    obtain ⟨L1, L2⟩ := x.L
    have gs : inb (nI s) 4 = true := inb_nI hs (by decide)
    have e3 : h0 123 s = nI N := by rw [f.1 123 (by unfold scr; decide), h3]
    have e4 : h0 115 1 = h 1 11 := by rw [f.D]; exact x.1.1.2.1.2
    refine ⟨h0, f, ?_⟩
    rw [f_9_judge_30, gd_s _ gs, gd_s _ gs, ci_nI (by omega), e3, e4]
    show _ = some (if nI N = h 1 11 then -1 else nI b, h0)
    by_cases c : N ≤ k
    · have kb : k = N := by omega
      subst kb
      have bk : b = k := by omega
      subst bk
      rw [if_pos (nI_le c (by omega)), if_pos rfl]
      by_cases z : nI b = h 1 11
      · rw [if_pos z, if_pos z]
      · rw [if_neg z, if_neg z]
    · have kb : k = ci (h 1 11) := by omega
      have nz : ¬ nI N = h 1 11 := fun z => by
        rw [L1] at z
        have := (nI_eq (by omega) (by omega)).mp z
        omega
      have nz2 : ¬ nI k = nI N := fun z => by
        have := (nI_eq (by omega) (by omega)).mp z
        omega
      have le : h 1 11 ≤ nI k := by rw [L1]; exact nI_le (by omega) (by omega)
      rw [if_neg (nI_ge (by omega) (by omega)), if_pos le, if_neg nz2, if_neg nz, show b = k by omega]
  | d + 1, k, m, h0, e1, e2, f => by
    obtain ⟨m, rfl⟩ : ∃ z, m = z + 1 := ⟨m - 1, by omega⟩
    obtain ⟨L1, L2⟩ := x.L
    have gs : inb (nI s) 4 = true := inb_nI hs (by decide)
    have e3 : ∀ h0, PF h h0 → h0 123 s = nI N := fun h0 f => by rw [f.1 123 (by unfold scr; decide), h3]
    have e4 : h0 115 1 = h 1 11 := by rw [f.D]; exact x.1.1.2.1.2
    obtain ⟨h1, a1, a2⟩ := offOf_m (f.inv x) (l := k) (by rw [f.L]; omega)
    rw [of_cong x f.rd (by omega)] at a1
    have p1 := f.tr a2
    have nle : ¬ h 1 11 ≤ nI k := by rw [L1]; exact nI_ge (by omega) (by omega)
    have nz2 : ¬ nI k = nI N := fun z => by
      have := (nI_eq (by omega) (by omega)).mp z
      omega
    have ek : 40 * nI s + nI k = nI (40 * s + k) := by rw [lit_nI 40, pk_mul, nI_add]
    rw [f_9_judge_30, gd_s _ gs, gd_s _ gs, ci_nI (by omega), e3 h0 f, e4, if_neg (nI_ge (by omega) (by omega)), if_neg nle, ek, gd_s _ (inb_nI (show 40 * s + k < 160 by omega) (by decide)), ci_nI (by omega), a1, bnd2_s, f.1 124 (by unfold scr; decide), h4 k (by omega), nI_1]
    unfold jg
    by_cases z : h (109 + s) k = of_ h (36 + 2 * k)
    · obtain ⟨h2, b1, b2⟩ := judge_m x hs N40 h3 h4 b hb d (k + 1) m h1 (by omega) (by omega) p1
      refine ⟨h2, b1, ?_⟩
      rw [if_pos z, if_pos z, b2]
    · exact ⟨h1, p1, by rw [if_neg z, if_neg z, gd_s _ gs, e3 h1 p1, if_neg nz2]⟩
end
