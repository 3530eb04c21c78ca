/-! judge -/
section
variable {h : Hp}
def jg (h : Hp) (s : Nat) : Nat → Nat → Option Nat
  | 0, _ => none
  | d + 1, k => if h (109 + s) k = of_ h (36 + 2 * k) then jg h s d (k + 1) else some k
theorem at_c {s k : Nat} (hs : s < 4) (hk : k < 40) : f_3_at (nI s) (nI k) h = some (h (109 + s) k) := by
  unfold f_3_at
  rw [gd_s _ (inb_nI hs (by decide)), gd_s _ (inb_nI hk (by decide)), ci_nI (by omega), ci_nI (by omega)]
theorem judge_c (x : INV h) {s N : Nat} (hs : s < 4) (N40 : N ≤ 40) (b : Nat) (hb : b ≤ N) (hb2 : b ≤ ci (h 1 11)) : ∀ (d k m : Nat) (h0 : Hp), b = k + d → d < m → PF h h0 → ∃ h1, PF h h1 ∧ f_8_judge_56 (nI s) (nI N) (nI b) m (nI k) h0 = some (match jg h s d k with
    | some t => nI t
    | none => if nI N = h 1 11 then -1 else nI b, h1)
  | 0, k, m, h0, e1, e2, f => by
    obtain ⟨m, rfl⟩ : ∃ z, m = z + 1 := ⟨m - 1, by omega⟩
    refine ⟨h0, f, ?_⟩
    rw [f_8_judge_56, if_pos (nI_le (by omega) (by omega)), f.M]
    show _ = some (if nI N = h 1 11 then -1 else nI b, h0)
    by_cases z : nI N = h 1 11
    · rw [if_pos z, if_pos z]
    · rw [if_neg z, if_neg z]
  | d + 1, k, m, h0, e1, e2, f => by
    obtain ⟨m, rfl⟩ : ∃ z, m = z + 1 := ⟨m - 1, by omega⟩
    have l6 := x.L.2
    obtain ⟨h1, a1, a2⟩ := off_c (f.inv x) (l := k) (by rw [f.L]; omega)
    rw [of_cong x f.rd (by omega)] at a1
    have p1 := f.tr (pf8 a2)
    rw [f_8_judge_56, if_neg (nI_ge (by omega) (by omega)), at_c hs (by omega), bnd_s, gd_s _ (inb_nI (show k < 6 by omega) (by decide)), ci_nI (by omega), a1, bnd2_s, f.1 (109 + s) (by unfold scr; omega), nI_1]
    unfold jg
    by_cases z : h (109 + s) k = of_ h (36 + 2 * k)
    · obtain ⟨h2, b1, b2⟩ := judge_c x hs N40 b hb hb2 d (k + 1) m h1 (by omega) (by omega) p1
      refine ⟨h2, b1, ?_⟩
      rw [if_pos z, if_pos z, b2]
    · exact ⟨h1, p1, by rw [if_neg z, if_neg z]⟩
end
