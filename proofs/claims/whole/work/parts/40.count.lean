/-! count -/
section
variable {h h1 : Hp}
/-- a sum over the lines -/
def sl (g : Nat → Int32) : Nat → Nat → Int32 → Int32
  | 0, _, acc => acc
  | d + 1, k, acc => sl g d (k + 1) (acc + g k)
theorem sl_cong {g g1 : Nat → Int32} : ∀ (d k : Nat) (acc : Int32), (∀ t, t < k + d → g1 t = g t) → sl g1 d k acc = sl g d k acc
  | 0, _, _, _ => rfl
  | d + 1, k, acc, e => by
    show sl g1 d (k + 1) (acc + g1 k) = sl g d (k + 1) (acc + g k)
    rw [e k (by omega), sl_cong d (k + 1) _ (fun t ht => e t (by omega))]
theorem offAll_c (x : INV h) : ∀ (d k n : Nat) (acc : Int32) (h0 : Hp), ci (h 1 11) = k + d → d < n → PF h h0 → ∃ h1, PF h h1 ∧ f_7_offOfAll_4 n acc (nI k) h0 = some (sl (fun l => of_ h (36 + 2 * l)) d k acc, h1)
  | 0, k, n, acc, h0, e1, e2, f => by
    obtain ⟨n, rfl⟩ : ∃ z, n = z + 1 := ⟨n - 1, by omega⟩
    have l6 := x.L.2
    refine ⟨h0, f, ?_⟩
    rw [f_7_offOfAll_4, f.M, x.L.1, if_pos (nI_le (by omega) (by omega))]
    rfl
  | d + 1, k, n, acc, h0, e1, e2, f => by
    obtain ⟨n, rfl⟩ : ∃ z, n = z + 1 := ⟨n - 1, by omega⟩
    have l6 := x.L.2
    obtain ⟨h2, a1, a2⟩ := off_c (f.inv x) (l := k) (by rw [f.L]; omega)
    rw [of_cong x f.rd (by omega)] at a1
    obtain ⟨h3, b1, b2⟩ := offAll_c x d (k + 1) n (acc + of_ h (36 + 2 * k)) h2 (by omega) (by omega) (f.tr (pf8 a2))
    refine ⟨h3, b1, ?_⟩
    rw [f_7_offOfAll_4, f.M, x.L.1, if_neg (nI_ge (by omega) (by omega)), gd_s _ (inb_nI (show k < 6 by omega) (by decide)), ci_nI (by omega), a1, bnd2_s, nI_1, b2]
    rfl
theorem lossAll_c (x : INV h) : ∀ (d k n : Nat) (acc : Int32), ci (h 1 11) = k + d → d < n → f_7_lossOfAll_4 h n acc (nI k) = some (sl (fun l => los h (36 + 2 * l)) d k acc)
  | 0, k, n, acc, e1, e2 => by
    obtain ⟨n, rfl⟩ : ∃ z, n = z + 1 := ⟨n - 1, by omega⟩
    have l6 := x.L.2
    rw [f_7_lossOfAll_4, x.L.1, if_pos (nI_le (by omega) (by omega))]
    rfl
  | d + 1, k, n, acc, e1, e2 => by
    obtain ⟨n, rfl⟩ : ∃ z, n = z + 1 := ⟨n - 1, by omega⟩
    have l6 := x.L.2
    rw [f_7_lossOfAll_4, x.L.1, if_neg (nI_ge (by omega) (by omega)), gd_s _ (inb_nI (show k < 6 by omega) (by decide)), ci_nI (by omega), loss_c x (by omega), bnd_s, nI_1, lossAll_c x d (k + 1) n _ (by omega) (by omega)]
    rfl
def b01 (v : Int32) : Int32 := if v = 0 then 0 else 1
theorem notAll_c (x : INV h) : ∀ (d k n : Nat) (acc : Int32) (h0 : Hp), ci (h 1 11) = k + d → d < n → PF h h0 → ∃ h1, PF h h1 ∧ f_7_noticedOfAll_4 n acc (nI k) h0 = some (sl (fun l => b01 (ntc h (36 + 2 * l) (h 1 14))) d k acc, h1)
  | 0, k, n, acc, h0, e1, e2, f => by
    obtain ⟨n, rfl⟩ : ∃ z, n = z + 1 := ⟨n - 1, by omega⟩
    have l6 := x.L.2
    refine ⟨h0, f, ?_⟩
    rw [f_7_noticedOfAll_4, f.M, x.L.1, if_pos (nI_le (by omega) (by omega))]
    rfl
  | d + 1, k, n, acc, h0, e1, e2, f => by
    obtain ⟨n, rfl⟩ : ∃ z, n = z + 1 := ⟨n - 1, by omega⟩
    have l6 := x.L.2
    obtain ⟨h5, h2, a1, a3, a4, a5, a2⟩ := noticed_c (f.inv x) (l := k) (by rw [f.L]; omega)
    rw [ntc_cong x f.rd (by omega), f.M] at a5
    obtain ⟨h3, b1, b2⟩ := notAll_c x d (k + 1) n (acc + b01 (ntc h (36 + 2 * k) (h 1 14))) h2 (by omega) (by omega) (f.tr a2)
    refine ⟨h3, b1, ?_⟩
    rw [f_7_noticedOfAll_4, f.M, x.L.1, if_neg (nI_ge (by omega) (by omega)), gd_s _ (inb_nI (show k < 6 by omega) (by decide)), ci_nI (by omega), a1, bnd2_s, gd_s _ (inb_nI (show k < 6 by omega) (by decide)), a3, bnd_s, a4, f.M, a5, bnd2_s, nI_1]
    show _ = some (sl (fun l => b01 (ntc h (36 + 2 * l) (h 1 14))) d (k + 1) (acc + b01 (ntc h (36 + 2 * k) (h 1 14))), h3)
    unfold b01 at b2 ⊢
    by_cases z : ntc h (36 + 2 * k) (h 1 14) = 0
    · simp only [if_pos z] at b2 ⊢
      rw [b2]
    · simp only [if_neg z] at b2 ⊢
      rw [b2]
/-- which sum -/
def sg (h : Hp) (w : Nat) (l : Nat) : Int32 := if w = 4 then of_ h (36 + 2 * l) else if w = 5 then los h (36 + 2 * l) else b01 (ntc h (36 + 2 * l) (h 1 14))
theorem sumOf_m (x : INV h) {w : Nat} (hw : w = 4 ∨ w = 5 ∨ w = 6) : ∀ (d k n : Nat) (acc : Int32) (h0 : Hp), ci (h 1 11) = k + d → d < n → PF h h0 → ∃ h1, PF h h1 ∧ f_9_sumOf_4 (nI w) n acc (nI k) h0 = some (sl (sg h w) d k acc, h1)
  | 0, k, n, acc, h0, e1, e2, f => by
    obtain ⟨n, rfl⟩ : ∃ z, n = z + 1 := ⟨n - 1, by omega⟩
    have l6 := x.L.2
    refine ⟨h0, f, ?_⟩
    rw [f_9_sumOf_4, f.D, show h 115 1 = h 1 11 from x.1.1.2.1.2, x.L.1, if_pos (nI_le (by omega) (by omega))]
    rfl
  | d + 1, k, n, acc, h0, e1, e2, f => by
    obtain ⟨n, rfl⟩ : ∃ z, n = z + 1 := ⟨n - 1, by omega⟩
    have l6 := x.L.2
    have hk : k < ci (h0 1 11) := by rw [f.L]; omega
    have st : ∀ (h2 : Hp), PF h h2 → ∃ h1, PF h h1 ∧ f_9_sumOf_4 (nI w) n (acc + sg h w k) (nI k + 1) h2 = some (sl (sg h w) (d + 1) k acc, h1) := fun h2 f2 => by
      obtain ⟨h3, b1, b2⟩ := sumOf_m x hw d (k + 1) n (acc + sg h w k) h2 (by omega) (by omega) f2
      exact ⟨h3, b1, by rw [nI_1, b2]; rfl⟩
    rw [f_9_sumOf_4, f.D, show h 115 1 = h 1 11 from x.1.1.2.1.2, x.L.1, if_neg (nI_ge (by omega) (by omega))]
    rcases hw with rfl | rfl | rfl
    · obtain ⟨h2, a1, a2⟩ := offOf_m (f.inv x) hk
      rw [of_cong x f.rd (by omega)] at a1
      rw [if_pos (show nI 4 = 4 from rfl), a1, bnd2_s]
      exact st h2 (f.tr a2)
    · obtain ⟨h2, a1, a2⟩ := lossOf_m (f.inv x) hk
      rw [los_cong x f.rd (by omega)] at a1
      rw [if_neg (show ¬ nI 5 = 4 by decide), if_pos (show nI 5 = 5 from rfl), a1, bnd2_s]
      exact st h2 (f.tr a2)
    · obtain ⟨h2, a1, a2⟩ := noticed_m (f.inv x) hk (h 1 14)
      rw [ntc_cong x f.rd (by omega)] at a1
      rw [if_neg (show ¬ nI 6 = 4 by decide), if_neg (show ¬ nI 6 = 5 by decide), show h 115 2 = h 1 14 from x.1.1.2.2.1.2, a1, bnd2_s]
      have q := st h2 (f.tr a2)
      have e : sg h 6 k = b01 (ntc h (36 + 2 * k) (h 1 14)) := rfl
      rw [e] at q
      unfold b01 at q
      by_cases z : ntc h (36 + 2 * k) (h 1 14) = 0
      · simp only [if_pos z] at q ⊢
        rw [if_pos True.intro]
        exact q
      · simp only [if_neg z] at q ⊢
        rw [if_neg (by decide)]
        exact q
theorem sg_cong (x : INV h) (f : PF h h1) (w : Nat) : ∀ t, t < ci (h 1 11) → sg h1 w t = sg h w t := fun t ht => by
  unfold sg
  rw [of_cong x f.rd ht, los_cong x f.rd ht, f.M, ntc_cong x f.rd ht]
theorem al_count (X : AI h) (a : Int32) : Al (f_8_count a) (f_9_count a) h := by
  have x := X.1
  obtain ⟨y1, y2, y3, y4, y5, y6, y7⟩ := x.1.1
  have sum : ∀ w : Nat, (w = 4 ∨ w = 5 ∨ w = 6) → (∃ h1, f_8_count (nI w) h = some (sl (sg h w) (ci (h 1 11)) 0 0, h1) ∧ PF h h1) → (∀ h1, f_9_count (nI w) h1 = f_9_sumOf (nI w) h1) → Al (f_8_count (nI w)) (f_9_count (nI w)) h := fun w hw C M => by
    refine Al.q (v := fun h => sl (sg h w) (ci (h 1 11)) 0 0) X C (fun h1 x1 f => ?_) (fun h1 f => ?_)
    · obtain ⟨h2, a1, a2⟩ := sumOf_m x1 hw (ci (h1 1 11)) 0 FU 0 h1 (by omega) (by have := x1.L.2; show _ < 4096; omega) (PF.rf h1)
      exact ⟨h2, (M h1).trans a2, a1⟩
    · show sl (sg h1 w) (ci (h1 1 11)) 0 0 = sl (sg h w) (ci (h 1 11)) 0 0
      rw [f.L]
      exact sl_cong _ 0 0 (fun t ht => sg_cong x f w t (by omega))
  by_cases c0 : a = 0
  · subst c0
    exact ⟨h 1 10, h, h, rfl, by unfold f_9_count; rw [if_pos rfl, y1.2], X⟩
  by_cases c1 : a = 1
  · subst c1
    exact ⟨h 1 11, h, h, rfl, by unfold f_9_count; rw [if_neg (by decide), if_pos rfl, y2.2], X⟩
  by_cases c2 : a = 2
  · subst c2
    exact ⟨h 1 14, h, h, rfl, by unfold f_9_count; rw [if_neg (by decide), if_neg (by decide), if_pos rfl, y3.2], X⟩
  by_cases c3 : a = 3
  · subst c3
    exact ⟨h 1 15, h, h, rfl, by unfold f_9_count; rw [if_neg (by decide), if_neg (by decide), if_neg (by decide), if_pos rfl, y4], X⟩
  by_cases c4 : a = 4
  · subst c4
    refine sum 4 (by decide) ?_ (fun h1 => ?_)
    · obtain ⟨h1, a1, a2⟩ := offAll_c x (ci (h 1 11)) 0 FU 0 h (by omega) (by have := x.L.2; show _ < 4096; omega) (PF.rf h)
      refine ⟨h1, ?_, a1⟩
      unfold f_8_count
      rw [if_neg (by decide), if_neg (by decide), if_neg (by decide), if_neg (by decide), if_pos (show nI 4 = 4 from rfl), b2_id]
      exact a2
    · unfold f_9_count
      rw [if_neg (by decide), if_neg (by decide), if_neg (by decide), if_neg (by decide), if_pos (show nI 4 = 4 from rfl), b2_id]
  by_cases c5 : a = 5
  · subst c5
    refine sum 5 (by decide) ?_ (fun h1 => ?_)
    · have a2 := lossAll_c x (ci (h 1 11)) 0 FU 0 (by omega) (by have := x.L.2; show _ < 4096; omega)
      refine ⟨h, ?_, PF.rf h⟩
      have a2 : f_7_lossOfAll h = some _ := a2
      unfold f_8_count
      rw [if_neg (by decide), if_neg (by decide), if_neg (by decide), if_neg (by decide), if_neg (by decide), if_pos (show nI 5 = 5 from rfl), a2, bnd_s]
      rfl
    · unfold f_9_count
      rw [if_neg (by decide), if_neg (by decide), if_neg (by decide), if_neg (by decide), if_neg (by decide), if_pos (show nI 5 = 5 from rfl), b2_id]
  by_cases c6 : a = 6
  · subst c6
    refine sum 6 (by decide) ?_ (fun h1 => ?_)
    · obtain ⟨h1, a1, a2⟩ := notAll_c x (ci (h 1 11)) 0 FU 0 h (by omega) (by have := x.L.2; show _ < 4096; omega) (PF.rf h)
      refine ⟨h1, ?_, a1⟩
      unfold f_8_count
      rw [if_neg (by decide), if_neg (by decide), if_neg (by decide), if_neg (by decide), if_neg (by decide), if_neg (by decide), if_pos (show nI 6 = 6 from rfl), b2_id]
      exact a2
    · unfold f_9_count
      rw [if_neg (by decide), if_neg (by decide), if_neg (by decide), if_neg (by decide), if_neg (by decide), if_neg (by decide), if_pos (show nI 6 = 6 from rfl), b2_id]
  by_cases c7 : a = 7
  · subst c7
    exact ⟨h 1 12, h, h, rfl, by unfold f_9_count; rw [if_neg (by decide), if_neg (by decide), if_neg (by decide), if_neg (by decide), if_neg (by decide), if_neg (by decide), if_neg (by decide), if_pos rfl, y6.2], X⟩
  by_cases c8 : a = 8
  · subst c8
    exact ⟨h 1 13, h, h, rfl, by unfold f_9_count; rw [if_neg (by decide), if_neg (by decide), if_neg (by decide), if_neg (by decide), if_neg (by decide), if_neg (by decide), if_neg (by decide), if_neg (by decide), if_pos rfl, y7.2], X⟩
  by_cases c9 : a = 9
  · subst c9
    exact ⟨h 103 1, h, h, rfl, by unfold f_9_count; rw [if_neg (by decide), if_neg (by decide), if_neg (by decide), if_neg (by decide), if_neg (by decide), if_neg (by decide), if_neg (by decide), if_neg (by decide), if_neg (by decide), if_pos rfl, x.2.2.2.1.2.1], X⟩
  by_cases c10 : a = 10
  · subst c10
    exact ⟨h 1 16, h, h, rfl, by unfold f_9_count; rw [if_neg (by decide), if_neg (by decide), if_neg (by decide), if_neg (by decide), if_neg (by decide), if_neg (by decide), if_neg (by decide), if_neg (by decide), if_neg (by decide), if_neg (by decide), if_pos rfl, y5], X⟩
  refine Al.er X (k := 1) (by decide) (by decide) ?_ (fun h1 f => ?_)
  · unfold f_8_count
    rw [if_neg c0, if_neg c1, if_neg c2, if_neg c3, if_neg c4, if_neg c5, if_neg c6, if_neg c7, if_neg c8, if_neg c9, if_neg c10, b2_id]; rfl
  · unfold f_9_count
    rw [if_neg c0, if_neg c1, if_neg c2, if_neg c3, if_neg c4, if_neg c5, if_neg c6, if_neg c7, if_neg c8, if_neg c9, if_neg c10, b2_id]; rfl
end
