/-! judge -/
section
variable {h : Hp}
def jg (h : Hp) (s : Nat) : Nat → Nat → Option Nat
  | 0, _ => none
  | d + 1, k => if h (109 + s) k = of_ h (36 + 2 * k) then jg h s d (k + 1) else some k
theorem at_c {s k : Nat} (hs : s < 4) (hk : k < 40) : f_3_at (nI s) (nI k) h = some (h (109 + s) k) := by
  unfold f_3_at
  rw [gd_s _ (inb_nI hs (by decide)), gd_s _ (inb_nI hk (by decide)), ci_nI (by omega), ci_nI (by omega)]
theorem judge_c (x : INV h) {s N : Nat} (hs : s < 4) (N40 : N ≤ 40) (b : Nat) (hb : b ≤ N) (hb2 : b ≤ ci (h 1 11)) : ∀ (d k m : Nat) (h0 : Hp), b = k + d → d < m → PF h h0 → ∃ h1, PF h h1 ∧ f_8_judge_56 (nI s) (nI N) (nI b) m (nI k) h0 = some (match jg h s d k with
    | some t => nI t
    | none => if nI N = h 1 11 then -1 else nI b, h1)
  | 0, k, m, h0, e1, e2, f => by
    obtain ⟨m, rfl⟩ : ∃ z, m = z + 1 := ⟨m - 1, by omega⟩
    refine ⟨h0, f, ?_⟩
    rw [f_8_judge_56, if_pos (nI_le (by omega) (by omega)), f.M]
    show _ = some (if nI N = h 1 11 then -1 else nI b, h0)
    by_cases z : nI N = h 1 11
    · rw [if_pos z, if_pos z]
    · rw [if_neg z, if_neg z]
  | d + 1, k, m, h0, e1, e2, f => by
    obtain ⟨m, rfl⟩ : ∃ z, m = z + 1 := ⟨m - 1, by omega⟩
    have l6 := x.L.2
    obtain ⟨h1, a1, a2⟩ := off_c (f.inv x) (l := k) (by rw [f.L]; omega)
    rw [of_cong x f.rd (by omega)] at a1
    have p1 := f.tr (pf8 a2)
    rw [f_8_judge_56, if_neg (nI_ge (by omega) (by omega)), at_c hs (by omega), bnd_s, gd_s _ (inb_nI (show k < 6 by omega) (by decide)), ci_nI (by omega), a1, bnd2_s, f.1 (109 + s) (by unfold scr; omega), nI_1]
    unfold jg
    by_cases z : h (109 + s) k = of_ h (36 + 2 * k)
    · obtain ⟨h2, b1, b2⟩ := judge_c x hs N40 b hb hb2 d (k + 1) m h1 (by omega) (by omega) p1
      refine ⟨h2, b1, ?_⟩
      rw [if_pos z, if_pos z, b2]
    · exact ⟨h1, p1, by rw [if_neg z, if_neg z]⟩
theorem judge_m (x : INV h) {s N : Nat} (hs : s < 4) (N40 : N ≤ 40) (h3 : h 123 s = nI N) (h4 : ∀ k, k < 40 → h 124 (40 * s + k) = h (109 + s) k) (b : Nat) (hb : b = min N (ci (h 1 11))) : ∀ (d k m : Nat) (h0 : Hp), b = k + d → d < m → PF h h0 → ∃ h1, PF h h1 ∧ f_9_judge_30 (nI s) m (nI k) h0 = some (match jg h s d k with
    | some t => nI t
    | none => if nI N = h 1 11 then -1 else nI b, h1)
  | 0, k, m, h0, e1, e2, f => by
    obtain ⟨m, rfl⟩ : ∃ z, m = z + 1 := ⟨m - 1, by omega⟩
    obtain ⟨L1, L2⟩ := x.L
    have gs : inb (nI s) 4 = true := inb_nI hs (by decide)
    have e3 : h0 123 s = nI N := by rw [f.1 123 (by unfold scr; decide), h3]
    have e4 : h0 115 1 = h 1 11 := by rw [f.D]; exact x.1.1.2.1.2
    refine ⟨h0, f, ?_⟩
    rw [f_9_judge_30, gd_s _ gs, gd_s _ gs, ci_nI (by omega), e3, e4]
    show _ = some (if nI N = h 1 11 then -1 else nI b, h0)
    by_cases c : N ≤ k
    · have kb : k = N := by omega
      subst kb
      have bk : b = k := by omega
      subst bk
      rw [if_pos (nI_le c (by omega)), if_pos rfl]
      by_cases z : nI b = h 1 11
      · rw [if_pos z, if_pos z]
      · rw [if_neg z, if_neg z]
    · have kb : k = ci (h 1 11) := by omega
      have nz : ¬ nI N = h 1 11 := fun z => by
        rw [L1] at z
        have := (nI_eq (by omega) (by omega)).mp z
        omega
      have nz2 : ¬ nI k = nI N := fun z => by
        have := (nI_eq (by omega) (by omega)).mp z
        omega
      have le : h 1 11 ≤ nI k := by rw [L1]; exact nI_le (by omega) (by omega)
      rw [if_neg (nI_ge (by omega) (by omega)), if_pos le, if_neg nz2, if_neg nz, show b = k by omega]
  | d + 1, k, m, h0, e1, e2, f => by
    obtain ⟨m, rfl⟩ : ∃ z, m = z + 1 := ⟨m - 1, by omega⟩
    obtain ⟨L1, L2⟩ := x.L
    have gs : inb (nI s) 4 = true := inb_nI hs (by decide)
    have e3 : ∀ h0, PF h h0 → h0 123 s = nI N := fun h0 f => by rw [f.1 123 (by unfold scr; decide), h3]
    have e4 : h0 115 1 = h 1 11 := by rw [f.D]; exact x.1.1.2.1.2
    obtain ⟨h1, a1, a2⟩ := offOf_m (f.inv x) (l := k) (by rw [f.L]; omega)
    rw [of_cong x f.rd (by omega)] at a1
    have p1 := f.tr a2
    have nle : ¬ h 1 11 ≤ nI k := by rw [L1]; exact nI_ge (by omega) (by omega)
    have nz2 : ¬ nI k = nI N := fun z => by
      have := (nI_eq (by omega) (by omega)).mp z
      omega
    have ek : 40 * nI s + nI k = nI (40 * s + k) := by rw [lit_nI 40, pk_mul, nI_add]
    rw [f_9_judge_30, gd_s _ gs, gd_s _ gs, ci_nI (by omega), e3 h0 f, e4, if_neg (nI_ge (by omega) (by omega)), if_neg nle, ek, gd_s _ (inb_nI (show 40 * s + k < 160 by omega) (by decide)), ci_nI (by omega), a1, bnd2_s, f.1 124 (by unfold scr; decide), h4 k (by omega), nI_1]
    unfold jg
    by_cases z : h (109 + s) k = of_ h (36 + 2 * k)
    · obtain ⟨h2, b1, b2⟩ := judge_m x hs N40 h3 h4 b hb d (k + 1) m h1 (by omega) (by omega) p1
      refine ⟨h2, b1, ?_⟩
      rw [if_pos z, if_pos z, b2]
    · exact ⟨h1, p1, by rw [if_neg z, if_neg z, gd_s _ gs, e3 h1 p1, if_neg nz2]⟩
theorem jg_cong (x : INV h) {h1 : Hp} (f : PF h h1) {s : Nat} (hs : s < 4) : ∀ (d k : Nat), k + d ≤ ci (h 1 11) → jg h1 s d k = jg h s d k
  | 0, _, _ => rfl
  | d + 1, k, e => by
    unfold jg
    rw [of_cong x f.rd (by omega), f.1 (109 + s) (by unfold scr; omega), jg_cong x f hs d (k + 1) (by omega)]
theorem al_judge (X : AI h) (a : Int32) : Al (f_8_judge a) (f_9_judge a) h := by
  have x := X.1
  have e9 := in_w a (A := 0) (B := 3) 0 3 (by decide) (by decide)
  rcases wiC a (A := 0) (B := 3) 0 3 (by decide) (by decide) (by decide) with ⟨w, _⟩ | ⟨w, s, _, s3, rfl⟩
  · refine Al.er X (k := 1) (by decide) (by decide) ?_ (fun h1 f => ?_)
    · unfold f_8_judge f_8_isSheet
      rw [w, if_pos rfl, b2_id]; rfl
    · unfold f_9_judge f_9_isSheet
      rw [e9, w, if_pos rfl, b2_id]; rfl
  have hs : s < 4 := by omega
  have gs : inb (nI s) 4 = true := inb_nI hs (by decide)
  obtain ⟨t1, t2, t3, t4, t5⟩ := x.2.2.2.2 s hs
  by_cases c : h 106 s = 0
  · refine Al.er X (k := 2) (by decide) (by decide) ?_ (fun h1 f => ?_)
    · unfold f_8_judge f_8_isSheet
      rw [w, if_neg (by decide), gd_s _ gs, ci_nI (by omega), if_pos c, b2_id]; rfl
    · unfold f_9_judge f_9_isSheet
      rw [e9, w, if_neg (by decide), gd_s _ gs, ci_nI (by omega), f 122 (by decide), t2, if_pos c, b2_id]; rfl
  obtain ⟨N1, N2⟩ := sm_ci t3 (by decide)
  obtain ⟨L1, L2⟩ := x.L
  generalize ci (h 107 s) = N at N1 N2
  have im : imin (nI N) (h 1 11) = nI (min N (ci (h 1 11))) := by
    unfold imin
    by_cases q : h 1 11 < nI N
    · rw [if_pos q]
      rw [L1] at q
      have := (nI_ltI (by omega) (by omega)).mp q
      rw [Nat.min_eq_right (by omega)]
      exact L1
    · rw [if_neg q]
      rw [L1] at q
      have : ¬ ci (h 1 11) < N := fun z => q ((nI_ltI (by omega) (by omega)).mpr z)
      rw [Nat.min_eq_left (by omega)]
  obtain ⟨h1, a1, a2⟩ := judge_c x hs N2 (min N (ci (h 1 11))) (by omega) (by omega) (min N (ci (h 1 11))) 0 FU h (by omega) (by show _ < 4096; omega) (PF.rf h)
  have y1 := a1.inv x
  obtain ⟨h2, b1, b2⟩ := judge_m y1 hs N2 (by rw [a1.1 123 (by unfold scr; decide), t4, N1]) (fun k hk => by rw [a1.1 124 (by unfold scr; decide), a1.1 (109 + s) (by unfold scr; omega)]; exact t5 k hk) (min N (ci (h 1 11))) (by rw [a1.L]) (min N (ci (h 1 11))) 0 FU h1 (by omega) (by show _ < 4096; omega) (PF.rf h1)
  rw [jg_cong x a1 hs _ 0 (by omega), a1.M] at b2
  refine ⟨match jg h s (min N (ci (h 1 11))) 0 with
    | some t => nI t
    | none => if nI N = h 1 11 then -1 else nI (min N (ci (h 1 11))), h1, h2, ?_, ?_, b1.ai (a1.ai X)⟩
  · unfold f_8_judge f_8_isSheet
    rw [w, if_neg (by decide), gd_s _ gs, ci_nI (by omega), if_neg c, gd_s _ gs, N1, im]
    exact a2
  · unfold f_9_judge f_9_isSheet
    rw [e9, w, if_neg (by decide), gd_s _ gs, ci_nI (by omega), a1.1 122 (by unfold scr; decide), t2, if_neg c]
    exact b2
end
