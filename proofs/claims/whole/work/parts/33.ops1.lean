/-! the methods, side by side: lines -/
section
variable {h : Hp}
theorem b2_id {α : Type} (x : Option (α × Hp)) : bnd2 x (fun r g => some (r, g)) = x := by
  cases x with
  | none => rfl
  | some y => rfl
theorem INV.D5 (x : INV h) (l : Nat) (hl : l < ci (h 1 11)) : ∀ k, k < 6 → h 115 (154 + 9 * l + k) = h (36 + 2 * l) (if k = 5 then 1 else k + 2) := by
  obtain ⟨K, m, b, n, z, w, _, ⟨c1, c1'⟩, ⟨c2, c2'⟩, ⟨c3, c3'⟩, ⟨c4, c4'⟩, ⟨c5, c5'⟩, ⟨c6, c6'⟩, _⟩ := x.line hl
  intro k hk
  obtain rfl | rfl | rfl | rfl | rfl | rfl : k = 0 ∨ k = 1 ∨ k = 2 ∨ k = 3 ∨ k = 4 ∨ k = 5 := by omega
  · exact c1'.trans c1.symm
  · exact c2'.trans c2.symm
  · exact c3'.trans c3.symm
  · exact c4'.trans c4.symm
  · exact c5'.trans c5.symm
  · exact c6'.trans c6.symm
theorem al_ofLine (X : AI h) (a b : Int32) : Al (f_8_ofLine a b) (f_9_ofLine a b) h := by
  have x := X.1
  have e9 := in_w b (A := 0) (B := 9) 0 9 (by decide) (by decide)
  rcases isLine_k x a with ⟨r, q⟩ | ⟨r, q, l, hl, rfl⟩
  · refine Al.er X (k := 1) (by decide) (by decide) ?_ (fun h1 f => ?_)
    · unfold f_8_ofLine
      rw [r, if_pos rfl, b2_id]; rfl
    · unfold f_9_ofLine
      rw [q h1 (f 115 (by decide)), bnd_s, if_pos rfl, b2_id]; rfl
  rcases wiC b (A := 0) (B := 9) 0 9 (by decide) (by decide) (by decide) with ⟨w, _⟩ | ⟨w, k, _, k9, rfl⟩
  · refine Al.er X (k := 1) (by decide) (by decide) ?_ (fun h1 f => ?_)
    · unfold f_8_ofLine
      rw [r, if_neg (by decide), w, if_pos rfl, b2_id]; rfl
    · unfold f_9_ofLine
      rw [q h1 (f 115 (by decide)), bnd_s, if_neg (by decide), e9, w, if_pos rfl, b2_id]; rfl
  have l6 := x.L.2
  have gl : inb (nI l) 6 = true := inb_nI (by omega) (by decide)
  have cl' : ci (nI l) = l := ci_nI (by omega)
  have C : f_8_ofLine (nI l) (nI k) h = if nI k = 0 then (some (h (36 + 2 * l) 2, h)) else (if nI k = 1 then (some (h (36 + 2 * l) 3, h)) else (if nI k = 2 then (some (h (36 + 2 * l) 4, h)) else (if nI k = 3 then (some (h (36 + 2 * l) 5, h)) else (if nI k = 4 then (some (h (36 + 2 * l) 6, h)) else (if nI k = 5 then (some (h (36 + 2 * l) 1, h)) else (if nI k = 6 then f_7_off (36 + 2 * l) h else (if nI k = 7 then (bnd (f_7_loss (36 + 2 * l) h) (fun r22 => some (r22, h))) else (if nI k = 8 then (bnd2 (f_7_off (36 + 2 * l) h) (fun r25 h26 => bnd (f_7_loss (36 + 2 * l) h26) (fun r28 => bnd2 (f_7_noticeBy r25 r28 (h26 1 14) h26) (fun r30 h31 => if r30 = 0 then (some (0, h31)) else (some (1, h31)))))) else (some (f_8_endsOf (h (36 + 2 * l) 2) (h (36 + 2 * l) 3) 2, h)))))))))) := by
    unfold f_8_ofLine
    rw [r, if_neg (by decide), w, if_neg (by decide), gd_s _ gl, cl', b2_id]
  have M : ∀ h1 : Hp, h1 115 = h 115 → f_9_ofLine (nI l) (nI k) h1 = if nI k = 6 then f_9_offOf (nI l) h1 else (if nI k = 7 then f_9_lossOf (nI l) h1 else (if nI k = 8 then (bnd2 (f_9_isNoticed (nI l) (h1 115 2) h1) (fun r21 h22 => if r21 = 0 then (some (0, h22)) else (some (1, h22)))) else (if nI k = 9 then (bnd (f_9_endsOf (nI l) 2 h1) (fun r26 => some (r26, h1))) else (bnd (f_9_of (nI l) (nI k) h1) (fun r28 => some (r28, h1)))))) := by
    intro h1 f
    unfold f_9_ofLine
    rw [q h1 f, bnd_s, if_neg (by decide), e9, w, if_neg (by decide), b2_id, b2_id]
  have rd : ∀ j, j < 6 → f_9_of (nI l) (nI j) h = some (h (36 + 2 * l) (if j = 5 then 1 else j + 2)) := fun j hj => by
    rw [of_m (by omega) (by omega), x.D5 l hl j hj]
  have n01 : ∀ v : Int32, (if (if v = 0 then (0 : Int32) else 1) = 0 then (0 : Int32) else 1) = if v = 0 then 0 else 1 := fun v => by
    by_cases z : v = 0
    · rw [if_pos z]; rfl
    · rw [if_neg z]; rfl
  obtain rfl | rfl | rfl | rfl | rfl | rfl | rfl | rfl | rfl | rfl : k = 0 ∨ k = 1 ∨ k = 2 ∨ k = 3 ∨ k = 4 ∨ k = 5 ∨ k = 6 ∨ k = 7 ∨ k = 8 ∨ k = 9 := by omega
  · refine ⟨_, h, h, by rw [C, if_pos (show nI 0 = 0 from rfl)], ?_, X⟩
    rw [M h rfl, if_neg (show ¬ nI 0 = 6 by decide), if_neg (show ¬ nI 0 = 7 by decide), if_neg (show ¬ nI 0 = 8 by decide), if_neg (show ¬ nI 0 = 9 by decide), rd 0 (by decide), bnd_s]
    rfl
  · refine ⟨_, h, h, by rw [C, if_neg (show ¬ nI 1 = 0 by decide), if_pos (show nI 1 = 1 from rfl)], ?_, X⟩
    rw [M h rfl, if_neg (show ¬ nI 1 = 6 by decide), if_neg (show ¬ nI 1 = 7 by decide), if_neg (show ¬ nI 1 = 8 by decide), if_neg (show ¬ nI 1 = 9 by decide), rd 1 (by decide), bnd_s]
    rfl
  · refine ⟨_, h, h, by rw [C, if_neg (show ¬ nI 2 = 0 by decide), if_neg (show ¬ nI 2 = 1 by decide), if_pos (show nI 2 = 2 from rfl)], ?_, X⟩
    rw [M h rfl, if_neg (show ¬ nI 2 = 6 by decide), if_neg (show ¬ nI 2 = 7 by decide), if_neg (show ¬ nI 2 = 8 by decide), if_neg (show ¬ nI 2 = 9 by decide), rd 2 (by decide), bnd_s]
    rfl
  · refine ⟨_, h, h, by rw [C, if_neg (show ¬ nI 3 = 0 by decide), if_neg (show ¬ nI 3 = 1 by decide), if_neg (show ¬ nI 3 = 2 by decide), if_pos (show nI 3 = 3 from rfl)], ?_, X⟩
    rw [M h rfl, if_neg (show ¬ nI 3 = 6 by decide), if_neg (show ¬ nI 3 = 7 by decide), if_neg (show ¬ nI 3 = 8 by decide), if_neg (show ¬ nI 3 = 9 by decide), rd 3 (by decide), bnd_s]
    rfl
  · refine ⟨_, h, h, by rw [C, if_neg (show ¬ nI 4 = 0 by decide), if_neg (show ¬ nI 4 = 1 by decide), if_neg (show ¬ nI 4 = 2 by decide), if_neg (show ¬ nI 4 = 3 by decide), if_pos (show nI 4 = 4 from rfl)], ?_, X⟩
    rw [M h rfl, if_neg (show ¬ nI 4 = 6 by decide), if_neg (show ¬ nI 4 = 7 by decide), if_neg (show ¬ nI 4 = 8 by decide), if_neg (show ¬ nI 4 = 9 by decide), rd 4 (by decide), bnd_s]
    rfl
  · refine ⟨_, h, h, by rw [C, if_neg (show ¬ nI 5 = 0 by decide), if_neg (show ¬ nI 5 = 1 by decide), if_neg (show ¬ nI 5 = 2 by decide), if_neg (show ¬ nI 5 = 3 by decide), if_neg (show ¬ nI 5 = 4 by decide), if_pos (show nI 5 = 5 from rfl)], ?_, X⟩
    rw [M h rfl, if_neg (show ¬ nI 5 = 6 by decide), if_neg (show ¬ nI 5 = 7 by decide), if_neg (show ¬ nI 5 = 8 by decide), if_neg (show ¬ nI 5 = 9 by decide), rd 5 (by decide), bnd_s]
    rfl
  · refine Al.q (v := fun h => of_ h (36 + 2 * l)) X ?_ (fun h1 x1 f => ?_) (fun h1 f => of_cong x f.rd hl)
    · obtain ⟨h1, a1, a2⟩ := off_c x hl
      exact ⟨h1, by rw [C, if_neg (show ¬ nI 6 = 0 by decide), if_neg (show ¬ nI 6 = 1 by decide), if_neg (show ¬ nI 6 = 2 by decide), if_neg (show ¬ nI 6 = 3 by decide), if_neg (show ¬ nI 6 = 4 by decide), if_neg (show ¬ nI 6 = 5 by decide), if_pos (show nI 6 = 6 from rfl), a1], pf8 a2⟩
    · rw [M h1 f.D, if_pos (show nI 6 = 6 from rfl)]
      exact offOf_m x1 (by rw [f.L]; exact hl)
  · refine Al.q (v := fun h => los h (36 + 2 * l)) X ?_ (fun h1 x1 f => ?_) (fun h1 f => los_cong x f.rd hl)
    · exact ⟨h, by rw [C, if_neg (show ¬ nI 7 = 0 by decide), if_neg (show ¬ nI 7 = 1 by decide), if_neg (show ¬ nI 7 = 2 by decide), if_neg (show ¬ nI 7 = 3 by decide), if_neg (show ¬ nI 7 = 4 by decide), if_neg (show ¬ nI 7 = 5 by decide), if_neg (show ¬ nI 7 = 6 by decide), if_pos (show nI 7 = 7 from rfl), loss_c x hl, bnd_s], PF.rf h⟩
    · rw [M h1 f.D, if_neg (show ¬ nI 7 = 6 by decide), if_pos (show nI 7 = 7 from rfl)]
      exact lossOf_m x1 (by rw [f.L]; exact hl)
  · refine Al.q (v := fun h => if ntc h (36 + 2 * l) (h 1 14) = 0 then 0 else 1) X ?_ (fun h1 x1 f => ?_) (fun h1 f => ?_)
    · obtain ⟨h0, h1, a1, a3, a4, a5, a2⟩ := noticed_c x hl
      refine ⟨h1, ?_, a2⟩
      rw [C, if_neg (show ¬ nI 8 = 0 by decide), if_neg (show ¬ nI 8 = 1 by decide), if_neg (show ¬ nI 8 = 2 by decide), if_neg (show ¬ nI 8 = 3 by decide), if_neg (show ¬ nI 8 = 4 by decide), if_neg (show ¬ nI 8 = 5 by decide), if_neg (show ¬ nI 8 = 6 by decide), if_neg (show ¬ nI 8 = 7 by decide), if_pos (show nI 8 = 8 from rfl), a1, bnd2_s, a3, bnd_s, a4, a5, bnd2_s]
      by_cases z : ntc h (36 + 2 * l) (h 1 14) = 0
      · simp only [if_pos z]
      · simp only [if_neg z]
    · obtain ⟨h2, a1, a2⟩ := noticed_m x1 (l := l) (by rw [f.L]; exact hl) (h1 1 14)
      refine ⟨h2, ?_, a2⟩
      rw [M h1 f.D, if_neg (show ¬ nI 8 = 6 by decide), if_neg (show ¬ nI 8 = 7 by decide), if_pos (show nI 8 = 8 from rfl), show h1 115 2 = h1 1 14 from x1.1.1.2.2.1.2, a1, bnd2_s]
      by_cases z : ntc h1 (36 + 2 * l) (h1 1 14) = 0
      · simp only [if_pos z]; rfl
      · simp only [if_neg z]; rfl
    · show (if ntc h1 (36 + 2 * l) (h1 1 14) = 0 then (0 : Int32) else 1) = if ntc h (36 + 2 * l) (h 1 14) = 0 then 0 else 1
      rw [f.M, ntc_cong x f.rd hl]
  · obtain ⟨K, m, b, n, z, w', ⟨k6, _⟩, ⟨c1, c1'⟩, ⟨c2, c2'⟩, _⟩ := x.line hl
    have q2 : f_9_endsOf (nI l) 2 h = some (f_8_endsOf (nI K) (nI m) 2) := ends_m (h := h) (x := 2) (show l < 6 by omega) k6 c1' (by rw [← c2']; congr 1; omega) (by decide)
    refine ⟨_, h, h, by rw [C, if_neg (show ¬ nI 9 = 0 by decide), if_neg (show ¬ nI 9 = 1 by decide), if_neg (show ¬ nI 9 = 2 by decide), if_neg (show ¬ nI 9 = 3 by decide), if_neg (show ¬ nI 9 = 4 by decide), if_neg (show ¬ nI 9 = 5 by decide), if_neg (show ¬ nI 9 = 6 by decide), if_neg (show ¬ nI 9 = 7 by decide), if_neg (show ¬ nI 9 = 8 by decide), c1, c2], ?_, X⟩
    rw [M h rfl, if_neg (show ¬ nI 9 = 6 by decide), if_neg (show ¬ nI 9 = 7 by decide), if_neg (show ¬ nI 9 = 8 by decide), if_pos (show nI 9 = 9 from rfl), q2, bnd_s]
/-- how long a line is noticed -/
def fgr (h : Hp) (p : Nat) : Nat → Option Nat
  | 0 => none
  | d + 1 => if ntc h p (h 1 14 + nI (500 - d)) = 0 then some (500 - d) else fgr h p d
theorem forg_c (x : INV h) {l : Nat} (hl : l < ci (h 1 11)) : ∀ (d n : Nat) (h0 : Hp), d ≤ 501 → d < n → PF h h0 → ∃ h1, PF h h1 ∧ f_8_forgotten_51 (of_ h (36 + 2 * l)) (los h (36 + 2 * l)) n (nI (501 - d)) h0 = match fgr h (36 + 2 * l) d with
      | some k => some (nI k, h1)
      | none => f_8_error 2 h1
  | 0, n, h0, e1, e2, f => by
    obtain ⟨n, rfl⟩ : ∃ z, n = z + 1 := ⟨n - 1, by omega⟩
    refine ⟨h0, f, ?_⟩
    rw [f_8_forgotten_51, if_pos (by decide), b2_id]
    rfl
  | d + 1, n, h0, e1, e2, f => by
    obtain ⟨n, rfl⟩ : ∃ z, n = z + 1 := ⟨n - 1, by omega⟩
    have c : ¬ (500 : Int32) < nI (501 - (d + 1)) := fun q => absurd ((nI_ltI (a := 500) (by decide) (by omega)).mp q) (by omega)
    obtain ⟨h1, a1, a2⟩ := notice_c (f.inv x).T9 (of_ h (36 + 2 * l)) (los h (36 + 2 * l)) (h 1 14 + nI (501 - (d + 1)))
    rw [tA_pf f.rd (Or.inr rfl)] at a1
    have p1 := f.tr (pf11 a2)
    rw [f_8_forgotten_51, if_neg c, f.M, a1, bnd2_s]
    unfold fgr
    rw [show 500 - d = 501 - (d + 1) by omega]
    by_cases z : ntc h (36 + 2 * l) (h 1 14 + nI (501 - (d + 1))) = 0
    · exact ⟨h1, p1, by rw [if_pos z]; rw [if_pos (show tA h 9 1 (of_ h (36 + 2 * l)) (los h (36 + 2 * l)) (h 1 14 + nI (501 - (d + 1))) = 0 from z)]⟩
    · obtain ⟨h2, b1, b2⟩ := forg_c x hl d n h1 (by omega) (by omega) p1
      refine ⟨h2, b1, ?_⟩
      rw [if_neg z, if_neg (show ¬ tA h 9 1 (of_ h (36 + 2 * l)) (los h (36 + 2 * l)) (h 1 14 + nI (501 - (d + 1))) = 0 from z), nI_1, show 501 - (d + 1) + 1 = 501 - d by omega, b2]
theorem forg_m (x : INV h) {l : Nat} (hl : l < ci (h 1 11)) : ∀ (d n : Nat) (h0 : Hp), d ≤ 501 → d < n → PF h h0 → ∃ h1, PF h h1 ∧ f_9_forgotten_16 (nI l) n (nI (501 - d)) h0 = match fgr h (36 + 2 * l) d with
      | some k => some (nI k, h1)
      | none => f_9_finds 2 h1
  | 0, n, h0, e1, e2, f => by
    obtain ⟨n, rfl⟩ : ∃ z, n = z + 1 := ⟨n - 1, by omega⟩
    refine ⟨h0, f, ?_⟩
    rw [f_9_forgotten_16, if_pos (by decide), b2_id]
    rfl
  | d + 1, n, h0, e1, e2, f => by
    obtain ⟨n, rfl⟩ : ∃ z, n = z + 1 := ⟨n - 1, by omega⟩
    have c : ¬ (500 : Int32) < nI (501 - (d + 1)) := fun q => absurd ((nI_ltI (a := 500) (by decide) (by omega)).mp q) (by omega)
    obtain ⟨h1, a1, a2⟩ := noticed_m (f.inv x) (l := l) (by rw [f.L]; exact hl) (h 1 14 + nI (501 - (d + 1)))
    rw [ntc_cong x f.rd hl] at a1
    have p1 := f.tr a2
    rw [f_9_forgotten_16, if_neg c, f.D, show h 115 2 = h 1 14 from x.1.1.2.2.1.2, a1, bnd2_s]
    unfold fgr
    rw [show 500 - d = 501 - (d + 1) by omega]
    by_cases z : ntc h (36 + 2 * l) (h 1 14 + nI (501 - (d + 1))) = 0
    · exact ⟨h1, p1, by simp only [if_pos z]; rfl⟩
    · obtain ⟨h2, b1, b2⟩ := forg_m x hl d n h1 (by omega) (by omega) p1
      refine ⟨h2, b1, ?_⟩
      simp only [if_neg z]
      rw [if_neg (by decide), nI_1, show 501 - (d + 1) + 1 = 501 - d by omega, b2]
theorem fgr_cong (x : INV h) {h1 : Hp} (f : RD h h1) {l : Nat} (hl : l < ci (h 1 11)) : ∀ d, fgr h1 (36 + 2 * l) d = fgr h (36 + 2 * l) d
  | 0 => rfl
  | d + 1 => by
    unfold fgr
    rw [ntc_cong x f hl, f 1 (by decide) (by decide) (by decide) (by decide) (by decide), fgr_cong x f hl d]
theorem al_forgotten (X : AI h) (a : Int32) : Al (f_8_forgotten a) (f_9_forgotten a) h := by
  have x := X.1
  rcases isLine_k x a with ⟨r, q⟩ | ⟨r, q, l, hl, rfl⟩
  · refine Al.er X (k := 1) (by decide) (by decide) ?_ (fun h1 f => ?_)
    · unfold f_8_forgotten
      rw [r, if_pos rfl, b2_id]; rfl
    · unfold f_9_forgotten
      rw [q h1 (f 115 (by decide)), bnd_s, if_pos rfl, b2_id]; rfl
  have l6 := x.L.2
  have gl : inb (nI l) 6 = true := inb_nI (by omega) (by decide)
  obtain ⟨h1, a1, a2⟩ := off_c x hl
  have p1 := pf8 a2
  have b := loss_c (p1.inv x) (l := l) (by rw [p1.L]; exact hl)
  rw [los_cong x p1.rd hl] at b
  obtain ⟨h2, c1, c2⟩ := forg_c x hl 501 FU h1 (by omega) (by show _ < 4096; omega) p1
  have C : f_8_forgotten (nI l) h = f_8_forgotten_51 (of_ h (36 + 2 * l)) (los h (36 + 2 * l)) FU (nI (501 - 501)) h1 := by
    unfold f_8_forgotten
    rw [r, if_neg (by decide), gd_s _ gl, ci_nI (by omega), a1, bnd2_s, gd_s _ gl, b, bnd_s]
    rfl
  rw [c2] at C
  have M : ∀ h1 : Hp, INV h1 → h1 115 = h 115 → RD h h1 → ∃ h2, PF h1 h2 ∧ f_9_forgotten (nI l) h1 = match fgr h (36 + 2 * l) 501 with
      | some k => some (nI k, h2)
      | none => f_9_finds 2 h2 := fun h1 x1 f g => by
    obtain ⟨h2, d1, d2⟩ := forg_m x1 (l := l) (by rw [g 1 (by decide) (by decide) (by decide) (by decide) (by decide)]; exact hl) 501 FU h1 (by omega) (by show _ < 4096; omega) (PF.rf h1)
    rw [fgr_cong x g hl] at d2
    refine ⟨h2, d1, ?_⟩
    unfold f_9_forgotten
    rw [q h1 f, bnd_s, if_neg (by decide)]
    exact d2
  cases e : fgr h (36 + 2 * l) 501 with
  | some k =>
    rw [e] at C M
    obtain ⟨h3, d1, d2⟩ := M h2 (c1.inv x) c1.D c1.rd
    exact ⟨_, h2, h3, C, d2, d1.ai (c1.ai X)⟩
  | none =>
    rw [e] at C M
    refine Al.er2 X (k := 2) (by decide) (by decide) ⟨h2, C, c1⟩ (fun h3 x3 ⟨hc, k1, k2⟩ => ?_)
    obtain ⟨h4, d1, d2⟩ := M h3 x3 (by rw [k2 115 (by decide), k1.D]) (fun q q1 q2 q3 q4 q5 => by rw [k2 q (by omega), k1.rd q q1 q2 q3 q4 q5])
    exact ⟨h4, d2, d1⟩
end
