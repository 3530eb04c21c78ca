/-! the methods, side by side: lines -/
section
variable {h : Hp}
theorem b2_id {α : Type} (x : Option (α × Hp)) : bnd2 x (fun r g => some (r, g)) = x := by
  cases x with
  | none => rfl
  | some y => rfl
theorem INV.D5 (x : INV h) (l : Nat) (hl : l < ci (h 1 11)) : ∀ k, k < 6 → h 115 (154 + 9 * l + k) = h (36 + 2 * l) (if k = 5 then 1 else k + 2) := by
  obtain ⟨K, m, b, n, z, w, _, ⟨c1, c1'⟩, ⟨c2, c2'⟩, ⟨c3, c3'⟩, ⟨c4, c4'⟩, ⟨c5, c5'⟩, ⟨c6, c6'⟩, _⟩ := x.line hl
  intro k hk
  obtain rfl | rfl | rfl | rfl | rfl | rfl : k = 0 ∨ k = 1 ∨ k = 2 ∨ k = 3 ∨ k = 4 ∨ k = 5 := by omega
  · exact c1'.trans c1.symm
  · exact c2'.trans c2.symm
  · exact c3'.trans c3.symm
  · exact c4'.trans c4.symm
  · exact c5'.trans c5.symm
  · exact c6'.trans c6.symm
theorem al_ofLine (x : INV h) (a b : Int32) : Al (f_8_ofLine a b) (f_9_ofLine a b) h := by
  have e9 := in_w b (A := 0) (B := 9) 0 9 (by decide) (by decide)
  rcases isLine_k x a with ⟨r, q⟩ | ⟨r, q, l, hl, rfl⟩
  · refine Al.er x (k := 1) (by decide) (by decide) ?_ (fun h1 f => ?_)
    · unfold f_8_ofLine
      rw [r, if_pos rfl, b2_id]; rfl
    · unfold f_9_ofLine
      rw [q h1 (f 115 (by decide)), bnd_s, if_pos rfl, b2_id]; rfl
  rcases wiC b (A := 0) (B := 9) 0 9 (by decide) (by decide) (by decide) with ⟨w, _⟩ | ⟨w, k, _, k9, rfl⟩
  · refine Al.er x (k := 1) (by decide) (by decide) ?_ (fun h1 f => ?_)
    · unfold f_8_ofLine
      rw [r, if_neg (by decide), w, if_pos rfl, b2_id]; rfl
    · unfold f_9_ofLine
      rw [q h1 (f 115 (by decide)), bnd_s, if_neg (by decide), e9, w, if_pos rfl, b2_id]; rfl
  have l6 := x.L.2
  have gl : inb (nI l) 6 = true := inb_nI (by omega) (by decide)
  have cl' : ci (nI l) = l := ci_nI (by omega)
  have C : f_8_ofLine (nI l) (nI k) h = if nI k = 0 then (some (h (36 + 2 * l) 2, h)) else (if nI k = 1 then (some (h (36 + 2 * l) 3, h)) else (if nI k = 2 then (some (h (36 + 2 * l) 4, h)) else (if nI k = 3 then (some (h (36 + 2 * l) 5, h)) else (if nI k = 4 then (some (h (36 + 2 * l) 6, h)) else (if nI k = 5 then (some (h (36 + 2 * l) 1, h)) else (if nI k = 6 then f_7_off (36 + 2 * l) h else (if nI k = 7 then (bnd (f_7_loss (36 + 2 * l) h) (fun r22 => some (r22, h))) else (if nI k = 8 then (bnd2 (f_7_isNoticed (36 + 2 * l) h) (fun r25 h26 => if r25 = 0 then (some (0, h26)) else (some (1, h26)))) else (some (f_8_endsOf (h (36 + 2 * l) 2) (h (36 + 2 * l) 3) 2, h)))))))))) := by
    unfold f_8_ofLine
    rw [r, if_neg (by decide), w, if_neg (by decide), gd_s _ gl, cl', b2_id]
  have M : ∀ h1 : Hp, h1 115 = h 115 → f_9_ofLine (nI l) (nI k) h1 = if nI k = 6 then f_9_offOf (nI l) h1 else (if nI k = 7 then f_9_lossOf (nI l) h1 else (if nI k = 8 then (bnd2 (f_9_isNoticed (nI l) (h1 115 2) h1) (fun r21 h22 => if r21 = 0 then (some (0, h22)) else (some (1, h22)))) else (if nI k = 9 then (bnd (f_9_endsOf (nI l) 2 h1) (fun r26 => some (r26, h1))) else (bnd (f_9_of (nI l) (nI k) h1) (fun r28 => some (r28, h1)))))) := by
    intro h1 f
    unfold f_9_ofLine
    rw [q h1 f, bnd_s, if_neg (by decide), e9, w, if_neg (by decide), b2_id, b2_id]
  have rd : ∀ j, j < 6 → f_9_of (nI l) (nI j) h = some (h (36 + 2 * l) (if j = 5 then 1 else j + 2)) := fun j hj => by
    rw [of_m (by omega) (by omega), x.D5 l hl j hj]
  have n01 : ∀ v : Int32, (if (if v = 0 then (0 : Int32) else 1) = 0 then (0 : Int32) else 1) = if v = 0 then 0 else 1 := fun v => by
    by_cases z : v = 0
    · rw [if_pos z]; rfl
    · rw [if_neg z]; rfl
  obtain rfl | rfl | rfl | rfl | rfl | rfl | rfl | rfl | rfl | rfl : k = 0 ∨ k = 1 ∨ k = 2 ∨ k = 3 ∨ k = 4 ∨ k = 5 ∨ k = 6 ∨ k = 7 ∨ k = 8 ∨ k = 9 := by omega
  · refine ⟨_, h, h, by rw [C, if_pos (show nI 0 = 0 from rfl)], ?_, x⟩
    rw [M h rfl, if_neg (show ¬ nI 0 = 6 by decide), if_neg (show ¬ nI 0 = 7 by decide), if_neg (show ¬ nI 0 = 8 by decide), if_neg (show ¬ nI 0 = 9 by decide), rd 0 (by decide), bnd_s]
    rfl
  · refine ⟨_, h, h, by rw [C, if_neg (show ¬ nI 1 = 0 by decide), if_pos (show nI 1 = 1 from rfl)], ?_, x⟩
    rw [M h rfl, if_neg (show ¬ nI 1 = 6 by decide), if_neg (show ¬ nI 1 = 7 by decide), if_neg (show ¬ nI 1 = 8 by decide), if_neg (show ¬ nI 1 = 9 by decide), rd 1 (by decide), bnd_s]
    rfl
  · refine ⟨_, h, h, by rw [C, if_neg (show ¬ nI 2 = 0 by decide), if_neg (show ¬ nI 2 = 1 by decide), if_pos (show nI 2 = 2 from rfl)], ?_, x⟩
    rw [M h rfl, if_neg (show ¬ nI 2 = 6 by decide), if_neg (show ¬ nI 2 = 7 by decide), if_neg (show ¬ nI 2 = 8 by decide), if_neg (show ¬ nI 2 = 9 by decide), rd 2 (by decide), bnd_s]
    rfl
  · refine ⟨_, h, h, by rw [C, if_neg (show ¬ nI 3 = 0 by decide), if_neg (show ¬ nI 3 = 1 by decide), if_neg (show ¬ nI 3 = 2 by decide), if_pos (show nI 3 = 3 from rfl)], ?_, x⟩
    rw [M h rfl, if_neg (show ¬ nI 3 = 6 by decide), if_neg (show ¬ nI 3 = 7 by decide), if_neg (show ¬ nI 3 = 8 by decide), if_neg (show ¬ nI 3 = 9 by decide), rd 3 (by decide), bnd_s]
    rfl
  · refine ⟨_, h, h, by rw [C, if_neg (show ¬ nI 4 = 0 by decide), if_neg (show ¬ nI 4 = 1 by decide), if_neg (show ¬ nI 4 = 2 by decide), if_neg (show ¬ nI 4 = 3 by decide), if_pos (show nI 4 = 4 from rfl)], ?_, x⟩
    rw [M h rfl, if_neg (show ¬ nI 4 = 6 by decide), if_neg (show ¬ nI 4 = 7 by decide), if_neg (show ¬ nI 4 = 8 by decide), if_neg (show ¬ nI 4 = 9 by decide), rd 4 (by decide), bnd_s]
    rfl
  · refine ⟨_, h, h, by rw [C, if_neg (show ¬ nI 5 = 0 by decide), if_neg (show ¬ nI 5 = 1 by decide), if_neg (show ¬ nI 5 = 2 by decide), if_neg (show ¬ nI 5 = 3 by decide), if_neg (show ¬ nI 5 = 4 by decide), if_pos (show nI 5 = 5 from rfl)], ?_, x⟩
    rw [M h rfl, if_neg (show ¬ nI 5 = 6 by decide), if_neg (show ¬ nI 5 = 7 by decide), if_neg (show ¬ nI 5 = 8 by decide), if_neg (show ¬ nI 5 = 9 by decide), rd 5 (by decide), bnd_s]
    rfl
  · refine Al.q (v := fun h => of_ h (36 + 2 * l)) x ?_ (fun h1 x1 f => ?_) (fun h1 f => of_cong x f hl)
    · obtain ⟨h1, a1, a2⟩ := off_c x hl
      exact ⟨h1, by rw [C, if_neg (show ¬ nI 6 = 0 by decide), if_neg (show ¬ nI 6 = 1 by decide), if_neg (show ¬ nI 6 = 2 by decide), if_neg (show ¬ nI 6 = 3 by decide), if_neg (show ¬ nI 6 = 4 by decide), if_neg (show ¬ nI 6 = 5 by decide), if_pos (show nI 6 = 6 from rfl), a1], pf8 a2⟩
    · rw [M h1 f.D, if_pos (show nI 6 = 6 from rfl)]
      exact offOf_m x1 (by rw [f.L]; exact hl)
  · refine Al.q (v := fun h => los h (36 + 2 * l)) x ?_ (fun h1 x1 f => ?_) (fun h1 f => los_cong x f hl)
    · exact ⟨h, by rw [C, if_neg (show ¬ nI 7 = 0 by decide), if_neg (show ¬ nI 7 = 1 by decide), if_neg (show ¬ nI 7 = 2 by decide), if_neg (show ¬ nI 7 = 3 by decide), if_neg (show ¬ nI 7 = 4 by decide), if_neg (show ¬ nI 7 = 5 by decide), if_neg (show ¬ nI 7 = 6 by decide), if_pos (show nI 7 = 7 from rfl), loss_c x hl, bnd_s], PF.rf h⟩
    · rw [M h1 f.D, if_neg (show ¬ nI 7 = 6 by decide), if_pos (show nI 7 = 7 from rfl)]
      exact lossOf_m x1 (by rw [f.L]; exact hl)
  · refine Al.q (v := fun h => if ntc h (36 + 2 * l) (h 1 14) = 0 then 0 else 1) x ?_ (fun h1 x1 f => ?_) (fun h1 f => ?_)
    · obtain ⟨h1, a1, a2⟩ := noticed_c x hl
      refine ⟨h1, ?_, a2⟩
      rw [C, if_neg (show ¬ nI 8 = 0 by decide), if_neg (show ¬ nI 8 = 1 by decide), if_neg (show ¬ nI 8 = 2 by decide), if_neg (show ¬ nI 8 = 3 by decide), if_neg (show ¬ nI 8 = 4 by decide), if_neg (show ¬ nI 8 = 5 by decide), if_neg (show ¬ nI 8 = 6 by decide), if_neg (show ¬ nI 8 = 7 by decide), if_pos (show nI 8 = 8 from rfl), a1, bnd2_s]
      by_cases z : ntc h (36 + 2 * l) (h 1 14) = 0
      · simp only [if_pos z]; rfl
      · simp only [if_neg z]; rfl
    · obtain ⟨h2, a1, a2⟩ := noticed_m x1 (l := l) (by rw [f.L]; exact hl) (h1 1 14)
      refine ⟨h2, ?_, a2⟩
      rw [M h1 f.D, if_neg (show ¬ nI 8 = 6 by decide), if_neg (show ¬ nI 8 = 7 by decide), if_pos (show nI 8 = 8 from rfl), show h1 115 2 = h1 1 14 from x1.1.1.2.2.1.2, a1, bnd2_s]
      by_cases z : ntc h1 (36 + 2 * l) (h1 1 14) = 0
      · simp only [if_pos z]; rfl
      · simp only [if_neg z]; rfl
    · show (if ntc h1 (36 + 2 * l) (h1 1 14) = 0 then (0 : Int32) else 1) = if ntc h (36 + 2 * l) (h 1 14) = 0 then 0 else 1
      rw [f.M, ntc_cong x f hl]
  · obtain ⟨K, m, b, n, z, w', ⟨k6, _⟩, ⟨c1, c1'⟩, ⟨c2, c2'⟩, _⟩ := x.line hl
    have q2 : f_9_endsOf (nI l) 2 h = some (f_8_endsOf (nI K) (nI m) 2) := ends_m (h := h) (x := 2) (show l < 6 by omega) k6 c1' (by rw [← c2']; congr 1; omega) (by decide)
    refine ⟨_, h, h, by rw [C, if_neg (show ¬ nI 9 = 0 by decide), if_neg (show ¬ nI 9 = 1 by decide), if_neg (show ¬ nI 9 = 2 by decide), if_neg (show ¬ nI 9 = 3 by decide), if_neg (show ¬ nI 9 = 4 by decide), if_neg (show ¬ nI 9 = 5 by decide), if_neg (show ¬ nI 9 = 6 by decide), if_neg (show ¬ nI 9 = 7 by decide), if_neg (show ¬ nI 9 = 8 by decide), c1, c2], ?_, x⟩
    rw [M h rfl, if_neg (show ¬ nI 9 = 6 by decide), if_neg (show ¬ nI 9 = 7 by decide), if_neg (show ¬ nI 9 = 8 by decide), if_pos (show nI 9 = 9 from rfl), q2, bnd_s]
/-- how long a line is noticed -/
theorem forg_c (x : INV h) {l : Nat} (o s : Int32) : ∀ (d n : Nat) (h0 : Hp), d ≤ 501 → d < n → PF h h0 → (∃ v h1, 0 ≤ v ∧ f_8_forgotten_51 o s n (nI (501 - d)) h0 = some (v, h1) ∧ PF h h1) ∨ (∃ h1, f_8_forgotten_51 o s n (nI (501 - d)) h0 = f_8_error 2 h1 ∧ PF h h1) := by
  sorry
end
