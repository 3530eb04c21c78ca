/-! the law, purely -/
theorem law_st {xs : Nat → Int32} {L n : Nat} {y : Int32} {h : Hp} (X : AI h) (IH : ∀ h2 : Hp, AI h2 → f_law xs L n (y + 6) h2 = some ()) (c : ¬ ((Int32.ofNat L) - 6) < y) (g0 : inb y L = true) (g1 : inb (y + 1) L = true) (g2 : inb (y + 2) L = true) (g3 : inb (y + 3) L = true) (g4 : inb (y + 4) L = true) (g5 : inb (y + 5) L = true) : f_law xs L (n + 1) y h = some () := by
  rw [f_law, if_neg c, gd_s _ g0]
  by_cases c0 : (xs (ci y) &&& 63) = 0
  · obtain ⟨r, h1, h2, a1, a2, a3⟩ := al_mouth X (xs (ci (y + 1))) (xs (ci (y + 2))) (xs (ci (y + 3)))
    rw [if_pos c0, gd_s _ g1, gd_s _ g2, gd_s _ g3, a1, bnd2_s, gd_s _ g1, gd_s _ g2, gd_s _ g3, a2, bnd2_s, if_pos rfl]
    exact IH h2 a3
  rw [if_neg c0]
  by_cases c1 : (xs (ci y) &&& 63) = 1
  · obtain ⟨r, h1, h2, a1, a2, a3⟩ := al_mouthAt X (xs (ci (y + 1)))
    rw [if_pos c1, gd_s _ g1, a1, bnd2_s, gd_s _ g1, a2, bnd2_s, if_pos rfl]
    exact IH h2 a3
  rw [if_neg c1]
  by_cases c2 : (xs (ci y) &&& 63) = 2
  · obtain ⟨r, h1, h2, a1, a2, a3⟩ := al_word X (xs (ci (y + 1))) (xs (ci (y + 2)))
    rw [if_pos c2, gd_s _ g1, gd_s _ g2, a1, bnd2_s, gd_s _ g1, gd_s _ g2, a2, bnd2_s, if_pos rfl]
    exact IH h2 a3
  rw [if_neg c2]
  by_cases c3 : (xs (ci y) &&& 63) = 3
  · obtain ⟨r, h1, h2, a1, a2, a3⟩ := al_ofWord X (xs (ci (y + 1))) (xs (ci (y + 2)))
    rw [if_pos c3, gd_s _ g1, gd_s _ g2, a1, bnd2_s, gd_s _ g1, gd_s _ g2, a2, bnd2_s, if_pos rfl]
    exact IH h2 a3
  rw [if_neg c3]
  by_cases c4 : (xs (ci y) &&& 63) = 4
  · obtain ⟨r, h1, h2, a1, a2, a3⟩ := al_line X (xs (ci (y + 1))) (xs (ci (y + 2))) (xs (ci (y + 3)))
    rw [if_pos c4, gd_s _ g1, gd_s _ g2, gd_s _ g3, a1, bnd2_s, gd_s _ g1, gd_s _ g2, gd_s _ g3, a2, bnd2_s, if_pos rfl]
    exact IH h2 a3
  rw [if_neg c4]
  by_cases c5 : (xs (ci y) &&& 63) = 5
  · obtain ⟨r, h1, h2, a1, a2, a3⟩ := al_ofLine X (xs (ci (y + 1))) (xs (ci (y + 2)))
    rw [if_pos c5, gd_s _ g1, gd_s _ g2, a1, bnd2_s, gd_s _ g1, gd_s _ g2, a2, bnd2_s, if_pos rfl]
    exact IH h2 a3
  rw [if_neg c5]
  by_cases c6 : (xs (ci y) &&& 63) = 6
  · obtain ⟨r, h1, h2, a1, a2, a3⟩ := al_said X (xs (ci (y + 1))) (xs (ci (y + 2)))
    rw [if_pos c6, gd_s _ g1, gd_s _ g2, a1, bnd2_s, gd_s _ g1, gd_s _ g2, a2, bnd2_s, if_pos rfl]
    exact IH h2 a3
  rw [if_neg c6]
  by_cases c7 : (xs (ci y) &&& 63) = 7
  · obtain ⟨r, h1, h2, a1, a2, a3⟩ := al_become X (xs (ci (y + 1))) (xs (ci (y + 2)))
    rw [if_pos c7, gd_s _ g1, gd_s _ g2, a1, bnd2_s, gd_s _ g1, gd_s _ g2, a2, bnd2_s, if_pos rfl]
    exact IH h2 a3
  rw [if_neg c7]
  by_cases c8 : (xs (ci y) &&& 63) = 8
  · obtain ⟨r, h1, h2, a1, a2, a3⟩ := al_as X (xs (ci (y + 1))) (xs (ci (y + 2)))
    rw [if_pos c8, gd_s _ g1, gd_s _ g2, a1, bnd2_s, gd_s _ g1, gd_s _ g2, a2, bnd2_s, if_pos rfl]
    exact IH h2 a3
  rw [if_neg c8]
  by_cases c9 : (xs (ci y) &&& 63) = 9
  · obtain ⟨r, h1, h2, a1, a2, a3⟩ := al_wanted X (xs (ci (y + 1))) (xs (ci (y + 2)))
    rw [if_pos c9, gd_s _ g1, gd_s _ g2, a1, bnd2_s, gd_s _ g1, gd_s _ g2, a2, bnd2_s, if_pos rfl]
    exact IH h2 a3
  rw [if_neg c9]
  by_cases c10 : (xs (ci y) &&& 63) = 10
  · obtain ⟨r, h1, h2, a1, a2, a3⟩ := al_say X (xs (ci (y + 1))) (xs (ci (y + 2))) (xs (ci (y + 3))) (xs (ci (y + 4))) (xs (ci (y + 5)))
    rw [if_pos c10, gd_s _ g1, gd_s _ g2, gd_s _ g3, gd_s _ g4, gd_s _ g5, a1, bnd2_s, gd_s _ g1, gd_s _ g2, gd_s _ g3, gd_s _ g4, gd_s _ g5, a2, bnd2_s, if_pos rfl]
    exact IH h2 a3
  rw [if_neg c10]
  by_cases c11 : (xs (ci y) &&& 63) = 11
  · obtain ⟨r, h1, h2, a1, a2, a3⟩ := al_feed X (((Int32.toInt64 (xs (ci (y + 1)))) <<< (Int32.toInt64 32 &&& 63)) ||| ((Int32.toInt64 (xs (ci (y + 2)))) &&& 4294967295)) (xs (ci (y + 3)))
    rw [if_pos c11, gd_s _ g1, gd_s _ g2, gd_s _ g3, a1, bnd2_s, gd_s _ g1, gd_s _ g2, gd_s _ g3, a2, bnd2_s, if_pos rfl]
    exact IH h2 a3
  rw [if_neg c11]
  by_cases c12 : (xs (ci y) &&& 63) = 12
  · obtain ⟨r, h1, h2, a1, a2, a3⟩ := al_text X (xs (ci (y + 1)))
    rw [if_pos c12, gd_s _ g1, a1, bnd2_s, gd_s _ g1, a2, bnd2_s, if_pos rfl]
    exact IH h2 a3
  rw [if_neg c12]
  by_cases c13 : (xs (ci y) &&& 63) = 13
  · obtain ⟨r, h1, h2, a1, a2, a3⟩ := al_law X (xs (ci (y + 1))) (xs (ci (y + 2))) (xs (ci (y + 3))) (xs (ci (y + 4)))
    rw [if_pos c13, gd_s _ g1, gd_s _ g2, gd_s _ g3, gd_s _ g4, a1, bnd2_s, gd_s _ g1, gd_s _ g2, gd_s _ g3, gd_s _ g4, a2, bnd2_s, if_pos rfl]
    exact IH h2 a3
  rw [if_neg c13]
  by_cases c14 : (xs (ci y) &&& 63) = 14
  · obtain ⟨r, h1, h2, a1, a2, a3⟩ := al_minutes X (xs (ci (y + 1)))
    rw [if_pos c14, gd_s _ g1, a1, bnd2_s, gd_s _ g1, a2, bnd2_s, if_pos rfl]
    exact IH h2 a3
  rw [if_neg c14]
  by_cases c15 : (xs (ci y) &&& 63) = 15
  · obtain ⟨r, h1, h2, a1, a2, a3⟩ := al_matinees X (xs (ci (y + 1)))
    rw [if_pos c15, gd_s _ g1, a1, bnd2_s, gd_s _ g1, a2, bnd2_s, if_pos rfl]
    exact IH h2 a3
  rw [if_neg c15]
  by_cases c16 : (xs (ci y) &&& 63) = 16
  · obtain ⟨r, h1, h2, a1, a2, a3⟩ := al_best X (xs (ci (y + 1))) (xs (ci (y + 2))) (xs (ci (y + 3)))
    rw [if_pos c16, gd_s _ g1, gd_s _ g2, gd_s _ g3, a1, bnd2_s, gd_s _ g1, gd_s _ g2, gd_s _ g3, a2, bnd2_s, if_pos rfl]
    exact IH h2 a3
  rw [if_neg c16]
  by_cases c17 : (xs (ci y) &&& 63) = 17
  · obtain ⟨r, h1, h2, a1, a2, a3⟩ := al_dearest X (xs (ci (y + 1))) (xs (ci (y + 2))) (xs (ci (y + 3)))
    rw [if_pos c17, gd_s _ g1, gd_s _ g2, gd_s _ g3, a1, bnd2_s, gd_s _ g1, gd_s _ g2, gd_s _ g3, a2, bnd2_s, if_pos rfl]
    exact IH h2 a3
  rw [if_neg c17]
  by_cases c18 : (xs (ci y) &&& 63) = 18
  · obtain ⟨r, h1, h2, a1, a2, a3⟩ := al_heard X (xs (ci (y + 1))) (xs (ci (y + 2)))
    rw [if_pos c18, gd_s _ g1, gd_s _ g2, a1, bnd2_s, gd_s _ g1, gd_s _ g2, a2, bnd2_s, if_pos rfl]
    exact IH h2 a3
  rw [if_neg c18]
  by_cases c19 : (xs (ci y) &&& 63) = 19
  · obtain ⟨r, h1, h2, a1, a2, a3⟩ := al_must X (xs (ci (y + 1)))
    rw [if_pos c19, gd_s _ g1, a1, bnd2_s, gd_s _ g1, a2, bnd2_s, if_pos rfl]
    exact IH h2 a3
  rw [if_neg c19]
  by_cases c20 : (xs (ci y) &&& 63) = 20
  · obtain ⟨r, h1, h2, a1, a2, a3⟩ := al_forgotten X (xs (ci (y + 1)))
    rw [if_pos c20, gd_s _ g1, a1, bnd2_s, gd_s _ g1, a2, bnd2_s, if_pos rfl]
    exact IH h2 a3
  rw [if_neg c20]
  by_cases c21 : (xs (ci y) &&& 63) = 21
  · obtain ⟨r, h1, h2, a1, a2, a3⟩ := al_like X (xs (ci (y + 1))) (xs (ci (y + 2))) (xs (ci (y + 3)))
    rw [if_pos c21, gd_s _ g1, gd_s _ g2, gd_s _ g3, a1, bnd2_s, gd_s _ g1, gd_s _ g2, gd_s _ g3, a2, bnd2_s, if_pos rfl]
    exact IH h2 a3
  rw [if_neg c21]
  by_cases c22 : (xs (ci y) &&& 63) = 22
  · obtain ⟨r, h1, h2, a1, a2, a3⟩ := al_cast X (xs (ci (y + 1)))
    rw [if_pos c22, gd_s _ g1, a1, bnd2_s, gd_s _ g1, a2, bnd2_s, if_pos rfl]
    exact IH h2 a3
  rw [if_neg c22]
  by_cases c23 : (xs (ci y) &&& 63) = 23
  · obtain ⟨r, h1, h2, a1, a2, a3⟩ := al_takes X (xs (ci (y + 1))) (xs (ci (y + 2))) (xs (ci (y + 3)))
    have e : lg_cmp r r = 0 := (cmp_eq r r).mpr rfl
    rw [if_pos c23, gd_s _ g1, gd_s _ g2, gd_s _ g3, a1, bnd2_s, gd_s _ g1, gd_s _ g2, gd_s _ g3, a2, bnd2_s, if_pos e]
    exact IH h2 a3
  rw [if_neg c23]
  by_cases c24 : (xs (ci y) &&& 63) = 24
  · obtain ⟨r, h1, h2, a1, a2, a3⟩ := al_enough X (xs (ci (y + 1))) (xs (ci (y + 2)))
    rw [if_pos c24, gd_s _ g1, gd_s _ g2, a1, bnd2_s, gd_s _ g1, gd_s _ g2, a2, bnd2_s, if_pos rfl]
    exact IH h2 a3
  rw [if_neg c24]
  by_cases c25 : (xs (ci y) &&& 63) = 25
  · obtain ⟨r, h1, h2, a1, a2, a3⟩ := al_seed X (xs (ci (y + 1)))
    rw [if_pos c25, gd_s _ g1, a1, bnd2_s, gd_s _ g1, a2, bnd2_s, if_pos rfl]
    exact IH h2 a3
  rw [if_neg c25]
  by_cases c26 : (xs (ci y) &&& 63) = 26
  · obtain ⟨r, h1, h2, a1, a2, a3⟩ := al_voice X (xs (ci (y + 1))) (xs (ci (y + 2))) (xs (ci (y + 3)))
    rw [if_pos c26, gd_s _ g1, gd_s _ g2, gd_s _ g3, a1, bnd2_s, gd_s _ g1, gd_s _ g2, gd_s _ g3, a2, bnd2_s, if_pos rfl]
    exact IH h2 a3
  rw [if_neg c26]
  by_cases c27 : (xs (ci y) &&& 63) = 27
  · obtain ⟨r, h1, h2, a1, a2, a3⟩ := al_trace X (xs (ci (y + 1)))
    rw [if_pos c27, gd_s _ g1, a1, bnd2_s, gd_s _ g1, a2, bnd2_s, if_pos rfl]
    exact IH h2 a3
  rw [if_neg c27]
  by_cases c28 : (xs (ci y) &&& 63) = 28
  · obtain ⟨r, h1, h2, a1, a2, a3⟩ := al_sheet X (xs (ci (y + 1))) (xs (ci (y + 2))) (xs (ci (y + 3)))
    rw [if_pos c28, gd_s _ g1, gd_s _ g2, gd_s _ g3, a1, bnd2_s, gd_s _ g1, gd_s _ g2, gd_s _ g3, a2, bnd2_s, if_pos rfl]
    exact IH h2 a3
  rw [if_neg c28]
  by_cases c29 : (xs (ci y) &&& 63) = 29
  · obtain ⟨r, h1, h2, a1, a2, a3⟩ := al_put X (xs (ci (y + 1))) (xs (ci (y + 2))) (xs (ci (y + 3)))
    rw [if_pos c29, gd_s _ g1, gd_s _ g2, gd_s _ g3, a1, bnd2_s, gd_s _ g1, gd_s _ g2, gd_s _ g3, a2, bnd2_s, if_pos rfl]
    exact IH h2 a3
  rw [if_neg c29]
  by_cases c30 : (xs (ci y) &&& 63) = 30
  · obtain ⟨r, h1, h2, a1, a2, a3⟩ := al_move X (xs (ci (y + 1))) (xs (ci (y + 2))) (xs (ci (y + 3))) (xs (ci (y + 4))) (xs (ci (y + 5)))
    rw [if_pos c30, gd_s _ g1, gd_s _ g2, gd_s _ g3, gd_s _ g4, gd_s _ g5, a1, bnd2_s, gd_s _ g1, gd_s _ g2, gd_s _ g3, gd_s _ g4, gd_s _ g5, a2, bnd2_s, if_pos rfl]
    exact IH h2 a3
  rw [if_neg c30]
  by_cases c31 : (xs (ci y) &&& 63) = 31
  · obtain ⟨r, h1, h2, a1, a2, a3⟩ := al_mouths X (xs (ci (y + 1)))
    rw [if_pos c31, gd_s _ g1, a1, bnd2_s, gd_s _ g1, a2, bnd2_s, if_pos rfl]
    exact IH h2 a3
  rw [if_neg c31]
  by_cases c32 : (xs (ci y) &&& 63) = 32
  · obtain ⟨r, h1, h2, a1, a2, a3⟩ := al_judge X (xs (ci (y + 1)))
    rw [if_pos c32, gd_s _ g1, a1, bnd2_s, gd_s _ g1, a2, bnd2_s, if_pos rfl]
    exact IH h2 a3
  rw [if_neg c32]
  by_cases c33 : (xs (ci y) &&& 63) = 33
  · obtain ⟨r, h1, h2, a1, a2, a3⟩ := al_image X 
    rw [if_pos c33, a1, bnd2_s, a2, bnd2_s, if_pos rfl]
    exact IH h2 a3
  rw [if_neg c33]
  by_cases c34 : (xs (ci y) &&& 63) = 34
  · obtain ⟨r, h1, h2, a1, a2, a3⟩ := al_restore X 
    rw [if_pos c34, a1, bnd2_s, a2, bnd2_s, if_pos rfl]
    exact IH h2 a3
  rw [if_neg c34]
  by_cases c35 : (xs (ci y) &&& 63) = 35
  · obtain ⟨r, h1, h2, a1, a2, a3⟩ := al_tell X (xs (ci (y + 1)))
    rw [if_pos c35, gd_s _ g1, a1, bnd2_s, gd_s _ g1, a2, bnd2_s, if_pos rfl]
    exact IH h2 a3
  rw [if_neg c35]
  by_cases c36 : (xs (ci y) &&& 63) = 36
  · obtain ⟨r, h1, h2, a1, a2, a3⟩ := al_check X 
    rw [if_pos c36, a1, bnd2_s, a2, bnd2_s, if_pos rfl]
    exact IH h2 a3
  rw [if_neg c36]
  by_cases c37 : (xs (ci y) &&& 63) = 37
  · obtain ⟨r, h1, h2, a1, a2, a3⟩ := al_count X (xs (ci (y + 1)))
    rw [if_pos c37, gd_s _ g1, a1, bnd2_s, gd_s _ g1, a2, bnd2_s, if_pos rfl]
    exact IH h2 a3
  rw [if_neg c37]
  by_cases c38 : (xs (ci y) &&& 63) = 38
  · obtain ⟨r, h1, h2, a1, a2, a3⟩ := al_told X (xs (ci (y + 1)))
    rw [if_pos c38, gd_s _ g1, a1, bnd2_s, gd_s _ g1, a2, bnd2_s, if_pos rfl]
    exact IH h2 a3
  rw [if_neg c38]
  exact IH h X
theorem h0_z (p : Nat) (e : ¬ (p = 1 ∨ p = 48)) (e2 : ¬ (p = 36 ∨ p = 38 ∨ p = 40 ∨ p = 42 ∨ p = 44 ∨ p = 46 ∨ p = 83 ∨ p = 85 ∨ p = 87 ∨ p = 89 ∨ p = 91 ∨ p = 93)) (e3 : ¬ p = 115) : h0 p = fun _ => 0 := by
  unfold h0
  rw [if_neg e, if_neg e2, if_neg e3]
theorem ai_0 : AI h0 := by
  have z : ∀ p, ¬ (p = 1 ∨ p = 48) → ¬ (p = 36 ∨ p = 38 ∨ p = 40 ∨ p = 42 ∨ p = 44 ∨ p = 46 ∨ p = 83 ∨ p = 85 ∨ p = 87 ∨ p = 89 ∨ p = 91 ∨ p = 93) → ¬ p = 115 → ∀ k, h0 p k = 0 := fun p a b c k => by rw [h0_z p a b c]
  have w : ∀ k, k ≠ 16 → h0 1 k = 0 := fun k hk => by
    show (if 1 = 1 ∨ 1 = 48 then upd (fun _ => 0) 16 1 else _) k = 0
    rw [if_pos (by decide), upd_n _ _ hk]
  have w16 : h0 1 16 = 1 := by
    show (if 1 = 1 ∨ 1 = 48 then upd (fun _ => 0) 16 1 else _) 16 = 1
    rw [if_pos (by decide), upd_s]
  have d0 : h0 115 = upd (fun _ => 0) 4 1 := by
    unfold h0
    rw [if_neg (by decide), if_neg (by decide), if_pos rfl]
  have d : ∀ k, k ≠ 4 → h0 115 k = 0 := fun k hk => by rw [d0, upd_n _ _ hk]
  have d4 : h0 115 4 = 1 := by rw [d0, upd_s]
  have s0 : ∀ n, sm (0 : Int32) n := fun n => ⟨0, Nat.zero_le n, rfl⟩
  refine ⟨⟨⟨?_, ⟨fun k hk => ?_, fun k hk => ⟨?_, ?_⟩, fun k hk => ?_, fun k hk => ?_⟩, fun j hj => ?_, fun l hl => ?_, ?_, ?_⟩, Or.inl ?_, ?_, ⟨?_, ?_, fun k hk => ?_⟩, fun s hs => ⟨Or.inl ?_, ?_, ?_, ?_, fun k hk => ?_⟩⟩, fun k hk => ?_⟩
  · unfold gS
    rw [w 10 (by decide), w 11 (by decide), w 14 (by decide), w 15 (by decide), w16, w 12 (by decide), w 13 (by decide), d 0 (by decide), d 1 (by decide), d 2 (by decide), d 3 (by decide), d4, d 5 (by decide), d 6 (by decide)]
    exact ⟨⟨s0 _, rfl⟩, ⟨s0 _, rfl⟩, ⟨s0 _, rfl⟩, rfl, rfl, ⟨s0 _, rfl⟩, ⟨s0 _, rfl⟩⟩
  · rw [d _ (by omega), z 2 (by decide) (by decide) (by decide)]
  · rw [d _ (by omega), z 12 (by decide) (by decide) (by decide)]
  · rw [z 12 (by decide) (by decide) (by decide)]; exact s0 _
  · rw [d _ (by omega), z 13 (by decide) (by decide) (by decide)]
  · rw [d _ (by omega), z 5 (by decide) (by decide) (by decide)]
  · rw [w 10 (by decide)] at hj
    exact absurd hj (Nat.not_lt_zero j)
  · rw [w 11 (by decide)] at hl
    exact absurd hl (Nat.not_lt_zero l)
  · exact Or.inl ⟨z 6 (by decide) (by decide) (by decide) 2, d _ (by decide)⟩
  · exact Or.inl ⟨z 9 (by decide) (by decide) (by decide) 2, d _ (by decide)⟩
  · exact z 0 (by decide) (by decide) (by decide) 7
  · rw [z 114 (by decide) (by decide) (by decide), z 0 (by decide) (by decide) (by decide)]
  · rw [z 103 (by decide) (by decide) (by decide)]; exact s0 _
  · rw [z 114 (by decide) (by decide) (by decide), z 103 (by decide) (by decide) (by decide)]
  · rw [z 103 (by decide) (by decide) (by decide)] at hk
    exact absurd hk (Nat.not_lt_zero k)
  · exact z 106 (by decide) (by decide) (by decide) s
  · rw [z 106 (by decide) (by decide) (by decide), z 122 (by decide) (by decide) (by decide)]
  · rw [z 107 (by decide) (by decide) (by decide)]; exact s0 _
  · rw [z 107 (by decide) (by decide) (by decide), z 123 (by decide) (by decide) (by decide)]
  · rw [z 124 (by decide) (by decide) (by decide), z (109 + s) (by omega) (by omega) (by omega)]
  · rw [z 117 (by decide) (by decide) (by decide), z 113 (by decide) (by decide) (by decide)]
theorem law_go {L : Nat} {xs : Nat → Int32} (hL : L ≤ 3072) : ∀ (n k : Nat) (h : Hp), AI h → 6 * k ≤ L → L < 6 * (n + k) → f_law xs L n (nI (6 * k)) h = some ()
  | 0, k, h, X, e1, e2 => by omega
  | n + 1, k, h, X, e1, e2 => by
    have t := pk_sub_toInt (a := L) (b := 6) (by omega) (by decide)
    by_cases c : ((Int32.ofNat L) - 6) < nI (6 * k)
    · rw [f_law, if_pos c]
    · have c6 : 6 * k + 6 ≤ L := by
        have c' : ¬ nI L - nI 6 < nI (6 * k) := c
        rw [Int32.lt_iff_toInt_lt, t, nI_toInt (by omega)] at c'
        omega
      have g : ∀ j : Nat, j ≤ 5 → inb (nI (6 * k) + nI j) L = true := fun j hj => by
        rw [nI_add]
        exact inb_nI (by omega) (by omega)
      refine law_st X (fun h2 X2 => ?_) c (inb_nI (by omega) (by omega)) (g 1 (by decide)) (g 2 (by decide)) (g 3 (by decide)) (g 4 (by decide)) (g 5 (by decide))
      have e6 : nI (6 * k) + 6 = nI (6 * (k + 1)) := by rw [lit_nI 6, nI_add, Nat.mul_add]
      rw [e6]
      exact law_go hL n (k + 1) h2 X2 (by omega) (by omega)
theorem law_pure : ∀ (L : Nat) (xs : Nat → Int32), L ≤ 3072 → f_law xs L 600 0 h0 = some () := fun L xs hL => law_go hL 600 0 h0 ai_0 (Nat.zero_le L) (by omega)
