/-! say, both -/
section
variable {h : Hp}
theorem aw_k (x : INV h) (a b c : Int32) {z : Nat} (hz : z ≤ 3) : (f_8_areWords (nI z) a b c h = 0 ∧ ∀ h1 : Hp, h1 115 = h 115 → ((z ≥ 1 ∧ f_9_isWord a h1 = some 0) ∨ (z ≥ 2 ∧ f_9_isWord a h1 = some 1 ∧ f_9_isWord b h1 = some 0) ∨ (z ≥ 3 ∧ f_9_isWord a h1 = some 1 ∧ f_9_isWord b h1 = some 1 ∧ f_9_isWord c h1 = some 0))) ∨ (f_8_areWords (nI z) a b c h = 1 ∧ (z ≥ 1 → (∀ h1 : Hp, h1 115 = h 115 → f_9_isWord a h1 = some 1) ∧ ∃ j, j < ci (h 1 10) ∧ a = nI j) ∧ (z ≥ 2 → (∀ h1 : Hp, h1 115 = h 115 → f_9_isWord b h1 = some 1) ∧ ∃ j, j < ci (h 1 10) ∧ b = nI j) ∧ (z ≥ 3 → (∀ h1 : Hp, h1 115 = h 115 → f_9_isWord c h1 = some 1) ∧ ∃ j, j < ci (h 1 10) ∧ c = nI j)) := by
  have k10 : ¬ (1 : Int32) = 0 := by decide
  have k00 : (0 : Int32) = 0 := rfl
  unfold f_8_areWords
  obtain rfl | rfl | rfl | rfl : z = 0 ∨ z = 1 ∨ z = 2 ∨ z = 3 := by omega
  · right
    rw [if_pos (show nI 0 < 1 by decide), if_pos (show nI 0 < 2 by decide), if_pos (show nI 0 < 3 by decide)]
    exact ⟨rfl, fun q => absurd q (by decide), fun q => absurd q (by decide), fun q => absurd q (by decide)⟩
  · rw [if_neg (show ¬ nI 1 < 1 by decide), if_pos (show nI 1 < 2 by decide), if_pos (show nI 1 < 3 by decide)]
    rcases isWord_k x a with ⟨r, q⟩ | ⟨r, q⟩
    · left
      rw [r, if_pos k00]
      exact ⟨rfl, fun h1 f => Or.inl ⟨by decide, q h1 f⟩⟩
    · right
      rw [r, if_neg k10]
      exact ⟨rfl, fun _ => q, fun q => absurd q (by decide), fun q => absurd q (by decide)⟩
  · rw [if_neg (show ¬ nI 2 < 1 by decide), if_neg (show ¬ nI 2 < 2 by decide), if_pos (show nI 2 < 3 by decide)]
    rcases isWord_k x a with ⟨r, q⟩ | ⟨r, q⟩
    · left
      rw [r, if_pos k00]
      exact ⟨rfl, fun h1 f => Or.inl ⟨by decide, q h1 f⟩⟩
    · rw [r, if_neg k10]
      rcases isWord_k x b with ⟨r2, q2⟩ | ⟨r2, q2⟩
      · left
        rw [r2, if_pos k00]
        exact ⟨rfl, fun h1 f => Or.inr (Or.inl ⟨by decide, q.1 h1 f, q2 h1 f⟩)⟩
      · right
        rw [r2, if_neg k10]
        exact ⟨rfl, fun _ => q, fun _ => q2, fun q => absurd q (by decide)⟩
  · rw [if_neg (show ¬ nI 3 < 1 by decide), if_neg (show ¬ nI 3 < 2 by decide), if_neg (show ¬ nI 3 < 3 by decide)]
    rcases isWord_k x a with ⟨r, q⟩ | ⟨r, q⟩
    · left
      rw [r, if_pos k00]
      exact ⟨rfl, fun h1 f => Or.inl ⟨by decide, q h1 f⟩⟩
    · rw [r, if_neg k10]
      rcases isWord_k x b with ⟨r2, q2⟩ | ⟨r2, q2⟩
      · left
        rw [r2, if_pos k00]
        exact ⟨rfl, fun h1 f => Or.inr (Or.inl ⟨by decide, q.1 h1 f, q2 h1 f⟩)⟩
      · rw [r2, if_neg k10]
        rcases isWord_k x c with ⟨r3, q3⟩ | ⟨r3, q3⟩
        · left
          rw [r3, if_pos k00]
          exact ⟨rfl, fun h1 f => Or.inr (Or.inr ⟨by decide, q.1 h1 f, q2.1 h1 f, q3 h1 f⟩)⟩
        · right
          rw [r3, if_neg k10]
          exact ⟨rfl, fun _ => q, fun _ => q2, fun _ => q3⟩
theorem sy_n {l z : Nat} {a b c : Int32} {g : Hp} {q : Nat} (hq : q ≠ 115) : sy l z a b c g q = g q := by
  unfold sy
  rw [u2_p _ _ hq, u2_p _ _ hq, u2_p _ _ hq, u2_p _ _ hq]
theorem sy_5 {l z : Nat} {a b c : Int32} {g : Hp} (j : Nat) : sy l z a b c g 115 j = if j = 154 + 9 * l + 8 then (if z ≤ 2 then 0 else c) else if j = 154 + 9 * l + 7 then (if z ≤ 1 then 0 else b) else if j = 154 + 9 * l + 6 then (if z = 0 then 0 else a) else if j = 154 + 9 * l + 5 then nI z else g 115 j := by
  have SS : ∀ (g : Hp) (k j : Nat) (v : Int32), u2 g 115 k v 115 j = if j = k then v else g 115 j := fun g k j v => by
    by_cases q : j = k
    · rw [if_pos q, q, u2_s]
    · rw [if_neg q, u2_k _ _ q]
  unfold sy
  rw [SS, SS, SS, SS]
theorem al_say (X : AI h) (i y a b c : Int32) : Al (f_8_say i y a b c) (f_9_say i y a b c) h := by
  have x := X.1
  have e9 := in_w y (A := 0) (B := 3) 0 3 (by decide) (by decide)
  rcases isLine_k x i with ⟨r, q⟩ | ⟨r, q, l, hl, rfl⟩
  · refine Al.er X (k := 1) (by decide) (by decide) ?_ (fun h1 f => ?_)
    · unfold f_8_say
      rw [r, if_pos rfl, b2_id]; rfl
    · unfold f_9_say
      rw [q h1 (f 115 (by decide)), bnd_s, if_pos rfl, b2_id]; rfl
  rcases wiC y (A := 0) (B := 3) 0 3 (by decide) (by decide) (by decide) with ⟨w, _⟩ | ⟨w, z, _, hz, rfl⟩
  · refine Al.er X (k := 1) (by decide) (by decide) ?_ (fun h1 f => ?_)
    · unfold f_8_say
      rw [r, if_neg (by decide), w, if_pos rfl, b2_id]; rfl
    · unfold f_9_say
      rw [q h1 (f 115 (by decide)), bnd_s, if_neg (by decide), e9, w, if_pos rfl, b2_id]; rfl
  rcases aw_k x a b c hz with ⟨v, s⟩ | ⟨v, sa, sb, sc⟩
  · refine Al.er X (k := 1) (by decide) (by decide) ?_ (fun h1 f => ?_)
    · unfold f_8_say
      rw [r, if_neg (by decide), w, if_neg (by decide), v, if_pos rfl, b2_id]; rfl
    · exact sy_e a b c h1 (q h1 (f 115 (by decide))) z hz (s h1 (f 115 (by decide)))
  have l6 := x.L.2
  have w10 := x.W.2
  have gl : inb (nI l) 6 = true := inb_nI (by omega) (by decide)
  have hs0 : f_0_setRow (36 + 2 * l) (nI z) a b c h = some (u2 (u2 (u2 (u2 h (36 + 2 * l) 1 (nI z)) (36 + 2 * l + 1) 0 a) (36 + 2 * l + 1) 1 b) (36 + 2 * l + 1) 2 c) := rfl
  have C0 : f_8_say (nI l) (nI z) a b c h = f_7_off (36 + 2 * l) (u2 (u2 (u2 (u2 h (36 + 2 * l) 1 (nI z)) (36 + 2 * l + 1) 0 a) (36 + 2 * l + 1) 1 b) (36 + 2 * l + 1) 2 c) := by
    unfold f_8_say
    rw [r, if_neg (by decide), w, if_neg (by decide), v, if_neg (by decide), gd_s _ gl, ci_nI (by omega), hs0, bnd_s, gd_s _ gl, b2_id]
  have f1 : ∀ q, q ≠ 36 + 2 * l → q ≠ 37 + 2 * l → (u2 (u2 (u2 (u2 h (36 + 2 * l) 1 (nI z)) (36 + 2 * l + 1) 0 a) (36 + 2 * l + 1) 1 b) (36 + 2 * l + 1) 2 c) q = h q := fun q q1 q2 => by rw [u2_p _ _ (by omega), u2_p _ _ (by omega), u2_p _ _ (by omega), u2_p _ _ q1]
  have f2 : (u2 (u2 (u2 (u2 h (36 + 2 * l) 1 (nI z)) (36 + 2 * l + 1) 0 a) (36 + 2 * l + 1) 1 b) (36 + 2 * l + 1) 2 c) (36 + 2 * l) = upd (h (36 + 2 * l)) 1 (nI z) := by rw [u2_p _ _ (by omega), u2_p _ _ (by omega), u2_p _ _ (by omega), u2_row]
  have f3 : (u2 (u2 (u2 (u2 h (36 + 2 * l) 1 (nI z)) (36 + 2 * l + 1) 0 a) (36 + 2 * l + 1) 1 b) (36 + 2 * l + 1) 2 c) (36 + 2 * l + 1) 0 = a := by rw [u2_k _ _ (by decide), u2_k _ _ (by decide), u2_s]
  have f4 : (u2 (u2 (u2 (u2 h (36 + 2 * l) 1 (nI z)) (36 + 2 * l + 1) 0 a) (36 + 2 * l + 1) 1 b) (36 + 2 * l + 1) 2 c) (36 + 2 * l + 1) 1 = b := by rw [u2_k _ _ (by decide), u2_s]
  have f5 : (u2 (u2 (u2 (u2 h (36 + 2 * l) 1 (nI z)) (36 + 2 * l + 1) 0 a) (36 + 2 * l + 1) 1 b) (36 + 2 * l + 1) 2 c) (36 + 2 * l + 1) 2 = c := by rw [u2_s]
  generalize u2 (u2 (u2 (u2 h (36 + 2 * l) 1 (nI z)) (36 + 2 * l + 1) 0 a) (36 + 2 * l + 1) 1 b) (36 + 2 * l + 1) 2 c = hs at C0 f1 f2 f3 f4 f5
  have A : AI (sy l z a b c hs) := by
    refine ai_line X hl (fun q q1 q2 q3 => by rw [sy_n q3, f1 q q1 q2]) (fun k hk => by rw [sy_5, if_neg (by omega), if_neg (by omega), if_neg (by omega), if_neg (by omega), f1 115 (by omega) (by omega)]) ?_
    obtain ⟨K, m, b', n, z', w', ⟨A1, A2, A3, A4, A5, A6, A7⟩, ⟨c1, c1'⟩, ⟨c2, c2'⟩, ⟨c3, c3'⟩, ⟨c4, c4'⟩, ⟨c5, c5'⟩, _, _⟩ := x.line hl
    have o : ∀ k, k < 5 → sy l z a b c hs 115 (154 + 9 * l + k) = h 115 (154 + 9 * l + k) := fun k hk => by rw [sy_5, if_neg (by omega), if_neg (by omega), if_neg (by omega), if_neg (by omega), f1 115 (by omega) (by omega)]
    refine ⟨K, m, b', n, z, w', ⟨A1, A2, A3, A4, A5, hz, A7⟩, ?_⟩
    rw [sy_n (q := 36 + 2 * l) (by omega), sy_n (q := 36 + 2 * l + 1) (by omega), f2]
    refine ⟨⟨c1, (o 0 (by decide)).trans c1'⟩, ⟨c2, (o 1 (by decide)).trans c2'⟩, ⟨c3, (o 2 (by decide)).trans c3'⟩, ⟨c4, (o 3 (by decide)).trans c4'⟩, ⟨c5, (o 4 (by decide)).trans c5'⟩, ⟨rfl, ?_⟩, fun t ht => ?_⟩
    · rw [sy_5, if_neg (by omega), if_neg (by omega), if_neg (by omega), if_pos rfl]
    · obtain rfl | rfl | rfl : t = 0 ∨ t = 1 ∨ t = 2 := by omega
      · obtain ⟨_, j, j1, j2⟩ := sa (by omega)
        exact ⟨j, j1, f3.trans j2, by rw [sy_5, if_neg (by omega), if_neg (by omega), if_pos (by omega), if_neg (by omega), j2]⟩
      · obtain ⟨_, j, j1, j2⟩ := sb (by omega)
        exact ⟨j, j1, f4.trans j2, by rw [sy_5, if_neg (by omega), if_pos (by omega), if_neg (by omega), j2]⟩
      · obtain ⟨_, j, j1, j2⟩ := sc (by omega)
        exact ⟨j, j1, f5.trans j2, by rw [sy_5, if_pos (by omega), if_neg (by omega), j2]⟩
  have xA := A.1
  have g1 : ∀ q, q ≠ 115 → hs q = sy l z a b c hs q := fun q hq => (sy_n hq).symm
  have M1 : sy l z a b c hs 1 = h 1 := (sy_n (by decide)).trans (f1 1 (by omega) (by omega))
  have hlA : l < ci (sy l z a b c hs 1 11) := by rw [M1]; exact hl
  have wA := xA.W.2
  obtain ⟨r1, r2, r3, r4⟩ := xA.row hlA
  have RDA : RD (sy l z a b c hs) hs := fun q q1 _ _ _ _ => g1 q (by omega)
  obtain ⟨hc, b1, b2⟩ := off7 (h := hs) (D := sy l z a b c hs 115) (p := 36 + 2 * l) (s := 154 + 9 * l) (W := ci (sy l z a b c hs 1 10)) (z := ci (sy l z a b c hs (36 + 2 * l) 1)) (R := rw_ (sy l z a b c hs) (36 + 2 * l)) (xA.T6.fr (g1 6 (by decide)) (g1 7 (by decide))) ((xA.line hlA).fr (g1 _ (by omega)) (g1 _ (by omega))) (by omega) (by omega) r2 (by rw [g1 (36 + 2 * l) (by omega)]; exact r1) (fun t ht => by rw [g1 (36 + 2 * l + 1) (by omega), show 36 + 2 * l + 1 = 37 + 2 * l by omega]; exact (r4 t ht).2.1) (fun t ht => by
    obtain ⟨p, N, n5, n2⟩ := (xA.WM (fun t ht => (r4 t ht).1)).ws t ht
    exact ⟨p, N, n5, by rw [g1 _ (by omega)]; exact n2⟩) (ci (sy l z a b c hs (36 + 2 * l) 1)) 0 0 FU 0 hs (by omega) (by omega) (by show _ < 4096; omega) (fun _ _ => rfl)
  have V : ov hs (36 + 2 * l) (rw_ (sy l z a b c hs) (36 + 2 * l)) (ci (sy l z a b c hs (36 + 2 * l) 1)) = of_ (sy l z a b c hs) (36 + 2 * l) := ov_cong RDA (by omega) (by omega) (fun t ht => ⟨by have := (r4 t ht).1; omega, rfl⟩)
  have C : f_8_say (nI l) (nI z) a b c h = some (of_ (sy l z a b c hs) (36 + 2 * l), hc) := by
    rw [← V]
    exact C0.trans b2
  have e : hc 115 = h 115 := (b1 115 (by decide)).trans (f1 115 (by omega) (by omega))
  have pB : PF (sy l z a b c hs) (sy l z a b c hc) := pf8 (fun q hq => by
    by_cases k : q = 115
    · subst k
      funext j
      rw [sy_5, sy_5, b1 115 (by decide)]
    · rw [sy_n k, sy_n k, b1 q hq])
  obtain ⟨h2, d1, d2⟩ := offOf_m (pB.inv xA) (l := l) (by rw [pB.L]; exact hlA)
  rw [of_cong xA pB.rd hlA] at d1
  exact ⟨_, hc, h2, C, (sy_m (show l < 6 by omega) a b c hc (q hc e) z hz (fun w => (sa w).1 hc e) (fun w => (sb w).1 hc e) (fun w => (sc w).1 hc e)).trans d1, d2.ai (pB.ai A)⟩
end
