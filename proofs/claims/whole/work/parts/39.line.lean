/-! a new line -/
section
variable {h h2 : Hp}
theorem ai_newline {L : Nat} (X : AI h) (hL : h 1 11 = nI L) (L6 : L < 6) (e1 : h2 1 = upd (h 1) 11 (nI (L + 1))) (f : ∀ q, q ≠ 1 → q ≠ 36 + 2 * L → q ≠ 115 → h2 q = h q) (d1 : h2 115 1 = nI (L + 1)) (d : ∀ k, k ≠ 1 → (k < 154 + 9 * L ∨ 163 + 9 * L ≤ k) → h2 115 k = h 115 k) (N : LN h2 (36 + 2 * L) (h2 115) (154 + 9 * L) (ci (h 1 10))) : AI h2 := by
  have x := X.1
  refine ai_w X (f 0 (by omega) (by omega) (by decide)) (fun q q1 q2 => f q (by omega) (by omega) q2) ?_
  obtain ⟨x1, ⟨a1, a2, a3, a4⟩, x3, x4, x5⟩ := x.1
  have e10 : h2 1 10 = h 1 10 := by rw [e1, upd_n _ _ (by decide)]
  refine ⟨?_, ⟨fun k hk => ?_, fun k hk => ?_, fun k hk => ?_, fun k hk => ?_⟩, fun j hj => ?_, fun i hi => ?_, ?_, ?_⟩
  · obtain ⟨y1, y2, y3, y4, y5, y6, y7⟩ := x1
    unfold gS
    rw [e1, d 0 (by decide) (by omega), d1, d 2 (by decide) (by omega), d 3 (by decide) (by omega), d 4 (by decide) (by omega), d 5 (by decide) (by omega), d 6 (by decide) (by omega)]
    exact ⟨y1, ⟨⟨L + 1, by omega, rfl⟩, rfl⟩, y3, y4, y5, y6, y7⟩
  · rw [d _ (by omega) (by omega), f 2 (by omega) (by omega) (by decide)]; exact a1 k hk
  · rw [d _ (by omega) (by omega), f 12 (by omega) (by omega) (by decide)]; exact a2 k hk
  · rw [d _ (by omega) (by omega), f 13 (by omega) (by omega) (by decide)]; exact a3 k hk
  · rw [d _ (by omega) (by omega), f 5 (by omega) (by omega) (by decide)]; exact a4 k hk
  · rw [e10] at hj
    have w := x.W.2
    exact ((x3 j hj).fr (h1 := h2) (f _ (by omega) (by omega) (by omega)) (f _ (by omega) (by omega) (by omega))).frD (fun k hk => d _ (by omega) (by omega))
  · rw [e10]
    have hi : i < L + 1 := by
      rw [e1, upd_s, ci_nI (by omega)] at hi
      exact hi
    by_cases c : i = L
    · subst c
      rw [show 1 + 35 + 2 * i = 36 + 2 * i by omega]
      exact N
    · exact ((x4 i (by rw [hL, ci_nI (by omega)]; omega)).fr (h1 := h2) (f _ (by omega) (by omega) (by omega)) (f _ (by omega) (by omega) (by omega))).frD (fun k hk => d _ (by omega) (by omega)) (Nat.le_refl _)
  · exact (x5.1.fr (h1 := h2) (f _ (by omega) (by omega) (by omega)) (f _ (by omega) (by omega) (by omega))).frD (d _ (by omega) (by omega)) (fun i hi => d _ (by omega) (by omega))
  · exact (x5.2.fr (h1 := h2) (f _ (by omega) (by omega) (by omega)) (f _ (by omega) (by omega) (by omega))).frD (d _ (by omega) (by omega)) (fun i hi => d _ (by omega) (by omega))
theorem al_line (X : AI h) (a b c : Int32) : Al (f_8_line a b c) (f_9_line a b c) h := by
  have x := X.1
  have ea := in_w a (A := 0) (B := 69) 0 69 (by decide) (by decide)
  have eb := in_w b (A := 0) (B := 59) 0 59 (by decide) (by decide)
  have ec := in_w c (A := 1) (B := 15) 1 15 (by decide) (by decide)
  rcases wiC a (A := 0) (B := 69) 0 69 (by decide) (by decide) (by decide) with ⟨wa, _⟩ | ⟨wa, v, _, v9, rfl⟩
  · refine Al.er X (k := 1) (by decide) (by decide) ?_ (fun h1 f => ?_)
    · unfold f_8_line f_8_isKindAndNumber
      rw [wa, if_pos rfl, b2_id]; rfl
    · unfold f_9_line
      rw [ea, wa, if_pos rfl, b2_id]; rfl
  rcases wiC b (A := 0) (B := 59) 0 59 (by decide) (by decide) (by decide) with ⟨wb, _⟩ | ⟨wb, s, _, s9, rfl⟩
  · refine Al.er X (k := 1) (by decide) (by decide) ?_ (fun h1 f => ?_)
    · unfold f_8_line f_8_isKindAndNumber
      rw [wa, if_neg (by decide), wb, if_pos rfl, b2_id]; rfl
    · unfold f_9_line
      rw [ea, wa, if_neg (by decide), eb, wb, if_pos rfl, b2_id]; rfl
  have e60 : imin 15 (60 - nI s) = nI (min 15 (60 - s)) := by
    rw [lit_nI 60, pk_sub (by omega)]
    unfold imin
    by_cases q : 60 - s < 15
    · have q1 : nI (60 - s) < (15 : Int32) := nI_lt (b := 15) q (by decide)
      rw [if_pos q1, Nat.min_eq_right (by omega)]
    · have q1 : ¬ nI (60 - s) < (15 : Int32) := fun z => q ((nI_ltI (b := 15) (by omega) (by decide)).mp z)
      rw [if_neg q1, Nat.min_eq_left (by omega)]
      rfl
  have C0 : f_8_line (nI v) (nI s) c h = if f_8_within c 1 (nI (min 15 (60 - s))) = 0 then f_8_error 1 h else (if (h 1 11) < 6 then (gd (inb (h 1 11) 6) (bnd (f_0_begin (36 + 2 * (ci (h 1 11))) (nI v) (nI s) c h) (fun h16 => hlet (u2 h16 1 11 ((h16 1 11) + 1)) (fun h17 => some ((h17 1 11) - 1, h17))))) else f_8_error 4 h) := by
    unfold f_8_line f_8_isKindAndNumber
    rw [wa, if_neg (by decide), wb, if_neg (by decide), e60, b2_id, b2_id]
  rcases wiC c (A := 1) (B := nI (min 15 (60 - s))) 1 (min 15 (60 - s)) (by decide) (by rw [nI_toInt (by omega)]) (by omega) with ⟨wc, nc⟩ | ⟨wc, n, n1, n2, rfl⟩
  · refine Al.er X (k := 1) (by decide) (by decide) ?_ (fun h1 f => ?_)
    · rw [C0, wc, if_pos rfl]; rfl
    · unfold f_9_line
      rw [ea, wa, if_neg (by decide), eb, wb, if_neg (by decide), ec]
      rcases wiC c (A := 1) (B := 15) 1 15 (by decide) (by decide) (by decide) with ⟨w2, _⟩ | ⟨w2, n, n1, n2, rfl⟩
      · rw [w2, if_pos rfl, b2_id]; rfl
      · have c2 : ¬ nI s + nI n ≤ 60 := by
          rw [nI_add]
          refine nI_ge (a := 60) ?_ (by omega)
          rcases Nat.lt_or_ge 60 (s + n) with q | q
          · exact q
          · exact absurd rfl (nc n n1 (by omega))
        rw [w2, if_neg (by decide), if_neg c2, b2_id]; rfl
  have ec2 : f_8_within (nI n) 1 15 = 1 := by
    rcases wiC (nI n) (A := 1) (B := 15) 1 15 (by decide) (by decide) (by decide) with ⟨_, q⟩ | ⟨q, _⟩
    · exact absurd rfl (q n n1 (by omega))
    · exact q
  have c60 : nI s + nI n ≤ (60 : Int32) := by rw [nI_add]; exact nI_le (b := 60) (by omega) (by decide)
  obtain ⟨L1, L2⟩ := x.L
  have D1 : h 115 1 = h 1 11 := x.1.1.2.1.2
  generalize hL : ci (h 1 11) = L at L1 L2
  by_cases q6 : L = 6
  · subst q6
    refine Al.er X (k := 4) (by decide) (by decide) ?_ (fun h1 f => ?_)
    · rw [C0, wc, if_neg (by decide), L1, if_neg (by decide)]; rfl
    · unfold f_9_line
      rw [ea, wa, if_neg (by decide), eb, wb, if_neg (by decide), ec, ec2, if_neg (by decide), if_pos c60, f 115 (by decide), D1, L1, if_pos (show nI 6 = 6 from rfl), b2_id]; rfl
  have L6 : L < 6 := by omega
  obtain ⟨v1, v2⟩ := div10 v9
  have lt6 : nI L < (6 : Int32) := nI_lt (b := 6) L6 (by decide)
  let P := 36 + 2 * L
  let hc : Hp := u2 (u2 (u2 (u2 (u2 (u2 h P 2 (nI (v / 10))) P 3 (nI (v % 10))) P 4 (nI s)) P 5 (nI n)) P 6 0) P 1 0
  have k1 : ∀ q, q ≠ P → hc q = h q := fun q hq => by
    show u2 _ P 1 0 q = _
    rw [u2_p _ _ hq, u2_p _ _ hq, u2_p _ _ hq, u2_p _ _ hq, u2_p _ _ hq, u2_p _ _ hq]
  have kP : hc P 2 = nI (v / 10) ∧ hc P 3 = nI (v % 10) ∧ hc P 4 = nI s ∧ hc P 5 = nI n ∧ hc P 6 = nI 0 ∧ hc P 1 = nI 0 := by
    refine ⟨?_, ?_, ?_, ?_, ?_, ?_⟩
    · show u2 _ P 1 0 P 2 = _
      rw [u2_k _ _ (by decide), u2_k _ _ (by decide), u2_k _ _ (by decide), u2_k _ _ (by decide), u2_k _ _ (by decide), u2_s]
    · show u2 _ P 1 0 P 3 = _
      rw [u2_k _ _ (by decide), u2_k _ _ (by decide), u2_k _ _ (by decide), u2_k _ _ (by decide), u2_s]
    · show u2 _ P 1 0 P 4 = _
      rw [u2_k _ _ (by decide), u2_k _ _ (by decide), u2_k _ _ (by decide), u2_s]
    · show u2 _ P 1 0 P 5 = _
      rw [u2_k _ _ (by decide), u2_k _ _ (by decide), u2_s]
    · show u2 _ P 1 0 P 6 = _
      rw [u2_k _ _ (by decide), u2_s]; rfl
    · show u2 _ P 1 0 P 1 = _
      rw [u2_s]; rfl
  have B : f_0_begin P (nI v) (nI s) (nI n) h = some hc := by
    unfold f_0_begin f_0_setKind
    simp only [hl_eq, bnd_s, v1, v2]
    rfl
  have C : f_8_line (nI v) (nI s) (nI n) h = some (nI L, u2 hc 1 11 (nI (L + 1))) := by
    rw [C0, wc, if_neg (by decide), L1, if_pos lt6, gd_s _ (inb_nI L6 (by decide)), ci_nI (by omega)]
    rw [show 36 + 2 * L = P from rfl, B, bnd_s, hl_eq, k1 1 (show 1 ≠ 36 + 2 * L by omega), L1, nI_1, u2_s, lit_nI 1, pk_sub (by omega), Nat.add_sub_cancel]
  clear_value hc
  have k2 : ∀ q, q ≠ 1 → q ≠ 36 + 2 * L → u2 hc 1 11 (nI (L + 1)) q = h q := fun q q1 q2 => by rw [u2_p _ _ q1, k1 q q2]
  have k3 : u2 hc 1 11 (nI (L + 1)) 1 = upd (h 1) 11 (nI (L + 1)) := by rw [u2_row, k1 1 (show 1 ≠ 36 + 2 * L by omega)]
  have k4 : u2 hc 1 11 (nI (L + 1)) (36 + 2 * L) = hc P := u2_p _ _ (by omega)
  generalize u2 hc 1 11 (nI (L + 1)) = h1 at C k2 k3 k4
  have e115 : h1 115 = h 115 := k2 115 (by decide) (by omega)
  let S : Nat → Nat → Int32 → Hp → Hp := fun l k v g => u2 g 115 (154 + 9 * l + k) v
  have st : ∀ (k : Nat) (v : Int32) (g : Hp), k < 9 → f_9_sets (nI L) (nI k) v g = some (S L k v g) := fun k v g hk => sets_m L6 hk v
  let hm : Hp := S L 5 0 (S L 4 0 (S L 3 (nI n) (S L 2 (nI s) (S L 1 (nI (v % 10)) (S L 0 (nI (v / 10)) (u2 h1 115 1 (nI (L + 1))))))))
  have M : f_9_line (nI v) (nI s) (nI n) h1 = some (nI L, hm) := by
    have t0 := fun v g => st 0 v g (by decide)
    have t1 := fun v g => st 1 v g (by decide)
    have t2 := fun v g => st 2 v g (by decide)
    have t3 := fun v g => st 3 v g (by decide)
    have t4 := fun v g => st 4 v g (by decide)
    have t5 := fun v g => st 5 v g (by decide)
    have n6 : ¬ nI L = (6 : Int32) := fun q => q6 ((nI_eq (a := L) (b := 6) (by omega) (by decide)).mp q)
    unfold f_9_line
    rw [ea, wa, if_neg (by decide), eb, wb, if_neg (by decide), ec, ec2, if_neg (by decide), if_pos c60, e115, D1, L1, if_neg n6, hl_eq, nI_1, v1, v2]
    change bnd (f_9_sets (nI L) (nI 0) (nI (v / 10)) _) _ = _
    rw [t0, bnd_s]
    change bnd (f_9_sets (nI L) (nI 1) (nI (v % 10)) _) _ = _
    rw [t1, bnd_s]
    change bnd (f_9_sets (nI L) (nI 2) (nI s) _) _ = _
    rw [t2, bnd_s]
    change bnd (f_9_sets (nI L) (nI 3) (nI n) _) _ = _
    rw [t3, bnd_s]
    change bnd (f_9_sets (nI L) (nI 4) 0 _) _ = _
    rw [t4, bnd_s]
    change bnd (f_9_sets (nI L) (nI 5) 0 _) _ = _
    rw [t5, bnd_s]
  refine ⟨nI L, h1, hm, C, M, ?_⟩
  have m1 : ∀ q, q ≠ 115 → hm q = h1 q := fun q hq => by
    show u2 _ 115 _ _ q = _
    rw [u2_p _ _ hq]
    show u2 _ 115 _ _ q = _
    rw [u2_p _ _ hq]
    show u2 _ 115 _ _ q = _
    rw [u2_p _ _ hq]
    show u2 _ 115 _ _ q = _
    rw [u2_p _ _ hq]
    show u2 _ 115 _ _ q = _
    rw [u2_p _ _ hq]
    show u2 _ 115 _ _ q = _
    rw [u2_p _ _ hq, u2_p _ _ hq]
  have SS : ∀ (k j : Nat) (v : Int32) (g : Hp), S L k v g 115 j = if j = 154 + 9 * L + k then v else g 115 j := fun k j v g => by
    show u2 g 115 _ v 115 j = _
    by_cases q : j = 154 + 9 * L + k
    · rw [if_pos q, q, u2_s]
    · rw [if_neg q, u2_k _ _ q]
  have HM : ∀ j, hm 115 j = if j = 154 + 9 * L + 5 then 0 else if j = 154 + 9 * L + 4 then 0 else if j = 154 + 9 * L + 3 then nI n else if j = 154 + 9 * L + 2 then nI s else if j = 154 + 9 * L + 1 then nI (v % 10) else if j = 154 + 9 * L + 0 then nI (v / 10) else if j = 1 then nI (L + 1) else h 115 j := fun j => by
    show S L 5 0 _ 115 j = _
    rw [SS, SS, SS, SS, SS, SS, u2_row, e115]
    rfl
  clear_value hm
  refine ai_newline X L1 L6 (by rw [m1 1 (by decide), k3]) (fun q q1 q2 q3 => by rw [m1 q q3, k2 q q1 q2]) ?_ (fun k k1 k2 => ?_) ?_
  · rw [HM, if_neg (by omega), if_neg (by omega), if_neg (by omega), if_neg (by omega), if_neg (by omega), if_neg (by omega), if_pos rfl]
  · rw [HM, if_neg (by omega), if_neg (by omega), if_neg (by omega), if_neg (by omega), if_neg (by omega), if_neg (by omega), if_neg k1]
  · obtain ⟨p2, p3, p4, p5, p6, p1⟩ := kP
    refine ⟨v / 10, v % 10, s, n, 0, 0, ⟨by omega, by omega, by omega, by omega, by omega, by omega, by omega⟩, ?_⟩
    rw [m1 (36 + 2 * L) (by omega), k4, HM, HM, HM, HM, HM, HM]
    refine ⟨⟨p2, ?_⟩, ⟨p3, ?_⟩, ⟨p4, ?_⟩, ⟨p5, ?_⟩, ⟨p6, ?_⟩, ⟨p1, ?_⟩, fun i hi => absurd hi (Nat.not_lt_zero i)⟩
    · rw [if_neg (by omega), if_neg (by omega), if_neg (by omega), if_neg (by omega), if_neg (by omega), if_pos (show 154 + 9 * L = 154 + 9 * L + 0 from rfl)]
    · rw [if_neg (by omega), if_neg (by omega), if_neg (by omega), if_neg (by omega), if_pos rfl]
    · rw [if_neg (by omega), if_neg (by omega), if_neg (by omega), if_pos rfl]
    · rw [if_neg (by omega), if_neg (by omega), if_pos rfl]
    · rw [if_neg (by omega), if_pos rfl]; rfl
    · rw [if_pos rfl]; rfl
end
