/-! lines that change -/
section
variable {h h2 : Hp}
/-- one line may change -/
theorem ai_line {l : Nat} (X : AI h) (hl : l < ci (h 1 11)) (f : ∀ q, q ≠ 36 + 2 * l → q ≠ 37 + 2 * l → q ≠ 115 → h2 q = h q) (d : ∀ k, (k < 154 + 9 * l ∨ 163 + 9 * l ≤ k) → h2 115 k = h 115 k) (N : LN h2 (36 + 2 * l) (h2 115) (154 + 9 * l) (ci (h 1 10))) : AI h2 := by
  have x := X.1
  have l6 := x.L.2
  refine ai_w X (f 0 (by omega) (by omega) (by decide)) (fun q q1 q2 => f q (by omega) (by omega) q2) ?_
  obtain ⟨x1, ⟨a1, a2, a3, a4⟩, x3, x4, x5⟩ := x.1
  have e1 : h2 1 = h 1 := f 1 (by omega) (by omega) (by decide)
  refine ⟨gS_cg e1 (fun k hk => d k (by omega)) x1, ⟨fun k hk => ?_, fun k hk => ?_, fun k hk => ?_, fun k hk => ?_⟩, fun j hj => ?_, fun i hi => ?_, ?_, ?_⟩
  · rw [d _ (by omega), f 2 (by omega) (by omega) (by decide)]; exact a1 k hk
  · rw [d _ (by omega), f 12 (by omega) (by omega) (by decide)]; exact a2 k hk
  · rw [d _ (by omega), f 13 (by omega) (by omega) (by decide)]; exact a3 k hk
  · rw [d _ (by omega), f 5 (by omega) (by omega) (by decide)]; exact a4 k hk
  · rw [e1] at hj
    have w := x.W.2
    exact ((x3 j hj).fr (h1 := h2) (f _ (by omega) (by omega) (by omega)) (f _ (by omega) (by omega) (by omega))).frD (fun k hk => d _ (by omega))
  · rw [e1] at hi ⊢
    by_cases c : i = l
    · subst c
      rw [show 1 + 35 + 2 * i = 36 + 2 * i by omega]
      exact N
    · exact ((x4 i hi).fr (h1 := h2) (f _ (by omega) (by omega) (by omega)) (f _ (by omega) (by omega) (by omega))).frD (fun k hk => d _ (by omega)) (Nat.le_refl _)
  · exact (x5.1.fr (h1 := h2) (f _ (by omega) (by omega) (by omega)) (f _ (by omega) (by omega) (by omega))).frD (d _ (by omega)) (fun i hi => d _ (by omega))
  · exact (x5.2.fr (h1 := h2) (f _ (by omega) (by omega) (by omega)) (f _ (by omega) (by omega) (by omega))).frD (d _ (by omega)) (fun i hi => d _ (by omega))
theorem sets_m {l k : Nat} (hl : l < 6) (hk : k < 9) (v : Int32) : f_9_sets (nI l) (nI k) v h = some (u2 h 115 (154 + 9 * l + k) v) := by
  unfold f_9_sets
  rw [nI_addl, gd_s _ (inb_nI (by omega) (by decide)), hl_eq, ci_nI (by omega)]
theorem al_wanted (X : AI h) (a b : Int32) : Al (f_8_wanted a b) (f_9_wanted a b) h := by
  have x := X.1
  have e9 := in_w b (A := 0) (B := 99) 0 99 (by decide) (by decide)
  rcases isLine_k x a with ⟨r, q⟩ | ⟨r, q, l, hl, rfl⟩
  · refine Al.er X (k := 1) (by decide) (by decide) ?_ (fun h1 f => ?_)
    · unfold f_8_wanted
      rw [r, if_pos rfl, b2_id]; rfl
    · unfold f_9_wanted
      rw [q h1 (f 115 (by decide)), bnd_s, if_pos rfl, b2_id]; rfl
  rcases wiC b (A := 0) (B := 99) 0 99 (by decide) (by decide) (by decide) with ⟨w, _⟩ | ⟨w, v, _, v9, rfl⟩
  · refine Al.er X (k := 1) (by decide) (by decide) ?_ (fun h1 f => ?_)
    · unfold f_8_wanted
      rw [r, if_neg (by decide), w, if_pos rfl, b2_id]; rfl
    · unfold f_9_wanted
      rw [q h1 (f 115 (by decide)), bnd_s, if_neg (by decide), e9, w, if_pos rfl, b2_id]; rfl
  have l6 := x.L.2
  have gl : inb (nI l) 6 = true := inb_nI (by omega) (by decide)
  have D5 : h 115 (154 + 9 * l + 4) = h (36 + 2 * l) 6 := x.D5 l hl 4 (by decide)
  refine ⟨h (36 + 2 * l) 6, u2 h (36 + 2 * l) 6 (nI v), u2 (u2 h (36 + 2 * l) 6 (nI v)) 115 (154 + 9 * l + 4) (nI v), ?_, ?_, ?_⟩
  · unfold f_8_wanted
    rw [r, if_neg (by decide), w, if_neg (by decide), gd_s _ gl, gd_s _ gl, hl_eq, ci_nI (by omega)]
  · have e0 : u2 h (36 + 2 * l) 6 (nI v) 115 = h 115 := u2_p _ _ (by omega)
    have q1 : f_9_of (nI l) 4 (u2 h (36 + 2 * l) 6 (nI v)) = _ := of_m (k := 4) (by omega) (by decide)
    have q2 : f_9_sets (nI l) 4 (nI v) (u2 h (36 + 2 * l) 6 (nI v)) = _ := sets_m (k := 4) (by omega) (by decide) (nI v)
    unfold f_9_wanted
    rw [q _ e0, bnd_s, if_neg (by decide), e9, w, if_neg (by decide), q1, bnd_s, q2, bnd_s, e0, D5]
  · have e5 : u2 (u2 h (36 + 2 * l) 6 (nI v)) 115 (154 + 9 * l + 4) (nI v) 115 = upd (h 115) (154 + 9 * l + 4) (nI v) := by rw [u2_row, u2_p _ _ (by omega)]
    refine ai_line X hl (fun q q1 q2 q3 => by rw [u2_p _ _ q3, u2_p _ _ q1]) (fun k hk => by rw [e5, upd_n _ _ (by omega)]) ?_
    obtain ⟨K, m, b, n, z, w', ⟨A1, A2, A3, A4, A5, A6, A7⟩, ⟨c1, c1'⟩, ⟨c2, c2'⟩, ⟨c3, c3'⟩, ⟨c4, c4'⟩, ⟨c5, c5'⟩, ⟨c6, c6'⟩, c7⟩ := x.line hl
    rw [e5]
    have ep : u2 (u2 h (36 + 2 * l) 6 (nI v)) 115 (154 + 9 * l + 4) (nI v) (36 + 2 * l) = upd (h (36 + 2 * l)) 6 (nI v) := by rw [u2_p _ _ (by omega), u2_row]
    have ep1 : u2 (u2 h (36 + 2 * l) 6 (nI v)) 115 (154 + 9 * l + 4) (nI v) (36 + 2 * l + 1) = h (36 + 2 * l + 1) := by rw [u2_p _ _ (by omega), u2_p _ _ (by omega)]
    refine ⟨K, m, b, n, z, v, ⟨A1, A2, A3, A4, A5, A6, v9⟩, ?_⟩
    rw [ep, ep1]
    refine ⟨⟨c1, ?_⟩, ⟨c2, ?_⟩, ⟨c3, ?_⟩, ⟨c4, ?_⟩, ⟨rfl, upd_s _ _ _⟩, ⟨c6, ?_⟩, fun i hi => ?_⟩
    · rw [upd_n _ _ (by omega)]; exact c1'
    · rw [upd_n _ _ (by omega)]; exact c2'
    · rw [upd_n _ _ (by omega)]; exact c3'
    · rw [upd_n _ _ (by omega)]; exact c4'
    · rw [upd_n _ _ (by omega)]; exact c6'
    · obtain ⟨j, j1, j2, j3⟩ := c7 i hi
      exact ⟨j, j1, j2, by rw [upd_n _ _ (by omega)]; exact j3⟩
theorem div10 {v : Nat} (hv : v ≤ 69) : nI v / 10 = nI (v / 10) ∧ irm (nI v) 10 = nI (v % 10) := by
  refine ⟨?_, rem_nI (by omega) (by decide) (by decide)⟩
  have : ∀ v : Fin 70, nI v.val / 10 = nI (v.val / 10) := by decide
  exact this ⟨v, by omega⟩
theorem al_become (X : AI h) (a b : Int32) : Al (f_8_become a b) (f_9_become a b) h := by
  have x := X.1
  have e9 := in_w b (A := 0) (B := 69) 0 69 (by decide) (by decide)
  rcases isLine_k x a with ⟨r, q⟩ | ⟨r, q, l, hl, rfl⟩
  · refine Al.er X (k := 1) (by decide) (by decide) ?_ (fun h1 f => ?_)
    · unfold f_8_become
      rw [r, if_pos rfl, b2_id]; rfl
    · unfold f_9_become
      rw [q h1 (f 115 (by decide)), bnd_s, if_pos rfl, b2_id]; rfl
  rcases wiC b (A := 0) (B := 69) 0 69 (by decide) (by decide) (by decide) with ⟨w, _⟩ | ⟨w, v, _, v9, rfl⟩
  · refine Al.er X (k := 1) (by decide) (by decide) ?_ (fun h1 f => ?_)
    · unfold f_8_become f_8_isKindAndNumber
      rw [r, if_neg (by decide), w, if_pos rfl, b2_id]; rfl
    · unfold f_9_become
      rw [q h1 (f 115 (by decide)), bnd_s, if_neg (by decide), e9, w, if_pos rfl, b2_id]; rfl
  have l6 := x.L.2
  have gl : inb (nI l) 6 = true := inb_nI (by omega) (by decide)
  have D0 : h 115 (154 + 9 * l + 0) = h (36 + 2 * l) 2 := x.D5 l hl 0 (by decide)
  obtain ⟨v1, v2⟩ := div10 v9
  have ec : ∀ q, q ≠ 36 + 2 * l → u2 (u2 h (36 + 2 * l) 2 (nI (v / 10))) (36 + 2 * l) 3 (nI (v % 10)) q = h q := fun q hq => by rw [u2_p _ _ hq, u2_p _ _ hq]
  have ep : u2 (u2 h (36 + 2 * l) 2 (nI (v / 10))) (36 + 2 * l) 3 (nI (v % 10)) (36 + 2 * l) = upd (upd (h (36 + 2 * l)) 2 (nI (v / 10))) 3 (nI (v % 10)) := by rw [u2_row, u2_row]
  have C : f_8_become (nI l) (nI v) h = some (h (36 + 2 * l) 2, u2 (u2 h (36 + 2 * l) 2 (nI (v / 10))) (36 + 2 * l) 3 (nI (v % 10))) := by
    unfold f_8_become f_8_isKindAndNumber f_0_setKind
    rw [r, if_neg (by decide), w, if_neg (by decide), gd_s _ gl, gd_s _ gl, ci_nI (by omega), hl_eq, hl_eq, bnd_s, v1, v2]
  generalize u2 (u2 h (36 + 2 * l) 2 (nI (v / 10))) (36 + 2 * l) 3 (nI (v % 10)) = h1 at ec ep C
  have e0 : h1 115 = h 115 := ec 115 (by omega)
  refine ⟨_, h1, u2 (u2 h1 115 (154 + 9 * l + 0) (nI (v / 10))) 115 (154 + 9 * l + 1) (nI (v % 10)), C, ?_, ?_⟩
  · have q1 : f_9_of (nI l) 0 h1 = _ := of_m (k := 0) (by omega) (by decide)
    have q2 : f_9_sets (nI l) 0 (nI (v / 10)) h1 = _ := sets_m (k := 0) (by omega) (by decide) _
    have q3 : f_9_sets (nI l) 1 (nI (v % 10)) (u2 h1 115 (154 + 9 * l + 0) (nI (v / 10))) = _ := sets_m (k := 1) (by omega) (by decide) _
    unfold f_9_become
    rw [q _ e0, bnd_s, if_neg (by decide), e9, w, if_neg (by decide), q1, bnd_s, v1, v2, q2, bnd_s, q3, bnd_s, e0, D0]
  · have e5 : u2 (u2 h1 115 (154 + 9 * l + 0) (nI (v / 10))) 115 (154 + 9 * l + 1) (nI (v % 10)) 115 = upd (upd (h 115) (154 + 9 * l + 0) (nI (v / 10))) (154 + 9 * l + 1) (nI (v % 10)) := by rw [u2_row, u2_row, e0]
    have f5 : ∀ q, q ≠ 115 → u2 (u2 h1 115 (154 + 9 * l + 0) (nI (v / 10))) 115 (154 + 9 * l + 1) (nI (v % 10)) q = h1 q := fun q hq => by rw [u2_p _ _ hq, u2_p _ _ hq]
    refine ai_line X hl (fun q q1 q2 q3 => by rw [f5 q q3, ec q q1]) (fun k hk => by rw [e5, upd_n _ _ (by omega), upd_n _ _ (by omega)]) ?_
    obtain ⟨K, m, b, n, z, w', ⟨A1, A2, A3, A4, A5, A6, A7⟩, ⟨c1, c1'⟩, ⟨c2, c2'⟩, ⟨c3, c3'⟩, ⟨c4, c4'⟩, ⟨c5, c5'⟩, ⟨c6, c6'⟩, c7⟩ := x.line hl
    rw [e5]
    refine ⟨v / 10, v % 10, b, n, z, w', ⟨by omega, by omega, A3, A4, A5, A6, A7⟩, ?_⟩
    rw [f5 _ (by omega), f5 _ (by omega), ep, ec (36 + 2 * l + 1) (by omega)]
    refine ⟨⟨rfl, ?_⟩, ⟨rfl, upd_s _ _ _⟩, ⟨c3, ?_⟩, ⟨c4, ?_⟩, ⟨c5, ?_⟩, ⟨c6, ?_⟩, fun i hi => ?_⟩
    · rw [upd_n _ _ (by omega)]; exact upd_s _ _ _
    · rw [upd_n _ _ (by omega), upd_n _ _ (by omega)]; exact c3'
    · rw [upd_n _ _ (by omega), upd_n _ _ (by omega)]; exact c4'
    · rw [upd_n _ _ (by omega), upd_n _ _ (by omega)]; exact c5'
    · rw [upd_n _ _ (by omega), upd_n _ _ (by omega)]; exact c6'
    · obtain ⟨j, j1, j2, j3⟩ := c7 i hi
      exact ⟨j, j1, j2, by rw [upd_n _ _ (by omega), upd_n _ _ (by omega)]; exact j3⟩
theorem al_said (X : AI h) (a b : Int32) : Al (f_8_said a b) (f_9_said a b) h := by
  have x := X.1
  have e9 := in_w b (A := 0) (B := 2) 0 2 (by decide) (by decide)
  rcases isLine_k x a with ⟨r, q⟩ | ⟨r, q, l, hl, rfl⟩
  · refine Al.er X (k := 1) (by decide) (by decide) ?_ (fun h1 f => ?_)
    · unfold f_8_said
      rw [r, if_pos rfl, b2_id]; rfl
    · unfold f_9_said
      rw [q h1 (f 115 (by decide)), bnd_s, if_pos rfl, b2_id]; rfl
  rcases wiC b (A := 0) (B := 2) 0 2 (by decide) (by decide) (by decide) with ⟨w, _⟩ | ⟨w, v, _, v9, rfl⟩
  · refine Al.er X (k := 1) (by decide) (by decide) ?_ (fun h1 f => ?_)
    · unfold f_8_said
      rw [r, if_neg (by decide), w, if_pos rfl, b2_id]; rfl
    · unfold f_9_said
      rw [q h1 (f 115 (by decide)), bnd_s, if_neg (by decide), e9, w, if_pos rfl, b2_id]; rfl
  have l6 := x.L.2
  have gl : inb (nI l) 6 = true := inb_nI (by omega) (by decide)
  obtain ⟨r1, r2, r3, r4⟩ := x.row hl
  have q5 : ∀ h1 : Hp, h1 115 = h 115 → f_9_of (nI l) 5 h1 = some (h (36 + 2 * l) 1) := fun h1 f => by
    have q := of_m (h := h1) (l := l) (k := 5) (by omega) (by decide)
    rw [f, show 154 + 9 * l + 5 = 159 + 9 * l by omega, r3] at q
    exact q
  by_cases c : h (36 + 2 * l) 1 ≤ nI v
  · refine Al.er X (k := 2) (by decide) (by decide) ?_ (fun h1 f => ?_)
    · unfold f_8_said
      rw [r, if_neg (by decide), w, if_neg (by decide), gd_s _ gl, ci_nI (by omega), if_pos c, b2_id]; rfl
    · unfold f_9_said
      rw [q h1 (f 115 (by decide)), bnd_s, if_neg (by decide), e9, w, if_neg (by decide), q5 h1 (f 115 (by decide)), bnd_s, if_pos c, b2_id]; rfl
  · have vz : v < ci (h (36 + 2 * l) 1) := by
      rcases Nat.lt_or_ge v (ci (h (36 + 2 * l) 1)) with q | q
      · exact q
      · exact absurd (by rw [r1]; exact nI_le q (by omega)) c
    obtain ⟨t1, t2, t3⟩ := r4 v vz
    refine ⟨nI (rw_ h (36 + 2 * l) v), h, h, ?_, ?_, X⟩
    · unfold f_8_said
      rw [r, if_neg (by decide), w, if_neg (by decide), gd_s _ gl, ci_nI (by omega), if_neg c, gd_s _ (inb_nI (show v < 3 by omega) (by decide)), ci_nI (by omega), show 36 + 2 * l + 1 = 37 + 2 * l by omega, t2]
    · have q6 : f_9_of (nI l) (6 + nI v) h = some (nI (rw_ h (36 + 2 * l) v)) := by
        rw [lit_nI 6, nI_add, of_m (by omega) (by omega), show 154 + 9 * l + (6 + v) = 160 + 9 * l + v by omega, t3]
      unfold f_9_said
      rw [q h rfl, bnd_s, if_neg (by decide), e9, w, if_neg (by decide), q5 h rfl, bnd_s, if_neg c, q6, bnd_s]
end
