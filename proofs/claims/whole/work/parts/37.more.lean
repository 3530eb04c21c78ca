/-! as, told, trace, ofWord, tell, check -/
section
variable {h h2 : Hp}
theorem under4_h (b : Int32) (h h' : Hp) : ∀ (n : Nat) (x y : Int32), f_8_isUnder_4 b h n x y = f_8_isUnder_4 b h' n x y
  | 0, _, _ => rfl
  | n + 1, x, y => by
    rw [f_8_isUnder_4, f_8_isUnder_4]
    have e : f_8_kindAbove x h = f_8_kindAbove x h' := rfl
    rw [e]
    by_cases c1 : 6 < y
    · rw [if_pos c1, if_pos c1]
    · rw [if_neg c1, if_neg c1]
      by_cases c2 : x < 0
      · rw [if_pos c2, if_pos c2]
      · rw [if_neg c2, if_neg c2]
        by_cases c3 : x = b
        · rw [if_pos c3, if_pos c3]
        · rw [if_neg c3, if_neg c3]
          cases f_8_kindAbove x h' with
          | none => rfl
          | some r => exact under4_h b h h' n r (y + 1)
theorem under_t : ∀ K : Fin 7, ∀ b : Fin 7, f_8_isUnder (nI K.val) (nI b.val) (fun _ _ => 0) = some (if nI b.val = 0 then 1 else if nI b.val = nI K.val then 1 else if nI b.val = f_9_above (nI K.val) then 1 else 0) := by decide +kernel
theorem under_e {K b : Nat} (hK : K ≤ 6) (hb : b ≤ 6) : f_8_isUnder (nI K) (nI b) h = some (if nI b = 0 then 1 else if nI b = nI K then 1 else if nI b = f_9_above (nI K) then 1 else 0) := by
  have q := under_t ⟨K, by omega⟩ ⟨b, by omega⟩
  rw [← q]
  exact under4_h _ _ _ _ _ _
theorem al_as (X : AI h) (a b : Int32) : Al (f_8_as a b) (f_9_as a b) h := by
  have x := X.1
  have e9 := in_w b (A := 0) (B := 6) 0 6 (by decide) (by decide)
  rcases isLine_k x a with ⟨r, q⟩ | ⟨r, q, l, hl, rfl⟩
  · refine Al.er X (k := 1) (by decide) (by decide) ?_ (fun h1 f => ?_)
    · unfold f_8_as
      rw [r, if_pos rfl, b2_id]; rfl
    · unfold f_9_as
      rw [q h1 (f 115 (by decide)), bnd_s, if_pos rfl, b2_id]; rfl
  rcases wiC b (A := 0) (B := 6) 0 6 (by decide) (by decide) (by decide) with ⟨w, _⟩ | ⟨w, v, _, v9, rfl⟩
  · refine Al.er X (k := 1) (by decide) (by decide) ?_ (fun h1 f => ?_)
    · unfold f_8_as
      rw [r, if_neg (by decide), w, if_pos rfl, b2_id]; rfl
    · unfold f_9_as
      rw [q h1 (f 115 (by decide)), bnd_s, if_neg (by decide), e9, w, if_pos rfl, b2_id]; rfl
  have l6 := x.L.2
  have gl : inb (nI l) 6 = true := inb_nI (by omega) (by decide)
  obtain ⟨K, m, _, n, z, w', ⟨A1, _⟩, ⟨c1, c1'⟩, ⟨c2, c2'⟩, _⟩ := x.line hl
  have o0 : ∀ h1 : Hp, h1 115 = h 115 → f_9_of (nI l) 0 h1 = some (nI K) := fun h1 f => by
    have q := of_m (h := h1) (l := l) (k := 0) (by omega) (by decide)
    rw [f, show 154 + 9 * l + 0 = 154 + 9 * l from rfl, c1'] at q
    exact q
  have o1 : ∀ h1 : Hp, h1 115 = h 115 → f_9_of (nI l) 1 h1 = some (nI m) := fun h1 f => by
    have q := of_m (h := h1) (l := l) (k := 1) (by omega) (by decide)
    rw [f, c2'] at q
    exact q
  have u := under_e (h := h) A1 v9
  have C : f_8_as (nI l) (nI v) h = if (if nI v = 0 then (1 : Int32) else if nI v = nI K then 1 else if nI v = f_9_above (nI K) then 1 else 0) = 0 then f_8_error 5 h else some (nI m, h) := by
    unfold f_8_as
    rw [r, if_neg (by decide), w, if_neg (by decide), gd_s _ gl, ci_nI (by omega), c1, u, bnd_s, b2_id, c2]
  have M : ∀ h1 : Hp, h1 115 = h 115 → f_9_as (nI l) (nI v) h1 = if nI v = 0 then some (nI m, h1) else if nI v = nI K then some (nI m, h1) else if nI v = f_9_above (nI K) then some (nI m, h1) else f_9_finds 5 h1 := fun h1 f => by
    unfold f_9_as
    rw [q h1 f, bnd_s, if_neg (by decide), e9, w, if_neg (by decide), o0 h1 f, bnd_s, o1 h1 f]
    simp only [bnd_s]
    rw [b2_id]
  by_cases z1 : nI v = 0
  · exact ⟨nI m, h, h, by rw [C, if_pos z1, if_neg (show ¬ (1 : Int32) = 0 by decide)], by rw [M h rfl, if_pos z1], X⟩
  by_cases z2 : nI v = nI K
  · exact ⟨nI m, h, h, by rw [C, if_neg z1, if_pos z2, if_neg (show ¬ (1 : Int32) = 0 by decide)], by rw [M h rfl, if_neg z1, if_pos z2], X⟩
  by_cases z3 : nI v = f_9_above (nI K)
  · exact ⟨nI m, h, h, by rw [C, if_neg z1, if_neg z2, if_pos z3, if_neg (show ¬ (1 : Int32) = 0 by decide)], by rw [M h rfl, if_neg z1, if_neg z2, if_pos z3], X⟩
  · refine Al.er X (k := 5) (by decide) (by decide) ?_ (fun h1 f => ?_)
    · rw [C, if_neg z1, if_neg z2, if_neg z3, if_pos (show (0 : Int32) = 0 from rfl)]; rfl
    · rw [M h1 (f 115 (by decide)), if_neg z1, if_neg z2, if_neg z3]; rfl
theorem al_told (X : AI h) (a : Int32) : Al (f_8_told a) (f_9_told a) h := by
  have ea := in_w a (A := 1) (B := 5) 1 5 (by decide) (by decide)
  rcases wiC a (A := 1) (B := 5) 1 5 (by decide) (by decide) (by decide) with ⟨wa, _⟩ | ⟨wa, i, i1, i3, rfl⟩
  · refine Al.er X (k := 1) (by decide) (by decide) ?_ (fun h1 f => ?_)
    · unfold f_8_told
      rw [wa, if_pos rfl, b2_id]; rfl
    · unfold f_9_told
      rw [ea, wa, if_pos rfl, b2_id]; rfl
  have g : inb (nI i) 6 = true := inb_nI (by omega) (by decide)
  refine ⟨h 113 i, h, h, ?_, ?_, X⟩
  · unfold f_8_told
    rw [wa, if_neg (by decide), gd_s _ g, ci_nI (by omega)]
  · unfold f_9_told
    rw [ea, wa, if_neg (by decide), gd_s _ g, ci_nI (by omega), X.2 i (by omega)]
theorem al_trace (X : AI h) (a : Int32) : Al (f_8_trace a) (f_9_trace a) h := by
  have x := X.1
  obtain ⟨t1, t2, t3⟩ := x.2.2.2.1
  obtain ⟨s1, s2⟩ := sm_ci t1 (by decide)
  have ea : f_9_in a.toInt64 0 (Int32.toInt64 (h 103 1 - 1)) = f_8_within a 0 (h 103 1 - 1) := in_w a 0 _ (by decide) rfl
  have eb : f_8_within a 0 (h 103 1 - 1) = f_8_within a 0 (nI (ci (h 103 1)) - 1) := by rw [← s1]
  rcases wiM a (n := ci (h 103 1)) (by omega) with ⟨w, _⟩ | ⟨w, k, k1, rfl⟩
  · refine Al.er X (k := 2) (by decide) (by decide) ?_ (fun h1 f => ?_)
    · unfold f_8_trace
      rw [eb, w, if_pos rfl, b2_id]; rfl
    · unfold f_9_trace
      rw [f 114 (by decide), t2, ea, eb, w, if_pos rfl, b2_id]; rfl
  have g : inb (nI k) 40 = true := inb_nI (by omega) (by decide)
  refine ⟨h 104 k, h, h, ?_, ?_, X⟩
  · unfold f_8_trace
    rw [eb, w, if_neg (by decide), gd_s _ g, ci_nI (by omega)]
  · unfold f_9_trace
    rw [t2, ea, eb, w, if_neg (by decide), gd_s _ g, ci_nI (by omega), t3 k k1]
theorem ofWord_l {j N : Nat} {b : Int32} (hj : j < 10) (N5 : N ≤ 5) (hN : h 115 (84 + 7 * j) = nI N) (f : Nat → Int32) (hf : ∀ k, k < N → h 115 (84 + 7 * j + (2 + k)) = f k) : ∀ (d k n : Nat), N = k + d → d < n → f_9_ofWord_31 (nI j) b n (dg f k) (nI k) h = if b = 0 then some (dg f N, h) else if b = 1 then some (nI N, h) else some (h 115 (84 + 7 * j + 1), h)
  | 0, k, n, e1, e2 => by
    obtain ⟨n, rfl⟩ : ∃ z, n = z + 1 := ⟨n - 1, by omega⟩
    have q0 : f_9_its (nI j) 0 h = some (nI N) := by rw [← hN]; exact its_m (k := 0) hj (by decide)
    have q1 : f_9_its (nI j) 1 h = _ := its_m (k := 1) hj (by decide)
    rw [f_9_ofWord_31, q0, q1]
    simp only [bnd_s]
    rw [if_pos (nI_le (by omega) (by omega)), e1]
    rfl
  | d + 1, k, n, e1, e2 => by
    obtain ⟨n, rfl⟩ : ∃ z, n = z + 1 := ⟨n - 1, by omega⟩
    have q0 : f_9_its (nI j) 0 h = some (nI N) := by rw [← hN]; exact its_m (k := 0) hj (by decide)
    have q2 : f_9_its (nI j) (2 + nI k) h = some (f k) := by rw [lit_nI 2, nI_add, its_m hj (by omega), hf k (by omega)]
    rw [f_9_ofWord_31, q0, bnd_s, if_neg (nI_ge (by omega) (by omega)), q2, bnd_s, nI_1]
    exact ofWord_l hj N5 hN f hf d (k + 1) n (by omega) (by omega)
theorem al_ofWord (X : AI h) (a b : Int32) : Al (f_8_ofWord a b) (f_9_ofWord a b) h := by
  have x := X.1
  have e9 := in_w b (A := 0) (B := 2) 0 2 (by decide) (by decide)
  rcases isWord_k x a with ⟨r, q⟩ | ⟨r, q, l, hl, rfl⟩
  · refine Al.er X (k := 1) (by decide) (by decide) ?_ (fun h1 f => ?_)
    · unfold f_8_ofWord
      rw [r, if_pos rfl, b2_id]; rfl
    · unfold f_9_ofWord
      rw [q h1 (f 115 (by decide)), bnd_s, if_pos rfl, b2_id]; rfl
  rcases wiC b (A := 0) (B := 2) 0 2 (by decide) (by decide) (by decide) with ⟨w, _⟩ | ⟨w, v, _, v9, rfl⟩
  · refine Al.er X (k := 1) (by decide) (by decide) ?_ (fun h1 f => ?_)
    · unfold f_8_ofWord
      rw [r, if_neg (by decide), w, if_pos rfl, b2_id]; rfl
    · unfold f_9_ofWord
      rw [q h1 (f 115 (by decide)), bnd_s, if_neg (by decide), e9, w, if_pos rfl, b2_id]; rfl
  have w10 := x.W.2
  have gl : inb (nI l) 10 = true := inb_nI (by omega) (by decide)
  obtain ⟨n, g, n1, n5, g9, c1, c2, c3, c4, c5, c6⟩ := x.word hl
  have M := ofWord_l (h := h) (b := nI v) (show l < 10 by omega) n5 c2 (h (16 + 2 * l + 1)) (fun k hk => by
    obtain ⟨y, _, y2, y3⟩ := c6 k hk
    rw [← Nat.add_assoc, y3, y2]) n 0 FU (by omega) (by show _ < 4096; omega)
  refine ⟨if nI v = 0 then dg (h (16 + 2 * l + 1)) n else if nI v = 1 then nI n else nI g, h, h, ?_, ?_, X⟩
  · unfold f_8_ofWord
    rw [r, if_neg (by decide), w, if_neg (by decide), gd_s _ gl, ci_nI (by omega), c1, c3, c5]
    by_cases z1 : nI v = 0
    · rw [if_pos z1, if_pos z1]
    · by_cases z2 : nI v = 1
      · rw [if_neg z1, if_neg z1, if_pos z2, if_pos z2]
      · rw [if_neg z1, if_neg z1, if_neg z2, if_neg z2]
  · have M : f_9_ofWord_31 (nI l) (nI v) FU 0 0 h = _ := M
    unfold f_9_ofWord
    rw [q h rfl, bnd_s, if_neg (by decide), e9, w, if_neg (by decide), M, c4]
    by_cases z1 : nI v = 0
    · rw [if_pos z1, if_pos z1]
    · by_cases z2 : nI v = 1
      · rw [if_neg z1, if_neg z1, if_pos z2, if_pos z2]
      · rw [if_neg z1, if_neg z1, if_neg z2, if_neg z2]
end
