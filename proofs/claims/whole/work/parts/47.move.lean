/-! mouths, move, feed -/
section
variable {h : Hp}
def mz (f : Nat → Int32) : Nat → Nat → Nat
  | 0, k => k
  | d + 1, k => if f_8_within (f k) 0 3 = 0 then k else mz f d (k + 1)
theorem mz_ge (f : Nat → Int32) : ∀ (d k : Nat), k ≤ mz f d k
  | 0, k => Nat.le_refl k
  | d + 1, k => by
    unfold mz
    by_cases c : f_8_within (f k) 0 3 = 0
    · rw [if_pos c]; exact Nat.le_refl k
    · rw [if_neg c]
      have := mz_ge f d (k + 1)
      omega
theorem mouths_c {s N : Nat} {F : Nat → Int32} (hs : s < 4) (N40 : N ≤ 40) : ∀ (d k m : Nat) (h0 : Hp), N = k + d → d < m → h0 (109 + s) = F → ∃ h1, f_8_mouths_43 (nI s) (nI N) m (nI k) h0 = some (nI (mz F d k), h1) ∧ (∀ q, q ≠ 2 → h1 q = h0 q) ∧ ∀ t, h1 2 t = if k ≤ t ∧ t < mz F d k then F t else h0 2 t
  | 0, k, m, h0, e1, e2, g => by
    obtain ⟨m, rfl⟩ : ∃ z, m = z + 1 := ⟨m - 1, by omega⟩
    refine ⟨h0, ?_, fun _ _ => rfl, fun t => ?_⟩
    · rw [f_8_mouths_43, if_pos (nI_le (by omega) (by omega)), e1]; rfl
    · show h0 2 t = if k ≤ t ∧ t < k then F t else h0 2 t
      rw [if_neg (by omega)]
  | d + 1, k, m, h0, e1, e2, g => by
    obtain ⟨m, rfl⟩ : ∃ z, m = z + 1 := ⟨m - 1, by omega⟩
    rw [f_8_mouths_43, if_neg (nI_ge (by omega) (by omega)), at_c hs (by omega), bnd_s, g]
    unfold mz
    by_cases c : f_8_within (F k) 0 3 = 0
    · refine ⟨h0, ?_, fun _ _ => rfl, fun t => ?_⟩
      · rw [if_pos c, if_pos c]
      · rw [if_pos c, if_neg (by omega)]
    · obtain ⟨h1, a1, a2, a3⟩ := mouths_c (F := F) hs N40 d (k + 1) m (u2 h0 2 k (F k)) (by omega) (by omega) (by rw [u2_p _ _ (by omega)]; exact g)
      have le := mz_ge F d (k + 1)
      refine ⟨h1, ?_, fun q hq => (a2 q hq).trans (u2_p _ _ hq), fun t => ?_⟩
      · rw [if_neg c, if_neg c, setFilm_c (by omega), bnd_s, nI_1, a1]
      · rw [if_neg c, a3 t]
        by_cases e : t = k
        · subst e
          rw [if_neg (by omega), u2_s, if_pos (by omega)]
        · rw [u2_k _ _ e]
          by_cases c2 : k + 1 ≤ t ∧ t < mz F d (k + 1)
          · rw [if_pos c2, if_pos (by omega)]
          · rw [if_neg c2, if_neg (by omega)]
theorem mouths_m {s N : Nat} {F : Nat → Int32} (hs : s < 4) (N40 : N ≤ 40) : ∀ (d k m : Nat) (h0 : Hp), N = k + d → d < m → h0 123 s = nI N → (∀ j, j < 40 → h0 124 (40 * s + j) = F j) → ∃ h1, f_9_mouths_30 (nI s) m (nI k) h0 = some (nI (mz F d k), h1) ∧ (∀ q, q ≠ 115 → h1 q = h0 q) ∧ ∀ t, h1 115 t = if 24 + k ≤ t ∧ t < 24 + mz F d k then F (t - 24) else h0 115 t
  | 0, k, m, h0, e1, e2, g3, g => by
    obtain ⟨m, rfl⟩ : ∃ z, m = z + 1 := ⟨m - 1, by omega⟩
    refine ⟨h0, ?_, fun _ _ => rfl, fun t => ?_⟩
    · rw [f_9_mouths_30, gd_s _ (inb_nI hs (by decide)), ci_nI (by omega), g3, if_pos (nI_le (by omega) (by omega))]; rfl
    · show h0 115 t = if 24 + k ≤ t ∧ t < 24 + k then F (t - 24) else h0 115 t
      rw [if_neg (by omega)]
  | d + 1, k, m, h0, e1, e2, g3, g => by
    obtain ⟨m, rfl⟩ : ∃ z, m = z + 1 := ⟨m - 1, by omega⟩
    have ek : 40 * nI s + nI k = nI (40 * s + k) := by rw [lit_nI 40, pk_mul, nI_add]
    have e9 := in_w (F k) (A := 0) (B := 3) 0 3 (by decide) (by decide)
    rw [f_9_mouths_30, gd_s _ (inb_nI hs (by decide)), ci_nI (by omega), g3, if_neg (nI_ge (by omega) (by omega)), ek, gd_s _ (inb_nI (show 40 * s + k < 160 by omega) (by decide)), ci_nI (by omega), g k (by omega), e9]
    unfold mz
    by_cases c : f_8_within (F k) 0 3 = 0
    · refine ⟨h0, ?_, fun _ _ => rfl, fun t => ?_⟩
      · rw [if_pos c, if_pos c]
      · rw [if_pos c, if_neg (by omega)]
    · obtain ⟨h1, a1, a2, a3⟩ := mouths_m (F := F) hs N40 d (k + 1) m (u2 h0 115 (24 + k) (F k)) (by omega) (by omega) (by rw [u2_p _ _ (by decide)]; exact g3) (fun j hj => by rw [u2_p _ _ (by decide)]; exact g j hj)
      have le := mz_ge F d (k + 1)
      refine ⟨h1, ?_, fun q hq => (a2 q hq).trans (u2_p _ _ hq), fun t => ?_⟩
      · rw [if_neg c, if_neg c, gd_s _ (inb_nI (show 40 * s + k < 160 by omega) (by decide)), lit_nI 24, nI_add, gd_s _ (inb_nI (show 24 + k < 380 by omega) (by decide)), hl_eq, ci_nI (by omega), nI_1, a1]
      · rw [if_neg c, a3 t]
        by_cases e : t = 24 + k
        · subst e
          rw [if_neg (by omega), u2_s, if_pos (by omega), Nat.add_sub_cancel_left]
        · rw [u2_k _ _ e]
          by_cases c2 : 24 + (k + 1) ≤ t ∧ t < 24 + mz F d (k + 1)
          · rw [if_pos c2, if_pos (by omega)]
          · rw [if_neg c2, if_neg (by omega)]
theorem al_mouths (X : AI h) (a : Int32) : Al (f_8_mouths a) (f_9_mouths a) h := by
  have x := X.1
  have e9 := in_w a (A := 0) (B := 3) 0 3 (by decide) (by decide)
  rcases wiC a (A := 0) (B := 3) 0 3 (by decide) (by decide) (by decide) with ⟨w, _⟩ | ⟨w, s, _, s3, rfl⟩
  · refine Al.er X (k := 1) (by decide) (by decide) ?_ (fun h1 f => ?_)
    · unfold f_8_mouths f_8_isSheet
      rw [w, if_pos rfl, b2_id]; rfl
    · unfold f_9_mouths f_9_isSheet
      rw [e9, w, if_pos rfl, b2_id]; rfl
  have hs : s < 4 := by omega
  have gs : inb (nI s) 4 = true := inb_nI hs (by decide)
  obtain ⟨t1, t2, t3, t4, t5⟩ := x.2.2.2.2 s hs
  by_cases z : h 106 s = 0
  · refine Al.er X (k := 2) (by decide) (by decide) ?_ (fun h1 f => ?_)
    · unfold f_8_mouths f_8_isSheet
      rw [w, if_neg (by decide), gd_s _ gs, ci_nI (by omega), if_pos z, b2_id]; rfl
    · unfold f_9_mouths f_9_isSheet
      rw [e9, w, if_neg (by decide), gd_s _ gs, ci_nI (by omega), f 122 (by decide), t2, if_pos z, b2_id]; rfl
  obtain ⟨N1, N2⟩ := sm_ci t3 (by decide)
  generalize ci (h 107 s) = N at N1 N2
  obtain ⟨h1, a1, a2, a3⟩ := mouths_c (F := h (109 + s)) hs N2 N 0 FU h (by omega) (by show _ < 4096; omega) rfl
  obtain ⟨h2, b1, b2, b3⟩ := mouths_m (F := h (109 + s)) hs N2 N 0 FU h1 (by omega) (by show _ < 4096; omega) (by rw [a2 123 (by decide), t4, N1]) (fun j hj => by rw [a2 124 (by decide)]; exact t5 j hj)
  refine ⟨nI (mz (h (109 + s)) N 0), h1, h2, ?_, ?_, ?_⟩
  · unfold f_8_mouths f_8_isSheet
    rw [w, if_neg (by decide), gd_s _ gs, ci_nI (by omega), if_neg z, gd_s _ gs, N1]
    exact a1
  · unfold f_9_mouths f_9_isSheet
    rw [e9, w, if_neg (by decide), gd_s _ gs, ci_nI (by omega), a2 122 (by decide), t2, if_neg z]
    exact b1
  · have le := mz_ge (h (109 + s)) N 0
    have le2 : ∀ (d k : Nat), mz (h (109 + s)) d k ≤ k + d := by
      intro d
      induction d with
      | zero => intro k; exact Nat.le_refl k
      | succ d ih =>
        intro k
        unfold mz
        by_cases c : f_8_within (h (109 + s) k) 0 3 = 0
        · rw [if_pos c]; omega
        · rw [if_neg c]
          have := ih (k + 1)
          omega
    have le3 := le2 N 0
    refine ai_film X (fun q q1 q2 => (b2 q q2).trans (a2 q q1)) (fun k hk => ?_) (fun k hk => ?_)
    · rw [b3 k, if_neg (by omega), a2 115 (by decide)]
    · rw [b3 (24 + k), b2 2 (by decide), a3 k, a2 115 (by decide), x.film k hk, Nat.add_sub_cancel_left]
      by_cases c : 0 ≤ k ∧ k < mz (h (109 + s)) N 0
      · rw [if_pos c, if_pos (by omega)]
      · rw [if_neg c, if_neg (by omega)]
/-! move -/
theorem sub_ti {a : Nat} {b : Int32} (ha : a ≤ 40) (hb : 0 ≤ b.toInt) : (nI a - b).toInt = a - b.toInt := by
  have l := Int32.toInt_lt b
  rw [Int32.toInt_sub, nI_toInt (by omega)]
  apply Int.bmod_eq_of_le <;> omega
theorem lt0 (a : Int32) : a < 0 ↔ a.toInt < 0 := by
  rw [Int32.lt_iff_toInt_lt]
  exact Iff.rfl
def st_ (N : Nat) (b e : Int32) : Prop := 0 ≤ b.toInt ∧ 0 ≤ e.toInt ∧ b.toInt + e.toInt ≤ N
theorem stand_c {s N : Nat} (hs : s < 4) (hN : h 107 s = nI N) (N40 : N ≤ 40) (b e : Int32) : (st_ N b e ∧ f_3_stand (nI s) b e h = some 1) ∨ (¬ st_ N b e ∧ f_3_stand (nI s) b e h = some 0) := by
  unfold f_3_stand st_
  have gs : inb (nI s) 4 = true := inb_nI hs (by decide)
  simp only [gd_s _ gs]
  rw [ci_nI (by omega), hN]
  by_cases c1 : b < 0
  · rw [if_pos c1]
    exact Or.inr ⟨fun q => absurd ((lt0 b).mp c1) (by omega), rfl⟩
  rw [if_neg c1]
  have d1 : 0 ≤ b.toInt := by rw [lt0] at c1; omega
  by_cases c2 : e < 0
  · rw [if_pos c2]
    exact Or.inr ⟨fun q => absurd ((lt0 e).mp c2) (by omega), rfl⟩
  rw [if_neg c2]
  have d2 : 0 ≤ e.toInt := by rw [lt0] at c2; omega
  by_cases c3 : nI N < e
  · rw [if_pos c3]
    rw [Int32.lt_iff_toInt_lt, nI_toInt (by omega)] at c3
    exact Or.inr ⟨fun q => by omega, rfl⟩
  rw [if_neg c3]
  rw [Int32.lt_iff_toInt_lt, nI_toInt (by omega)] at c3
  by_cases c4 : nI N - e < b
  · rw [if_pos c4]
    rw [Int32.lt_iff_toInt_lt, sub_ti N40 d2] at c4
    exact Or.inr ⟨fun q => by omega, rfl⟩
  · rw [if_neg c4]
    rw [Int32.lt_iff_toInt_lt, sub_ti N40 d2] at c4
    exact Or.inl ⟨⟨d1, d2, by omega⟩, rfl⟩
theorem lift_m {s E B : Nat} (t : Int32) (dd : Int32) (hs : s < 4) (hE : B + E ≤ 40) : ∀ (d k n : Nat) (h0 : Hp), E = k + d → d < n → ∃ h1, f_9_move_115 (nI s) (nI B) t dd (nI E) n (nI k) h0 = f_9_move_152 t dd (nI E) FU 0 h1 ∧ (∀ q, q ≠ 125 → h1 q = h0 q) ∧ (∀ j, j < k → h1 125 j = h0 125 j) ∧ ∀ j, k ≤ j → j < E → h1 125 j = h0 124 (40 * s + B + j)
  | 0, k, n, h0, e1, e2 => by
    obtain ⟨n, rfl⟩ : ∃ z, n = z + 1 := ⟨n - 1, by omega⟩
    refine ⟨h0, ?_, fun _ _ => rfl, fun _ _ => rfl, fun j a b => absurd a (by omega)⟩
    rw [f_9_move_115, if_pos (nI_le (by omega) (by omega))]
  | d + 1, k, n, h0, e1, e2 => by
    obtain ⟨n, rfl⟩ : ∃ z, n = z + 1 := ⟨n - 1, by omega⟩
    obtain ⟨h1, a1, a2, a3, a4⟩ := lift_m t dd hs hE d (k + 1) n (u2 h0 125 k (h0 124 (40 * s + B + k))) (by omega) (by omega)
    have ek : 40 * nI s + nI B + nI k = nI (40 * s + B + k) := by rw [lit_nI 40, pk_mul, nI_add, nI_add]
    refine ⟨h1, ?_, fun q hq => (a2 q hq).trans (u2_p _ _ hq), fun j hj => by rw [a3 j (by omega), u2_k _ _ (by omega)], fun j j1 j2 => ?_⟩
    · rw [f_9_move_115, if_neg (nI_ge (by omega) (by omega)), ek, gd_s _ (inb_nI (show 40 * s + B + k < 160 by omega) (by decide)), gd_s _ (inb_nI (show k < 40 by omega) (by decide)), hl_eq, ci_nI (by omega), ci_nI (by omega), nI_1, a1]
    · by_cases e : j = k
      · subst e
        rw [a3 j (by omega), u2_s]
      · rw [a4 j (by omega) j2, u2_p _ _ (by decide)]
theorem drop_m {s E B : Nat} (hs : s < 4) (hE : B + E ≤ 40) : ∀ (d k n : Nat) (h0 : Hp), E = k + d → d < n → ∃ h1, f_9_move_152 (nI s) (nI B) (nI E) n (nI k) h0 = some (nI E, h1) ∧ (∀ q, q ≠ 124 → h1 q = h0 q) ∧ ∀ j, h1 124 j = if 40 * s + B + k ≤ j ∧ j < 40 * s + B + E then h0 125 (j - (40 * s + B)) else h0 124 j
  | 0, k, n, h0, e1, e2 => by
    obtain ⟨n, rfl⟩ : ∃ z, n = z + 1 := ⟨n - 1, by omega⟩
    refine ⟨h0, ?_, fun _ _ => rfl, fun j => by rw [if_neg (by omega)]⟩
    rw [f_9_move_152, if_pos (nI_le (by omega) (by omega))]
  | d + 1, k, n, h0, e1, e2 => by
    obtain ⟨n, rfl⟩ : ∃ z, n = z + 1 := ⟨n - 1, by omega⟩
    obtain ⟨h1, a1, a2, a3⟩ := drop_m hs hE d (k + 1) n (u2 h0 124 (40 * s + B + k) (h0 125 k)) (by omega) (by omega)
    have ek : 40 * nI s + nI B + nI k = nI (40 * s + B + k) := by rw [lit_nI 40, pk_mul, nI_add, nI_add]
    refine ⟨h1, ?_, fun q hq => (a2 q hq).trans (u2_p _ _ hq), fun j => ?_⟩
    · rw [f_9_move_152, if_neg (nI_ge (by omega) (by omega)), gd_s _ (inb_nI (show k < 40 by omega) (by decide)), ek, gd_s _ (inb_nI (show 40 * s + B + k < 160 by omega) (by decide)), hl_eq, ci_nI (by omega), ci_nI (by omega), nI_1, a1]
    · rw [a3 j, u2_p (q := 125) _ _ (by decide)]
      by_cases e : j = 40 * s + B + k
      · subst e
        rw [if_neg (by omega), u2_s, if_pos (by omega), show 40 * s + B + k - (40 * s + B) = k by omega]
      · rw [u2_k _ _ e]
        by_cases c : 40 * s + B + (k + 1) ≤ j ∧ j < 40 * s + B + E
        · rw [if_pos c, if_pos (by omega)]
        · rw [if_neg c, if_neg (by omega)]
theorem al_move (X : AI h) (a b c d e : Int32) : Al (f_8_move a b c d e) (f_9_move a b c d e) h := by
  have x := X.1
  have ea := in_w a (A := 0) (B := 3) 0 3 (by decide) (by decide)
  have ec := in_w c (A := 0) (B := 3) 0 3 (by decide) (by decide)
  rcases wiC a (A := 0) (B := 3) 0 3 (by decide) (by decide) (by decide) with ⟨wa, _⟩ | ⟨wa, s, _, s3, rfl⟩
  · refine Al.er X (k := 1) (by decide) (by decide) ?_ (fun h1 f => ?_)
    · unfold f_8_move f_8_isSheet
      rw [wa, if_pos rfl, b2_id]; rfl
    · unfold f_9_move f_9_isSheet
      rw [ea, wa, if_pos rfl, b2_id]; rfl
  rcases wiC c (A := 0) (B := 3) 0 3 (by decide) (by decide) (by decide) with ⟨wc, _⟩ | ⟨wc, t, _, t3, rfl⟩
  · refine Al.er X (k := 1) (by decide) (by decide) ?_ (fun h1 f => ?_)
    · unfold f_8_move f_8_isSheet
      rw [wa, if_neg (by decide), wc, if_pos rfl, b2_id]; rfl
    · unfold f_9_move f_9_isSheet
      rw [ea, wa, if_neg (by decide), ec, wc, if_pos rfl, b2_id]; rfl
  have hs : s < 4 := by omega
  have ht : t < 4 := by omega
  have gs : inb (nI s) 4 = true := inb_nI hs (by decide)
  have gt : inb (nI t) 4 = true := inb_nI ht (by decide)
  have cs : ci (nI s) = s := ci_nI (by omega)
  have ct : ci (nI t) = t := ci_nI (by omega)
  obtain ⟨s1, s2, s3', s4, s5⟩ := x.2.2.2.2 s hs
  obtain ⟨t1, t2, t3', t4, t5⟩ := x.2.2.2.2 t ht
  have n10 : ¬ (1 : Int32) = 0 := by decide
  have e22 : ∀ h1 : Hp, (∀ q, q ≠ 113 → h1 q = h q) → h1 122 = h 122 := fun h1 f => f 122 (by decide)
  have e23 : ∀ h1 : Hp, (∀ q, q ≠ 113 → h1 q = h q) → h1 123 = h 123 := fun h1 f => f 123 (by decide)
  by_cases z : h 106 s = 0
  · refine Al.er X (k := 2) (by decide) (by decide) ?_ (fun h1 f => ?_)
    · unfold f_8_move f_8_isSheet
      rw [wa, if_neg n10, wc, if_neg n10, gd_s _ gs, cs, if_pos z, b2_id]; rfl
    · unfold f_9_move f_9_isSheet
      rw [ea, wa, if_neg n10, ec, wc, if_neg n10, gd_s _ gs, cs, e22 h1 f, s2, if_pos z, b2_id]; rfl
  by_cases z2 : h 106 t = 0
  · refine Al.er X (k := 2) (by decide) (by decide) ?_ (fun h1 f => ?_)
    · unfold f_8_move f_8_isSheet
      rw [wa, if_neg n10, wc, if_neg n10, gd_s _ gs, cs, if_neg z, gd_s _ gt, ct, if_pos z2, b2_id]; rfl
    · unfold f_9_move f_9_isSheet
      rw [ea, wa, if_neg n10, ec, wc, if_neg n10, gd_s _ gs, cs, e22 h1 f, s2, if_neg z, gd_s _ gt, ct, t2, if_pos z2, b2_id]; rfl
  by_cases z3 : h 106 s = h 106 t
  rotate_left
  · refine Al.er X (k := 5) (by decide) (by decide) ?_ (fun h1 f => ?_)
    · unfold f_8_move f_8_isSheet
      rw [wa, if_neg n10, wc, if_neg n10, gd_s _ gs, cs, if_neg z, gd_s _ gt, ct, if_neg z2, gd_s _ gs, gd_s _ gt, if_neg z3, b2_id]; rfl
    · unfold f_9_move f_9_isSheet
      rw [ea, wa, if_neg n10, ec, wc, if_neg n10, gd_s _ gs, cs, e22 h1 f, s2, if_neg z, gd_s _ gt, ct, t2, if_neg z2, gd_s _ gs, gd_s _ gt, if_neg z3, b2_id]; rfl
  obtain ⟨N1, N2⟩ := sm_ci s3' (by decide)
  obtain ⟨M1, M2⟩ := sm_ci t3' (by decide)
  generalize ci (h 107 s) = N at N1 N2
  generalize ci (h 107 t) = M at M1 M2
  have C : f_8_move (nI s) b (nI t) d e h = bnd (f_3_stand (nI s) b e h) (fun r23 => if r23 = 0 then f_8_error 1 h else (bnd (f_3_stand (nI t) d e h) (fun r29 => if r29 = 0 then f_8_error 1 h else (gd (cpok b d e 40 40) (some (e, uA h (109 + t) (va_cpy (h (109 + s)) (h (109 + t)) (ci b) (ci d) (ci e)))))))) := by
    unfold f_8_move f_8_isSheet
    rw [wa, if_neg n10, wc, if_neg n10]
    simp only [gd_s _ gs, gd_s _ gt, cs, ct, if_neg z, if_neg z2, if_pos z3, b2_id, hl_eq]
  have R : ∀ h1 : Hp, h1 122 = h 122 → h1 123 = h 123 → f_9_move (nI s) b (nI t) d e h1 = if e < 0 then f_9_finds 1 h1 else if b < 0 then f_9_finds 1 h1 else if d < 0 then f_9_finds 1 h1 else if nI N - b < e then f_9_finds 1 h1 else if e ≤ nI M - d then f_9_move_115 (nI s) b (nI t) d e FU 0 h1 else f_9_finds 1 h1 := fun h1 f2 f3 => by
    unfold f_9_move f_9_isSheet
    rw [ea, wa, if_neg n10, ec, wc, if_neg n10]
    simp only [gd_s _ gs, gd_s _ gt, cs, ct]
    rw [f2, f3, s2, t2, s4, t4, N1, M1, if_neg z, if_neg z2, if_pos z3]
    simp only [b2_id]
  by_cases G : st_ N b e ∧ st_ M d e
  rotate_left
  · refine Al.er X (k := 1) (by decide) (by decide) ?_ (fun h1 f => ?_)
    · rw [C]
      rcases stand_c hs N1 N2 b e with ⟨g1, q1⟩ | ⟨g1, q1⟩
      · rcases stand_c ht M1 M2 d e with ⟨g2, q2⟩ | ⟨g2, q2⟩
        · exact absurd ⟨g1, g2⟩ G
        · rw [q1, bnd_s, if_neg n10, q2, bnd_s, if_pos rfl]; rfl
      · rw [q1, bnd_s, if_pos rfl]; rfl
    · rw [R h1 (e22 h1 f) (e23 h1 f)]
      by_cases c1 : e < 0
      · rw [if_pos c1]; rfl
      rw [if_neg c1]
      by_cases c2 : b < 0
      · rw [if_pos c2]; rfl
      rw [if_neg c2]
      by_cases c3 : d < 0
      · rw [if_pos c3]; rfl
      rw [if_neg c3]
      by_cases c4 : nI N - b < e
      · rw [if_pos c4]; rfl
      rw [if_neg c4]
      by_cases c5 : e ≤ nI M - d
      · rw [lt0] at c1 c2 c3
        rw [Int32.lt_iff_toInt_lt, sub_ti N2 (by omega)] at c4
        rw [Int32.le_iff_toInt_le, sub_ti M2 (by omega)] at c5
        exact absurd ⟨⟨by omega, by omega, by omega⟩, ⟨by omega, by omega, by omega⟩⟩ G
      · rw [if_neg c5]; rfl
  obtain ⟨⟨b0, e0, be⟩, ⟨d0, _, de⟩⟩ := G
  have q1 := stand_c hs N1 N2 b e
  have q2 := stand_c ht M1 M2 d e
  have r1 : f_3_stand (nI s) b e h = some 1 := by
    rcases q1 with ⟨_, q⟩ | ⟨q, _⟩
    · exact q
    · exact absurd ⟨b0, e0, be⟩ q
  have r2 : f_3_stand (nI t) d e h = some 1 := by
    rcases q2 with ⟨_, q⟩ | ⟨q, _⟩
    · exact q
    · exact absurd ⟨d0, e0, de⟩ q
  clear q1 q2
  obtain ⟨B, hB⟩ : ∃ B : Nat, b.toInt = B := ⟨b.toInt.toNat, by omega⟩
  obtain ⟨D, hD⟩ : ∃ D : Nat, d.toInt = D := ⟨d.toInt.toNat, by omega⟩
  obtain ⟨E, hE⟩ : ∃ E : Nat, e.toInt = E := ⟨e.toInt.toNat, by omega⟩
  have hb := nI_of_toInt hB (by omega)
  have hd := nI_of_toInt hD (by omega)
  have he := nI_of_toInt hE (by omega)
  have BE : B + E ≤ N := by omega
  have DE : D + E ≤ M := by omega
  subst hb hd he
  have cB : ci (nI B) = B := ci_nI (by omega)
  have cD : ci (nI D) = D := ci_nI (by omega)
  have cE : ci (nI E) = E := ci_nI (by omega)
  have ok : cpok (nI B) (nI D) (nI E) 40 40 = true := by
    unfold cpok
    simp only [Bool.and_eq_true, decide_eq_true_eq, lt0, cB, cD, cE]
    omega
  rw [r1, bnd_s, if_neg n10, r2, bnd_s, if_neg n10, gd_s _ ok, cB, cD, cE] at C
  have f1 : ∀ q, q ≠ 109 + t → uA h (109 + t) (va_cpy (h (109 + s)) (h (109 + t)) B D E) q = h q := fun q hq => uA_n hq
  have f2 : uA h (109 + t) (va_cpy (h (109 + s)) (h (109 + t)) B D E) (109 + t) = va_cpy (h (109 + s)) (h (109 + t)) B D E := uA_i
  generalize uA h (109 + t) (va_cpy (h (109 + s)) (h (109 + t)) B D E) = h1 at f1 f2 C
  obtain ⟨h2, a1, a2, _, a4⟩ := lift_m (nI t) (nI D) hs (show B + E ≤ 40 by omega) E 0 FU h1 (by omega) (by show _ < 4096; omega)
  obtain ⟨h3, p1, p2, p3⟩ := drop_m ht (show D + E ≤ 40 by omega) E 0 FU h2 (by omega) (by show _ < 4096; omega)
  refine ⟨nI E, h1, h3, C, ?_, ?_⟩
  · rw [R h1 (f1 122 (by omega)) (f1 123 (by omega)), if_neg (by rw [lt0]; omega), if_neg (by rw [lt0]; omega), if_neg (by rw [lt0]; omega)]
    rw [if_neg (by rw [Int32.lt_iff_toInt_lt, sub_ti N2 (by omega)]; omega), if_pos (by rw [Int32.le_iff_toInt_le, sub_ti M2 (by omega)]; omega)]
    exact a1.trans p1
  · have g : ∀ q, q ≠ 109 + t → q ≠ 124 → q ≠ 125 → h3 q = h q := fun q q1 q2 q3 => by rw [p2 q q2, a2 q q3, f1 q q1]
    refine ai_sh X (fun q q1 q2 q3 q4 q5 => g q (by omega) q4 q5) (fun u hu => ?_)
    obtain ⟨u1, u2', u3, u4, u5⟩ := x.2.2.2.2 u hu
    rw [g 106 (by omega) (by decide) (by decide), g 107 (by omega) (by decide) (by decide), g 122 (by omega) (by decide) (by decide), g 123 (by omega) (by decide) (by decide)]
    refine ⟨u1, u2', u3, u4, fun j hj => ?_⟩
    rw [p3, a2 124 (by decide), f1 124 (by omega)]
    by_cases k : u = t
    · subst k
      rw [p2 (109 + u) (by omega), a2 (109 + u) (by omega), f2]
      unfold va_cpy
      by_cases k2 : D ≤ j ∧ j < D + E
      · rw [if_pos (by omega), if_pos k2, a4 _ (by omega) (by omega), f1 124 (by omega), show 40 * s + B + (40 * u + j - (40 * u + D)) = 40 * s + (B + (j - D)) by omega]
        exact s5 _ (by omega)
      · rw [if_neg (by omega), if_neg k2]; exact u5 j hj
    · rw [if_neg (by omega), g _ (by omega) (by omega) (by omega)]; exact u5 j hj
/-! feed -/
theorem by_bb (v : BitVec 64) (n : Nat) (hn : n ≤ 56) : ((v >>> n).setWidth 32) &&& 255#32 = ((v.sshiftRight n) &&& 255#64).setWidth 32 := by
  apply BitVec.eq_of_getLsbD_eq
  intro i hi
  have h255 : ∀ i : Fin 32, (255#32).getLsbD i.val = decide (i.val < 8) ∧ (255#64).getLsbD i.val = decide (i.val < 8) := by decide
  obtain ⟨a, b⟩ := h255 ⟨i, hi⟩
  simp only at a b
  rw [BitVec.getLsbD_and, BitVec.getLsbD_setWidth, BitVec.getLsbD_setWidth, BitVec.getLsbD_and, a, b, BitVec.getLsbD_ushiftRight, BitVec.getLsbD_sshiftRight]
  by_cases c : i < 8
  · rw [if_pos (by omega)]
    simp [hi, c]
    intro _; omega
  · simp [c]
theorem byte_x (x : Int64) (s : UInt64) (t : Int64) (n : Nat) (hn : n ≤ 56) (hs : s.toBitVec = BitVec.ofNat 64 n) (ht : t.toBitVec = BitVec.ofNat 64 n) : Int64.toInt32 (((Int64.toUInt64 x) >>> s).toInt64) &&& 255 = Int64.toInt32 ((x >>> t) &&& 255) := by
  apply Int32.toBitVec_inj.mp
  have := by_bb x.toBitVec n hn
  have e : (BitVec.ofNat 64 n % 64#64) = BitVec.ofNat 64 n := by
    apply BitVec.eq_of_toNat_eq
    simp
    omega
  have e2 : (BitVec.ofNat 64 n).smod 64#64 = BitVec.ofNat 64 n := by
    have : ∀ m : Fin 57, (BitVec.ofNat 64 m.val).smod 64#64 = BitVec.ofNat 64 m.val := by decide
    exact this ⟨n, by omega⟩
  have e3 : ∀ m : Fin 57, (BitVec.ofNat 64 m.val).toNat = m.val := by decide
  have e4 := e3 ⟨n, by omega⟩
  simp only at e4
  have l : (x >>> t).toBitVec = x.toBitVec.sshiftRight n := by
    show x.toBitVec.sshiftRight' (t.toBitVec.smod 64) = _
    rw [ht, show (64 : BitVec 64) = 64#64 from rfl, e2]
    show x.toBitVec.sshiftRight (BitVec.ofNat 64 n).toNat = _
    rw [e4]
  have r : ((Int64.toUInt64 x) >>> s).toBitVec = x.toBitVec >>> n := by
    show x.toBitVec >>> (s.toBitVec % 64) = _
    rw [hs, show (64 : BitVec 64) = 64#64 from rfl, e]
    show x.toBitVec >>> (BitVec.ofNat 64 n).toNat = _
    rw [e4]
  show (((Int64.toUInt64 x) >>> s).toBitVec.signExtend 32 &&& 255#32) = (((x >>> t).toBitVec &&& 255#64).signExtend 32)
  rw [l, r]
  have g : ∀ w : BitVec 64, w.signExtend 32 = w.setWidth 32 := fun w => BitVec.signExtend_eq_setWidth_of_le w (by decide)
  rw [g, g]
  exact this
def BY (x : Int64) (k : Nat) : Int32 := Int64.toInt32 ((x >>> (Int32.toInt64 (8 * nI k) &&& 63)) &&& 255)
theorem byte_e (x : Int64) {k : Nat} (hk : k < 8) : Int64.toInt32 (((Int64.toUInt64 x) >>> (Int64.toUInt64 (Int32.toInt64 (8 * nI k)) &&& Int64.toUInt64 63)).toInt64) &&& 255 = BY x k := by
  have u : ∀ k : Fin 8, (Int64.toUInt64 (Int32.toInt64 (8 * nI k.val)) &&& Int64.toUInt64 63).toBitVec = BitVec.ofNat 64 (8 * k.val) ∧ (Int32.toInt64 (8 * nI k.val) &&& 63).toBitVec = BitVec.ofNat 64 (8 * k.val) := by decide
  obtain ⟨u1, u2⟩ := u ⟨k, hk⟩
  exact byte_x x _ _ (8 * k) (by omega) u1 u2
theorem feed_c {E T : Nat} (x : Int64) (hE : E ≤ 8) (hT : T + E ≤ 50) : ∀ (d k n : Nat) (h0 : Hp), E = k + d → d < n → h0 1 12 = nI (T + k) → ∃ h1, f_8_feed_39 x (nI E) n (nI k) h0 = some (nI (T + E), h1) ∧ (∀ q, q ≠ 1 → q ≠ 5 → h1 q = h0 q) ∧ (∀ j, j ≠ 12 → h1 1 j = h0 1 j) ∧ h1 1 12 = nI (T + E) ∧ ∀ j, h1 5 j = if T + k ≤ j ∧ j < T + E then BY x (j - T) else h0 5 j
  | 0, k, n, h0, e1, e2, e3 => by
    obtain ⟨n, rfl⟩ : ∃ z, n = z + 1 := ⟨n - 1, by omega⟩
    have ek : E = k := by omega
    subst ek
    refine ⟨h0, ?_, fun _ _ _ => rfl, fun _ _ => rfl, e3, fun j => by rw [if_neg (by omega)]⟩
    rw [f_8_feed_39, if_pos (nI_le (by omega) (by omega)), e3]
  | d + 1, k, n, h0, e1, e2, e3 => by
    obtain ⟨n, rfl⟩ : ∃ z, n = z + 1 := ⟨n - 1, by omega⟩
    obtain ⟨h1, a1, a2, a3, a4, a5⟩ := feed_c x hE hT d (k + 1) n (u2 (u2 h0 5 (T + k) (BY x k)) 1 12 (nI (T + (k + 1)))) (by omega) (by omega) (by rw [u2_s])
    refine ⟨h1, ?_, fun q q1 q2 => by rw [a2 q q1 q2, u2_p _ _ q1, u2_p _ _ q2], fun j hj => by rw [a3 j hj, u2_k _ _ hj, u2_p _ _ (by decide)], a4, fun j => ?_⟩
    · have wi : f_8_within (nI (T + k)) 0 49 = 1 := by
        rcases wiC (nI (T + k)) (A := 0) (B := 49) 0 49 (by decide) (by decide) (by decide) with ⟨_, q⟩ | ⟨q, _⟩
        · exact absurd rfl (q (T + k) (by omega) (by omega))
        · exact q
      rw [f_8_feed_39, if_neg (nI_ge (by omega) (by omega)), byte_e x (by omega)]
      unfold f_7_addByte
      have t : u2 h0 5 (T + k) (BY x k) 1 12 = nI (T + k) := by rw [u2_p _ _ (by decide)]; exact e3
      rw [e3, wi, if_neg (by decide), gd_s _ (inb_nI (show T + k < 50 by omega) (by decide)), hl_eq, hl_eq, bnd_s, ci_nI (by omega), t, nI_1, nI_1, show T + k + 1 = T + (k + 1) by omega, a1]
    · rw [a5 j, u2_p (q := 5) _ _ (by decide)]
      by_cases e : j = T + k
      · subst e
        rw [if_neg (by omega), u2_s, if_pos (by omega), Nat.add_sub_cancel_left]
      · rw [u2_k _ _ e]
        by_cases c : T + (k + 1) ≤ j ∧ j < T + E
        · rw [if_pos c, if_pos (by omega)]
        · rw [if_neg c, if_neg (by omega)]
theorem feed_m {E T : Nat} (x : Int64) (hE : E ≤ 8) (hT : T + E ≤ 50) : ∀ (d k n : Nat) (h0 : Hp), E = k + d → d < n → h0 115 5 = nI (T + k) → ∃ h1, f_9_feed_40 x (nI E) n (nI k) h0 = some (nI (T + E), h1) ∧ (∀ q, q ≠ 115 → h1 q = h0 q) ∧ h1 115 5 = nI (T + E) ∧ ∀ j, j ≠ 5 → h1 115 j = if 330 + T + k ≤ j ∧ j < 330 + T + E then BY x (j - (330 + T)) else h0 115 j
  | 0, k, n, h0, e1, e2, e3 => by
    obtain ⟨n, rfl⟩ : ∃ z, n = z + 1 := ⟨n - 1, by omega⟩
    have ek : E = k := by omega
    subst ek
    refine ⟨h0, ?_, fun _ _ => rfl, e3, fun j _ => by rw [if_neg (by omega)]⟩
    rw [f_9_feed_40, if_pos (nI_le (by omega) (by omega)), e3]
  | d + 1, k, n, h0, e1, e2, e3 => by
    obtain ⟨n, rfl⟩ : ∃ z, n = z + 1 := ⟨n - 1, by omega⟩
    obtain ⟨h1, a1, a2, a4, a5⟩ := feed_m x hE hT d (k + 1) n (u2 (u2 h0 115 (330 + T + k) (BY x k)) 115 5 (nI (T + (k + 1)))) (by omega) (by omega) (by rw [u2_s])
    refine ⟨h1, ?_, fun q q1 => by rw [a2 q q1, u2_p _ _ q1, u2_p _ _ q1], a4, fun j hj => ?_⟩
    · have t : u2 h0 115 (330 + T + k) (BY x k) 115 5 = nI (T + k) := by rw [u2_k _ _ (by omega)]; exact e3
      have eB : Int64.toInt32 ((x >>> (Int32.toInt64 (8 * nI k) &&& 63)) &&& 255) = BY x k := rfl
      rw [f_9_feed_40, if_neg (nI_ge (by omega) (by omega)), eB, e3, lit_nI 330, nI_add, gd_s _ (inb_nI (show 330 + (T + k) < 380 by omega) (by decide)), hl_eq, hl_eq, ci_nI (by omega), show 330 + (T + k) = 330 + T + k by omega, t, nI_1, nI_1, show T + k + 1 = T + (k + 1) by omega, a1]
    · rw [a5 j hj, u2_k _ _ hj]
      by_cases e : j = 330 + T + k
      · subst e
        rw [if_neg (by omega), u2_s, if_pos (by omega), Nat.add_sub_cancel_left]
      · rw [u2_k _ _ e]
        by_cases c : 330 + T + (k + 1) ≤ j ∧ j < 330 + T + E
        · rw [if_pos c, if_pos (by omega)]
        · rw [if_neg c, if_neg (by omega)]
theorem INV.P (x : INV h) : h 1 12 = nI (ci (h 1 12)) ∧ ci (h 1 12) ≤ 50 ∧ h 115 5 = h 1 12 := by
  obtain ⟨_, _, _, _, _, ⟨y1, y2⟩, _⟩ := x.1.1
  obtain ⟨a, b⟩ := sm_ci y1 (by decide)
  exact ⟨a, b, y2⟩
theorem al_feed (X : AI h) (a : Int64) (b : Int32) : Al (f_8_feed a b) (f_9_feed a b) h := by
  have x := X.1
  have eb := in_w b (A := 1) (B := 8) 1 8 (by decide) (by decide)
  rcases wiC b (A := 1) (B := 8) 1 8 (by decide) (by decide) (by decide) with ⟨w, _⟩ | ⟨w, E, E1, E8, rfl⟩
  · refine Al.er X (k := 1) (by decide) (by decide) ?_ (fun h1 f => ?_)
    · unfold f_8_feed
      rw [w, if_pos rfl, b2_id]; rfl
    · unfold f_9_feed
      rw [eb, w, if_pos rfl, b2_id]; rfl
  obtain ⟨p1, p2, p3⟩ := x.P
  generalize ci (h 1 12) = T at p1 p2
  by_cases c : T + E ≤ 50
  rotate_left
  · have c1 : ¬ nI (T + E) ≤ (50 : Int32) := nI_ge (a := 50) (by omega) (by omega)
    refine Al.er X (k := 4) (by decide) (by decide) ?_ (fun h1 f => ?_)
    · unfold f_8_feed
      rw [w, if_neg (by decide), p1, nI_add, if_neg c1, b2_id]; rfl
    · unfold f_9_feed
      rw [eb, w, if_neg (by decide), f 115 (by decide), p3, p1, nI_add, if_neg c1, b2_id]; rfl
  have c1 : nI (T + E) ≤ (50 : Int32) := nI_le (b := 50) c (by decide)
  obtain ⟨h1, a1, a2, a3, a4, a5⟩ := feed_c a E8 c E 0 FU h (by omega) (by show _ < 4096; omega) p1
  obtain ⟨h2, b1, b2, b4, b5⟩ := feed_m a E8 c E 0 FU h1 (by omega) (by show _ < 4096; omega) (by rw [a2 115 (by decide) (by decide), p3, p1]; rfl)
  refine ⟨nI (T + E), h1, h2, ?_, ?_, ?_⟩
  · unfold f_8_feed
    rw [w, if_neg (by decide), p1, nI_add, if_pos c1]
    exact a1
  · unfold f_9_feed
    rw [eb, w, if_neg (by decide), a2 115 (by decide) (by decide), p3, p1, nI_add, if_pos c1]
    exact b1
  · have e5 : ∀ j, j ≠ 5 → (j < 330 ∨ 380 ≤ j) → h2 115 j = h 115 j := fun j hj h2' => by rw [b5 j hj, if_neg (by omega), a2 115 (by decide) (by decide)]
    have e1 : h2 1 = h1 1 := b2 1 (by decide)
    obtain ⟨g1, g2, g3, g4⟩ := x.1.2.1
    refine ai_g (p := 5) X (by decide) (fun q q1 q2 q3 => by rw [b2 q q3, a2 q q1 q2]) ?_ ⟨fun t ht => ?_, fun t ht => ?_, fun t ht => ?_, fun t ht => ?_⟩ (by rw [e1, a3 10 (by decide)]) (by rw [e1, a3 11 (by decide)]) (fun t ht => e5 t (by omega) (by omega))
    · obtain ⟨y1, y2, y3, y4, y5, y6, y7⟩ := x.1.1
      unfold gS
      rw [e1, a3 10 (by decide), a3 11 (by decide), a3 14 (by decide), a3 15 (by decide), a3 16 (by decide), a3 13 (by decide), a4, b4, e5 0 (by decide) (by decide), e5 1 (by decide) (by decide), e5 2 (by decide) (by decide), e5 3 (by decide) (by decide), e5 4 (by decide) (by decide), e5 6 (by decide) (by decide)]
      exact ⟨y1, y2, y3, y4, y5, ⟨⟨T + E, c, rfl⟩, rfl⟩, y7⟩
    · rw [e5 _ (by omega) (by omega), b2 _ (by decide), a2 _ (by decide) (by decide)]; exact g1 t ht
    · rw [e5 _ (by omega) (by omega), b2 _ (by decide), a2 _ (by decide) (by decide)]; exact g2 t ht
    · rw [e5 _ (by omega) (by omega), b2 _ (by decide), a2 _ (by decide) (by decide)]; exact g3 t ht
    · rw [b5 _ (by omega), b2 5 (by decide), a5 t, a2 115 (by decide) (by decide)]
      by_cases cc : T + 0 ≤ t ∧ t < T + E
      · rw [if_pos cc, if_pos (by omega), show 330 + t - (330 + T) = t - T by omega]
      · rw [if_neg cc, if_neg (by omega)]; exact g4 t ht
end
