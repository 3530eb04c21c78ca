/-! changes that keep the worlds alike -/
section
variable {h h2 : Hp}
theorem ai_w (X : AI h) (f0 : h2 0 = h 0) (f : ∀ q, 48 ≤ q → q ≠ 115 → h2 q = h q) (w : WI h2 1 (h2 115)) : AI h2 := by
  obtain ⟨⟨x1, x2, x3, x5, x6⟩, y⟩ := X
  refine ⟨⟨w, ?_, ?_, ?_, ?_⟩, ?_⟩
  · rw [f 116 (by decide) (by decide), f0]
    exact x2.imp id (fun y => y.fr (fun q hq => f _ (by omega) (by unfold kp at hq; omega)))
  · rw [f 114 (by decide) (by decide), f0]; exact x3
  · unfold TR
    rw [f 114 (by decide) (by decide), f 103 (by decide) (by decide), f 104 (by decide) (by decide), f 121 (by decide) (by decide)]; exact x5
  · intro s hs
    rw [f 106 (by decide) (by decide), f 107 (by decide) (by decide), f 122 (by decide) (by decide), f 123 (by decide) (by decide), f 124 (by decide) (by decide), f (109 + s) (by omega) (by omega)]
    exact x6 s hs
  · intro k hk
    rw [f 117 (by decide) (by decide), f 113 (by decide) (by decide)]
    exact y k hk
theorem TP.cg {B B2 : Nat → Int32} {n u m : Nat} {C : Nat → Int32} (e : ∀ i, i < n → B2 i = B i) (t : TP B n u C m) : TP B2 n u C m := fun b e' h' M => by
  obtain ⟨m1, m2, m3, m4, m5, m6, m7, m8⟩ := M
  exact t b e' h' ⟨m1, m2, m3, m4, m5, m6, fun i hi => (m7 i hi).trans (e i hi), m8⟩
theorem TX.frD {p u : Nat} {D D2 : Nat → Int32} (a : D2 (208 + u) = D (208 + u)) (b : ∀ i, i < 50 → D2 (230 + 50 * u + i) = D (230 + 50 * u + i)) (x : TX h p D u) : TX h p D2 u := by
  rcases x with ⟨z, d⟩ | ⟨n, m, n1, n2, m1, m2, d, s, t⟩
  · exact Or.inl ⟨z, a.trans d⟩
  · exact Or.inr ⟨n, m, n1, n2, m1, m2, a.trans d, s, t.cg (fun i hi => b i (by omega))⟩
theorem WD.frD {p s : Nat} {D D2 : Nat → Int32} (a : ∀ k, k < 7 → D2 (s + k) = D (s + k)) (x : WD h p D s) : WD h p D2 s := by
  obtain ⟨n, g, n1, n5, g9, c1, c2, c3, c4, c5, c6⟩ := x
  refine ⟨n, g, n1, n5, g9, c1, (a 0 (by decide)).trans c2, c3, (a 1 (by decide)).trans c4, c5, fun k hk => ?_⟩
  obtain ⟨y, y1, y2, y3⟩ := c6 k hk
  exact ⟨y, y1, y2, by rw [Nat.add_assoc, a (2 + k) (by omega), ← Nat.add_assoc]; exact y3⟩
theorem LN.frD {p s W W2 : Nat} {D D2 : Nat → Int32} (a : ∀ k, k < 9 → D2 (s + k) = D (s + k)) (hW : W ≤ W2) (x : LN h p D s W) : LN h p D2 s W2 := by
  obtain ⟨K, m, b, n, z, w, A, ⟨c1, c1'⟩, ⟨c2, c2'⟩, ⟨c3, c3'⟩, ⟨c4, c4'⟩, ⟨c5, c5'⟩, ⟨c6, c6'⟩, c7⟩ := x
  refine ⟨K, m, b, n, z, w, A, ⟨c1, (a 0 (by decide)).trans c1'⟩, ⟨c2, (a 1 (by decide)).trans c2'⟩, ⟨c3, (a 2 (by decide)).trans c3'⟩, ⟨c4, (a 3 (by decide)).trans c4'⟩, ⟨c5, (a 4 (by decide)).trans c5'⟩, ⟨c6, (a 5 (by decide)).trans c6'⟩, fun i hi => ?_⟩
  obtain ⟨j, j1, j2, j3⟩ := c7 i hi
  obtain ⟨_, _, _, _, _, z3, _⟩ := A
  exact ⟨j, by omega, j2, by rw [Nat.add_assoc, a (6 + i) (by omega), ← Nat.add_assoc]; exact j3⟩
/-- scalars and plain arrays may change -/
theorem WI.frA {w : Nat} {D D2 : Nat → Int32} (S : gS h2 w D2) (A : gA h2 w D2) (e10 : h2 w 10 = h w 10) (e11 : h2 w 11 = h w 11) (H : ∀ q, kp q → q ≠ 0 → q ≠ 1 → q ≠ 4 → q ≠ 11 → q ≠ 12 → h2 (w + q) = h (w + q)) (HD : ∀ k, (84 ≤ k ∧ k < 210) ∨ (230 ≤ k ∧ k < 330) → D2 k = D k) (x : WI h w D) : WI h2 w D2 := by
  obtain ⟨x1, x2, x3, x4, x5⟩ := x
  refine ⟨S, A, ?_, ?_, ?_⟩
  · intro j hj
    rw [e10] at hj
    obtain ⟨k, k1, k2⟩ := x1.1.1
    have : j < k := by rw [k2, ci_nI (by omega)] at hj; exact hj
    have q := (x3 j hj).fr (h1 := h2) (by rw [Nat.add_assoc]; exact H _ (by unfold kp; omega) (by omega) (by omega) (by omega) (by omega) (by omega)) (by rw [Nat.add_assoc, Nat.add_assoc]; exact H _ (by unfold kp; omega) (by omega) (by omega) (by omega) (by omega) (by omega))
    exact q.frD (fun k hk => HD _ (by omega))
  · intro l hl
    rw [e11] at hl
    rw [e10]
    obtain ⟨k, k1, k2⟩ := x1.2.1.1
    have : l < k := by rw [k2, ci_nI (by omega)] at hl; exact hl
    have q := (x4 l hl).fr (h1 := h2) (by rw [Nat.add_assoc]; exact H _ (by unfold kp; omega) (by omega) (by omega) (by omega) (by omega) (by omega)) (by rw [Nat.add_assoc, Nat.add_assoc]; exact H _ (by unfold kp; omega) (by omega) (by omega) (by omega) (by omega) (by omega))
    exact q.frD (fun k hk => HD _ (by omega)) (Nat.le_refl _)
  · have q1 := x5.1.fr (h1 := h2) (H 5 (by unfold kp; decide) (by decide) (by decide) (by decide) (by decide) (by decide)) (by rw [Nat.add_assoc]; exact H 6 (by unfold kp; decide) (by decide) (by decide) (by decide) (by decide) (by decide))
    have q2 := x5.2.fr (h1 := h2) (H 8 (by unfold kp; decide) (by decide) (by decide) (by decide) (by decide) (by decide)) (by rw [Nat.add_assoc]; exact H 9 (by unfold kp; decide) (by decide) (by decide) (by decide) (by decide) (by decide))
    exact ⟨q1.frD (HD _ (by omega)) (fun i hi => HD _ (by omega)), q2.frD (HD _ (by omega)) (fun i hi => HD _ (by omega))⟩
/-- only scalars change -/
theorem WI.frS {w : Nat} {D D2 : Nat → Int32} (S : gS h2 w D2) (e10 : h2 w 10 = h w 10) (e11 : h2 w 11 = h w 11) (H : ∀ q, q ≠ w → h2 q = h q) (HD : ∀ k, 7 ≤ k → D2 k = D k) (x : WI h w D) : WI h2 w D2 := by
  have A := x.2.1
  refine x.frA S ?_ e10 e11 (fun q _ q0 _ _ _ _ => H _ (by omega)) (fun k hk => HD k (by omega))
  obtain ⟨a1, a2, a3, a4⟩ := A
  refine ⟨fun k hk => ?_, fun k hk => ?_, fun k hk => ?_, fun k hk => ?_⟩
  · rw [HD _ (by omega), H _ (by omega)]; exact a1 k hk
  · rw [HD _ (by omega), H _ (by omega)]; exact a2 k hk
  · rw [HD _ (by omega), H _ (by omega)]; exact a3 k hk
  · rw [HD _ (by omega), H _ (by omega)]; exact a4 k hk
theorem upd7 {D : Nat → Int32} {t : Nat} {v : Int32} (ht : t < 7) : ∀ k, 7 ≤ k → upd D t v k = D k := fun k hk => upd_n D v (by omega)
/-- one scalar: slot s of the world, slot t of the array -/
theorem ai_s {s t : Nat} {v : Int32} (X : AI h) (ht : t < 7) (hs : s ≠ 10) (hs' : s ≠ 11) (S : gS (u2 (u2 h 1 s v) 115 t v) 1 (upd (h 115) t v)) : AI (u2 (u2 h 1 s v) 115 t v) := by
  refine ai_w X (by rw [u2_p _ _ (by decide), u2_p _ _ (by decide)]) (fun q q1 q2 => by rw [u2_p _ _ q2, u2_p _ _ (by omega)]) ?_
  have e : u2 (u2 h 1 s v) 115 t v 115 = upd (h 115) t v := by rw [u2_row, u2_p _ _ (by decide)]
  have e1 : u2 (u2 h 1 s v) 115 t v 1 = upd (h 1) s v := by rw [u2_p _ _ (by decide), u2_row]
  rw [e]
  have x := X.1.1
  have g : WI (u2 (u2 h 1 s v) 115 t v) 1 (upd (h 115) t v) := by
    have H : ∀ q, q ≠ 1 → q ≠ 115 → u2 (u2 h 1 s v) 115 t v q = h q := fun q a b => by rw [u2_p _ _ b, u2_p _ _ a]
    refine x.frA S ?_ (by rw [e1, upd_n _ _ (fun z => hs z.symm)]) (by rw [e1, upd_n _ _ (fun z => hs' z.symm)]) (fun q hq q0 _ _ _ _ => H _ (by omega) (by unfold kp at hq; omega)) (fun k hk => upd7 ht k (by omega))
    obtain ⟨a1, a2, a3, a4⟩ := x.2.1
    refine ⟨fun k hk => ?_, fun k hk => ?_, fun k hk => ?_, fun k hk => ?_⟩
    · rw [upd7 ht _ (by omega), H _ (by decide) (by decide)]; exact a1 k hk
    · rw [upd7 ht _ (by omega), H _ (by decide) (by decide)]; exact a2 k hk
    · rw [upd7 ht _ (by omega), H _ (by decide) (by decide)]; exact a3 k hk
    · rw [upd7 ht _ (by omega), H _ (by decide) (by decide)]; exact a4 k hk
  exact g
theorem gS_row {D : Nat → Int32} (e : h2 1 = h 1) (x : gS h 1 D) : gS h2 1 D := by
  unfold gS
  rw [e]
  exact x
theorem al_minutes (X : AI h) (a : Int32) : Al (f_8_minutes a) (f_9_minutes a) h := by
  have x := X.1
  have e5 := in_w a (A := 1) (B := 500) 1 500 (by decide) (by decide)
  have d2 : h 115 2 = h 1 14 := x.1.1.2.2.1.2
  rcases wiC a (A := 1) (B := 500) 1 500 (by decide) (by decide) (by decide) with ⟨w, _⟩ | ⟨w, k, k1, k5, rfl⟩
  · refine Al.er X (k := 1) (by decide) (by decide) ?_ (fun h1 f => ?_)
    · unfold f_8_minutes
      rw [w, if_pos rfl, b2_id]; rfl
    · unfold f_9_minutes
      rw [e5, w, if_pos rfl, b2_id]; rfl
  obtain ⟨m1, m2⟩ := x.M
  by_cases c : h 1 14 + nI k ≤ 9999
  · have s : sm (h 1 14 + nI k) 9999 := by
      rw [m1, nI_add] at c ⊢
      exact ⟨_, (nI_leI (b := 9999) (by omega) (by decide)).mp c, rfl⟩
    have A : AI (u2 (u2 h 1 14 (h 1 14 + nI k)) 115 2 (h 1 14 + nI k)) := by
      refine ai_s X (by decide) (by decide) (by decide) ?_
      have e1 : u2 (u2 h 1 14 (h 1 14 + nI k)) 115 2 (h 1 14 + nI k) 1 = upd (h 1) 14 (h 1 14 + nI k) := by rw [u2_p _ _ (by decide), u2_row]
      obtain ⟨y1, y2, y3, y4, y5, y6, y7⟩ := x.1.1
      unfold gS
      rw [e1]
      exact ⟨y1, y2, ⟨s, rfl⟩, y4, y5, y6, y7⟩
    refine ⟨h 1 14 + nI k, u2 h 1 14 (h 1 14 + nI k), _, ?_, ?_, A⟩
    · unfold f_8_minutes
      rw [w, if_neg (by decide), if_pos c, hl_eq, u2_s]
    · unfold f_9_minutes
      rw [e5, w, if_neg (by decide), u2_p _ _ (by decide), d2, if_pos c, hl_eq, u2_s]
  · refine Al.er X (k := 3) (by decide) (by decide) ?_ (fun h1 f => ?_)
    · unfold f_8_minutes
      rw [w, if_neg (by decide), if_neg c, b2_id]; rfl
    · unfold f_9_minutes
      rw [e5, w, if_neg (by decide), f 115 (by decide), d2, if_neg c, b2_id]; rfl
theorem al_seed (X : AI h) (a : Int32) : Al (f_8_seed a) (f_9_seed a) h := by
  have x := X.1
  have A : AI (u2 (u2 h 1 16 a) 115 4 a) := by
    refine ai_s X (by decide) (by decide) (by decide) ?_
    have e1 : u2 (u2 h 1 16 a) 115 4 a 1 = upd (h 1) 16 a := by rw [u2_p _ _ (by decide), u2_row]
    obtain ⟨y1, y2, y3, y4, y5, y6, y7⟩ := x.1.1
    unfold gS
    rw [e1]
    exact ⟨y1, y2, y3, y4, rfl, y6, y7⟩
  refine ⟨h 1 16, u2 h 1 16 a, _, rfl, ?_, A⟩
  unfold f_9_seed
  rw [hl_eq, u2_p _ _ (by decide), show h 115 4 = h 1 16 from x.1.1.2.2.2.2.1]
end
