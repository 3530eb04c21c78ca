/-! best, dearest, heard -/
section
variable {h h1 : Hp}
theorem fl_cong {p i : Nat} (f : RD h h1) (p1 : 36 ≤ p) (p2 : p < 47) : fl_ h1 p i = fl_ h p i := by
  unfold fl_
  rw [f p (by omega) (by omega) (by omega) (by omega) (by omega), f 2 (by decide) (by decide) (by decide) (by decide) (by decide)]
theorem hw_cong {p j : Nat} (f : RD h h1) (p1 : 36 ≤ p) (p2 : p < 47) (hj : j < 10) : ∀ (n k i : Nat) (b : Bool), hw h1 p j n k i b = hw h p j n k i b
  | 0, _, _, _ => rfl
  | n + 1, k, i, b => by
    rw [hw, hw, hw_cong f p1 p2 hj n]
    unfold mt
    rw [fl_cong f p1 p2, f (17 + 2 * j) (by omega) (by omega) (by omega) (by omega) (by omega)]
theorem hr_cong {p : Nat} {R : Nat → Nat} (f : RD h h1) (p1 : 36 ≤ p) (p2 : p < 47) : ∀ (d k i : Nat) (b : Bool), (∀ t, t < k + d → R t < 10) → hr h1 p R d k i b = hr h p R d k i b
  | 0, _, _, _, _ => rfl
  | d + 1, k, i, b, g => by
    rw [hr, hr, wl_cong f (g k (by omega)), hw_cong f p1 p2 (g k (by omega)), hr_cong f p1 p2 d (k + 1) _ _ (fun t ht => g t (by omega))]
theorem row_cong {M x3 : Int32} {p s : Nat} {R : Nat → Nat} {F : Fnd} (f : RD h h1) (p1 : 36 ≤ p) (p2 : p < 47) (g : ∀ t, t < s → R t < 10) : row_ M x3 h1 p s R F = row_ M x3 h p s R F := by
  have e1 : ov h1 p R s = ov h p R s := ov_cong f p1 p2 (fun t ht => ⟨g t ht, rfl⟩)
  have e2 : lo_ h1 p R s = lo_ h p R s := lo_cong f p1 p2 (fun t ht => ⟨g t ht, rfl⟩)
  have e3 : rl h1 R s 0 0 = rl h R s 0 0 := by
    rw [← rs_rl (h := h1) (p := p) s 0 0 0, ← rs_rl (h := h) (p := p) s 0 0 0, rs_cong f p1 p2 s 0 0 0 (fun t ht => ⟨g t (by omega), rfl⟩)]
  have e4 : hr h1 p R s 0 0 true = hr h p R s 0 0 true := hr_cong f p1 p2 s 0 0 true (fun t ht => g t (by omega))
  unfold row_ acb wrt
  rw [e1, e2, e3, e4, f p (by omega) (by omega) (by omega) (by omega) (by omega)]
theorem rows_cong {M x3 : Int32} {p s : Nat} (f : RD h h1) (p1 : 36 ≤ p) (p2 : p < 47) (W0 : 0 < ci (h 1 10)) (w10 : ci (h 1 10) ≤ 10) : ∀ (d x : Nat) (F : Fnd), rows_ M x3 h1 p s d x F = rows_ M x3 h p s d x F
  | 0, _, _ => rfl
  | d + 1, x, F => by
    have e : ci (h1 1 10) = ci (h 1 10) := by rw [f 1 (by decide) (by decide) (by decide) (by decide) (by decide)]
    rw [rows_, rows_, rows_cong f p1 p2 W0 w10 d, e, row_cong f p1 p2 (fun t _ => by have := dgr_lt W0 s x t; omega)]
theorem tot_cong {M x3 : Int32} (x : INV h) (f : RD h h1) {l : Nat} (hl : l < ci (h 1 11)) : tot M x3 h1 (36 + 2 * l) = tot M x3 h (36 + 2 * l) := by
  have l6 := x.L.2
  have w10 := x.W.2
  have e : ci (h1 1 10) = ci (h 1 10) := by rw [f 1 (by decide) (by decide) (by decide) (by decide) (by decide)]
  have key : ∀ (d s : Nat) (F : Fnd), 1 ≤ s → sizes_ M x3 h1 (36 + 2 * l) d s F = sizes_ M x3 h (36 + 2 * l) d s F := by
    intro d
    induction d with
    | zero => intro s F _; rfl
    | succ d ih =>
      intro s F s1
      rw [sizes_, sizes_, ih (s + 1) _ (by omega), e]
      rcases Nat.eq_zero_or_pos (ci (h 1 10)) with z | W0
      · rw [z, Nat.zero_pow (show 0 < s by omega)]
        rfl
      · rw [rows_cong f (by omega) (by omega) W0 w10]
  exact key 3 1 _ (by decide)
/-- what is told of what is found -/
def fnd (a : Int32) (F : Fnd) : Option Int32 := if F.1 = 0 then none else if a < nI F.2.1 then some (if a = -2 then F.2.2.1 else if a = -1 then nI F.2.1 else nI (F.2.2.2 (ci a))) else none
theorem five (a : Int32) (w1 : -2 ≤ a.toInt) (w2 : a.toInt ≤ 2) : a = -2 ∨ a = -1 ∨ ∃ k : Nat, k ≤ 2 ∧ a = nI k := by
  have e2 : (-2 : Int32).toInt = -2 := by decide
  have e1 : (-1 : Int32).toInt = -1 := by decide
  by_cases c : 0 ≤ a.toInt
  · exact Or.inr (Or.inr ⟨a.toInt.toNat, by omega, nI_of_toInt (by omega) (by omega)⟩)
  · by_cases c1 : a.toInt = -1
    · exact Or.inr (Or.inl (Int32.toInt_inj.mp (by rw [c1, e1])))
    · exact Or.inl (Int32.toInt_inj.mp (by rw [e2]; omega))
theorem found_c {a : Int32} {F : Fnd} (w1 : -2 ≤ a.toInt) (w2 : a.toInt ≤ 2) (h0 : Hp) (q : RC h0 F) (W : FW F) (b : F.1 < 10000) : f_8_ofFound a h0 = match fnd a F with
    | none => f_8_error 2 h0
    | some v => some (v, h0) := by
  obtain ⟨q1, q2, q3, q4⟩ := q
  obtain ⟨W1, W2⟩ := W
  unfold f_8_ofFound fnd
  rw [q1, q2]
  by_cases z : F.1 = 0
  · have z1 : nI F.1 = (0 : Int32) := by rw [z]; rfl
    rw [if_pos z1, if_pos z, b2_id]
  have z1 : ¬ nI F.1 = (0 : Int32) := fun e => z ((nI_eq (b := 0) (by omega) (by decide)).mp e)
  rw [if_neg z1, if_neg z]
  by_cases c : a < nI F.2.1
  · rw [if_pos c, if_pos c]
    rcases five a w1 w2 with rfl | rfl | ⟨k, k2, rfl⟩
    · rw [if_pos rfl, if_pos rfl, q3 z]
    · rw [if_neg (by decide), if_pos rfl, if_neg (by decide), if_pos rfl]
    · have n2 : ¬ nI k = (-2 : Int32) := by
        obtain rfl | rfl | rfl : k = 0 ∨ k = 1 ∨ k = 2 := by omega
        all_goals decide
      have n1 : ¬ nI k = (-1 : Int32) := by
        obtain rfl | rfl | rfl : k = 0 ∨ k = 1 ∨ k = 2 := by omega
        all_goals decide
      have c' : k < F.2.1 := (nI_ltI (by omega) (by omega)).mp c
      have wi : f_8_within (nI k) 0 2 = 1 := by
        obtain rfl | rfl | rfl : k = 0 ∨ k = 1 ∨ k = 2 := by omega
        all_goals decide
      unfold f_2_wordAt
      rw [if_neg n2, if_neg n1, if_neg n2, if_neg n1, wi, if_neg (by decide), gd_s _ (inb_nI (show k < 3 by omega) (by decide)), bnd_s, ci_nI (by omega), q4 k c']
  · rw [if_neg c, if_neg c, b2_id]
theorem found_m {a : Int32} {F : Fnd} (w1 : -2 ≤ a.toInt) (w2 : a.toInt ≤ 2) (h0 : Hp) (q : RM h0 F) (W : FW F) : f_9_foundTold a h0 = match fnd a F with
    | none => f_9_finds 2 h0
    | some v => some (v, h0) := by
  obtain ⟨q1, q2, q3, q4⟩ := q
  obtain ⟨W1, W2⟩ := W
  unfold f_9_foundTold fnd
  rw [q2]
  by_cases z : F.1 = 0
  · have z1 : nI F.2.1 = (0 : Int32) := by rw [W2.mp z]; rfl
    rw [if_pos z1, if_pos z, b2_id]
  have z1 : ¬ nI F.2.1 = (0 : Int32) := fun e => z (W2.mpr ((nI_eq (b := 0) (by omega) (by decide)).mp e))
  rw [if_neg z1, if_neg z]
  by_cases c : a < nI F.2.1
  · rw [if_pos c, if_pos c]
    rcases five a w1 w2 with rfl | rfl | ⟨k, k2, rfl⟩
    · rw [if_pos rfl, if_pos rfl, q3 z]
    · rw [if_neg (by decide), if_neg (by decide), if_neg (by decide), if_pos rfl]
    · have n2 : ¬ nI k = (-2 : Int32) := by
        obtain rfl | rfl | rfl : k = 0 ∨ k = 1 ∨ k = 2 := by omega
        all_goals decide
      have n1 : ¬ nI k = (-1 : Int32) := by
        obtain rfl | rfl | rfl : k = 0 ∨ k = 1 ∨ k = 2 := by omega
        all_goals decide
      have c' : k < F.2.1 := (nI_ltI (by omega) (by omega)).mp c
      have c0 : (0 : Int32) ≤ nI k := nI_le (a := 0) (Nat.zero_le k) (by omega)
      rw [if_neg n2, if_neg n2, if_neg n1, if_pos c0, gd_s _ (inb_nI (show k < 3 by omega) (by decide)), ci_nI (by omega), q4 k c']
  · rw [if_neg c, if_neg c, b2_id]
/-- a search that is told -/
theorem al_sch {M x3 a : Int32} {F G : Hp → Option (Int32 × Hp)} {l : Nat} (X : AI h) (hM : M = 0 ∨ M = 1 ∨ M = 2) (hl : l < ci (h 1 11)) (w1 : -2 ≤ a.toInt) (w2 : a.toInt ≤ 2) (C : F h = bnd (f_2_find (36 + 2 * l) M x3 h) (fun h2 => f_8_ofFound a h2)) (D : ∀ h1 : Hp, h1 115 = h 115 → G h1 = bnd (f_9_seeks (nI l) M x3 h1) (fun h2 => f_9_foundTold a h2)) : Al F G h := by
  have x := X.1
  obtain ⟨h1, a1, a2, a3, a4, a5⟩ := find_c (M := M) x hM hl x3
  rw [a1, bnd_s, found_c w1 w2 h1 a3 a4 a5] at C
  have MM : ∀ hb : Hp, INV hb → hb 115 = h 115 → RD h hb → ∃ h2, PF hb h2 ∧ G hb = match fnd a (tot M x3 h (36 + 2 * l)) with
      | none => f_9_finds 2 h2
      | some v => some (v, h2) := fun hb xb e r => by
    obtain ⟨h2, b1, b2, b3⟩ := seeks_m (M := M) xb (l := l) hM (by rw [r 1 (by decide) (by decide) (by decide) (by decide) (by decide)]; exact hl) x3
    rw [tot_cong x r hl] at b3
    refine ⟨h2, b2, ?_⟩
    rw [D hb e, b1, bnd_s, found_m w1 w2 h2 b3 a4]
  cases e : fnd a (tot M x3 h (36 + 2 * l)) with
  | some v =>
    rw [e] at C MM
    obtain ⟨h3, d1, d2⟩ := MM h1 (a2.inv x) a2.D a2.rd
    exact ⟨v, h1, h3, C, d2, d1.ai (a2.ai X)⟩
  | none =>
    rw [e] at C MM
    refine Al.er2 X (k := 2) (by decide) (by decide) ⟨h1, C, a2⟩ (fun h3 x3 ⟨hc, k1, k2⟩ => ?_)
    obtain ⟨h4, d1, d2⟩ := MM h3 x3 (by rw [k2 115 (by decide), k1.D]) (fun q q1 q2 q3 q4 q5 => by rw [k2 q (by omega), k1.rd q q1 q2 q3 q4 q5])
    exact ⟨h4, d2, d1⟩
theorem al_best (X : AI h) (a b c : Int32) : Al (f_8_best a b c) (f_9_best a b c) h := by
  have x := X.1
  have eb := in_w b (A := 0) (B := 99) 0 99 (by decide) (by decide)
  have ec := in_w c (A := -2) (B := 2) (-2) 2 (by decide) (by decide)
  have n10 : ¬ (1 : Int32) = 0 := by decide
  rcases isLine_k x a with ⟨r, q⟩ | ⟨r, q, l, hl, rfl⟩
  · refine Al.er X (k := 1) (by decide) (by decide) ?_ (fun h1 f => ?_)
    · unfold f_8_best
      rw [r, if_pos rfl, b2_id]; rfl
    · unfold f_9_best
      rw [q h1 (f 115 (by decide)), bnd_s, if_pos rfl, b2_id]; rfl
  rcases wiC b (A := 0) (B := 99) 0 99 (by decide) (by decide) (by decide) with ⟨w, _⟩ | ⟨w, v, _, v9, rfl⟩
  · refine Al.er X (k := 1) (by decide) (by decide) ?_ (fun h1 f => ?_)
    · unfold f_8_best
      rw [r, if_neg n10, w, if_pos rfl, b2_id]; rfl
    · unfold f_9_best
      rw [q h1 (f 115 (by decide)), bnd_s, if_neg n10, eb, w, if_pos rfl, b2_id]; rfl
  rcases wiE c (-2) 2 with u | ⟨u, u1, u2⟩
  · refine Al.er X (k := 1) (by decide) (by decide) ?_ (fun h1 f => ?_)
    · unfold f_8_best
      rw [r, if_neg n10, w, if_neg n10, u, if_pos rfl, b2_id]; rfl
    · unfold f_9_best
      rw [q h1 (f 115 (by decide)), bnd_s, if_neg n10, eb, w, if_neg n10, ec, u, if_pos rfl, b2_id]; rfl
  have l6 := x.L.2
  have gl : inb (nI l) 6 = true := inb_nI (by omega) (by decide)
  refine al_sch (M := 0) (x3 := nI v) (a := c) X (Or.inl rfl) hl u1 u2 ?_ (fun h1 f => ?_)
  · unfold f_8_best
    rw [r, if_neg n10, w, if_neg n10, u, if_neg n10, gd_s _ gl, ci_nI (by omega)]
    simp only [b2_id]
  · unfold f_9_best
    rw [q h1 f, bnd_s, if_neg n10, eb, w, if_neg n10, ec, u, if_neg n10]
    simp only [b2_id]
theorem al_dearest (X : AI h) (a b c : Int32) : Al (f_8_dearest a b c) (f_9_dearest a b c) h := by
  have x := X.1
  have eb := in_w b (A := 0) (B := 99) 0 99 (by decide) (by decide)
  have ec := in_w c (A := -2) (B := 2) (-2) 2 (by decide) (by decide)
  have n10 : ¬ (1 : Int32) = 0 := by decide
  rcases isLine_k x a with ⟨r, q⟩ | ⟨r, q, l, hl, rfl⟩
  · refine Al.er X (k := 1) (by decide) (by decide) ?_ (fun h1 f => ?_)
    · unfold f_8_dearest
      rw [r, if_pos rfl, b2_id]; rfl
    · unfold f_9_dearest
      rw [q h1 (f 115 (by decide)), bnd_s, if_pos rfl, b2_id]; rfl
  rcases wiC b (A := 0) (B := 99) 0 99 (by decide) (by decide) (by decide) with ⟨w, _⟩ | ⟨w, v, _, v9, rfl⟩
  · refine Al.er X (k := 1) (by decide) (by decide) ?_ (fun h1 f => ?_)
    · unfold f_8_dearest
      rw [r, if_neg n10, w, if_pos rfl, b2_id]; rfl
    · unfold f_9_dearest
      rw [q h1 (f 115 (by decide)), bnd_s, if_neg n10, eb, w, if_pos rfl, b2_id]; rfl
  rcases wiE c (-2) 2 with u | ⟨u, u1, u2⟩
  · refine Al.er X (k := 1) (by decide) (by decide) ?_ (fun h1 f => ?_)
    · unfold f_8_dearest
      rw [r, if_neg n10, w, if_neg n10, u, if_pos rfl, b2_id]; rfl
    · unfold f_9_dearest
      rw [q h1 (f 115 (by decide)), bnd_s, if_neg n10, eb, w, if_neg n10, ec, u, if_pos rfl, b2_id]; rfl
  have l6 := x.L.2
  have gl : inb (nI l) 6 = true := inb_nI (by omega) (by decide)
  refine al_sch (M := 1) (x3 := nI v) (a := c) X (Or.inr (Or.inl rfl)) hl u1 u2 ?_ (fun h1 f => ?_)
  · unfold f_8_dearest
    rw [r, if_neg n10, w, if_neg n10, u, if_neg n10, gd_s _ gl, ci_nI (by omega)]
    simp only [b2_id]
  · unfold f_9_dearest
    rw [q h1 f, bnd_s, if_neg n10, eb, w, if_neg n10, ec, u, if_neg n10]
    simp only [b2_id]
theorem al_heard (X : AI h) (a b : Int32) : Al (f_8_heard a b) (f_9_heard a b) h := by
  have x := X.1
  have eb := in_w b (A := -2) (B := 2) (-2) 2 (by decide) (by decide)
  have n10 : ¬ (1 : Int32) = 0 := by decide
  rcases isLine_k x a with ⟨r, q⟩ | ⟨r, q, l, hl, rfl⟩
  · refine Al.er X (k := 1) (by decide) (by decide) ?_ (fun h1 f => ?_)
    · unfold f_8_heard
      rw [r, if_pos rfl, b2_id]; rfl
    · unfold f_9_heard
      rw [q h1 (f 115 (by decide)), bnd_s, if_pos rfl, b2_id]; rfl
  rcases wiE b (-2) 2 with u | ⟨u, u1, u2⟩
  · refine Al.er X (k := 1) (by decide) (by decide) ?_ (fun h1 f => ?_)
    · unfold f_8_heard
      rw [r, if_neg n10, u, if_pos rfl, b2_id]; rfl
    · unfold f_9_heard
      rw [q h1 (f 115 (by decide)), bnd_s, if_neg n10, eb, u, if_pos rfl, b2_id]; rfl
  have l6 := x.L.2
  have gl : inb (nI l) 6 = true := inb_nI (by omega) (by decide)
  by_cases c : b = -2
  · subst c
    obtain ⟨h1, a1, a2, a3, a4, a5⟩ := find_c (M := 2) x (Or.inr (Or.inr rfl)) hl 0
    obtain ⟨h2, b1, b2, b3⟩ := seeks_m (M := 2) (a2.inv x) (l := l) (Or.inr (Or.inr rfl)) (by rw [a2.L]; exact hl) 0
    rw [tot_cong x a2.rd hl] at b3
    refine ⟨nI (tot 2 0 h (36 + 2 * l)).1, h1, h2, ?_, ?_, b2.ai (a2.ai X)⟩
    · unfold f_8_heard
      rw [r, if_neg n10, u, if_neg n10, gd_s _ gl, ci_nI (by omega), a1, bnd_s, if_pos rfl, a3.1]
    · unfold f_9_heard
      rw [q h1 a2.D, bnd_s, if_neg n10, eb, u, if_neg n10, b1, bnd_s, if_pos rfl, b3.1]
  · refine al_sch (M := 2) (x3 := 0) (a := b) X (Or.inr (Or.inr rfl)) hl u1 u2 ?_ (fun h1 f => ?_)
    · unfold f_8_heard
      rw [r, if_neg n10, u, if_neg n10, gd_s _ gl, ci_nI (by omega)]
      simp only [b2_id, if_neg c]
    · unfold f_9_heard
      rw [q h1 f, bnd_s, if_neg n10, eb, u, if_neg n10]
      simp only [b2_id, if_neg c]
end
