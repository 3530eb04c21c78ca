/-! single ones: numbers, names, ! and ( -/
theorem nm_byte (u : Nat) (c : Int32) : nm u c = -1 ∨ ((c = 102 ∨ c = 119 ∨ c = 110 ∨ c = 111 ∨ c = 108 ∨ c = 116) ∧ ∃ k : Nat, k < 3 ∧ nm u c = nI k) := by
  unfold nm
  repeat' split
  all_goals first | exact Or.inl rfl | (refine Or.inr ⟨by simp [*], ?_⟩; first | exact ⟨0, by decide, rfl⟩ | exact ⟨1, by decide, rfl⟩ | exact ⟨2, by decide, rfl⟩)
theorem MS.open1 {h : Hp} {B : Nat → Int32} {L u b p o : Nat} {fl : Int32} {e : Nat → Int32} (c : MS h B L u b p o fl e) : MS (u2 (u2 h 114 8 ((h 114 8) + 1)) 114 5 ((u2 h 114 8 ((h 114 8) + 1) 114 5) + 1)) B L u b (p + 1) (o + 1) fl e := by
  refine MS.step ?_
  obtain ⟨c1, c2, c3, c4, c5, c6, c7, c8, c9⟩ := c
  refine ⟨(u2_k h _ (by decide)).trans c1, (u2_k h _ (by decide)).trans c2, (u2_k h _ (by decide)).trans c3, (u2_k h _ (by decide)).trans c4, ?_, (u2_k h _ (by decide)).trans c6, fun i hi => ?_, c8, fun i hi => ?_⟩
  · rw [u2_s, c5, nI_1]
  · rw [u2_p h _ (by decide)]; exact c7 i hi
  · rw [u2_p h _ (by decide)]; exact c9 i hi
theorem MS.close {h : Hp} {B : Nat → Int32} {L u b p o : Nat} {fl : Int32} {e : Nat → Int32} (c : MS h B L u b p (o + 1) fl e) : MS (u2 h 114 8 ((h 114 8) - 1)) B L u b p o fl e := by
  obtain ⟨c1, c2, c3, c4, c5, c6, c7, c8, c9⟩ := c
  refine ⟨(u2_k h _ (by decide)).trans c1, (u2_k h _ (by decide)).trans c2, (u2_k h _ (by decide)).trans c3, (u2_k h _ (by decide)).trans c4, ?_, (u2_k h _ (by decide)).trans c6, fun i hi => ?_, c8, fun i hi => ?_⟩
  · rw [u2_s, c5, nI_pred]
  · rw [u2_p h _ (by decide)]; exact c7 i hi
  · rw [u2_p h _ (by decide)]; exact c9 i hi
theorem MS.close_f {h : Hp} {B : Nat → Int32} {L u b p o : Nat} {fl : Int32} {e : Nat → Int32} (c : MS h B L u b p o fl e) : ∃ o1, MS (u2 h 114 8 ((h 114 8) - 1)) B L u b p o1 fl e := by
  cases o with
  | succ o => exact ⟨o, c.close⟩
  | zero =>
    obtain ⟨c1, c2, c3, c4, c5, c6, c7, c8, c9⟩ := c
    refine ⟨4294967295, (u2_k h _ (by decide)).trans c1, (u2_k h _ (by decide)).trans c2, (u2_k h _ (by decide)).trans c3, (u2_k h _ (by decide)).trans c4, ?_, (u2_k h _ (by decide)).trans c6, fun i hi => ?_, c8, fun i hi => ?_⟩
    · rw [u2_s, c5]; decide
    · rw [u2_p h _ (by decide)]; exact c7 i hi
    · rw [u2_p h _ (by decide)]; exact c9 i hi
/-- numbers as codes, names as codes -/
theorem ex_num {v : Nat} (hv : v < 10000) (e : Nat → Int32) (st : List Int32) : ex (nI v) e st = nI v :: st := by
  have h1 : ¬ 0 < -(nI v) := by
    rw [Int32.lt_iff_toInt_lt]
    have e1 : (nI v).toInt = v := nI_toInt (by omega)
    have e2 : (-(nI v)).toInt = -(v : Int) := by
      rw [Int32.toInt_neg, e1]
      apply Int.bmod_eq_of_le <;> omega
    rw [e2, show (0 : Int32).toInt = 0 by decide]
    omega
  have n : ∀ k, 10000 ≤ k → k < 2 ^ 31 → ¬ nI v = nI k := fun k h1 h2 z => by
    have := (nI_eq (by omega) h2).mp z
    omega
  unfold ex
  rw [if_neg h1]
  unfold f_5_valueOf
  have a0 : ¬ nI v = 10000 := n 10000 (by omega) (by omega)
  have a1 : ¬ nI v = 10001 := n 10001 (by omega) (by omega)
  have a2 : ¬ nI v = 10002 := n 10002 (by omega) (by omega)
  rw [if_neg a0, if_neg a1, if_neg a2]
theorem ex_name {k : Nat} (hk : k < 3) (e : Nat → Int32) (st : List Int32) : ex (10000 + nI k) e st = e k :: st := by
  match k, hk with
  | 0, _ => rfl
  | 1, _ => rfl
  | 2, _ => rfl
theorem pass_y {h : Hp} {B : Nat → Int32} {L u p m : Nat} (c : CS h B L u p m 0) (q : hereB B L p = 41) : f_1_pass 41 h = some (u2 h 100 5 ((h 100 5) + 1)) := by
  unfold f_1_pass
  rw [here_c c, bnd_s, if_pos q]
  rfl
theorem pass_n {h : Hp} {B : Nat → Int32} {L u p m : Nat} (c : CS h B L u p m 0) (q : ¬ hereB B L p = 41) : f_1_pass 41 h = some (u2 h 100 6 1) := by
  unfold f_1_pass
  rw [here_c c, bnd_s, if_neg q]
  rfl
theorem pass_f {h : Hp} {L p : Nat} (c : CF h L p) : f_1_pass 41 h = some (u2 h 100 6 1) := by
  unfold f_1_pass
  rw [c.here, bnd_s, if_neg (by decide)]
  rfl
theorem here_lt {B : Nat → Int32} {L p : Nat} (q : ¬ hereB B L p = -1) : p < L := by
  by_cases z : p < L
  · exact z
  · exact absurd (if_neg z) q
section UNIT
variable {n1 n2 n3 n4 n5 n6 : Hp → Option (Int32 × Hp)} {R1 : Int32 → Int32 → Hp → Option Hp} {R2 : Int32 → Hp → Option Hp} {o : Nat} {B e : Nat → Int32} {L u b p m : Nat} {h h' : Hp}
/-- nothing goes on -/
theorem unit_no (c : CS h B L u p m 0) (c' : MS h' B L u b p o (-1) e) (w : f_8_within (hereB B L p) 48 57 = 0) (wn : nm u (hereB B L p) = -1) (w33 : ¬ (hereB B L p = 33)) (w40 : ¬ (hereB B L p = 40)) : ∃ h1 v h1', b_1_readSingle R1 R2 (nI o) h = some h1 ∧ b_9_unit n1 n2 n3 n4 n5 n6 h' = some (v, h1') ∧ PO h h1 h' h1' B L u b o e p m v := by
  have hp : p ≤ L := c.2.2.2.2.2.2.2.2.1
  have hL : L ≤ 50 := c.2.2.2.2.2.2.1
  have hu : u ≤ 1 := c.2.2.2.2.2.2.2.1
  obtain ⟨h1', e1, d1, d2⟩ := wrong_m c'
  refine ⟨u2 h 100 6 1, 0, h1', ?_, ?_, FC.set h _ _, d2, p, Nat.le_refl p, Or.inr ⟨c.cf, o, d1⟩⟩
  · unfold b_1_readSingle
    rw [here_c c, bnd_s, if_pos (show f_1_isDigit (hereB B L p) = 0 from w), nameOf_c _ c.2.1 hu, bnd_s, wn, if_pos (by decide), if_neg w33, if_neg w40]
    rfl
  · unfold b_9_unit
    rw [here_m hL hp c', bnd_s, if_neg w33, if_neg w40, nameOf_m _ c'.2.2.2.2.2.1 hu, wn, if_pos (by decide)]
    show f_9_unit_150 n1 n2 n3 n4 n5 n6 (4095 + 1) 0 0 h' = _
    have wm : f_9_in (hereB B L p).toInt64 48 57 = f_8_within (hereB B L p) 48 57 := in_w (hereB B L p) 48 57 (by decide) (by decide)
    rw [f_9_unit_150, if_neg (by decide), here_m hL hp c', bnd_s, wm, if_pos w, if_pos rfl, e1, bnd2_s]
/-- no more may be open -/
theorem unit_full (c : CS h B L u p m 0) (c' : MS h' B L u b p o (-1) e) (ho : o = 5) (wc : hereB B L p = 33 ∨ hereB B L p = 40) : ∃ h1 v h1', b_1_readSingle R1 R2 (nI o) h = some h1 ∧ b_9_unit n1 n2 n3 n4 n5 n6 h' = some (v, h1') ∧ PO h h1 h' h1' B L u b o e p m v := by
  have hp : p ≤ L := c.2.2.2.2.2.2.2.2.1
  have hL : L ≤ 50 := c.2.2.2.2.2.2.1
  have hu : u ≤ 1 := c.2.2.2.2.2.2.2.1
  obtain ⟨h1', e1, d1, d2⟩ := wrong_m c'
  have o8 : (h' 114 8) = 5 := by rw [c'.2.2.2.2.1, ho]; rfl
  subst ho
  refine ⟨u2 h 100 6 1, 0, h1', ?_, ?_, FC.set h _ _, d2, p, Nat.le_refl p, Or.inr ⟨c.cf, 5, d1⟩⟩
  · have wn : nm u (hereB B L p) = -1 := by
      rcases nm_byte u (hereB B L p) with q | ⟨q, -⟩
      · exact q
      · rcases wc with z | z <;> rw [z] at q <;> exact absurd q (by decide)
    have w : f_8_within (hereB B L p) 48 57 = 0 := by
      rcases wc with z | z <;> rw [z] <;> decide
    unfold b_1_readSingle
    rw [here_c c, bnd_s, if_pos (show f_1_isDigit (hereB B L p) = 0 from w), nameOf_c _ c.2.1 hu, bnd_s, wn, if_pos (by decide)]
    rcases wc with z | z
    · rw [if_pos z, if_pos (by decide), if_neg (by rw [z]; decide)]
      rfl
    · rw [if_neg (by rw [z]; decide), if_pos z, if_pos (by decide)]
      rfl
  · unfold b_9_unit
    rw [here_m hL hp c', bnd_s]
    rcases wc with z | z
    · rw [if_pos z, if_pos o8, e1, bnd2_s]
    · rw [if_neg (by rw [z]; decide), if_pos z, if_pos o8, e1, bnd2_s]
theorem unit_num (c : CS h B L u p m 0) (c' : MS h' B L u b p o (-1) e) (w : ¬ f_8_within (hereB B L p) 48 57 = 0) : ∃ h1 v h1', b_1_readSingle R1 R2 (nI o) h = some h1 ∧ b_9_unit n1 n2 n3 n4 n5 n6 h' = some (v, h1') ∧ PO h h1 h' h1' B L u b o e p m v := by
  have hp : p ≤ L := c.2.2.2.2.2.2.2.2.1
  have hL : L ≤ 50 := c.2.2.2.2.2.2.1
  have hu : u ≤ 1 := c.2.2.2.2.2.2.2.1
  have hmp : m ≤ p := c.2.2.2.2.2.2.2.2.2.1
  rcases wiC (hereB B L p) (A := 48) (B := 57) 48 57 (by decide) (by decide) (by decide) with ⟨q, -⟩ | ⟨-, q, q1, q2, hq⟩
  · exact absurd q w
  · have hne : ∀ k : Nat, k < 2 ^ 31 → (k < 48 ∨ 57 < k) → ¬ hereB B L p = nI k := fun k h1 h2 z => by
      have := (nI_eq (by omega) h1).mp (hq.symm.trans z)
      omega
    have hlt : p < L := here_lt (fun z => by
      have : (-1 : Int32).toInt = (q : Int) := by rw [← z, hq, nI_toInt (by omega)]
      rw [show (-1 : Int32).toInt = -1 by decide] at this
      omega)
    have wn : nm u (hereB B L p) = -1 := by
      rcases nm_byte u (hereB B L p) with z | ⟨z, -⟩
      · exact z
      · rcases z with z | z | z | z | z | z <;> exact absurd z (hne _ (by decide) (by decide))
    have ev1 : (10 * 0 + nI q) - 48 = nI (q - 48) := by
      rw [show (10 * 0 + nI q : Int32) = nI q by simp, lit_nI 48, pk_sub (by omega)]
    obtain ⟨p1, v1, h1, h1', a1, a2, a3, a4, a5, a6, a7, a8, a9, a10⟩ := num_sim n1 n2 n3 n4 n5 n6 3 1 rfl (Nat.le_refl 1) (q - 48) (p + 1) 4095 4095 (u2 h 100 5 ((h 100 5) + 1)) (u2 h' 114 5 ((h' 114 5) + 1)) (by decide) (by decide) (by omega) (c.step hlt) c'.step (by omega)
    refine ⟨h1, nI v1, h1', ?_, ?_, (FC.set h _ _).tr a5, (FM.set h' _ (by decide)).tr a10, p1, by omega, Or.inl ⟨m + 1, by omega, by omega, by omega, a4, a9, fun i hi => (a7 i hi).trans (by rw [u2_p h _ (by decide)]), EV.one (fun st => by rw [a6]; exact ex_num a2 e st)⟩⟩
    · unfold b_1_readSingle
      rw [here_c c, bnd_s, if_neg (show ¬ f_1_isDigit (hereB B L p) = 0 from w)]
      show bnd (f_1_readNumber_4 (4095 + 1) 0 0 h) _ = _
      rw [f_1_readNumber_4, if_neg (by decide), here_c c, bnd_s, if_neg (show ¬ f_1_isDigit (hereB B L p) = 0 from w), bnd_s, hl_eq, hq, ev1]
      rw [show (0 + 1 : Int32) = nI 1 from rfl, a3, bnd_s]
    · unfold b_9_unit
      have wm : f_9_in (hereB B L p).toInt64 48 57 = f_8_within (hereB B L p) 48 57 := in_w (hereB B L p) 48 57 (by decide) (by decide)
      have q33 : ¬ hereB B L p = 33 := hne 33 (by decide) (by decide)
      have q40 : ¬ hereB B L p = 40 := hne 40 (by decide) (by decide)
      rw [here_m hL hp c', bnd_s, if_neg q33, if_neg q40, nameOf_m _ c'.2.2.2.2.2.1 hu, wn, if_pos (by decide)]
      show f_9_unit_150 n1 n2 n3 n4 n5 n6 (4095 + 1) 0 0 h' = _
      rw [f_9_unit_150, if_neg (by decide), here_m hL hp c', bnd_s, wm, if_neg w, bnd_s, hl_eq, hq, ev1]
      exact a8
theorem unit_name (c : CS h B L u p m 0) (c' : MS h' B L u b p o (-1) e) (w : ¬ nm u (hereB B L p) = -1) : ∃ h1 v h1', b_1_readSingle R1 R2 (nI o) h = some h1 ∧ b_9_unit n1 n2 n3 n4 n5 n6 h' = some (v, h1') ∧ PO h h1 h' h1' B L u b o e p m v := by
  have hp : p ≤ L := c.2.2.2.2.2.2.2.2.1
  have hL : L ≤ 50 := c.2.2.2.2.2.2.1
  have hu : u ≤ 1 := c.2.2.2.2.2.2.2.1
  have hmp : m ≤ p := c.2.2.2.2.2.2.2.2.2.1
  rcases nm_byte u (hereB B L p) with q | ⟨q, k, k1, k2⟩
  · exact absurd q w
  · have n33 : ¬ hereB B L p = 33 := fun z => by rw [z] at q; exact absurd q (by decide)
    have n40 : ¬ hereB B L p = 40 := fun z => by rw [z] at q; exact absurd q (by decide)
    have nd : f_8_within (hereB B L p) 48 57 = 0 := by rcases q with z | z | z | z | z | z <;> rw [z] <;> decide
    have hlt : p < L := here_lt (fun z => by rw [z] at q; exact absurd q (by decide))
    have hn0 : ¬ nI k < 0 := nI_pos (by omega)
    have c2 := c.step hlt
    obtain ⟨h3, w1, w2, w3, w4, w5⟩ := write_c (10000 + nI k) c2 (by omega)
    refine ⟨h3, e k, u2 h' 114 5 ((h' 114 5) + 1), ?_, ?_, (FC.set h _ _).tr w3, FM.set h' _ (by decide), p + 1, by omega, Or.inl ⟨m + 1, by omega, by omega, by omega, w2, c'.step, fun i hi => (w5 i hi).trans (by rw [u2_p h _ (by decide)]), EV.one (fun st => by rw [w4]; exact ex_name k1 e st)⟩⟩
    · unfold b_1_readSingle
      rw [here_c c, bnd_s, if_pos (show f_1_isDigit (hereB B L p) = 0 from nd), nameOf_c _ c.2.1 hu, bnd_s, k2, if_neg hn0, hl_eq, nameOf_c _ c2.2.1 hu, bnd_s, k2, w1, bnd_s]
    · unfold b_9_unit
      rw [here_m hL hp c', bnd_s, if_neg n33, if_neg n40, nameOf_m _ c'.2.2.2.2.2.1 hu, k2, if_neg hn0, hl_eq, gd_s _ (inb_nI k1 (by decide)), ci_nI (by omega), u2_p h' _ (by decide), c'.2.2.2.2.2.2.2.2 k k1]
theorem unit_bang (c : CS h B L u p m 0) (c' : MS h' B L u b p o (-1) e) (ho : o < 5) (w : hereB B L p = 33) (S : SX (R2 (nI (o + 1))) n6 (o + 1)) : ∃ h1 v h1', b_1_readSingle R1 R2 (nI o) h = some h1 ∧ b_9_unit n1 n2 n3 n4 n5 n6 h' = some (v, h1') ∧ PO h h1 h' h1' B L u b o e p m v := by
  have hp : p ≤ L := c.2.2.2.2.2.2.2.2.1
  have hL : L ≤ 50 := c.2.2.2.2.2.2.1
  have hu : u ≤ 1 := c.2.2.2.2.2.2.2.1
  have hmp : m ≤ p := c.2.2.2.2.2.2.2.2.2.1
  have wn : nm u (hereB B L p) = -1 := by
    rcases nm_byte u (hereB B L p) with q | ⟨q, -⟩
    · exact q
    · rw [w] at q; exact absurd q (by decide)
  have nd : f_8_within (hereB B L p) 48 57 = 0 := by rw [w]; decide
  have hlt : p < L := here_lt (fun z => by rw [w] at z; exact absurd z (by decide))
  have o5 : ¬ (5 : Int32) ≤ nI o := nI_ge (b := 5) ho (by omega)
  have o8 : ¬ (h' 114 8) = 5 := by
    rw [c'.2.2.2.2.1, lit_nI 5, eq_nI (by omega) (by omega)]
    omega
  obtain ⟨h2, x, h2', a1, a2, f1, f2, p1, a3, a4⟩ := S B e L u b (p + 1) m _ _ (c.step hlt) c'.open1
  have eC : b_1_readSingle R1 R2 (nI o) h = bnd (f_1_write (-33) h2) (fun h26 => some h26) := by
    unfold b_1_readSingle
    rw [here_c c, bnd_s, if_pos (show f_1_isDigit (hereB B L p) = 0 from nd), nameOf_c _ c.2.1 hu, bnd_s, wn, if_pos (by decide), if_pos w, if_neg o5, hl_eq, nI_1, a1, bnd_s, w]
  have eM : b_9_unit n1 n2 n3 n4 n5 n6 h' = some ((if x = 0 then 1 else 0), u2 h2' 114 8 ((h2' 114 8) - 1)) := by
    unfold b_9_unit
    rw [here_m hL hp c', bnd_s, if_pos w, if_neg o8, hl_eq, hl_eq, w, if_neg (by decide), a2, bnd2_s, if_neg (by decide), hl_eq, if_neg (by decide)]
    by_cases z : x = 0
    · rw [if_pos z, if_pos z]
    · rw [if_neg z, if_neg z]
  have fM : FM h' (u2 h2' 114 8 ((h2' 114 8) - 1)) := (((FM.set h' _ (by decide)).tr (FM.set _ _ (by decide))).tr f2).tr (FM.set h2' _ (by decide))
  rcases a4 with ⟨m1, b1, b2, b3, b4, b5, b6, b7⟩ | ⟨b1, o1, b2⟩
  · obtain ⟨h3, w1, w2, w3, w4, w5⟩ := write_c (-33) b4 (by omega)
    have E1 : EV (h3 101) e m m1 x := b7.cong (by omega) (fun i hi => w5 i hi)
    refine ⟨h3, _, _, ?_, eM, ((FC.set h _ _).tr f1).tr w3, fM, p1, by omega, Or.inl ⟨m1 + 1, by omega, by omega, by omega, w2, b5.close, fun i hi => ?_, E1.bang (by omega) w4⟩⟩
    · rw [eC, w1, bnd_s]
    · rw [w5 i (by omega), b6 i hi, u2_p h _ (by decide)]
  · obtain ⟨h3, w1, w2, w3⟩ := b1.write (-33)
    refine ⟨h3, _, _, ?_, eM, ((FC.set h _ _).tr f1).tr w3, fM, p1, by omega, Or.inr ⟨w2, ?_⟩⟩
    · rw [eC, w1, bnd_s]
    · exact b2.close_f
theorem unit_par (c : CS h B L u p m 0) (c' : MS h' B L u b p o (-1) e) (ho : o < 5) (w : hereB B L p = 40) (S : SX (R1 (nI 0) (nI (o + 1))) n3 (o + 1)) : ∃ h1 v h1', b_1_readSingle R1 R2 (nI o) h = some h1 ∧ b_9_unit n1 n2 n3 n4 n5 n6 h' = some (v, h1') ∧ PO h h1 h' h1' B L u b o e p m v := by
  have hp : p ≤ L := c.2.2.2.2.2.2.2.2.1
  have hL : L ≤ 50 := c.2.2.2.2.2.2.1
  have hu : u ≤ 1 := c.2.2.2.2.2.2.2.1
  have hmp : m ≤ p := c.2.2.2.2.2.2.2.2.2.1
  have n33 : ¬ hereB B L p = 33 := fun z => by rw [w] at z; exact absurd z (by decide)
  have wn : nm u (hereB B L p) = -1 := by
    rcases nm_byte u (hereB B L p) with q | ⟨q, -⟩
    · exact q
    · rw [w] at q; exact absurd q (by decide)
  have nd : f_8_within (hereB B L p) 48 57 = 0 := by rw [w]; decide
  have hlt : p < L := here_lt (fun z => by rw [w] at z; exact absurd z (by decide))
  have o5 : ¬ (5 : Int32) ≤ nI o := nI_ge (b := 5) ho (by omega)
  have o8 : ¬ (h' 114 8) = 5 := by
    rw [c'.2.2.2.2.1, lit_nI 5, eq_nI (by omega) (by omega)]
    omega
  obtain ⟨h2, x, h2', a1, a2, f1, f2, p1, a3, a4⟩ := S B e L u b (p + 1) m _ _ (c.step hlt) c'.open1
  have eC : b_1_readSingle R1 R2 (nI o) h = bnd (f_1_pass 41 h2) (fun h18 => some h18) := by
    unfold b_1_readSingle
    rw [here_c c, bnd_s, if_pos (show f_1_isDigit (hereB B L p) = 0 from nd), nameOf_c _ c.2.1 hu, bnd_s, wn, if_pos (by decide), if_neg n33, if_pos w, if_neg o5, hl_eq, nI_1, show (0 : Int32) = nI 0 from rfl, a1, bnd_s]
  have eM : b_9_unit n1 n2 n3 n4 n5 n6 h' = bnd2 (f_9_takes 41 h2') (fun r66 h67 => if r66 = 0 then (bnd2 (f_9_wrong h67) (fun r70 h71 => some (r70, h71))) else some (x, u2 h67 114 8 ((h67 114 8) - 1))) := by
    unfold b_9_unit
    rw [here_m hL hp c', bnd_s, if_neg n33, if_pos w, if_neg o8, hl_eq, hl_eq, if_pos w, a2, bnd2_s, if_pos w]
    simp only [if_pos w, hl_eq]
  have fM : FM h' h2' := ((FM.set h' _ (by decide)).tr (FM.set _ _ (by decide))).tr f2
  have fC : FC h h2 := (FC.set h _ _).tr f1
  rcases a4 with ⟨m1, b1, b2, b3, b4, b5, b6, b7⟩ | ⟨b1, o1, b2⟩
  · have hp1 : p1 ≤ L := b4.2.2.2.2.2.2.2.2.1
    have hm' := here_m hL hp1 b5
    by_cases q : hereB B L p1 = 41
    · have hlt1 : p1 < L := here_lt (fun z => by rw [q] at z; exact absurd z (by decide))
      refine ⟨_, x, _, (by rw [eC, pass_y b4 q, bnd_s]), (by rw [eM, takes_y (by rw [hm', q]), bnd2_s, if_neg (by decide)]), fC.tr (FC.set h2 _ _), (fM.tr (FM.set h2' _ (by decide))).tr (FM.set _ _ (by decide)), p1 + 1, by omega, Or.inl ⟨m1, by omega, by omega, by omega, b4.step hlt1, b5.step.close, fun i hi => ?_, ?_⟩⟩
      · rw [u2_p h2 _ (by decide), b6 i hi, u2_p h _ (by decide)]
      · exact b7.cong (by omega) (fun i _ => by rw [u2_p h2 _ (by decide)])
    · obtain ⟨h3', e1, d1, d2⟩ := wrong_m b5
      refine ⟨_, 0, h3', (by rw [eC, pass_n b4 q, bnd_s]), (by rw [eM, takes_n hm' q, bnd2_s, if_pos rfl, e1, bnd2_s]), fC.tr (FC.set h2 _ _), fM.tr d2, p1, by omega, Or.inr ⟨b4.cf, _, d1⟩⟩
  · have hp1 : p1 ≤ L := b1.2.2.2.2.2
    obtain ⟨h3', e1, d1, d2⟩ := wrong_mf (q := p1) (by omega) b2
    refine ⟨_, 0, h3', (by rw [eC, pass_f b1, bnd_s]), (by rw [eM, takes_n (here_mf (q := p1) (by omega) b2) (by decide), bnd2_s, if_pos rfl, e1, bnd2_s]), fC.tr (FC.set h2 _ _), fM.tr d2, p1, by omega, Or.inr ⟨b1.again, _, d1⟩⟩
end UNIT
/-- all of it, by how deep it goes -/
theorem parse_sim : ∀ k : Nat, (∀ (lev o n n' : Nat), lev ≤ 5 → o ≤ 5 → (5 - o) * 7 + (5 - lev) + 1 ≤ k → k < n → k < n' → SX ((k_1_readLevel n).1 (nI lev) (nI o)) (mf n' lev) o) ∧
    (∀ (o n n' : Nat), o ≤ 5 → (5 - o) * 7 ≤ k → k < n → k < n' → SX ((k_1_readLevel n).2 (nI o)) (mf n' 5) o) := by
  intro k
  induction k with
  | zero =>
    refine ⟨fun lev o n n' h1 h2 h3 => absurd h3 (by omega), fun o n n' ho hk hn hn' => ?_⟩
    obtain ⟨n, rfl⟩ : ∃ z, n = z + 1 := ⟨n - 1, by omega⟩
    obtain ⟨n', rfl⟩ : ∃ z, n' = z + 1 := ⟨n' - 1, by omega⟩
    intro B e L u b p m h h' c c'
    by_cases w : f_8_within (hereB B L p) 48 57 = 0
    · by_cases wn : nm u (hereB B L p) = -1
      · by_cases w3 : hereB B L p = 33 ∨ hereB B L p = 40
        · exact unit_full c c' (by omega) w3
        · exact unit_no c c' w wn (fun z => w3 (Or.inl z)) (fun z => w3 (Or.inr z))
      · exact unit_name c c' wn
    · exact unit_num c c' w
  | succ k ih =>
    refine ⟨fun lev o n n' h1 h2 h3 hn hn' => ?_, fun o n n' ho hk hn hn' => ?_⟩
    · obtain ⟨n, rfl⟩ : ∃ z, n = z + 1 := ⟨n - 1, by omega⟩
      by_cases h5 : lev = 5
      · subst h5
        have S := ih.2 o n n' h2 (by omega) (by omega) (by omega)
        intro B e L u b p m h h' c c'
        obtain ⟨h1, v, h1', e1, e2, e3⟩ := S B e L u b p m h h' c c'
        refine ⟨h1, v, h1', ?_, e2, e3⟩
        show b_1_readLevel (k_1_readLevel n).1 (k_1_readLevel n).2 (nI 5) (nI o) h = some h1
        unfold b_1_readLevel
        rw [if_neg (by decide), e1, bnd_s]
      · obtain ⟨n', rfl⟩ : ∃ z, n' = z + 1 := ⟨n' - 1, by omega⟩
        have S := ih.1 (lev + 1) o n n' (by omega) h2 (by omega) (by omega) (by omega)
        match lev, h1, h5, S with
        | 0, _, _, S => exact SX.loop (lev := 0) (by decide) (by decide) S (ml_0 _ _ _ _ _ _)
        | 1, _, _, S => exact SX.loop (lev := 1) (by decide) (by decide) S (ml_1 _ _ _ _ _ _)
        | 2, _, _, S => exact SX.cmp (k_9_both n').1 (k_9_both n').2.1 (k_9_both n').2.2.1 (k_9_both n').2.2.2.1 _ (k_9_both n').2.2.2.2.2 S
        | 3, _, _, S => exact SX.loop (lev := 3) (by decide) (by decide) S (ml_3 _ _ _ _ _ _)
        | 4, _, _, S => exact SX.loop (lev := 4) (by decide) (by decide) S (ml_4 _ _ _ _ _ _)
        | q + 5, h1, h5, _ => exact absurd h1 (by omega)
    · obtain ⟨n, rfl⟩ : ∃ z, n = z + 1 := ⟨n - 1, by omega⟩
      obtain ⟨n', rfl⟩ : ∃ z, n' = z + 1 := ⟨n' - 1, by omega⟩
      intro B e L u b p m h h' c c'
      by_cases w : f_8_within (hereB B L p) 48 57 = 0
      · by_cases wn : nm u (hereB B L p) = -1
        · by_cases o5 : o = 5
          · by_cases w3 : hereB B L p = 33 ∨ hereB B L p = 40
            · exact unit_full c c' o5 w3
            · exact unit_no c c' w wn (fun z => w3 (Or.inl z)) (fun z => w3 (Or.inr z))
          · by_cases w33 : hereB B L p = 33
            · exact unit_bang c c' (by omega) w33 (ih.2 (o + 1) n n' (by omega) (by omega) (by omega) (by omega))
            · by_cases w40 : hereB B L p = 40
              · exact unit_par c c' (by omega) w40 (ih.1 0 (o + 1) n n' (by omega) (by omega) (by omega) (by omega) (by omega))
              · exact unit_no c c' w wn w33 w40
        · exact unit_name c c' wn
      · exact unit_num c c' w
/-- from the start: as both readers begin -/
theorem parse_top (B e : Nat → Int32) (L u b : Nat) (h h' : Hp) (c : CS h B L u 0 0 0) (c' : MS h' B L u b 0 0 (-1) e) : ∃ h1 v h1', f_1_readLevel 0 0 h = some h1 ∧ f_9_either h' = some (v, h1') ∧ PO h h1 h' h1' B L u b 0 e 0 0 v :=
  (parse_sim 41).1 0 0 64 64 (by decide) (by decide) (by decide) (by decide) (by decide) B e L u b 0 0 h h' c c'
