/-! signs and what they do -/
theorem lv_0 (c : Int32) : f_1_levelOf c = nI 0 ↔ c = 124 := by
  unfold f_1_levelOf
  constructor
  · intro h
    repeat' (split at h)
    all_goals first | assumption | exact absurd h (by decide)
  · rintro rfl; decide
theorem lv_1 (c : Int32) : f_1_levelOf c = nI 1 ↔ c = 38 := by
  unfold f_1_levelOf
  constructor
  · intro h
    repeat' (split at h)
    all_goals first | assumption | exact absurd h (by decide)
  · rintro rfl; decide
theorem lv_2 (c : Int32) : f_1_levelOf c = nI 2 ↔ (c = 60 ∨ c = 61 ∨ c = 62) := by
  unfold f_1_levelOf
  constructor
  · intro h
    repeat' (split at h)
    all_goals first | exact absurd h (by decide) | exact Or.inl (by assumption) | exact Or.inr (Or.inl (by assumption)) | exact Or.inr (Or.inr (by assumption))
  · rintro (rfl | rfl | rfl) <;> decide
theorem lv_3 (c : Int32) : f_1_levelOf c = nI 3 ↔ (c = 43 ∨ c = 45) := by
  unfold f_1_levelOf
  constructor
  · intro h
    repeat' (split at h)
    all_goals first | exact absurd h (by decide) | exact Or.inl (by assumption) | exact Or.inr (by assumption)
  · rintro (rfl | rfl) <;> decide
theorem lv_4 (c : Int32) : f_1_levelOf c = nI 4 ↔ (c = 42 ∨ c = 47 ∨ c = 37) := by
  unfold f_1_levelOf
  constructor
  · intro h
    repeat' (split at h)
    all_goals first | exact absurd h (by decide) | exact Or.inl (by assumption) | exact Or.inr (Or.inl (by assumption)) | exact Or.inr (Or.inr (by assumption))
  · rintro (rfl | rfl | rfl) <;> decide
theorem lv_pos {lev : Nat} (hl : lev < 5) (c : Int32) (h : f_1_levelOf c = nI lev) : 0 < c ∧ ¬ c = 33 := by
  match lev, hl with
  | 0, _ => rcases (lv_0 c).mp h with rfl; decide
  | 1, _ => rcases (lv_1 c).mp h with rfl; decide
  | 2, _ => rcases (lv_2 c).mp h with rfl | rfl | rfl <;> decide
  | 3, _ => rcases (lv_3 c).mp h with rfl | rfl <;> decide
  | 4, _ => rcases (lv_4 c).mp h with rfl | rfl | rfl <;> decide
theorem jn_124 (x y : Int32) : f_5_join 124 x y = if x = 0 then (if y = 0 then 0 else 1) else 1 := rfl
theorem jn_38 (x y : Int32) : f_5_join 38 x y = if x = 0 then 0 else (if y = 0 then 0 else 1) := rfl
theorem jn_43 (x y : Int32) : f_5_join 43 x y = x + y := rfl
theorem jn_45 (x y : Int32) : f_5_join 45 x y = x - y := rfl
theorem jn_42 (x y : Int32) : f_5_join 42 x y = x * y := rfl
theorem jn_47 (x y : Int32) : f_5_join 47 x y = if y = 0 then 0 else x / y := rfl
theorem jn_37 (x y : Int32) : f_5_join 37 x y = if y = 0 then 0 else irm x y := rfl
theorem jn_60 (x y : Int32) : f_5_join 60 x y = if y ≤ x then 0 else 1 := rfl
theorem jn_61 (x y : Int32) : f_5_join 61 x y = if x = y then 1 else 0 := rfl
theorem jn_62 (x y : Int32) : f_5_join 62 x y = if x ≤ y then 0 else 1 := rfl
theorem takes_y {h : Hp} {c : Int32} (hm : f_9_here h = some c) : f_9_takes c h = some (1, u2 h 114 5 ((h 114 5) + 1)) := by
  unfold f_9_takes
  rw [hm, bnd_s, if_pos rfl]
  rfl
theorem takes_n {h : Hp} {c r : Int32} (hm : f_9_here h = some r) (q : ¬ r = c) : f_9_takes c h = some (0, h) := by
  unfold f_9_takes
  rw [hm, bnd_s, if_neg q]
section MLS
variable (R1 R2 R3 R4 R5 R6 : Hp → Option (Int32 × Hp))
theorem ml_0 : ML (fun c => f_1_levelOf c = nI 0) R1 (f_9_either_5 R1 R2 R3 R4 R5 R6) := by
  refine ⟨fun q x h r hm op => ?_, fun q x h c y h2 hm op a => ?_⟩
  · have n : ¬ r = 124 := fun z => op ((lv_0 r).mpr z)
    rw [f_9_either_5, takes_n hm n, bnd2_s, if_pos rfl]
  · obtain rfl := (lv_0 c).mp op
    rw [f_9_either_5, takes_y hm, bnd2_s, if_neg (by decide), a, bnd2_s, jn_124]
    by_cases z : x = 0
    · rw [if_pos z, if_pos z]
      by_cases w : y = 0
      · rw [if_pos w, if_pos w]
      · rw [if_neg w, if_neg w]
    · rw [if_neg z, if_neg z]
theorem ml_1 : ML (fun c => f_1_levelOf c = nI 1) R2 (f_9_both_5 R1 R2 R3 R4 R5 R6) := by
  refine ⟨fun q x h r hm op => ?_, fun q x h c y h2 hm op a => ?_⟩
  · have n : ¬ r = 38 := fun z => op ((lv_1 r).mpr z)
    rw [f_9_both_5, takes_n hm n, bnd2_s, if_pos rfl]
  · obtain rfl := (lv_1 c).mp op
    rw [f_9_both_5, takes_y hm, bnd2_s, if_neg (by decide), a, bnd2_s, jn_38]
    by_cases z : x = 0
    · rw [if_pos z, if_pos z]
    · rw [if_neg z, if_neg z]
      by_cases w : y = 0
      · rw [if_pos w, if_pos w]
      · rw [if_neg w, if_neg w]
theorem ml_3 : ML (fun c => f_1_levelOf c = nI 3) R4 (f_9_sum_5 R1 R2 R3 R4 R5 R6) := by
  refine ⟨fun q x h r hm op => ?_, fun q x h c y h2 hm op a => ?_⟩
  · have n1 : ¬ r = 43 := fun z => op ((lv_3 r).mpr (Or.inl z))
    have n2 : ¬ r = 45 := fun z => op ((lv_3 r).mpr (Or.inr z))
    rw [f_9_sum_5, hm, bnd_s, if_neg n1, bnd_s, if_neg n2]
  · rcases (lv_3 c).mp op with rfl | rfl
    · rw [f_9_sum_5, hm, bnd_s, if_pos rfl, bnd_s, hl_eq, a, bnd2_s, if_pos rfl, jn_43]
    · rw [f_9_sum_5, hm, bnd_s, if_neg (by decide), bnd_s, if_pos rfl, bnd_s, hl_eq, a, bnd2_s, if_neg (by decide), jn_45]
theorem ml_4 : ML (fun c => f_1_levelOf c = nI 4) R6 (f_9_product_5 R1 R2 R3 R4 R5 R6) := by
  refine ⟨fun q x h r hm op => ?_, fun q x h c y h2 hm op a => ?_⟩
  · have n1 : ¬ r = 42 := fun z => op ((lv_4 r).mpr (Or.inl z))
    have n2 : ¬ r = 47 := fun z => op ((lv_4 r).mpr (Or.inr (Or.inl z)))
    have n3 : ¬ r = 37 := fun z => op ((lv_4 r).mpr (Or.inr (Or.inr z)))
    rw [f_9_product_5, hm, bnd_s, if_neg n1, bnd_s, if_neg n2, bnd_s, if_neg n3]
  · rcases (lv_4 c).mp op with rfl | rfl | rfl
    · rw [f_9_product_5, hm, bnd_s, if_pos rfl, bnd_s, hl_eq, a, bnd2_s, if_pos rfl, jn_42]
    · rw [f_9_product_5, hm, bnd_s, if_neg (by decide), bnd_s, if_pos rfl, bnd_s, hl_eq, a, bnd2_s, if_neg (by decide), jn_47]
      by_cases w : y = 0
      · rw [if_pos w, if_pos w]
      · rw [if_neg w, if_neg w, if_pos rfl]
    · rw [f_9_product_5, hm, bnd_s, if_neg (by decide), bnd_s, if_neg (by decide), bnd_s, if_pos rfl, bnd_s, hl_eq, a, bnd2_s, if_neg (by decide), jn_37]
      by_cases w : y = 0
      · rw [if_pos w, if_pos w]
      · rw [if_neg w, if_neg w, if_neg (by decide)]
end MLS
theorem SX.loop {lev o : Nat} (hl : lev < 5) (hl2 : lev ≠ 2) {R1 : Int32 → Int32 → Hp → Option Hp} {R2 : Int32 → Hp → Option Hp} {g : Hp → Option (Int32 × Hp)} {lp : Nat → Int32 → Hp → Option (Int32 × Hp)}
    (S : SX (R1 (nI (lev + 1)) (nI o)) g o) (M : ML (fun c => f_1_levelOf c = nI lev) g lp) : SX (b_1_readLevel R1 R2 (nI lev) (nI o)) (fun h => bnd2 (g h) (fun r2 h3 => lp FU r2 h3)) o := by
  intro B e L u b p m h h' c c'
  obtain ⟨h2, y, h2', a1, a2, f1, f2, p1, a3, a4⟩ := S B e L u b p m h h' c c'
  have t5 : nI lev < 5 := nI_lt (b := 5) hl (by omega)
  have eC : b_1_readLevel R1 R2 (nI lev) (nI o) h = f_1_readLevel_21 R1 R2 (nI lev) (nI o) FU (nI 0) h2 := by
    unfold b_1_readLevel
    rw [if_pos t5, nI_1, a1, bnd_s]
    rfl
  have eM : (bnd2 (g h') (fun r2 h3 => lp FU r2 h3)) = lp FU y h2' := by rw [a2, bnd2_s]
  rcases a4 with ⟨m1, b1, b2, b3, b4, b5, b6, b7⟩ | ⟨b1, o1, b2⟩
  · obtain ⟨h1, v1, h1', d1, d2, g1, g2, p2, d3, d4⟩ := loop_sim hl hl2 (R2 := R2) S M (lv_pos hl) (m0 := m) (L - p1) p1 m1 0 FU FU h2 h2' y rfl (by have := b4.2.2.2.2.2.2.1; show L - p1 < 4096; omega) (by have := b4.2.2.2.2.2.2.1; show L - p1 < 4096; omega) (Nat.zero_le _) b4 b5 (by omega) (by have := b4.2.2.2.2.2.2.2.2.2.1; have := c.2.2.2.2.2.2.2.2.2.1; omega) b7
    refine ⟨h1, v1, h1', eC.trans d1, eM.trans d2, f1.tr g1, f2.tr g2, p2, by omega, ?_⟩
    rcases d4 with ⟨m2, z1, z2, z3, z4, z5, z6⟩ | z
    · exact Or.inl ⟨m2, by omega, by omega, by omega, z3, z4, fun i hi => (z5 i hi).trans (b6 i hi), z6⟩
    · exact Or.inr z
  · have e1 : f_1_levelOf (-1) = -1 := by decide
    have hp1 : p1 ≤ L := b1.2.2.2.2.2
    have hL : L ≤ 50 := b1.2.2.2.2.1
    have nop : ¬ f_1_levelOf (-1) = nI lev := by
      rw [e1]
      intro z
      have : (-1 : Int32).toInt = (lev : Int) := by rw [z, nI_toInt (by omega)]
      rw [show (-1 : Int32).toInt = -1 by decide] at this
      omega
    refine ⟨h2, y, h2', eC.trans ?_, eM.trans (M.1 4095 y h2' (-1) (here_mf (q := p1) (by omega) b2) nop), f1, f2, p1, a3, Or.inr ⟨b1, o1, b2⟩⟩
    show f_1_readLevel_21 R1 R2 (nI lev) (nI o) (4095 + 1) (nI 0) h2 = _
    rw [f_1_readLevel_21, if_neg (by decide), b1.here, bnd_s, if_neg nop]
/-- the comparing level: one sign at most -/
theorem SX.cmp {o : Nat} {R1 : Int32 → Int32 → Hp → Option Hp} {R2 : Int32 → Hp → Option Hp} (g1 g2 g3 g4 g g6 : Hp → Option (Int32 × Hp))
    (S : SX (R1 (nI 3) (nI o)) g o) : SX (b_1_readLevel R1 R2 (nI 2) (nI o)) (b_9_compared g1 g2 g3 g4 g g6) o := by
  intro B e L u b p m h h' c c'
  obtain ⟨h2, x, h2', a1, a2, f1, f2, p1, a3, a4⟩ := S B e L u b p m h h' c c'
  have eC : b_1_readLevel R1 R2 (nI 2) (nI o) h = f_1_readLevel_21 R1 R2 (nI 2) (nI o) (4095 + 1) (nI 0) h2 := by
    unfold b_1_readLevel
    rw [if_pos (by decide), show (nI 2 + 1 : Int32) = nI 3 from rfl, a1, bnd_s]
    rfl
  rcases a4 with ⟨m1, b1, b2, b3, b4, b5, b6, b7⟩ | ⟨b1, o1, b2⟩
  · have hp1 : p1 ≤ L := b4.2.2.2.2.2.2.2.2.1
    have hL : L ≤ 50 := b4.2.2.2.2.2.2.1
    have hmp : m ≤ p := c.2.2.2.2.2.2.2.2.2.1
    have hm' := here_m hL hp1 b5
    by_cases op : f_1_levelOf (hereB B L p1) = nI 2
    · have hlt : p1 < L := by
        by_cases z : p1 < L
        · exact z
        · exfalso
          unfold hereB at op
          rw [if_neg z] at op
          exact absurd op (by decide)
      obtain ⟨h3, y, h3', d1, d2, g1', g2', p2, d3, d4⟩ := S B e L u b (p1 + 1) m1 _ _ (b4.step hlt) b5.step
      have eC2 : f_1_readLevel_21 R1 R2 (nI 2) (nI o) (4095 + 1) (nI 0) h2 = bnd (f_1_write (-(hereB B L p1)) h3) (fun h15 => some h15) := by
        rw [f_1_readLevel_21, if_neg (by decide), here_c b4, bnd_s, if_pos op, bnd_s, hl_eq, show (nI 2 + 1 : Int32) = nI 3 from rfl, d1, bnd_s]
        rfl
      have eM : b_9_compared g1 g2 g3 g4 g g6 h' = some (f_5_join (hereB B L p1) x y, h3') := by
        unfold b_9_compared
        rw [a2, bnd2_s, hm', bnd_s]
        rcases (lv_2 _).mp op with z | z | z
        · rw [z, if_pos rfl, hl_eq, d2, bnd2_s, if_pos rfl, jn_60]
          by_cases w : y ≤ x
          · rw [if_pos w, if_pos w]
          · rw [if_neg w, if_neg w]
        · rw [z, if_neg (by decide), if_pos rfl, hl_eq, d2, bnd2_s, if_neg (by decide), if_pos rfl, jn_61]
          by_cases w : x = y
          · rw [if_pos w, if_pos w]
          · rw [if_neg w, if_neg w]
        · rw [z, if_neg (by decide), if_neg (by decide), if_pos rfl, hl_eq, d2, bnd2_s, if_neg (by decide), if_neg (by decide), jn_62]
          by_cases w : x ≤ y
          · rw [if_pos w, if_pos w]
          · rw [if_neg w, if_neg w]
      rcases d4 with ⟨m2, z1, z2, z3, z4, z5, z6, z7⟩ | ⟨z1, o1, z2⟩
      · obtain ⟨h4, w1, w2, w3, w4, w5⟩ := write_c (-(hereB B L p1)) z4 (by omega)
        have E1 : EV (h4 101) e m m1 x := b7.cong (by omega) (fun i hi => by rw [w5 i (by omega), z6 i hi, u2_p _ _ (by decide)])
        have E2 : EV (h4 101) e m1 m2 y := z7.cong (by omega) (fun i hi => w5 i hi)
        have hop := lv_pos (lev := 2) (by decide) _ op
        refine ⟨h4, _, h3', ?_, eM, ((f1.tr (FC.set h2 _ _)).tr g1').tr w3, (f2.tr (FM.set h2' _ (by decide))).tr g2', p2, by omega, Or.inl ⟨m2 + 1, by omega, by omega, by omega, w2, z5, fun i hi => ?_, E1.bin E2 (by omega) (by omega) w4 hop.1 hop.2⟩⟩
        · rw [eC, eC2, w1, bnd_s]
        · rw [w5 i (by omega), z6 i (by omega), u2_p _ _ (by decide), b6 i hi]
      · obtain ⟨h4, w1, w2, w3⟩ := z1.write (-(hereB B L p1))
        refine ⟨h4, _, h3', ?_, eM, ((f1.tr (FC.set h2 _ _)).tr g1').tr w3, (f2.tr (FM.set h2' _ (by decide))).tr g2', p2, by omega, Or.inr ⟨w2, o1, z2⟩⟩
        rw [eC, eC2, w1, bnd_s]
    · have n1 : ¬ hereB B L p1 = 60 := fun z => op ((lv_2 _).mpr (Or.inl z))
      have n2 : ¬ hereB B L p1 = 61 := fun z => op ((lv_2 _).mpr (Or.inr (Or.inl z)))
      have n3 : ¬ hereB B L p1 = 62 := fun z => op ((lv_2 _).mpr (Or.inr (Or.inr z)))
      refine ⟨h2, x, h2', ?_, ?_, f1, f2, p1, a3, Or.inl ⟨m1, b1, b2, b3, b4, b5, b6, b7⟩⟩
      · rw [eC, f_1_readLevel_21, if_neg (by decide), here_c b4, bnd_s, if_neg op]
      · unfold b_9_compared
        rw [a2, bnd2_s, hm', bnd_s, if_neg n1, if_neg n2, if_neg n3]
  · have hp1 : p1 ≤ L := b1.2.2.2.2.2
    have hL : L ≤ 50 := b1.2.2.2.2.1
    refine ⟨h2, x, h2', ?_, ?_, f1, f2, p1, a3, Or.inr ⟨b1, o1, b2⟩⟩
    · rw [eC, f_1_readLevel_21, if_neg (by decide), b1.here, bnd_s, if_neg (by decide)]
    · unfold b_9_compared
      rw [a2, bnd2_s, here_mf (q := p1) (by omega) b2, bnd_s, if_neg (by decide), if_neg (by decide), if_neg (by decide)]
