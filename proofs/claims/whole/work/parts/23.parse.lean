/-! the two parsers, side by side -/
def CF (h : Hp) (L p : Nat) : Prop := h 100 3 = nI L ∧ h 100 5 = nI p ∧ h 100 6 = nI 1 ∧ (∃ m, m ≤ 50 ∧ h 100 1 = nI m) ∧ L ≤ 50 ∧ p ≤ L
theorem CS.cf {h : Hp} {B : Nat → Int32} {L u p m : Nat} (c : CS h B L u p m 0) : CF (u2 h 100 6 1) L p := by
  obtain ⟨c1, c2, c3, c4, c5, c6, c7, c8, c9, c10, c11⟩ := c
  exact ⟨(u2_k h _ (by decide)).trans c1, (u2_k h _ (by decide)).trans c3, u2_s h _ _ _, ⟨m, by omega, (u2_k h _ (by decide)).trans c5⟩, c7, c9⟩
theorem CF.again {h : Hp} {L p : Nat} (c : CF h L p) : CF (u2 h 100 6 1) L p := by
  obtain ⟨c1, c2, c3, ⟨m, c4, c5⟩, c6, c7⟩ := c
  exact ⟨(u2_k h _ (by decide)).trans c1, (u2_k h _ (by decide)).trans c2, u2_s h _ _ _, ⟨m, c4, (u2_k h _ (by decide)).trans c5⟩, c6, c7⟩
theorem CF.here {h : Hp} {L p : Nat} (c : CF h L p) : f_1_here h = some (-1) := by
  unfold f_1_here
  rw [c.2.2.1, if_neg (by decide)]
theorem CF.write {h : Hp} {L p : Nat} (x : Int32) (c : CF h L p) : ∃ h1, f_1_write x h = some h1 ∧ CF h1 L p ∧ FC h h1 := by
  obtain ⟨c1, c2, c3, ⟨m, c4, c5⟩, c6, c7⟩ := c
  unfold f_1_write
  rw [c5]
  by_cases q : m = 50
  · subst q
    exact ⟨h, if_pos (by decide), ⟨c1, c2, c3, ⟨50, c4, c5⟩, c6, c7⟩, FC.rf h⟩
  · have t : ¬ (50 : Int32) ≤ nI m := nI_ge (b := 50) (by omega) (by omega)
    have hq : ∀ k, k ≠ 1 → u2 (u2 h 101 m x) 100 1 (nI m + 1) 100 k = h 100 k := fun k hk => by
      rw [u2_k _ _ hk, u2_p h _ (by decide)]
    refine ⟨u2 (u2 h 101 m x) 100 1 (nI m + 1), ?_, ⟨(hq 3 (by decide)).trans c1, (hq 5 (by decide)).trans c2, (hq 6 (by decide)).trans c3, ⟨m + 1, by omega, by rw [u2_s, nI_1]⟩, c6, c7⟩, fun q x1 x2 => by rw [u2_p _ _ x1, u2_p h _ x2]⟩
    rw [if_neg t, gd_s _ (inb_nI (by omega) (by omega)), hl_eq, hl_eq, ci_nI (by omega), u2_p h _ (by decide), c5]
def mf (n lev : Nat) : Hp → Option (Int32 × Hp) := match lev with
  | 0 => (k_9_both n).2.2.1
  | 1 => (k_9_both n).1
  | 2 => (k_9_both n).2.1
  | 3 => (k_9_both n).2.2.2.2.1
  | 4 => (k_9_both n).2.2.2.1
  | _ => (k_9_both n).2.2.2.2.2
/-- the end, side by side, from the codes m0 on -/
def PL (h h1 h' h1' : Hp) (B : Nat → Int32) (L u b o : Nat) (e : Nat → Int32) (p m m0 : Nat) (v : Int32) : Prop := FC h h1 ∧ FM h' h1' ∧ ∃ p1, p ≤ p1 ∧
  ((∃ m1, m ≤ m1 ∧ m1 + p ≤ p1 + m ∧ CS h1 B L u p1 m1 0 ∧ MS h1' B L u b p1 o (-1) e ∧ (∀ i, i < m0 → h1 101 i = h 101 i) ∧ EV (h1 101) e m0 m1 v) ∨ (CF h1 L p1 ∧ ∃ o1, MS h1' B L u b p1 o1 (nI p1) e))
def PO (h h1 h' h1' : Hp) (B : Nat → Int32) (L u b o : Nat) (e : Nat → Int32) (p m : Nat) (v : Int32) : Prop := FC h h1 ∧ FM h' h1' ∧ ∃ p1, p ≤ p1 ∧
  ((∃ m1, p < p1 ∧ m < m1 ∧ m1 + p ≤ p1 + m ∧ CS h1 B L u p1 m1 0 ∧ MS h1' B L u b p1 o (-1) e ∧ (∀ i, i < m → h1 101 i = h 101 i) ∧ EV (h1 101) e m m1 v) ∨ (CF h1 L p1 ∧ ∃ o1, MS h1' B L u b p1 o1 (nI p1) e))
def SX (F : Hp → Option Hp) (g : Hp → Option (Int32 × Hp)) (o : Nat) : Prop := ∀ (B e : Nat → Int32) (L u b p m : Nat) (h h' : Hp), CS h B L u p m 0 → MS h' B L u b p o (-1) e → ∃ h1 v h1', F h = some h1 ∧ g h' = some (v, h1') ∧ PO h h1 h' h1' B L u b o e p m v
/-- a level's loop: what the reference's loop has to keep -/
def ML (op : Int32 → Prop) (g : Hp → Option (Int32 × Hp)) (lp : Nat → Int32 → Hp → Option (Int32 × Hp)) : Prop :=
  (∀ q x (h : Hp) r, f_9_here h = some r → ¬ op r → lp (q + 1) x h = some (x, h)) ∧
  (∀ q x (h : Hp) c y h2, f_9_here h = some c → op c → g (u2 h 114 5 ((h 114 5) + 1)) = some (y, h2) → lp (q + 1) x h = lp q (f_5_join c x y) h2)
theorem loop_sim {lev o : Nat} (hl : lev < 5) (hl2 : lev ≠ 2) {R1 : Int32 → Int32 → Hp → Option Hp} {R2 : Int32 → Hp → Option Hp} {g : Hp → Option (Int32 × Hp)} {lp : Nat → Int32 → Hp → Option (Int32 × Hp)}
    (S : SX (R1 (nI (lev + 1)) (nI o)) g o) (M : ML (fun c => f_1_levelOf c = nI lev) g lp) (hop : ∀ c, f_1_levelOf c = nI lev → 0 < c ∧ ¬ c = 33) {B e : Nat → Int32} {L u b m0 : Nat} :
    ∀ (j p m i q q' : Nat) (h h' : Hp) (v : Int32), L - p = j → j < q → j < q' → i ≤ p → CS h B L u p m 0 → MS h' B L u b p o (-1) e → m0 ≤ m → m ≤ p → EV (h 101) e m0 m v →
    ∃ h1 v1 h1', f_1_readLevel_21 R1 R2 (nI lev) (nI o) q (nI i) h = some h1 ∧ lp q' v h' = some (v1, h1') ∧ PL h h1 h' h1' B L u b o e p m m0 v1 := by
  intro j
  induction j using Nat.strongRecOn with
  | ind j ih =>
    intro p m i q q' h h' v hj hq hq' hi c c' hm hmp E
    obtain ⟨q, rfl⟩ : ∃ z, q = z + 1 := ⟨q - 1, by omega⟩
    obtain ⟨q', rfl⟩ : ∃ z, q' = z + 1 := ⟨q' - 1, by omega⟩
    have hp : p ≤ L := c.2.2.2.2.2.2.2.2.1
    have hL : L ≤ 50 := c.2.2.2.2.2.2.1
    have hm' := here_m hL hp c'
    by_cases op : f_1_levelOf (hereB B L p) = nI lev
    · have hlt : p < L := by
        by_cases z : p < L
        · exact z
        · exfalso
          unfold hereB at op
          rw [if_neg z] at op
          have e1 : f_1_levelOf (-1) = -1 := by decide
          rw [e1] at op
          have : (-1 : Int32).toInt = (lev : Int) := by rw [op, nI_toInt (by omega)]
          rw [show (-1 : Int32).toInt = -1 by decide] at this
          omega
      have t50 : ¬ (50 : Int32) ≤ nI i := nI_ge (b := 50) (by omega) (by omega)
      obtain ⟨h2, y, h2', a1, a2, f1, f2, p1, a3, a4⟩ := S B e L u b (p + 1) m _ _ (c.step hlt) c'.step
      have eC : f_1_readLevel_21 R1 R2 (nI lev) (nI o) (q + 1) (nI i) h = bnd (f_1_write (-(hereB B L p)) h2) (fun h15 => if nI lev = 2 then some h15 else f_1_readLevel_21 R1 R2 (nI lev) (nI o) q (nI i + 1) h15) := by
        rw [f_1_readLevel_21, if_neg t50, here_c c, bnd_s, if_pos op, bnd_s, hl_eq, nI_1 lev, a1, bnd_s]
      have eM : lp (q' + 1) v h' = lp q' (f_5_join (hereB B L p) v y) h2' := M.2 q' v h' _ y h2' hm' op a2
      have l2 : ¬ nI lev = 2 := by
        rw [lit_nI 2, eq_nI (by omega) (by omega)]
        exact hl2
      rcases a4 with ⟨m1, b1, b2, b3, b4, b5, b6, b7⟩ | ⟨b1, o1, b2⟩
      · have hp1 : p1 ≤ L := b4.2.2.2.2.2.2.2.2.1
        obtain ⟨h3, w1, w2, w3, w4, w5⟩ := write_c (-(hereB B L p)) b4 (by omega)
        have E1 : EV (h3 101) e m0 m v := E.cong hm (fun i hi => by rw [w5 i (by omega), b6 i hi, u2_p h _ (by decide)])
        have E2 : EV (h3 101) e m m1 y := b7.cong (by omega) (fun i hi => w5 i hi)
        have hop' := hop _ op
        have E3 := E1.bin E2 hm (by omega) w4 hop'.1 hop'.2
        obtain ⟨h1, v1, h1', d1, d2, g1, g2, p2, d3, d4⟩ := ih (L - p1) (by omega) p1 (m1 + 1) (i + 1) q q' h3 h2' (f_5_join (hereB B L p) v y) rfl (by omega) (by omega) (by omega) w2 b5 (by omega) (by omega) E3
        refine ⟨h1, v1, h1', ?_, ?_, ((FC.set h _ _).tr f1).tr (w3.tr g1), ((FM.set h' _ (by decide)).tr f2).tr g2, p2, by omega, ?_⟩
        · rw [eC, w1, bnd_s, if_neg l2, nI_1]
          exact d1
        · rw [eM]
          exact d2
        · rcases d4 with ⟨m2, z1, z2, z3, z4, z5, z6⟩ | z
          · refine Or.inl ⟨m2, by omega, by omega, z3, z4, fun i hi => ?_, z6⟩
            rw [z5 i hi, w5 i (by omega), b6 i (by omega), u2_p h _ (by decide)]
          · exact Or.inr z
      · obtain ⟨h3, w1, w2, w3⟩ := b1.write (-(hereB B L p))
        have hp1 : p1 ≤ L := b1.2.2.2.2.2
        have e1 : f_1_levelOf (-1) = -1 := by decide
        have nop : ¬ f_1_levelOf (-1) = nI lev := by
          rw [e1]
          intro z
          have : (-1 : Int32).toInt = (lev : Int) := by rw [z, nI_toInt (by omega)]
          rw [show (-1 : Int32).toInt = -1 by decide] at this
          omega
        obtain ⟨q, rfl⟩ : ∃ z, q = z + 1 := ⟨q - 1, by omega⟩
        obtain ⟨q', rfl⟩ : ∃ z, q' = z + 1 := ⟨q' - 1, by omega⟩
        refine ⟨h3, f_5_join (hereB B L p) v y, h2', ?_, ?_, ((FC.set h _ _).tr f1).tr w3, (FM.set h' _ (by decide)).tr f2, p1, by omega, Or.inr ⟨w2, o1, b2⟩⟩
        · rw [eC, w1, bnd_s, if_neg l2, nI_1, f_1_readLevel_21]
          by_cases z : (50 : Int32) ≤ nI (i + 1)
          · rw [if_pos z]
          · rw [if_neg z, w2.here, bnd_s, if_neg nop]
        · rw [eM]
          exact M.1 q' _ h2' (-1) (here_mf (q := p1) (by omega) b2) nop
    · refine ⟨h, v, h', ?_, M.1 q' v h' _ hm' op, FC.rf h, FM.rf h', p, Nat.le_refl p, Or.inl ⟨m, Nat.le_refl m, by omega, c, c', fun _ _ => rfl, E⟩⟩
      rw [f_1_readLevel_21]
      by_cases z : (50 : Int32) ≤ nI i
      · rw [if_pos z]
      · rw [if_neg z, here_c c, bnd_s, if_neg op]
