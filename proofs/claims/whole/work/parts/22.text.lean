/-! texts: the class's reader and the reference's either .. unit, side by side -/
/-- a code on a stack -/
def ex (c : Int32) (e : Nat → Int32) (st : List Int32) : List Int32 :=
  if 0 < -c then (if -c = 33 then (match st with
    | [] => []
    | a :: r => (if a = 0 then 1 else 0) :: r) else (match st with
    | b :: a :: r => f_5_join (-c) a b :: r
    | s => s)) else f_5_valueOf c (e 0) (e 1) (e 2) :: st
/-- k codes from the place s on -/
def ev (C : Nat → Int32) (e : Nat → Int32) : Nat → Nat → List Int32 → List Int32
  | 0, _, st => st
  | k + 1, s, st => ev C e k (s + 1) (ex (C s) e st)
theorem ev_add (C e : Nat → Int32) : ∀ (k j s : Nat) (st : List Int32), ev C e (k + j) s st = ev C e j (s + k) (ev C e k s st)
  | 0, j, s, st => by rw [Nat.zero_add, Nat.add_zero]; rfl
  | k + 1, j, s, st => by
    rw [show k + 1 + j = (k + j) + 1 by omega]
    show ev C e (k + j) (s + 1) _ = ev C e j (s + (k + 1)) (ev C e k (s + 1) _)
    rw [ev_add C e k j (s + 1), show s + 1 + k = s + (k + 1) by omega]
theorem ev_cong {C C' e : Nat → Int32} : ∀ (k s : Nat) (st : List Int32), (∀ i, s ≤ i → i < s + k → C' i = C i) → ev C' e k s st = ev C e k s st
  | 0, _, _, _ => rfl
  | k + 1, s, st, h => by
    show ev C' e k (s + 1) (ex (C' s) e st) = ev C e k (s + 1) (ex (C s) e st)
    rw [h s (Nat.le_refl s) (by omega), ev_cong k (s + 1) _ (fun i h1 h2 => h i (by omega) (by omega))]
/-- the codes from m to m1 push v -/
def EV (C e : Nat → Int32) (m m1 : Nat) (v : Int32) : Prop := ∀ st, ev C e (m1 - m) m st = v :: st
theorem EV.cong {C C' e : Nat → Int32} {m m1 : Nat} {v : Int32} (h : EV C e m m1 v) (hm : m ≤ m1) (hc : ∀ i, i < m1 → C' i = C i) : EV C' e m m1 v := fun st => by
  rw [ev_cong (m1 - m) m st (fun i h1 h2 => hc i (by omega))]
  exact h st
theorem EV.one {C e : Nat → Int32} {m : Nat} {v : Int32} (h : ∀ st, ex (C m) e st = v :: st) : EV C e m (m + 1) v := fun st => by
  rw [show m + 1 - m = 0 + 1 by omega]
  show ev C e 0 (m + 1) (ex (C m) e st) = _
  rw [h]
  rfl
theorem EV.bin {C e : Nat → Int32} {m m1 m2 : Nat} {x y : Int32} {s : Int32} (h1 : EV C e m m1 x) (h2 : EV C e m1 m2 y) (a : m ≤ m1) (b : m1 ≤ m2) (hc : C m2 = -s) (hs : 0 < s) (hn : ¬ s = 33) : EV C e m (m2 + 1) (f_5_join s x y) := fun st => by
  rw [show m2 + 1 - m = (m1 - m) + ((m2 - m1) + 1) by omega, ev_add, h1 st, show m + (m1 - m) = m1 by omega, ev_add, h2, show m1 + (m2 - m1) = m2 by omega]
  show ev C e 0 (m2 + 1) (ex (C m2) e _) = _
  have e1 : -(-s) = s := Int32.neg_neg
  show ex (C m2) e (y :: x :: st) = _
  unfold ex
  rw [hc, e1, if_pos hs, if_neg hn]
theorem EV.bang {C e : Nat → Int32} {m m1 : Nat} {x : Int32} (h1 : EV C e m m1 x) (a : m ≤ m1) (hc : C m1 = -33) : EV C e m (m1 + 1) (if x = 0 then 1 else 0) := fun st => by
  rw [show m1 + 1 - m = (m1 - m) + 1 by omega, ev_add, h1 st, show m + (m1 - m) = m1 by omega]
  show ex (C m1) e (x :: st) = _
  unfold ex
  rw [hc, if_pos (by decide), if_pos (by decide)]
/-- the byte at a place -/
def hereB (B : Nat → Int32) (L p : Nat) : Int32 := if p < L then B p else -1
def CS (h : Hp) (B : Nat → Int32) (L u p m f : Nat) : Prop := h 100 3 = nI L ∧ h 100 4 = nI u ∧ h 100 5 = nI p ∧ h 100 6 = nI f ∧ h 100 1 = nI m ∧ (∀ i, i < L → h 102 i = B i) ∧ L ≤ 50 ∧ u ≤ 1 ∧ p ≤ L ∧ m ≤ p ∧ f ≤ 1
def MS (h : Hp) (B : Nat → Int32) (L u b p o : Nat) (fl : Int32) (e : Nat → Int32) : Prop := h 114 4 = nI b ∧ h 114 5 = nI p ∧ h 114 6 = nI L ∧ h 114 7 = fl ∧ h 114 8 = nI o ∧ h 114 9 = nI u ∧ (∀ i, i < L → h 115 (b + i) = B i) ∧ b + 50 ≤ 380 ∧ (∀ i, i < 3 → h 118 i = e i)
theorem here_c {h : Hp} {B : Nat → Int32} {L u p m : Nat} (c : CS h B L u p m 0) : f_1_here h = some (hereB B L p) := by
  obtain ⟨c1, c2, c3, c4, c5, c6, c7, c8, c9, c10, c11⟩ := c
  unfold f_1_here hereB
  rw [c4, c1, c3, if_pos (show nI 0 = 0 from rfl)]
  by_cases q : p < L
  · rw [if_neg (nI_ge q (by omega)), if_pos q, gd_s _ (inb_nI (by omega) (by omega)), ci_nI (by omega), c6 p q]
  · rw [if_pos (nI_le (by omega) (by omega)), if_neg q]
theorem here_cf {h : Hp} {B : Nat → Int32} {L u p m : Nat} (c : CS h B L u p m 1) : f_1_here h = some (-1) := by
  unfold f_1_here
  rw [c.2.2.2.1, if_neg (by decide)]
theorem here_m {h : Hp} {B : Nat → Int32} {L u b p o : Nat} {e : Nat → Int32} (hL : L ≤ 50) (hp : p ≤ L) (c : MS h B L u b p o (-1) e) : f_9_here h = some (hereB B L p) := by
  obtain ⟨c1, c2, c3, c4, c5, c6, c7, c8, c9⟩ := c
  unfold f_9_here hereB
  rw [c1, c2, c3, c4]
  by_cases q : p < L
  · rw [if_neg (nI_ge q (by omega)), if_neg (by decide), if_pos q, nI_add, gd_s _ (inb_nI (by omega) (by omega)), ci_nI (by omega), c7 p q]
  · rw [if_pos (nI_le (by omega) (by omega)), if_neg q]
theorem here_mf {h : Hp} {B : Nat → Int32} {L u b p o q : Nat} {e : Nat → Int32} (hq : q < 2 ^ 31) (c : MS h B L u b p o (nI q) e) : f_9_here h = some (-1) := by
  unfold f_9_here
  rw [c.2.2.2.1]
  by_cases z : (h 114 6) ≤ (h 114 5)
  · rw [if_pos z]
  · rw [if_neg z, if_pos (nI_pos' hq)]
/-- which places changed -/
def FC (h h1 : Hp) : Prop := ∀ q, q ≠ 100 → q ≠ 101 → h1 q = h q
def FM (h h1 : Hp) : Prop := (∀ q, q ≠ 114 → h1 q = h q) ∧ ∀ k, k ≠ 5 → k ≠ 7 → k ≠ 8 → h1 114 k = h 114 k
theorem FC.rf (h : Hp) : FC h h := fun _ _ _ => rfl
theorem FM.rf (h : Hp) : FM h h := ⟨fun _ _ => rfl, fun _ _ _ _ => rfl⟩
theorem FC.tr {h h1 h2 : Hp} (a : FC h h1) (b : FC h1 h2) : FC h h2 := fun q x y => (b q x y).trans (a q x y)
theorem FM.tr {h h1 h2 : Hp} (a : FM h h1) (b : FM h1 h2) : FM h h2 := ⟨fun q x => (b.1 q x).trans (a.1 q x), fun k x y z => (b.2 k x y z).trans (a.2 k x y z)⟩
theorem FC.set (h : Hp) (k : Nat) (v : Int32) : FC h (u2 h 100 k v) := fun q x _ => u2_p h v x
theorem FM.set (h : Hp) {k : Nat} (v : Int32) (hk : k = 5 ∨ k = 7 ∨ k = 8) : FM h (u2 h 114 k v) := ⟨fun q x => u2_p h v x, fun j a b c => u2_k h v (by rcases hk with rfl | rfl | rfl <;> assumption)⟩
/-- one byte on -/
theorem CS.step {h : Hp} {B : Nat → Int32} {L u p m : Nat} (c : CS h B L u p m 0) (hp : p < L) : CS (u2 h 100 5 ((h 100 5) + 1)) B L u (p + 1) m 0 := by
  obtain ⟨c1, c2, c3, c4, c5, c6, c7, c8, c9, c10, c11⟩ := c
  refine ⟨(u2_k h _ (by decide)).trans c1, (u2_k h _ (by decide)).trans c2, ?_, (u2_k h _ (by decide)).trans c4, (u2_k h _ (by decide)).trans c5, fun i hi => ?_, c7, c8, by omega, by omega, c11⟩
  · rw [u2_s, c3, nI_1]
  · rw [u2_p h _ (by decide)]; exact c6 i hi
theorem MS.step {h : Hp} {B : Nat → Int32} {L u b p o : Nat} {fl : Int32} {e : Nat → Int32} (c : MS h B L u b p o fl e) : MS (u2 h 114 5 ((h 114 5) + 1)) B L u b (p + 1) o fl e := by
  obtain ⟨c1, c2, c3, c4, c5, c6, c7, c8, c9⟩ := c
  refine ⟨(u2_k h _ (by decide)).trans c1, ?_, (u2_k h _ (by decide)).trans c3, (u2_k h _ (by decide)).trans c4, (u2_k h _ (by decide)).trans c5, (u2_k h _ (by decide)).trans c6, fun i hi => ?_, c8, fun i hi => ?_⟩
  · rw [u2_s, c2, nI_1]
  · rw [u2_p h _ (by decide)]; exact c7 i hi
  · rw [u2_p h _ (by decide)]; exact c9 i hi
theorem CS.fail {h : Hp} {B : Nat → Int32} {L u p m f : Nat} (c : CS h B L u p m f) : CS (u2 h 100 6 1) B L u p m 1 := by
  obtain ⟨c1, c2, c3, c4, c5, c6, c7, c8, c9, c10, c11⟩ := c
  refine ⟨(u2_k h _ (by decide)).trans c1, (u2_k h _ (by decide)).trans c2, (u2_k h _ (by decide)).trans c3, ?_, (u2_k h _ (by decide)).trans c5, fun i hi => ?_, c7, c8, c9, c10, Nat.le_refl 1⟩
  · rw [u2_s]; rfl
  · rw [u2_p h _ (by decide)]; exact c6 i hi
/-- the reference's wrong(): the first fault stays -/
theorem wrong_m {h : Hp} {B : Nat → Int32} {L u b p o : Nat} {e : Nat → Int32} (c : MS h B L u b p o (-1) e) : ∃ h1, f_9_wrong h = some (0, h1) ∧ MS h1 B L u b p o (nI p) e ∧ FM h h1 := by
  obtain ⟨c1, c2, c3, c4, c5, c6, c7, c8, c9⟩ := c
  refine ⟨u2 h 114 7 (h 114 5), ?_, ?_, FM.set h _ (by decide)⟩
  · unfold f_9_wrong
    rw [c4, if_neg (by decide)]
    rfl
  · refine ⟨(u2_k h _ (by decide)).trans c1, (u2_k h _ (by decide)).trans c2, (u2_k h _ (by decide)).trans c3, by rw [u2_s, c2], (u2_k h _ (by decide)).trans c5, (u2_k h _ (by decide)).trans c6, fun i hi => ?_, c8, fun i hi => ?_⟩
    · rw [u2_p h _ (by decide)]; exact c7 i hi
    · rw [u2_p h _ (by decide)]; exact c9 i hi
theorem wrong_mf {h : Hp} {B : Nat → Int32} {L u b p o q : Nat} {e : Nat → Int32} (hq : q < 2 ^ 31) (c : MS h B L u b p o (nI q) e) : ∃ h1, f_9_wrong h = some (0, h1) ∧ MS h1 B L u b p o (nI q) e ∧ FM h h1 := by
  obtain ⟨c1, c2, c3, c4, c5, c6, c7, c8, c9⟩ := c
  refine ⟨u2 h 114 7 (h 114 7), ?_, ?_, FM.set h _ (by decide)⟩
  · unfold f_9_wrong
    rw [c4, if_pos (nI_pos' hq)]
    rfl
  · refine ⟨(u2_k h _ (by decide)).trans c1, (u2_k h _ (by decide)).trans c2, (u2_k h _ (by decide)).trans c3, by rw [u2_s, c4], (u2_k h _ (by decide)).trans c5, (u2_k h _ (by decide)).trans c6, fun i hi => ?_, c8, fun i hi => ?_⟩
    · rw [u2_p h _ (by decide)]; exact c7 i hi
    · rw [u2_p h _ (by decide)]; exact c9 i hi
/-- a code is written -/
theorem write_c {h : Hp} {B : Nat → Int32} {L u p m : Nat} (x : Int32) (c : CS h B L u p m 0) (hm : m < p) : ∃ h1, f_1_write x h = some h1 ∧ CS h1 B L u p (m + 1) 0 ∧ FC h h1 ∧ h1 101 m = x ∧ ∀ i, i < m → h1 101 i = h 101 i := by
  obtain ⟨c1, c2, c3, c4, c5, c6, c7, c8, c9, c10, c11⟩ := c
  have hq : ∀ k, k ≠ 1 → u2 (u2 h 101 m x) 100 1 (nI m + 1) 100 k = h 100 k := fun k hk => by
    rw [u2_k _ _ hk, u2_p h _ (by decide)]
  refine ⟨u2 (u2 h 101 m x) 100 1 (nI m + 1), ?_, ⟨(hq 3 (by decide)).trans c1, (hq 4 (by decide)).trans c2, (hq 5 (by decide)).trans c3, (hq 6 (by decide)).trans c4, by rw [u2_s, nI_1], fun i hi => ?_, c7, c8, c9, by omega, c11⟩, fun q x1 x2 => ?_, ?_, fun i hi => ?_⟩
  · unfold f_1_write
    have h50 : ¬ (50 : Int32) ≤ nI m := nI_ge (b := 50) (by omega) (by omega)
    rw [c5, if_neg h50, gd_s _ (inb_nI (by omega) (by omega)), hl_eq, hl_eq, ci_nI (by omega), u2_p h _ (by decide), c5]
  · rw [u2_p _ _ (by decide), u2_p h _ (by decide)]; exact c6 i hi
  · rw [u2_p _ _ x1, u2_p h _ x2]
  · rw [u2_p _ _ (by decide), u2_s]
  · rw [u2_p _ _ (by decide), u2_k h _ (by omega)]
/-- names of a use -/
def nm (u : Nat) (c : Int32) : Int32 := if u = 0 then (if c = 102 then 0 else if c = 119 then 1 else if c = 110 then 2 else -1) else (if c = 111 then 0 else if c = 108 then 1 else if c = 116 then 2 else -1)
theorem nameOf_c {h : Hp} {u : Nat} (c : Int32) (hu : h 100 4 = nI u) (h1 : u ≤ 1) : f_1_nameOf c h = some (nm u c) := by
  have step : ∀ (n i : Nat), i < 3 → f_1_nameOf_2 c h (n + 1) (nI i) = if stv 1 (3 * u + i) = c then some (nI i) else f_1_nameOf_2 c h n (nI (i + 1)) := by
    intro n i hi
    have t : ¬ (3 : Int32) ≤ nI i := nI_ge (b := 3) hi (by omega)
    rw [f_1_nameOf_2, hu, if_neg t, lit_nI 3, pk_mul, nI_add, gd_s _ (inb_nI (by omega) (by omega)), ci_nI (by omega), nI_1]
  have stop : ∀ n : Nat, f_1_nameOf_2 c h (n + 1) (nI 3) = some (-1) := by
    intro n
    rw [f_1_nameOf_2, if_pos (by decide)]
  show f_1_nameOf_2 c h (4092 + 1 + 1 + 1 + 1) (nI 0) = _
  rw [step _ 0 (by decide), step _ 1 (by decide), step _ 2 (by decide), stop]
  rcases (show u = 0 ∨ u = 1 by omega) with rfl | rfl
  · show (if (102 : Int32) = c then some (nI 0) else if (119 : Int32) = c then some (nI 1) else if (110 : Int32) = c then some (nI 2) else some (-1)) = some (nm 0 c)
    unfold nm
    rw [if_pos rfl]
    by_cases a : c = 102
    · subst a; rfl
    · by_cases b : c = 119
      · subst b; rfl
      · by_cases d : c = 110
        · subst d; rfl
        · rw [if_neg (Ne.symm a), if_neg (Ne.symm b), if_neg (Ne.symm d), if_neg a, if_neg b, if_neg d]
  · show (if (111 : Int32) = c then some (nI 0) else if (108 : Int32) = c then some (nI 1) else if (116 : Int32) = c then some (nI 2) else some (-1)) = some (nm 1 c)
    unfold nm
    rw [if_neg (show ¬ (1 : Nat) = 0 by decide)]
    by_cases a : c = 111
    · subst a; rfl
    · by_cases b : c = 108
      · subst b; rfl
      · by_cases d : c = 116
        · subst d; rfl
        · rw [if_neg (Ne.symm a), if_neg (Ne.symm b), if_neg (Ne.symm d), if_neg a, if_neg b, if_neg d]
theorem nameOf_m {h : Hp} {u : Nat} (c : Int32) (hu : h 114 9 = nI u) (h1 : u ≤ 1) : f_9_nameOf c h = nm u c := by
  unfold f_9_nameOf nm
  rw [hu]
  rcases (show u = 0 ∨ u = 1 by omega) with rfl | rfl
  · rw [if_pos (show nI 0 = 0 by decide), if_pos rfl]
  · rw [if_neg (show ¬ nI 1 = 0 by decide), if_neg (show ¬ (1 : Nat) = 0 by decide)]
theorem nm_cases (u : Nat) (c : Int32) : nm u c = -1 ∨ ∃ k : Nat, k < 3 ∧ nm u c = nI k := by
  unfold nm
  repeat' split
  all_goals first | exact Or.inl rfl | exact Or.inr ⟨0, by decide, rfl⟩ | exact Or.inr ⟨1, by decide, rfl⟩ | exact Or.inr ⟨2, by decide, rfl⟩
/-- a number, from its second digit on -/
theorem num_sim {B e : Nat → Int32} {L u b o m : Nat} (R1 R2 R3 R4 R5 R6 : Hp → Option (Int32 × Hp)) : ∀ (d k : Nat), k + d = 4 → 1 ≤ k → ∀ (v p n n' : Nat) (h h' : Hp), d < n → d < n' → v < 10 ^ k → CS h B L u p m 0 → MS h' B L u b p o (-1) e → m < p →
    ∃ (p1 v1 : Nat) (h1 h1' : Hp), p ≤ p1 ∧ v1 < 10000 ∧ f_1_readNumber_4 n (nI v) (nI k) h = some h1 ∧ CS h1 B L u p1 (m + 1) 0 ∧ FC h h1 ∧ h1 101 m = nI v1 ∧ (∀ i, i < m → h1 101 i = h 101 i) ∧ f_9_unit_150 R1 R2 R3 R4 R5 R6 n' (nI v) (nI k) h' = some (nI v1, h1') ∧ MS h1' B L u b p1 o (-1) e ∧ FM h' h1' := by
  intro d
  induction d with
  | zero =>
    intro k hk h1k v p n n' h h' hn hn' hv c c' hm
    obtain ⟨n, rfl⟩ : ∃ q, n = q + 1 := ⟨n - 1, by omega⟩
    obtain ⟨n', rfl⟩ : ∃ q, n' = q + 1 := ⟨n' - 1, by omega⟩
    obtain rfl : k = 4 := by omega
    obtain ⟨h1, e1, c1, f1, e2, e3⟩ := write_c (nI v) c hm
    refine ⟨p, v, h1, h', Nat.le_refl p, hv, ?_, c1, f1, e2, e3, ?_, c', FM.rf h'⟩
    · rw [f_1_readNumber_4, if_pos (by decide), e1, bnd_s]
    · rw [f_9_unit_150, if_pos (by decide), if_neg (by decide)]
  | succ d ih =>
    intro k hk h1k v p n n' h h' hn hn' hv c c' hm
    obtain ⟨n, rfl⟩ : ∃ q, n = q + 1 := ⟨n - 1, by omega⟩
    obtain ⟨n', rfl⟩ : ∃ q, n' = q + 1 := ⟨n' - 1, by omega⟩
    have hp : p ≤ L := c.2.2.2.2.2.2.2.2.1
    have hL : L ≤ 50 := c.2.2.2.2.2.2.1
    have k4 : ¬ (4 : Int32) ≤ nI k := nI_ge (b := 4) (by omega) (by omega)
    have k0 : ¬ nI k = 0 := nI_ne0 (by omega) (by omega)
    have wm : f_9_in (hereB B L p).toInt64 48 57 = f_8_within (hereB B L p) 48 57 := in_w (hereB B L p) 48 57 (by decide) (by decide)
    rcases wiC (hereB B L p) (A := 48) (B := 57) 48 57 (by decide) (by decide) (by decide) with ⟨w, -⟩ | ⟨w, q, q1, q2, hq⟩
    · obtain ⟨h1, e1, c1, f1, e2, e3⟩ := write_c (nI v) c hm
      refine ⟨p, v, h1, h', Nat.le_refl p, Nat.lt_of_lt_of_le hv (Nat.pow_le_pow_right (by decide) (show k ≤ 4 by omega)), ?_, c1, f1, e2, e3, ?_, c', FM.rf h'⟩
      · rw [f_1_readNumber_4, if_neg k4, here_c c, bnd_s, if_pos (show f_1_isDigit (hereB B L p) = 0 from w), e1, bnd_s]
      · rw [f_9_unit_150, if_neg k4, here_m hL hp c', bnd_s, wm, if_pos w, if_neg k0]
    · have hlt : p < L := by
        unfold hereB at hq
        by_cases z : p < L
        · exact z
        · rw [if_neg z] at hq
          have : (-1 : Int32).toInt = (q : Int) := by rw [hq, nI_toInt (by omega)]
          rw [show (-1 : Int32).toInt = -1 by decide] at this
          omega
      have w1 : ¬ f_8_within (hereB B L p) 48 57 = 0 := by rw [w]; decide
      have ev1 : (10 * nI v + nI q) - 48 = nI (10 * v + q - 48) := by
        rw [lit_nI 10, lit_nI 48, pk_mul, nI_add, pk_sub (by omega)]
      have hv2 : 10 * v + q - 48 < 10 ^ (k + 1) := by
        rw [Nat.pow_succ]
        omega
      obtain ⟨p1, v1, h1, h1', a1, a2, a3, a4, a5, a6, a7, a8, a9, a10⟩ := ih (k + 1) (by omega) (by omega) (10 * v + q - 48) (p + 1) n n' (u2 h 100 5 ((h 100 5) + 1)) (u2 h' 114 5 ((h' 114 5) + 1)) (by omega) (by omega) hv2 (c.step hlt) c'.step (by omega)
      refine ⟨p1, v1, h1, h1', by omega, a2, ?_, a4, (FC.set h 5 _).tr a5, a6, fun i hi => (a7 i hi).trans (by rw [u2_p h _ (by decide)]), ?_, a9, (FM.set h' _ (by decide)).tr a10⟩
      · rw [f_1_readNumber_4, if_neg k4, here_c c, bnd_s, if_neg (show ¬ f_1_isDigit (hereB B L p) = 0 from w1), bnd_s, hl_eq, hq, ev1, nI_1]
        exact a3
      · rw [f_9_unit_150, if_neg k4, here_m hL hp c', bnd_s, wm, if_neg w1, bnd_s, hl_eq, hq, ev1, nI_1]
        exact a8
