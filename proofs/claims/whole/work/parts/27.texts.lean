/-! texts: a stored text's value, in the class and in the reference -/
/-- what a text's codes push -/
def tvl (C : Nat → Int32) (m : Nat) (e : Nat → Int32) : Int32 := (ev C e m 0 []).headD 0
theorem tvl_eq {C e : Nat → Int32} {m : Nat} {v : Int32} (E : EV C e 0 m v) : v = tvl C m e := by
  have q := E []
  rw [Nat.sub_zero] at q
  unfold tvl
  rw [q]
  rfl
theorem tvl_cong {C C' e : Nat → Int32} {m : Nat} (h : ∀ i, i < m → C' i = C i) : tvl C' m e = tvl C m e := by
  unfold tvl
  rw [ev_cong m 0 [] (fun i _ q => h i (by omega))]
def e3 (a b c : Int32) : Nat → Int32 := fun i => if i = 0 then a else if i = 1 then b else c
/-- the reference reads the bytes without a fault, and its value is the codes' -/
def TP (B : Nat → Int32) (n u : Nat) (C : Nat → Int32) (m : Nat) : Prop := ∀ (b : Nat) (e : Nat → Int32) (h' : Hp), MS h' B n u b 0 0 (-1) e → ∃ v h1', f_9_either h' = some (v, h1') ∧ FM h' h1' ∧ h1' 114 5 = nI n ∧ h1' 114 7 = -1 ∧ EV C e 0 m v
/-- the text at p, and use u of the array D -/
def TX (h : Hp) (p : Nat) (D : Nat → Int32) (u : Nat) : Prop := (h p 2 = 0 ∧ D (208 + u) = 0) ∨ ∃ n m : Nat, 1 ≤ n ∧ n ≤ 50 ∧ 1 ≤ m ∧ m ≤ 50 ∧ D (208 + u) = nI n ∧ h p 2 = nI m ∧ TP (fun i => D (230 + 50 * u + i)) n u (h (p + 1)) m
def df (u : Nat) (a b c : Int32) : Int32 := if u = 0 then (if a = b then 0 else if a = 0 then 5 else if b = 0 then 5 else 1) else (if a ≤ 3 + c / 10 then 0 else 1)
def cl (u : Nat) (v : Int32) : Int32 := if u = 0 then imax 0 (imin 99 v) else v
/-- the value of the text at p, for use u -/
def tA (h : Hp) (p u : Nat) (a b c : Int32) : Int32 := if h p 2 = 0 then df u a b c else cl u (tvl (h (p + 1)) (ci (h p 2)) (e3 a b c))
theorem i_le (x y : Int32) : x ≤ y ↔ ¬ y < x := by
  rw [Int32.le_iff_toInt_le, Int32.lt_iff_toInt_lt]
  omega
theorem held_eq (v : Int32) : f_9_held v 0 99 = imax 0 (imin 99 v) := by
  have e0 : (0 : Int32).toInt = 0 := by decide
  have e9 : (99 : Int32).toInt = 99 := by decide
  have q (x y : Int32) : x.toInt = y.toInt → x = y := Int32.toInt_inj.mp
  unfold f_9_held imax imin
  simp only [Int32.le_iff_toInt_le, Int32.lt_iff_toInt_lt, e0, e9]
  split <;> split <;> (try split) <;> (try split) <;> first | rfl | (apply q; omega) | omega
theorem cl_b (v : Int32) : ∃ k : Nat, k ≤ 99 ∧ imax 0 (imin 99 v) = nI k := by
  have e0 : (0 : Int32).toInt = 0 := by decide
  have e9 : (99 : Int32).toInt = 99 := by decide
  by_cases a : v < 99
  · by_cases b : (0 : Int32) < v
    · refine ⟨v.toInt.toNat, ?_, ?_⟩
      · rw [Int32.lt_iff_toInt_lt] at a b
        omega
      · unfold imin imax
        rw [if_pos a, if_pos b]
        rw [Int32.lt_iff_toInt_lt] at a b
        exact nI_of_toInt (by omega) (by omega)
    · refine ⟨0, Nat.zero_le _, ?_⟩
      unfold imin imax
      rw [if_pos a, if_neg b]
      rfl
  · refine ⟨99, Nat.le_refl _, ?_⟩
    unfold imin imax
    rw [if_neg a, if_pos (by decide)]
    rfl
theorem tA_b (h : Hp) (p : Nat) (a b c : Int32) : ∃ k : Nat, k ≤ 99 ∧ tA h p 0 a b c = nI k := by
  unfold tA df cl
  by_cases z : h p 2 = 0
  · rw [if_pos z, if_pos rfl]
    by_cases c1 : a = b
    · exact ⟨0, by decide, by rw [if_pos c1]; rfl⟩
    · by_cases c2 : a = 0
      · exact ⟨5, by decide, by rw [if_neg c1, if_pos c2]; rfl⟩
      · by_cases c3 : b = 0
        · exact ⟨5, by decide, by rw [if_neg c1, if_neg c2, if_pos c3]; rfl⟩
        · exact ⟨1, by decide, by rw [if_neg c1, if_neg c2, if_neg c3]; rfl⟩
  · rw [if_neg z, if_pos rfl]
    exact cl_b _
/-- what the reference's texts leave -/
def FT (h h1 : Hp) : Prop := (∀ q, q ≠ 114 → q ≠ 118 → h1 q = h q) ∧ ∀ k, (k < 4 ∨ 9 < k) → h1 114 k = h 114 k
theorem FT.rfl' (h : Hp) : FT h h := ⟨fun _ _ _ => rfl, fun _ _ => rfl⟩
theorem FT.tr {h h1 h2 : Hp} (a : FT h h1) (b : FT h1 h2) : FT h h2 := ⟨fun q x y => (b.1 q x y).trans (a.1 q x y), fun k x => (b.2 k x).trans (a.2 k x)⟩
/-- the class's text gives its value -/
theorem run_c {h : Hp} {p u : Nat} {D : Nat → Int32} (T : TX h p D u) (hu : u ≤ 1) (hp : h p 2 ≠ 0) (a b c : Int32) : ∃ h1, f_5_run p a b c h = some (tvl (h (p + 1)) (ci (h p 2)) (e3 a b c), h1) ∧ ∀ q, q ≠ p + 2 → h1 q = h q := by
  rcases T with ⟨z, _⟩ | ⟨n, m, n1, n2, m1, m2, d, s, t⟩
  · exact absurd z hp
  · let X : Hp := fun q k => if q = 114 then (if k = 5 then 0 else if k = 6 then nI n else if k = 7 then -1 else if k = 9 then nI u else 0) else if q = 115 then D (230 + 50 * u + k) else e3 a b c k
    obtain ⟨v, h1, e1, e2, e3', e4, e5⟩ := t 0 (e3 a b c) X ⟨rfl, rfl, rfl, rfl, rfl, rfl, fun i _ => by rw [Nat.zero_add]; rfl, by decide, fun _ _ => rfl⟩
    obtain ⟨h2, f1, f2⟩ := run_val (p0 := p) (e := e3 a b c) (C := h (p + 1)) (h := h) m2 s (fun _ _ => rfl) e5
    refine ⟨h2, ?_, f2⟩
    rw [s, ci_nI (by omega), ← tvl_eq e5]
    exact f1
theorem apart_c {h : Hp} {D : Nat → Int32} (T : TX h 6 D 0) (a b c : Int32) : ∃ h1, f_7_apartBy a b c h = some (tA h 6 0 a b c, h1) ∧ ∀ q, q ≠ 8 → h1 q = h q := by
  unfold f_7_apartBy tA df cl
  by_cases z : h 6 2 = 0
  · refine ⟨h, ?_, fun _ _ => rfl⟩
    rw [z, if_pos (by decide), if_pos rfl, if_pos rfl]
    by_cases c1 : a = b
    · rw [if_pos c1, if_pos c1]
    · by_cases c2 : a = 0
      · rw [if_neg c1, if_neg c1, if_pos c2, if_pos c2]
      · by_cases c3 : b = 0
        · rw [if_neg c1, if_neg c1, if_neg c2, if_neg c2, if_pos c3, if_pos c3]
        · rw [if_neg c1, if_neg c1, if_neg c2, if_neg c2, if_neg c3, if_neg c3]
  · obtain ⟨h1, e1, e2⟩ := run_c T (by decide) z a b c
    refine ⟨h1, ?_, e2⟩
    have nz : ¬ h 6 2 ≤ 0 := by
      rcases T with ⟨q, _⟩ | ⟨n, m, n1, n2, m1, m2, d, s, t⟩
      · exact absurd q z
      · rw [s]; exact nI_nle m1 (by omega)
    rw [if_neg nz, e1, bnd2_s, if_neg z, if_pos rfl]
theorem notice_c {h : Hp} {D : Nat → Int32} (T : TX h 9 D 1) (a b c : Int32) : ∃ h1, f_7_noticeBy a b c h = some (tA h 9 1 a b c, h1) ∧ ∀ q, q ≠ 11 → h1 q = h q := by
  unfold f_7_noticeBy tA df cl
  by_cases z : h 9 2 = 0
  · refine ⟨h, ?_, fun _ _ => rfl⟩
    rw [z, if_pos (by decide), if_pos rfl, if_neg (show ¬ (1 : Nat) = 0 by decide)]
    by_cases c1 : a ≤ 3 + c / 10
    · rw [if_pos c1, if_pos c1]
    · rw [if_neg c1, if_neg c1]
  · obtain ⟨h1, e1, e2⟩ := run_c T (by decide) z a b c
    refine ⟨h1, ?_, e2⟩
    have nz : ¬ h 9 2 ≤ 0 := by
      rcases T with ⟨q, _⟩ | ⟨n, m, n1, n2, m1, m2, d, s, t⟩
      · exact absurd q z
      · rw [s]; exact nI_nle m1 (by omega)
    rw [if_neg nz, e1, bnd2_s, if_neg z, if_neg (by decide)]
/-- the reference's text, worked -/
theorem work_m {h : Hp} {u n m : Nat} {C : Nat → Int32} {b : Nat} {B : Nat → Int32} (hu : u ≤ 1) (n1 : n ≤ 50) (hb : b + 50 ≤ 380) (hB : ∀ i, i < n → h 115 (b + i) = B i) (t : TP B n u C m) : ∃ h1, f_9_worked (nI b) (nI n) (nI u) h = some (tvl C m (h 118), h1) ∧ (∀ q, q ≠ 114 → h1 q = h q) ∧ ∀ k, (k < 4 ∨ 9 < k) → h1 114 k = h 114 k := by
  have key : ∀ h0 : Hp, MS h0 B n u b 0 0 (-1) (h 118) → (∀ q, q ≠ 114 → h0 q = h q) → (∀ k, (k < 4 ∨ 9 < k) → h0 114 k = h 114 k) → ∃ h1, (bnd2 (f_9_either h0) (fun r h => if 0 ≤ (h 114 7) then (some (r, h)) else (if (h 114 6) ≤ (h 114 5) then (some (r, h)) else (bnd2 (f_9_wrong h) (fun r h => some (r, h)))))) = some (tvl C m (h 118), h1) ∧ (∀ q, q ≠ 114 → h1 q = h q) ∧ ∀ k, (k < 4 ∨ 9 < k) → h1 114 k = h 114 k := by
    intro h0 M f1 f2
    obtain ⟨v, h1, e1, e2, e3, e4, e5⟩ := t b (h 118) h0 M
    refine ⟨h1, ?_, fun q hq => (e2.1 q hq).trans (f1 q hq), fun k hk => (e2.2 k (by omega) (by omega) (by omega)).trans (f2 k hk)⟩
    have e6 : h1 114 6 = nI n := (e2.2 6 (by decide) (by decide) (by decide)).trans M.2.2.1
    rw [e1, bnd2_s, e4, e6, e3, if_neg (by decide), if_pos (nI_le (Nat.le_refl n) (by omega)), tvl_eq e5]
  have w0 : ∀ (h : Hp) (p : Nat) (v : Int32) (k : Nat), k ≠ p → u2 h 114 p v 114 k = h 114 k := fun h p v k hk => u2_k h v hk
  unfold f_9_worked
  simp only [hl_eq]
  rcases (show u = 0 ∨ u = 1 by omega) with rfl | rfl
  · rw [if_neg (by decide)]
    refine key _ ⟨?_, ?_, ?_, ?_, ?_, ?_, ?_, hb, ?_⟩ ?_ ?_
    · rw [w0 _ _ _ _ (by decide), w0 _ _ _ _ (by decide), w0 _ _ _ _ (by decide), w0 _ _ _ _ (by decide), w0 _ _ _ _ (by decide), u2_s]
    · rw [w0 _ _ _ _ (by decide), w0 _ _ _ _ (by decide), w0 _ _ _ _ (by decide), w0 _ _ _ _ (by decide), u2_s]; rfl
    · rw [w0 _ _ _ _ (by decide), w0 _ _ _ _ (by decide), w0 _ _ _ _ (by decide), u2_s]
    · rw [w0 _ _ _ _ (by decide), w0 _ _ _ _ (by decide), u2_s]
    · rw [w0 _ _ _ _ (by decide), u2_s]; rfl
    · rw [u2_s]; rfl
    · intro i hi
      rw [u2_p _ _ (by decide), u2_p _ _ (by decide), u2_p _ _ (by decide), u2_p _ _ (by decide), u2_p _ _ (by decide), u2_p _ _ (by decide)]
      exact hB i hi
    · intro i hi
      rw [u2_p _ _ (by decide), u2_p _ _ (by decide), u2_p _ _ (by decide), u2_p _ _ (by decide), u2_p _ _ (by decide), u2_p _ _ (by decide)]
    · intro q hq
      rw [u2_p _ _ hq, u2_p _ _ hq, u2_p _ _ hq, u2_p _ _ hq, u2_p _ _ hq, u2_p _ _ hq]
    · intro k hk
      rw [w0 _ _ _ _ (by omega), w0 _ _ _ _ (by omega), w0 _ _ _ _ (by omega), w0 _ _ _ _ (by omega), w0 _ _ _ _ (by omega), w0 _ _ _ _ (by omega)]
  · rw [if_pos (by decide)]
    refine key _ ⟨?_, ?_, ?_, ?_, ?_, ?_, ?_, hb, ?_⟩ ?_ ?_
    · rw [w0 _ _ _ _ (by decide), w0 _ _ _ _ (by decide), w0 _ _ _ _ (by decide), w0 _ _ _ _ (by decide), w0 _ _ _ _ (by decide), u2_s]
    · rw [w0 _ _ _ _ (by decide), w0 _ _ _ _ (by decide), w0 _ _ _ _ (by decide), w0 _ _ _ _ (by decide), u2_s]; rfl
    · rw [w0 _ _ _ _ (by decide), w0 _ _ _ _ (by decide), w0 _ _ _ _ (by decide), u2_s]
    · rw [w0 _ _ _ _ (by decide), w0 _ _ _ _ (by decide), u2_s]
    · rw [w0 _ _ _ _ (by decide), u2_s]; rfl
    · rw [u2_s]; rfl
    · intro i hi
      rw [u2_p _ _ (by decide), u2_p _ _ (by decide), u2_p _ _ (by decide), u2_p _ _ (by decide), u2_p _ _ (by decide), u2_p _ _ (by decide)]
      exact hB i hi
    · intro i hi
      rw [u2_p _ _ (by decide), u2_p _ _ (by decide), u2_p _ _ (by decide), u2_p _ _ (by decide), u2_p _ _ (by decide), u2_p _ _ (by decide)]
    · intro q hq
      rw [u2_p _ _ hq, u2_p _ _ hq, u2_p _ _ hq, u2_p _ _ hq, u2_p _ _ hq, u2_p _ _ hq]
    · intro k hk
      rw [w0 _ _ _ _ (by omega), w0 _ _ _ _ (by omega), w0 _ _ _ _ (by omega), w0 _ _ _ _ (by omega), w0 _ _ _ _ (by omega), w0 _ _ _ _ (by omega)]
/-- the reference's text gives its value -/
theorem gives0 (a b c : Int32) (h : Hp) : f_9_textGives 0 a b c h = if (h 115 208) ≤ 0 then some (f_9_held (df 0 a b c) 0 99, h) else bnd2 (f_9_worked 230 (u2 (u2 (u2 h 118 0 a) 118 1 b) 118 2 c 115 208) 0 (u2 (u2 (u2 h 118 0 a) 118 1 b) 118 2 c)) (fun r h => some (f_9_held r 0 99, h)) := by
  unfold f_9_textGives df
  have g : ∀ x : Option (Int32 × Hp), gd (inb (208 + 0) 380) x = x := fun x => gd_s x (by decide)
  have k : ci (208 + 0) = 208 := by decide
  have k2 : (230 + (50 * 0) : Int32) = 230 := by decide
  simp only [hl_eq, g, k, k2, eq_self, if_true]
  by_cases c1 : a = b
  · rw [if_pos c1, if_pos c1]
  · rw [if_neg c1, if_neg c1]
    by_cases c2 : a = 0
    · rw [if_pos c2, if_pos c2]
    · rw [if_neg c2, if_neg c2]
      by_cases c3 : b = 0
      · rw [if_pos c3, if_pos c3]
      · rw [if_neg c3, if_neg c3]
theorem gives1 (a b c : Int32) (h : Hp) : f_9_textGives 1 a b c h = if (h 115 209) ≤ 0 then some (df 1 a b c, h) else bnd2 (f_9_worked 280 (u2 (u2 (u2 h 118 0 a) 118 1 b) 118 2 c 115 209) 1 (u2 (u2 (u2 h 118 0 a) 118 1 b) 118 2 c)) (fun r h => some (r, h)) := by
  unfold f_9_textGives df
  have g : ∀ x : Option (Int32 × Hp), gd (inb (208 + 1) 380) x = x := fun x => gd_s x (by decide)
  have k : ci (208 + 1) = 209 := by decide
  have k2 : (230 + (50 * 1) : Int32) = 280 := by decide
  simp only [hl_eq, g, k, k2, if_neg (show ¬ (1 : Int32) = 0 by decide), if_neg (show ¬ (1 : Nat) = 0 by decide)]
  by_cases c4 : a ≤ 3 + c / 10
  · simp only [if_pos c4, ite_self]
  · simp only [if_neg c4, ite_self]
theorem fr3 (h : Hp) (a b c : Int32) : (∀ q, q ≠ 118 → u2 (u2 (u2 h 118 0 a) 118 1 b) 118 2 c q = h q) ∧ ∀ i, i < 3 → u2 (u2 (u2 h 118 0 a) 118 1 b) 118 2 c 118 i = e3 a b c i := by
  refine ⟨fun q hq => by rw [u2_p _ _ hq, u2_p _ _ hq, u2_p _ _ hq], fun i hi => ?_⟩
  rcases (show i = 0 ∨ i = 1 ∨ i = 2 by omega) with rfl | rfl | rfl
  · rw [u2_k _ _ (by decide), u2_k _ _ (by decide), u2_s]; rfl
  · rw [u2_k _ _ (by decide), u2_s]; rfl
  · rw [u2_s]; rfl
theorem ex_cong {e e' : Nat → Int32} (q : ∀ i, i < 3 → e' i = e i) (c : Int32) (st : List Int32) : ex c e' st = ex c e st := by
  unfold ex
  rw [q 0 (by decide), q 1 (by decide), q 2 (by decide)]
theorem ev_congE {C e e' : Nat → Int32} (q : ∀ i, i < 3 → e' i = e i) : ∀ (k s : Nat) (st : List Int32), ev C e' k s st = ev C e k s st
  | 0, _, _ => rfl
  | k + 1, s, st => by
    show ev C e' k (s + 1) (ex (C s) e' st) = ev C e k (s + 1) (ex (C s) e st)
    rw [ex_cong q, ev_congE q k]
theorem tvl_congE {C e e' : Nat → Int32} {m : Nat} (q : ∀ i, i < 3 → e' i = e i) : tvl C m e' = tvl C m e := by
  unfold tvl
  rw [ev_congE q]
theorem apart_m {h : Hp} (T : TX h 6 (h 115) 0) (a b c : Int32) : ∃ h1, f_9_textGives 0 a b c h = some (tA h 6 0 a b c, h1) ∧ FT h h1 := by
  rw [gives0]
  rcases T with ⟨z, d⟩ | ⟨n, m, n1, n2, m1, m2, d, s, t⟩
  · refine ⟨h, ?_, FT.rfl' h⟩
    unfold tA
    have b : ∃ k : Nat, k ≤ 99 ∧ df 0 a b c = nI k := by
      have q := tA_b (fun _ _ => 0) 6 a b c
      unfold tA at q
      rw [if_pos rfl] at q
      exact q
    obtain ⟨k, k1, k2⟩ := b
    rw [show h 115 208 = 0 from d, if_pos (by decide), if_pos z, k2, held_eq]
    have e : imax 0 (imin 99 (nI k)) = nI k := by
      unfold imax imin
      have e1 : ¬ nI k < 0 := fun q => absurd ((nI_ltI (by omega) (by decide : (0 : Nat) < 2 ^ 31)).mp q) (by omega)
      by_cases c1 : nI k < 99
      · rw [if_pos c1]
        by_cases c2 : (0 : Int32) < nI k
        · rw [if_pos c2]
        · rw [if_neg c2]
          exact Int32.toInt_inj.mp (by
            rw [Int32.lt_iff_toInt_lt] at e1 c2
            have e0 : (0 : Int32).toInt = 0 := by decide
            omega)
      · rw [if_neg c1, if_pos (by decide)]
        apply Int32.toInt_inj.mp
        rw [Int32.lt_iff_toInt_lt] at c1
        have e9 : (99 : Int32).toInt = 99 := by decide
        have := nI_toInt (show k < 2 ^ 31 by omega)
        omega
    rw [e]
  · obtain ⟨f1, f2⟩ := fr3 h a b c
    have d : h 115 208 = nI n := d
    have nz : ¬ h 115 208 ≤ 0 := by rw [d]; exact nI_nle n1 (by omega)
    have nz2 : ¬ h 6 2 = 0 := by rw [s]; exact nI_ne0 m1 (by omega)
    generalize u2 (u2 (u2 h 118 0 a) 118 1 b) 118 2 c = hx at f1 f2 ⊢
    obtain ⟨h1, e1, e2, e3'⟩ := work_m (h := hx) (u := 0) (n := n) (m := m) (C := h 7) (b := 230) (B := fun i => h 115 (230 + 50 * 0 + i)) (by decide) n2 (by decide) (fun i _ => by rw [f1 115 (by decide)]) t
    refine ⟨h1, ?_, fun q q1 q2 => (e2 q q1).trans (f1 q q2), fun k hk => (e3' k hk).trans (by rw [f1 114 (by decide)])⟩
    have e1 : f_9_worked 230 (nI n) 0 hx = some (tvl (h 7) m (hx 118), h1) := e1
    rw [if_neg nz, f1 115 (by decide), d, e1, bnd2_s, held_eq]
    unfold tA cl
    rw [if_neg nz2, if_pos rfl, s, ci_nI (by omega), tvl_congE f2]
theorem notice_m {h : Hp} (T : TX h 9 (h 115) 1) (a b c : Int32) : ∃ h1, f_9_textGives 1 a b c h = some (tA h 9 1 a b c, h1) ∧ FT h h1 := by
  rw [gives1]
  rcases T with ⟨z, d⟩ | ⟨n, m, n1, n2, m1, m2, d, s, t⟩
  · refine ⟨h, ?_, FT.rfl' h⟩
    unfold tA
    rw [show h 115 209 = 0 from d, if_pos (by decide), if_pos z]
  · obtain ⟨f1, f2⟩ := fr3 h a b c
    have d : h 115 209 = nI n := d
    have nz : ¬ h 115 209 ≤ 0 := by rw [d]; exact nI_nle n1 (by omega)
    have nz2 : ¬ h 9 2 = 0 := by rw [s]; exact nI_ne0 m1 (by omega)
    generalize u2 (u2 (u2 h 118 0 a) 118 1 b) 118 2 c = hx at f1 f2 ⊢
    obtain ⟨h1, e1, e2, e3'⟩ := work_m (h := hx) (u := 1) (n := n) (m := m) (C := h 10) (b := 280) (B := fun i => h 115 (230 + 50 * 1 + i)) (by decide) n2 (by decide) (fun i _ => by rw [f1 115 (by decide)]) t
    refine ⟨h1, ?_, fun q q1 q2 => (e2 q q1).trans (f1 q q2), fun k hk => (e3' k hk).trans (by rw [f1 114 (by decide)])⟩
    have e1 : f_9_worked 280 (nI n) 1 hx = some (tvl (h 10) m (hx 118), h1) := e1
    rw [if_neg nz, f1 115 (by decide), d, e1, bnd2_s]
    unfold tA cl
    rw [if_neg nz2, if_neg (by decide), s, ci_nI (by omega), tvl_congE f2]
