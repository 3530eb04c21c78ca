/-! word -/
section
variable {h h2 : Hp}
theorem d10 {v : Nat} (hv : v < 100000) : nI v / 10 = nI (v / 10) ∧ irm (nI v) 10 = nI (v % 10) := ⟨pk_div (by omega) (by decide) (by decide), rem_nI (by omega) (by decide) (by decide)⟩
def okd : Nat → Nat → Bool
  | 0, _ => true
  | d + 1, v => if v = 0 then true else if 1 ≤ v % 10 ∧ v % 10 ≤ 3 then okd d (v / 10) else false
def ndd : Nat → Nat → Nat
  | 0, _ => 0
  | d + 1, v => if v = 0 then 0 else 1 + ndd d (v / 10)
def okx : Nat → Nat → Prop
  | 0, v => v = 0
  | j + 1, v => (1 ≤ v % 10 ∧ v % 10 ≤ 3) ∧ okx j (v / 10)
def dgs : Nat → Nat → Nat → Nat
  | 0, _, _ => 0
  | j + 1, v, k => if k = j then v % 10 - 1 else dgs j (v / 10) k
theorem okd_x : ∀ (d v : Nat), v < 10 ^ d → okd d v = true → okx (ndd d v) v
  | 0, v, e, _ => by
    show v = 0
    have : v < 1 := e
    omega
  | d + 1, v, e, o => by
    unfold okd at o
    unfold ndd
    by_cases z : v = 0
    · rw [if_pos z]; exact z
    · rw [if_neg z] at o ⊢
      by_cases c : 1 ≤ v % 10 ∧ v % 10 ≤ 3
      · rw [if_pos c] at o
        rw [Nat.add_comm]
        refine ⟨c, okd_x d (v / 10) ?_ o⟩
        rw [Nat.pow_succ] at e
        omega
      · rw [if_neg c] at o
        cases o
theorem ndd_le : ∀ (d v : Nat), ndd d v ≤ d
  | 0, _ => Nat.le_refl 0
  | d + 1, v => by
    unfold ndd
    by_cases z : v = 0
    · rw [if_pos z]; omega
    · rw [if_neg z]
      have := ndd_le d (v / 10)
      omega
theorem ndd_pos {d v : Nat} (hv : 0 < v) : 1 ≤ ndd (d + 1) v := by
  unfold ndd
  rw [if_neg (by omega)]
  omega
theorem dgs_lt : ∀ (j v k : Nat), okx j v → dgs j v k < 3
  | 0, _, _, _ => by show 0 < 3; omega
  | j + 1, v, k, o => by
    unfold dgs
    obtain ⟨o1, o2⟩ := o
    by_cases c : k = j
    · rw [if_pos c]; omega
    · rw [if_neg c]; exact dgs_lt j (v / 10) k o2
theorem dg_v {f : Nat → Int32} : ∀ (j v : Nat), okx j v → (∀ k, k < j → f k = nI (dgs j v k)) → dg f j = nI v
  | 0, v, o, _ => by
    have : v = 0 := o
    subst this
    rfl
  | j + 1, v, o, g => by
    obtain ⟨o1, o2⟩ := o
    have q := dg_v (f := f) j (v / 10) o2 (fun k hk => by
      rw [g k (by omega), dgs, if_neg (by omega)])
    show 10 * dg f j + f j + 1 = nI v
    have e : dgs (j + 1) v j = v % 10 - 1 := by unfold dgs; rw [if_pos rfl]
    rw [q, g j (by omega), e, lit_nI 10, pk_mul, nI_add, nI_1]
    congr 1
    omega
theorem wi13 {r : Nat} (hr : r < 10) : f_8_within (nI r) 1 3 = if 1 ≤ r ∧ r ≤ 3 then 1 else 0 := by
  rcases wiC (nI r) (A := 1) (B := 3) 1 3 (by decide) (by decide) (by decide) with ⟨e, q⟩ | ⟨e, k, k1, k2, q⟩
  · rw [e, if_neg]
    intro c
    exact q r c.1 c.2 rfl
  · have := (nI_eq (by omega) (by omega)).mp q
    rw [e, if_pos (by omega)]
theorem are_c : ∀ (d k n v : Nat), 5 = k + d → d < n → v < 10 ^ d → f_8_areSyllables_17 n (nI v) (nI k) = some (if okd d v = true then 1 else 0)
  | 0, k, n, v, e1, e2, e3 => by
    obtain ⟨n, rfl⟩ : ∃ z, n = z + 1 := ⟨n - 1, by omega⟩
    have c : (5 : Int32) ≤ nI k := nI_le (a := 5) (by omega) (by omega)
    rw [f_8_areSyllables_17, if_pos c]
    rfl
  | d + 1, k, n, v, e1, e2, e3 => by
    obtain ⟨n, rfl⟩ : ∃ z, n = z + 1 := ⟨n - 1, by omega⟩
    have p5 : 10 ^ (d + 1) ≤ 10 ^ 5 := Nat.pow_le_pow_right (by decide) (by omega)
    have v5 : v < 100000 := by
      have : (10 : Nat) ^ 5 = 100000 := by decide
      omega
    have c : ¬ (5 : Int32) ≤ nI k := nI_ge (b := 5) (by omega) (by decide)
    rw [f_8_areSyllables_17, if_neg c]
    unfold okd
    by_cases z : v = 0
    · subst z
      rw [if_pos (show nI 0 ≤ (0 : Int32) by decide), if_pos rfl]
      rfl
    · have c0 : ¬ nI v ≤ (0 : Int32) := nI_ge (a := 0) (by omega) (by omega)
      obtain ⟨q1, q2⟩ := d10 v5
      rw [if_neg c0, if_neg z, q1, q2, wi13 (by omega)]
      by_cases c3 : 1 ≤ v % 10 ∧ v % 10 ≤ 3
      · rw [if_pos c3, if_pos c3, if_neg (by decide), nI_1]
        refine are_c d (k + 1) n (v / 10) (by omega) (by omega) ?_
        rw [Nat.pow_succ] at e3
        omega
      · rw [if_neg c3, if_neg c3, if_pos rfl]
        rfl
theorem syl_0 (n : Nat) (a b : Int32) : f_9_syllablesOf_14 (n + 1) a b 0 = some 0 := by
  rw [f_9_syllablesOf_14, if_pos rfl]
  by_cases z : a ≤ 0
  · rw [if_pos z]
  · rw [if_neg z, if_pos rfl]
theorem syl_m : ∀ (d k n v : Nat), 5 = k + d → d + 1 < n → v < 10 ^ d → f_9_syllablesOf_14 n (nI v) (nI k) 1 = some (if okd d v = true then nI (k + ndd d v) else 0)
  | 0, k, n, v, e1, e2, e3 => by
    obtain ⟨n, rfl⟩ : ∃ z, n = z + 1 := ⟨n - 1, by omega⟩
    have : v = 0 := by
      have : v < 1 := e3
      omega
    subst this
    rw [f_9_syllablesOf_14, if_pos (show nI 0 ≤ (0 : Int32) by decide), if_neg (by decide)]
    rfl
  | d + 1, k, n, v, e1, e2, e3 => by
    obtain ⟨n, rfl⟩ : ∃ z, n = z + 1 := ⟨n - 1, by omega⟩
    have p5 : 10 ^ (d + 1) ≤ 10 ^ 5 := Nat.pow_le_pow_right (by decide) (by omega)
    have v5 : v < 100000 := by
      have : (10 : Nat) ^ 5 = 100000 := by decide
      omega
    rw [f_9_syllablesOf_14]
    unfold okd ndd
    by_cases z : v = 0
    · subst z
      rw [if_pos (show nI 0 ≤ (0 : Int32) by decide), if_neg (by decide)]
      rfl
    · have c0 : ¬ nI v ≤ (0 : Int32) := nI_ge (a := 0) (by omega) (by omega)
      obtain ⟨q1, q2⟩ := d10 v5
      have e9 := in_w (nI (v % 10)) (A := 1) (B := 3) 1 3 (by decide) (by decide)
      rw [if_neg c0, if_neg z, if_neg (by decide), q1, q2, e9, wi13 (by omega)]
      by_cases c3 : 1 ≤ v % 10 ∧ v % 10 ≤ 3
      · rw [if_pos c3, if_pos c3, nI_1, syl_m d (k + 1) n (v / 10) (by omega) (by omega) (by rw [Nat.pow_succ] at e3; omega), if_neg z, show k + 1 + ndd d (v / 10) = k + (1 + ndd d (v / 10)) by omega]
      · obtain ⟨n, rfl⟩ : ∃ z, n = z + 1 := ⟨n - 1, by omega⟩
        rw [if_neg c3, if_neg c3, syl_0]
        rfl
theorem spell_l {p : Nat} : ∀ (j v n : Nat) (h0 : Hp), j ≤ 5 → j < n → v < 100000 → ∃ h1, f_6_spell_57 p n (nI v) (nI j - 1) h0 = some h1 ∧ (∀ q, q ≠ p + 1 → h1 q = h0 q) ∧ (∀ t, j ≤ t → h1 (p + 1) t = h0 (p + 1) t) ∧ (okx j v → ∀ k, k < j → h1 (p + 1) k = nI (dgs j v k))
  | 0, v, n, h0, e1, e2, e3 => by
    obtain ⟨n, rfl⟩ : ∃ z, n = z + 1 := ⟨n - 1, by omega⟩
    refine ⟨h0, ?_, fun _ _ => rfl, fun _ _ => rfl, fun _ k hk => absurd hk (Nat.not_lt_zero k)⟩
    rw [f_6_spell_57, if_pos (by decide)]
  | j + 1, v, n, h0, e1, e2, e3 => by
    obtain ⟨n, rfl⟩ : ∃ z, n = z + 1 := ⟨n - 1, by omega⟩
    obtain ⟨q1, q2⟩ := d10 e3
    obtain ⟨h1, a1, a2, a3, a4⟩ := spell_l j (v / 10) n (u2 h0 (p + 1) j (irm (nI v) 10 - 1)) (by omega) (by omega) (by omega)
    have c : ¬ nI j < (0 : Int32) := fun q => absurd ((nI_ltI (b := 0) (by omega) (by decide)).mp q) (Nat.not_lt_zero _)
    refine ⟨h1, ?_, fun q hq => (a2 q hq).trans (u2_p _ _ hq), fun t ht => by rw [a3 t (by omega), u2_k _ _ (by omega)], fun o k hk => ?_⟩
    · rw [nI_pred, f_6_spell_57, if_neg c, gd_s _ (inb_nI (show j < 5 by omega) (by decide)), hl_eq, ci_nI (by omega), q1, ← Int32.sub_eq_add_neg, a1]
    · obtain ⟨o1, o2⟩ := o
      unfold dgs
      by_cases k2 : k = j
      · subst k2
        rw [if_pos rfl, a3 k (Nat.le_refl k), u2_s, q2, lit_nI 1, pk_sub (by omega)]
      · rw [if_neg k2]
        exact a4 o2 k (by omega)
theorem spell_m {s : Nat} (hs : s + 7 ≤ 380) (hs0 : 0 < s) : ∀ (j v n : Nat) (h0 : Hp), j ≤ 5 → j < n → v < 100000 → ∃ h1, f_9_word_86 (nI s) n (nI v) (nI j - 1) h0 = some (h1 115 0 - 1, h1) ∧ (∀ q, q ≠ 115 → h1 q = h0 q) ∧ h1 115 0 = h0 115 0 + 1 ∧ (∀ t, 0 < t → (t < s + 2 ∨ s + 2 + j ≤ t) → h1 115 t = h0 115 t) ∧ (okx j v → ∀ k, k < j → h1 115 (s + 2 + k) = nI (dgs j v k))
  | 0, v, n, h0, e1, e2, e3 => by
    obtain ⟨n, rfl⟩ : ∃ z, n = z + 1 := ⟨n - 1, by omega⟩
    refine ⟨u2 h0 115 0 (h0 115 0 + 1), ?_, fun q hq => u2_p _ _ hq, u2_s _ _ _ _, fun t ht _ => u2_k _ _ (by omega), fun _ k hk => absurd hk (Nat.not_lt_zero k)⟩
    rw [f_9_word_86, if_pos (by decide), hl_eq]
  | j + 1, v, n, h0, e1, e2, e3 => by
    obtain ⟨n, rfl⟩ : ∃ z, n = z + 1 := ⟨n - 1, by omega⟩
    obtain ⟨q1, q2⟩ := d10 e3
    obtain ⟨h1, a1, a2, a0, a3, a4⟩ := spell_m hs hs0 j (v / 10) n (u2 h0 115 (s + 2 + j) (irm (nI v) 10 - 1)) (by omega) (by omega) (by omega)
    have c : ¬ nI j < (0 : Int32) := fun q => absurd ((nI_ltI (b := 0) (by omega) (by decide)).mp q) (Nat.not_lt_zero _)
    refine ⟨h1, ?_, fun q hq => (a2 q hq).trans (u2_p _ _ hq), by rw [a0, u2_k _ _ (by omega)], fun t ht t2 => by rw [a3 t ht (by omega), u2_k _ _ (by omega)], fun o k hk => ?_⟩
    · rw [nI_pred, f_9_word_86, if_neg c, lit_nI 2, nI_add, nI_add, gd_s _ (inb_nI (show s + 2 + j < 380 by omega) (by decide)), hl_eq, ci_nI (by omega), q1, ← Int32.sub_eq_add_neg, a1]
    · obtain ⟨o1, o2⟩ := o
      unfold dgs
      by_cases k2 : k = j
      · subst k2
        rw [if_pos rfl, a3 _ (by omega) (by omega), u2_s, q2, lit_nI 1, pk_sub (by omega)]
      · rw [if_neg k2]
        exact a4 o2 k (by omega)
theorem spell_n {p : Nat} (x : Int32) : ∀ (d k n v : Nat) (h0 : Hp), 5 = k + d → d < n → v < 10 ^ d → h0 p 2 = nI k → ∃ h1, f_6_spell_17 p x n (nI v) h0 = f_6_spell_57 p FU x (nI (k + ndd d v) - 1) h1 ∧ (∀ q, q ≠ p → h1 q = h0 q) ∧ (∀ j, j ≠ 2 → h1 p j = h0 p j) ∧ h1 p 2 = nI (k + ndd d v)
  | 0, k, n, v, h0, e1, e2, e3, e4 => by
    obtain ⟨n, rfl⟩ : ∃ z, n = z + 1 := ⟨n - 1, by omega⟩
    have : v = 0 := by
      have : v < 1 := e3
      omega
    subst this
    refine ⟨h0, ?_, fun _ _ => rfl, fun _ _ => rfl, e4⟩
    rw [f_6_spell_17, if_pos (by decide), e4]
    rfl
  | d + 1, k, n, v, h0, e1, e2, e3, e4 => by
    obtain ⟨n, rfl⟩ : ∃ z, n = z + 1 := ⟨n - 1, by omega⟩
    have p5 : 10 ^ (d + 1) ≤ 10 ^ 5 := Nat.pow_le_pow_right (by decide) (by omega)
    have v5 : v < 100000 := by
      have : (10 : Nat) ^ 5 = 100000 := by decide
      omega
    rw [f_6_spell_17]
    unfold ndd
    by_cases z : v = 0
    · subst z
      refine ⟨h0, ?_, fun _ _ => rfl, fun _ _ => rfl, e4⟩
      rw [if_pos (show nI 0 ≤ (0 : Int32) by decide), e4]
      rfl
    · have c0 : ¬ nI v ≤ (0 : Int32) := nI_ge (a := 0) (by omega) (by omega)
      have c : ¬ (5 : Int32) ≤ nI k := nI_ge (b := 5) (by omega) (by decide)
      obtain ⟨q1, q2⟩ := d10 v5
      obtain ⟨h1, a1, a2, a3, a4⟩ := spell_n x d (k + 1) n (v / 10) (u2 h0 p 2 (nI (k + 1))) (by omega) (by omega) (by rw [Nat.pow_succ] at e3; omega) (u2_s _ _ _ _)
      rw [show k + 1 + ndd d (v / 10) = k + (1 + ndd d (v / 10)) by omega] at a1 a4
      refine ⟨h1, ?_, fun q hq => (a2 q hq).trans (u2_p _ _ hq), fun j hj => by rw [a3 j hj, u2_k _ _ hj], by rw [if_neg z]; exact a4⟩
      rw [if_neg c0, e4, if_neg c, hl_eq, nI_1, q1, a1, if_neg z]
theorem ai_newword {W : Nat} (X : AI h) (hW : h 1 10 = nI W) (W10 : W < 10) (e1 : h2 1 = upd (h 1) 10 (nI (W + 1))) (f : ∀ q, q ≠ 1 → q ≠ 16 + 2 * W → q ≠ 17 + 2 * W → q ≠ 115 → h2 q = h q) (d1 : h2 115 0 = nI (W + 1)) (d : ∀ k, k ≠ 0 → (k < 84 + 7 * W ∨ 91 + 7 * W ≤ k) → h2 115 k = h 115 k) (N : WD h2 (16 + 2 * W) (h2 115) (84 + 7 * W)) : AI h2 := by
  have x := X.1
  refine ai_w X (f 0 (by omega) (by omega) (by omega) (by decide)) (fun q q1 q2 => f q (by omega) (by omega) (by omega) q2) ?_
  obtain ⟨x1, ⟨a1, a2, a3, a4⟩, x3, x4, x5⟩ := x.1
  have e11 : h2 1 11 = h 1 11 := by rw [e1, upd_n _ _ (by decide)]
  have l6 := x.L.2
  refine ⟨?_, ⟨fun k hk => ?_, fun k hk => ?_, fun k hk => ?_, fun k hk => ?_⟩, fun j hj => ?_, fun i hi => ?_, ?_, ?_⟩
  · obtain ⟨y1, y2, y3, y4, y5, y6, y7⟩ := x1
    unfold gS
    rw [e1, d1, d 1 (by decide) (by omega), d 2 (by decide) (by omega), d 3 (by decide) (by omega), d 4 (by decide) (by omega), d 5 (by decide) (by omega), d 6 (by decide) (by omega)]
    exact ⟨⟨⟨W + 1, by omega, rfl⟩, rfl⟩, y2, y3, y4, y5, y6, y7⟩
  · rw [d _ (by omega) (by omega), f 2 (by omega) (by omega) (by omega) (by decide)]; exact a1 k hk
  · rw [d _ (by omega) (by omega), f 12 (by omega) (by omega) (by omega) (by decide)]; exact a2 k hk
  · rw [d _ (by omega) (by omega), f 13 (by omega) (by omega) (by omega) (by decide)]; exact a3 k hk
  · rw [d _ (by omega) (by omega), f 5 (by omega) (by omega) (by omega) (by decide)]; exact a4 k hk
  · have hj : j < W + 1 := by
      rw [e1, upd_s, ci_nI (by omega)] at hj
      exact hj
    by_cases c : j = W
    · subst c
      rw [show 1 + 15 + 2 * j = 16 + 2 * j by omega]
      exact N
    · exact ((x3 j (by rw [hW, ci_nI (by omega)]; omega)).fr (h1 := h2) (f _ (by omega) (by omega) (by omega) (by omega)) (f _ (by omega) (by omega) (by omega) (by omega))).frD (fun k hk => d _ (by omega) (by omega))
  · rw [e11] at hi
    have eW : ci (h2 1 10) = W + 1 := by rw [e1, upd_s, ci_nI (by omega)]
    have eW0 : ci (h 1 10) = W := by rw [hW, ci_nI (by omega)]
    rw [eW]
    exact ((x4 i hi).fr (h1 := h2) (f _ (by omega) (by omega) (by omega) (by omega)) (f _ (by omega) (by omega) (by omega) (by omega))).frD (fun k hk => d _ (by omega) (by omega)) (by omega)
  · exact (x5.1.fr (h1 := h2) (f _ (by omega) (by omega) (by omega) (by omega)) (f _ (by omega) (by omega) (by omega) (by omega))).frD (d _ (by omega) (by omega)) (fun i hi => d _ (by omega) (by omega))
  · exact (x5.2.fr (h1 := h2) (f _ (by omega) (by omega) (by omega) (by omega)) (f _ (by omega) (by omega) (by omega) (by omega))).frD (d _ (by omega) (by omega)) (fun i hi => d _ (by omega) (by omega))
theorem al_word (X : AI h) (a b : Int32) : Al (f_8_word a b) (f_9_word a b) h := by
  have x := X.1
  have ea := in_w a (A := 1) (B := 33333) 1 33333 (by decide) (by decide)
  have eb := in_w b (A := 0) (B := 99) 0 99 (by decide) (by decide)
  have n10 : ¬ (1 : Int32) = 0 := by decide
  have SY : (f_8_areSyllables a = some 0 ∧ f_9_syllablesOf a = some 0) ∨ ∃ v, 1 ≤ v ∧ v < 100000 ∧ okd 5 v = true ∧ a = nI v ∧ f_8_areSyllables a = some 1 ∧ f_9_syllablesOf a = some (nI (ndd 5 v)) := by
    unfold f_8_areSyllables f_9_syllablesOf
    rw [ea]
    rcases wiC a (A := 1) (B := 33333) 1 33333 (by decide) (by decide) (by decide) with ⟨w, _⟩ | ⟨w, v, v1, v2, rfl⟩
    · refine Or.inl ⟨by rw [w, if_pos rfl], by rw [w]; exact syl_0 4095 a 0⟩
    · have A := are_c 5 0 FU v (by omega) (by show _ < 4096; omega) (show v < 100000 by omega)
      have M := syl_m 5 0 FU v (by omega) (by show _ < 4096; omega) (show v < 100000 by omega)
      rw [w, if_neg n10]
      by_cases o : okd 5 v = true
      · rw [if_pos o] at A M
        rw [Nat.zero_add] at M
        exact Or.inr ⟨v, v1, by omega, o, rfl, A, M⟩
      · rw [if_neg o] at A M
        exact Or.inl ⟨A, M⟩
  rcases SY with ⟨s1, s2⟩ | ⟨v, v1, v5, o, rfl, s1, s2⟩
  · refine Al.er X (k := 1) (by decide) (by decide) ?_ (fun h1 f => ?_)
    · unfold f_8_word
      rw [s1, bnd_s, if_pos rfl, b2_id]; rfl
    · unfold f_9_word
      rw [s2, bnd_s, if_pos rfl, b2_id]; rfl
  have NP : 1 ≤ ndd 5 v := ndd_pos (by omega)
  have N5 : ndd 5 v ≤ 5 := ndd_le 5 v
  have OX : okx (ndd 5 v) v := okd_x 5 v v5 o
  have nz : ¬ nI (ndd 5 v) = 0 := fun q => by
    have := (nI_eq (b := 0) (by omega) (by decide)).mp q
    omega
  rcases wiC b (A := 0) (B := 99) 0 99 (by decide) (by decide) (by decide) with ⟨w, _⟩ | ⟨w, g, _, g9, rfl⟩
  · refine Al.er X (k := 1) (by decide) (by decide) ?_ (fun h1 f => ?_)
    · unfold f_8_word
      rw [s1, bnd_s, if_neg n10, w, if_pos rfl, b2_id]; rfl
    · unfold f_9_word
      rw [s2, bnd_s, if_neg nz, eb, w, if_pos rfl, b2_id]; rfl
  obtain ⟨W1, W2⟩ := x.W
  have D0 : h 115 0 = h 1 10 := x.1.1.1.2
  generalize ci (h 1 10) = W at W1 W2
  by_cases c : W < 10
  rotate_left
  · have W10 : W = 10 := by omega
    subst W10
    have c1 : ¬ h 1 10 < (10 : Int32) := by rw [W1]; decide
    have c2 : h 1 10 = (10 : Int32) := by rw [W1]; rfl
    refine Al.er X (k := 4) (by decide) (by decide) ?_ (fun h1 f => ?_)
    · unfold f_8_word
      rw [s1, bnd_s, if_neg n10, w, if_neg n10, if_neg c1, b2_id]; rfl
    · unfold f_9_word
      rw [s2, bnd_s, if_neg nz, eb, w, if_neg n10, f 115 (by decide), D0, if_pos c2, b2_id]; rfl
  have c1 : h 1 10 < (10 : Int32) := by rw [W1]; exact nI_lt (b := 10) c (by decide)
  have c2 : ¬ nI W = (10 : Int32) := fun q => by
    have := (nI_eq (a := W) (b := 10) (by omega) (by decide)).mp q
    omega
  obtain ⟨h1, a1, a2, a3, a4⟩ := spell_n (p := 16 + 2 * W) (nI v) 5 0 FU v (u2 (u2 (u2 h (16 + 2 * W) 1 (nI v)) (16 + 2 * W) 3 (nI g)) (16 + 2 * W) 2 0) (by omega) (by show _ < 4096; omega) v5 (u2_s _ _ _ _)
  rw [Nat.zero_add] at a1 a4
  obtain ⟨hb, b1, b2, b3, b4⟩ := spell_l (p := 16 + 2 * W) (ndd 5 v) v FU h1 N5 (by show _ < 4096; omega) v5
  have C : f_8_word (nI v) (nI g) h = some (nI W, u2 hb 1 10 (nI (W + 1))) := by
    have t : hb 1 10 = nI W := by rw [b2 1 (by omega), a2 1 (by omega), u2_p _ _ (by omega), u2_p _ _ (by omega), u2_p _ _ (by omega), W1]
    have a1' : f_6_spell_17 (16 + 2 * W) (nI v) FU (nI v) (u2 (u2 (u2 h (16 + 2 * W) 1 (nI v)) (16 + 2 * W) 3 (nI g)) (16 + 2 * W) 2 0) = some hb := a1.trans b1
    unfold f_8_word f_6_spell
    rw [s1, bnd_s, if_neg n10, w, if_neg n10, if_pos c1, W1, gd_s _ (inb_nI c (by decide)), ci_nI (by omega)]
    simp only [hl_eq]
    rw [a1', bnd_s, t, nI_1, u2_s, nI_pred]
  have F1 : ∀ q, q ≠ 1 → q ≠ 16 + 2 * W → q ≠ 16 + 2 * W + 1 → u2 hb 1 10 (nI (W + 1)) q = h q := fun q q1 q2 q3 => by
    rw [u2_p _ _ q1, b2 q q3, a2 q q2, u2_p _ _ q2, u2_p _ _ q2, u2_p _ _ q2]
  have F2 : u2 hb 1 10 (nI (W + 1)) 1 = upd (h 1) 10 (nI (W + 1)) := by
    rw [u2_row, b2 1 (by omega), a2 1 (by omega), u2_p _ _ (by omega), u2_p _ _ (by omega), u2_p _ _ (by omega)]
  have F3 : u2 hb 1 10 (nI (W + 1)) (16 + 2 * W) 1 = nI v := by
    rw [u2_p _ _ (by omega), b2 _ (by omega), a3 1 (by decide), u2_k _ _ (by decide), u2_k _ _ (by decide), u2_s]
  have F4 : u2 hb 1 10 (nI (W + 1)) (16 + 2 * W) 2 = nI (ndd 5 v) := by
    rw [u2_p _ _ (by omega), b2 _ (by omega), a4]
  have F5 : u2 hb 1 10 (nI (W + 1)) (16 + 2 * W) 3 = nI g := by
    rw [u2_p _ _ (by omega), b2 _ (by omega), a3 3 (by decide), u2_k _ _ (by decide), u2_s]
  have F6 : ∀ k, k < ndd 5 v → u2 hb 1 10 (nI (W + 1)) (16 + 2 * W + 1) k = nI (dgs (ndd 5 v) v k) := fun k hk => by
    rw [u2_p _ _ (by omega)]
    exact b4 OX k hk
  generalize u2 hb 1 10 (nI (W + 1)) = hc at C F1 F2 F3 F4 F5 F6
  have e115 : hc 115 = h 115 := F1 115 (by decide) (by omega) (by omega)
  obtain ⟨hm, m1, m2, m0, m3, m4⟩ := spell_m (s := 84 + 7 * W) (by omega) (by omega) (ndd 5 v) v FU (u2 (u2 hc 115 (84 + 7 * W + 0) (nI (ndd 5 v))) 115 (84 + 7 * W + 1) (nI g)) N5 (by show _ < 4096; omega) v5
  have k0 : u2 (u2 hc 115 (84 + 7 * W + 0) (nI (ndd 5 v))) 115 (84 + 7 * W + 1) (nI g) 115 0 = nI W := by
    rw [u2_k _ _ (by omega), u2_k _ _ (by omega), e115, D0, W1]
  rw [k0, nI_1] at m0
  refine ⟨nI W, hc, hm, C, ?_, ?_⟩
  · have e84 : 84 + 7 * nI W = nI (84 + 7 * W) := by rw [lit_nI 7, pk_mul, lit_nI 84, nI_add]
    unfold f_9_word
    rw [s2, bnd_s, if_neg nz, eb, w, if_neg n10, e115, D0, W1, if_neg c2, e84, lit_nI 0, nI_add, gd_s _ (inb_nI (show 84 + 7 * W + 0 < 380 by omega) (by decide)), hl_eq, lit_nI 1, nI_add, gd_s _ (inb_nI (show 84 + 7 * W + 1 < 380 by omega) (by decide)), hl_eq, ci_nI (by omega), ci_nI (by omega)]
    refine m1.trans ?_
    rw [m0, nI_pred]
  · have G : ∀ k, 0 < k → (k < 84 + 7 * W ∨ 91 + 7 * W ≤ k) → hm 115 k = h 115 k := fun k k1 k2 => by
      rw [m3 k k1 (by omega), u2_k _ _ (by omega), u2_k _ _ (by omega), e115]
    refine ai_newword X W1 c (by rw [m2 1 (by decide), u2_p _ _ (by decide), u2_p _ _ (by decide), F2]) (fun q q1 q2 q3 q4 => by rw [m2 q q4, u2_p _ _ q4, u2_p _ _ q4, F1 q q1 q2 (by omega)]) m0 (fun k k1 k2 => G k (by omega) k2) ?_
    have P : hm (16 + 2 * W) = hc (16 + 2 * W) := by rw [m2 _ (by omega), u2_p _ _ (by omega), u2_p _ _ (by omega)]
    have P1 : hm (16 + 2 * W + 1) = hc (16 + 2 * W + 1) := by rw [m2 _ (by omega), u2_p _ _ (by omega), u2_p _ _ (by omega)]
    unfold WD
    rw [P, P1]
    refine ⟨ndd 5 v, g, NP, N5, g9, F4, ?_, F5, ?_, ?_, fun k hk => ⟨dgs (ndd 5 v) v k, dgs_lt _ _ _ OX, F6 k hk, m4 OX k hk⟩⟩
    · rw [m3 _ (by omega) (by omega), u2_k _ _ (by omega)]
      exact u2_s _ _ _ _
    · rw [m3 _ (by omega) (by omega), u2_s]
    · rw [F3]
      exact (dg_v _ _ OX F6).symm
end
