/-! plain facts: numbers, places, functions' pieces -/
theorem hl_eq {α β : Type} (a : α) (f : α → β) : hlet a f = f a := rfl
theorem bnd_s {α β : Type} (a : α) (f : α → Option β) : bnd (some a) f = f a := rfl
theorem bnd2_s {α β γ : Type} (a : α) (b : β) (f : α → β → Option γ) : bnd2 (some (a, b)) f = f a b := rfl
theorem gd_s {α : Type} {c : Bool} (x : Option α) (h : c = true) : gd c x = x := if_pos h
theorem bnd_e {α β : Type} {x : Option α} {a : α} (f : α → Option β) (h : x = some a) : bnd x f = f a := by rw [h]; rfl
theorem bnd2_e {α β γ : Type} {x : Option (α × β)} {a : α} {b : β} (f : α → β → Option γ) (h : x = some (a, b)) : bnd2 x f = f a b := by rw [h]; rfl
theorem u2_s (h : Hp) (p k : Nat) (v : Int32) : u2 h p k v p k = v := by simp [u2, upd]
theorem u2_k (h : Hp) {p k j : Nat} (v : Int32) (e : j ≠ k) : u2 h p k v p j = h p j := by simp [u2, upd, e]
theorem u2_p (h : Hp) {p k q : Nat} (v : Int32) (e : q ≠ p) : u2 h p k v q = h q := u2_n e
theorem u2_row (h : Hp) (p k : Nat) (v : Int32) : u2 h p k v p = upd (h p) k v := u2_i
theorem upd_s (f : Nat → Int32) (k : Nat) (v : Int32) : upd f k v k = v := by simp [upd]
theorem upd_n (f : Nat → Int32) {k j : Nat} (v : Int32) (e : j ≠ k) : upd f k v j = f j := by simp [upd, e]
theorem ci_nI {k : Nat} (h : k < 2 ^ 31) : ci (nI k) = k := nI_clamp h
theorem inb_nI {k N : Nat} (h : k < N) (hN : N < 2 ^ 31) : inb (nI k) N = true := by
  unfold inb
  rw [Bool.and_eq_true, decide_eq_true_eq, decide_eq_true_eq]
  exact vp_in_iff.mp (vp_in_nI h hN)
theorem lit_nI (n : Nat) : (OfNat.ofNat n : Int32) = nI n := rfl
/-- in a range -/
def sm (x : Int32) (n : Nat) : Prop := ∃ k : Nat, k ≤ n ∧ x = nI k
theorem wi_eq (x a b : Int32) : f_8_within x a b = if a ≤ x ∧ x ≤ b then 1 else 0 := by
  unfold f_8_within
  by_cases h1 : x < a
  · have h2 : ¬ (a ≤ x ∧ x ≤ b) := fun q => by
      have := q.1
      rw [Int32.le_iff_toInt_le] at this
      rw [Int32.lt_iff_toInt_lt] at h1
      omega
    rw [if_pos h1, if_neg h2]
  · have h3 : a ≤ x := by
      rw [Int32.lt_iff_toInt_lt] at h1
      rw [Int32.le_iff_toInt_le]
      omega
    by_cases h4 : b < x
    · have h2 : ¬ (a ≤ x ∧ x ≤ b) := fun q => by
        have := q.2
        rw [Int32.le_iff_toInt_le] at this
        rw [Int32.lt_iff_toInt_lt] at h4
        omega
      rw [if_neg h1, if_pos h4, if_neg h2]
    · have h5 : x ≤ b := by
        rw [Int32.lt_iff_toInt_lt] at h4
        rw [Int32.le_iff_toInt_le]
        omega
      rw [if_neg h1, if_neg h4, if_pos ⟨h3, h5⟩]
theorem nI_of_toInt {x : Int32} {k : Nat} (h : x.toInt = k) (hk : k < 2 ^ 31) : x = nI k := by
  apply Int32.toInt_inj.mp
  rw [h, nI_toInt hk]
/-- is in a range of natural bounds, or isn't -/
theorem wiC (x : Int32) {A B : Int32} (a b : Nat) (hA : A.toInt = a) (hB : B.toInt = b) (hb : b < 2 ^ 31) : (f_8_within x A B = 0 ∧ ∀ k, a ≤ k → k ≤ b → x ≠ nI k) ∨ (f_8_within x A B = 1 ∧ ∃ k, a ≤ k ∧ k ≤ b ∧ x = nI k) := by
  rw [wi_eq]
  by_cases c : A ≤ x ∧ x ≤ B
  · rw [if_pos c]
    right
    obtain ⟨c1, c2⟩ := c
    rw [Int32.le_iff_toInt_le] at c1 c2
    refine ⟨rfl, x.toInt.toNat, by omega, by omega, nI_of_toInt (by omega) (by omega)⟩
  · rw [if_neg c]
    left
    refine ⟨rfl, fun k h1 h2 e => c ?_⟩
    subst e
    rw [Int32.le_iff_toInt_le, Int32.le_iff_toInt_le, nI_toInt (by omega)]
    omega
/-- the same below a count -/
theorem wiM (x : Int32) {n : Nat} (hn : n < 2 ^ 31) : (f_8_within x 0 (nI n - 1) = 0 ∧ ∀ k, k < n → x ≠ nI k) ∨ (f_8_within x 0 (nI n - 1) = 1 ∧ ∃ k, k < n ∧ x = nI k) := by
  cases n with
  | zero =>
    left
    refine ⟨?_, fun k h => absurd h (Nat.not_lt_zero k)⟩
    rw [wi_eq, if_neg]
    rintro ⟨h1, h2⟩
    rw [Int32.le_iff_toInt_le] at h1 h2
    have e1 : (0 : Int32).toInt = 0 := by decide
    have e2 : (nI 0 - 1).toInt = -1 := by decide
    omega
  | succ m =>
    rw [nI_pred]
    rcases wiC x (A := 0) (B := nI m) 0 m (by decide) (nI_toInt (by omega)) (by omega) with ⟨h1, h2⟩ | ⟨h1, k, -, h3, h4⟩
    · exact Or.inl ⟨h1, fun k hk => h2 k (Nat.zero_le k) (by omega)⟩
    · exact Or.inr ⟨h1, k, by omega, h4⟩
theorem cmp_lt (x y : Int64) : lg_cmp x y < 0 ↔ x < y := by
  unfold lg_cmp
  by_cases h : x > y
  · have h2 : ¬ x < y := fun q => by
      rw [Int64.lt_iff_toInt_lt] at q
      have h : y < x := h
      rw [Int64.lt_iff_toInt_lt] at h
      omega
    rw [if_pos h]
    exact ⟨fun q => absurd q (by decide), fun q => absurd q h2⟩
  · rw [if_neg h]
    by_cases e : x = y
    · subst e
      rw [if_pos rfl]
      exact ⟨fun q => absurd q (by decide), fun q => absurd q h⟩
    · rw [if_neg e]
      have h : ¬ y < x := h
      have h3 : x < y := by
        rw [Int64.lt_iff_toInt_lt] at h ⊢
        have : x.toInt ≠ y.toInt := fun q => e (Int64.toInt_inj.mp q)
        omega
      exact ⟨fun _ => h3, fun _ => by decide⟩
theorem cmp_gt (x y : Int64) : 0 < lg_cmp x y ↔ y < x := by
  unfold lg_cmp
  by_cases h : x > y
  · rw [if_pos h]
    exact ⟨fun _ => h, fun _ => by decide⟩
  · rw [if_neg h]
    by_cases e : x = y
    · rw [if_pos e]
      exact ⟨fun q => absurd q (by decide), fun q => absurd q h⟩
    · rw [if_neg e]
      exact ⟨fun q => absurd q (by decide), fun q => absurd q h⟩
theorem cmp_eq (x y : Int64) : lg_cmp x y = 0 ↔ x = y := by
  unfold lg_cmp
  by_cases h : x > y
  · rw [if_pos h]
    have : x ≠ y := fun q => by
      subst q
      have h : x < x := h
      rw [Int64.lt_iff_toInt_lt] at h
      omega
    exact ⟨fun q => absurd q (by decide), fun q => absurd q this⟩
  · rw [if_neg h]
    by_cases e : x = y
    · rw [if_pos e]; exact ⟨fun _ => e, fun _ => rfl⟩
    · rw [if_neg e]; exact ⟨fun q => absurd q (by decide), fun q => absurd q e⟩
theorem wide_lt (a b : Int32) : a.toInt64 < b.toInt64 ↔ a < b := by
  rw [Int64.lt_iff_toInt_lt, Int32.lt_iff_toInt_lt, Int32.toInt_toInt64, Int32.toInt_toInt64]
/-- the reference's range is the class's -/
theorem in_w (x : Int32) {A B : Int64} (a b : Int32) (ha : a.toInt64 = A) (hb : b.toInt64 = B) : f_9_in x.toInt64 A B = f_8_within x a b := by
  subst ha
  subst hb
  unfold f_9_in f_8_within
  simp only [cmp_lt, cmp_gt, wide_lt]
theorem le_nI {a b : Nat} (ha : a < 2 ^ 31) (hb : b < 2 ^ 31) : (nI a ≤ nI b) = (a ≤ b) := propext (nI_leI ha hb)
theorem lt_nI {a b : Nat} (ha : a < 2 ^ 31) (hb : b < 2 ^ 31) : (nI a < nI b) = (a < b) := propext (nI_ltI ha hb)
theorem eq_nI {a b : Nat} (ha : a < 2 ^ 31) (hb : b < 2 ^ 31) : (nI a = nI b) = (a = b) := propext (nI_eq ha hb)
theorem rem_nI {a d : Nat} (ha : a < 2 ^ 31) (h0 : 0 < d) (hd : d < 2 ^ 31) : irm (nI a) (nI d) = nI (a % d) := pk_rem ha h0 hd
theorem sm_lt {x : Int32} {n : Nat} (h : sm x n) (hn : n < 2 ^ 31) : ∃ k : Nat, k ≤ n ∧ k < 2 ^ 31 ∧ x = nI k := by
  obtain ⟨k, h1, h2⟩ := h
  exact ⟨k, h1, by omega, h2⟩
