/-! say -/
section
variable {h : Hp}
/-- the reference's say, once the words are there -/
def sy (l z : Nat) (a b c : Int32) (h : Hp) : Hp := u2 (u2 (u2 (u2 h 115 (154 + 9 * l + 5) (nI z)) 115 (154 + 9 * l + 6) (if z = 0 then 0 else a)) 115 (154 + 9 * l + 7) (if z ≤ 1 then 0 else b)) 115 (154 + 9 * l + 8) (if z ≤ 2 then 0 else c)
theorem sy_m {l : Nat} (l6 : l < 6) (a b c : Int32) (h1 : Hp) (q : f_9_isLine (nI l) h1 = some 1) : ∀ z, z ≤ 3 → (z ≥ 1 → f_9_isWord a h1 = some 1) → (z ≥ 2 → f_9_isWord b h1 = some 1) → (z ≥ 3 → f_9_isWord c h1 = some 1) → f_9_say (nI l) (nI z) a b c h1 = f_9_offOf (nI l) (sy l z a b c h1) := by
  intro z hz wa wb wc
  have s5 : ∀ v g, f_9_sets (nI l) 5 v g = some (u2 g 115 (154 + 9 * l + 5) v) := fun v g => sets_m (k := 5) l6 (by decide) v
  have s6 : ∀ v g, f_9_sets (nI l) 6 v g = some (u2 g 115 (154 + 9 * l + 6) v) := fun v g => sets_m (k := 6) l6 (by decide) v
  have s7 : ∀ v g, f_9_sets (nI l) 7 v g = some (u2 g 115 (154 + 9 * l + 7) v) := fun v g => sets_m (k := 7) l6 (by decide) v
  have s8 : ∀ v g, f_9_sets (nI l) 8 v g = some (u2 g 115 (154 + 9 * l + 8) v) := fun v g => sets_m (k := 8) l6 (by decide) v
  have k10 : (¬ (1 : Int32) = 0) := by decide
  unfold f_9_say sy
  rw [q, bnd_s, if_neg k10]
  obtain rfl | rfl | rfl | rfl : z = 0 ∨ z = 1 ∨ z = 2 ∨ z = 3 := by omega
  · have i : ¬ f_9_in (nI 0).toInt64 0 3 = 0 := by decide
    have a0 : nI 0 ≤ 0 := by decide
    have a1 : nI 0 ≤ 1 := by decide
    have a2 : nI 0 ≤ 2 := by decide
    rw [if_neg i, if_pos a0, if_pos a1, if_pos a2, s5, bnd_s, if_pos a0, s6, bnd_s, if_pos a1, s7, bnd_s, if_pos a2, s8, bnd_s, b2_id]
    rfl
  · have i : ¬ f_9_in (nI 1).toInt64 0 3 = 0 := by decide
    have a0 : ¬ nI 1 ≤ 0 := by decide
    have a1 : nI 1 ≤ 1 := by decide
    have a2 : nI 1 ≤ 2 := by decide
    rw [if_neg i, if_neg a0, wa (by decide), bnd_s, if_neg k10, if_pos a1, if_pos a2, s5, bnd_s, if_neg a0, s6, bnd_s, if_pos a1, s7, bnd_s, if_pos a2, s8, bnd_s, b2_id]
    rfl
  · have i : ¬ f_9_in (nI 2).toInt64 0 3 = 0 := by decide
    have a0 : ¬ nI 2 ≤ 0 := by decide
    have a1 : ¬ nI 2 ≤ 1 := by decide
    have a2 : nI 2 ≤ 2 := by decide
    rw [if_neg i, if_neg a0, wa (by decide), bnd_s, if_neg k10, if_neg a1, wb (by decide), bnd_s, if_neg k10, if_pos a2, s5, bnd_s, if_neg a0, s6, bnd_s, if_neg a1, s7, bnd_s, if_pos a2, s8, bnd_s, b2_id]
    rfl
  · have i : ¬ f_9_in (nI 3).toInt64 0 3 = 0 := by decide
    have a0 : ¬ nI 3 ≤ 0 := by decide
    have a1 : ¬ nI 3 ≤ 1 := by decide
    have a2 : ¬ nI 3 ≤ 2 := by decide
    rw [if_neg i, if_neg a0, wa (by decide), bnd_s, if_neg k10, if_neg a1, wb (by decide), bnd_s, if_neg k10, if_neg a2, wc (by decide), bnd_s, if_neg k10, s5, bnd_s, if_neg a0, s6, bnd_s, if_neg a1, s7, bnd_s, if_neg a2, s8, bnd_s, b2_id]
    rfl
/-- words that aren't there: the reference's error -/
theorem sy_e {l : Nat} (a b c : Int32) (h1 : Hp) (q : f_9_isLine (nI l) h1 = some 1) : ∀ z, z ≤ 3 → ((z ≥ 1 ∧ f_9_isWord a h1 = some 0) ∨ (z ≥ 2 ∧ f_9_isWord a h1 = some 1 ∧ f_9_isWord b h1 = some 0) ∨ (z ≥ 3 ∧ f_9_isWord a h1 = some 1 ∧ f_9_isWord b h1 = some 1 ∧ f_9_isWord c h1 = some 0)) → f_9_say (nI l) (nI z) a b c h1 = f_9_finds 1 h1 := by
  intro z hz w
  have k10 : (¬ (1 : Int32) = 0) := by decide
  have k00 : (0 : Int32) = 0 := rfl
  unfold f_9_say
  rw [q, bnd_s, if_neg k10]
  obtain rfl | rfl | rfl | rfl : z = 0 ∨ z = 1 ∨ z = 2 ∨ z = 3 := by omega
  · exact absurd w (by omega)
  · have i : ¬ f_9_in (nI 1).toInt64 0 3 = 0 := by decide
    have a0 : ¬ nI 1 ≤ 0 := by decide
    rcases w with ⟨_, w⟩ | ⟨w, _⟩ | ⟨w, _⟩
    · rw [if_neg i, if_neg a0, w, bnd_s, if_pos k00, b2_id]
    · omega
    · omega
  · have i : ¬ f_9_in (nI 2).toInt64 0 3 = 0 := by decide
    have a0 : ¬ nI 2 ≤ 0 := by decide
    have a1 : ¬ nI 2 ≤ 1 := by decide
    rcases w with ⟨_, w⟩ | ⟨_, w, w2⟩ | ⟨w, _⟩
    · rw [if_neg i, if_neg a0, w, bnd_s, if_pos k00, b2_id]
    · rw [if_neg i, if_neg a0, w, bnd_s, if_neg k10, if_neg a1, w2, bnd_s, if_pos k00, b2_id]
    · omega
  · have i : ¬ f_9_in (nI 3).toInt64 0 3 = 0 := by decide
    have a0 : ¬ nI 3 ≤ 0 := by decide
    have a1 : ¬ nI 3 ≤ 1 := by decide
    have a2 : ¬ nI 3 ≤ 2 := by decide
    rcases w with ⟨_, w⟩ | ⟨_, w, w2⟩ | ⟨_, w, w2, w3⟩
    · rw [if_neg i, if_neg a0, w, bnd_s, if_pos k00, b2_id]
    · rw [if_neg i, if_neg a0, w, bnd_s, if_neg k10, if_neg a1, w2, bnd_s, if_pos k00, b2_id]
    · rw [if_neg i, if_neg a0, w, bnd_s, if_neg k10, if_neg a1, w2, bnd_s, if_neg k10, if_neg a2, w3, bnd_s, if_pos k00, b2_id]
end
