/-! a text's run: the row is a stack -/
def SR (h : Hp) (q : Nat) : List Int32 → Prop
  | [] => True
  | a :: r => h q r.length = a ∧ SR h q r
theorem SR.up {h : Hp} {q k : Nat} {v : Int32} : ∀ {st : List Int32}, SR h q st → st.length ≤ k → SR (u2 h q k v) q st
  | [], _, _ => trivial
  | a :: r, s, hk => by
    have hk : r.length + 1 ≤ k := hk
    exact ⟨by rw [u2_k h v (by omega)]; exact s.1, SR.up s.2 (by omega)⟩
theorem run_sim (p0 : Nat) (e : Nat → Int32) (C : Nat → Int32) (N : Nat) (hN : N ≤ 50) : ∀ (d i n : Nat) (st : List Int32) (h : Hp), N - i = d → i ≤ N → d < n → st.length ≤ i → h p0 2 = nI N → (∀ k, k < N → h (p0 + 1) k = C k) → SR h (p0 + 2) st →
    ∃ h1, f_5_run_6 p0 (e 0) (e 1) (e 2) n (nI st.length) (nI i) h = some (h1 (p0 + 2) 0, h1) ∧ SR h1 (p0 + 2) (ev C e d i st) ∧ ∀ q, q ≠ p0 + 2 → h1 q = h q := by
  intro d
  induction d with
  | zero =>
    intro i n st h hd hi hn hl hs hC s
    obtain ⟨n, rfl⟩ : ∃ z, n = z + 1 := ⟨n - 1, by omega⟩
    refine ⟨h, ?_, s, fun _ _ => rfl⟩
    rw [f_5_run_6, hs, if_pos (nI_le (by omega) (by omega))]
  | succ d ih =>
    intro i n st h hd hi hn hl hs hC s
    obtain ⟨n, rfl⟩ : ∃ z, n = z + 1 := ⟨n - 1, by omega⟩
    have t1 : ¬ nI N ≤ nI i := nI_ge (by omega) (by omega)
    have hc : h (p0 + 1) i = C i := hC i (by omega)
    have key : ∀ (st2 : List Int32) (h2 : Hp), ex (C i) e st = st2 → st2.length ≤ i + 1 → (∀ q, q ≠ p0 + 2 → h2 q = h q) → SR h2 (p0 + 2) st2 → ∃ h1, f_5_run_6 p0 (e 0) (e 1) (e 2) n (nI st2.length) (nI (i + 1)) h2 = some (h1 (p0 + 2) 0, h1) ∧ SR h1 (p0 + 2) (ev C e (d + 1) i st) ∧ ∀ q, q ≠ p0 + 2 → h1 q = h q := by
      intro st2 h2 e1 e2 e3 e4
      obtain ⟨h1, a1, a2, a3⟩ := ih (i + 1) n st2 h2 (by omega) (by omega) (by omega) e2 (by rw [e3 p0 (by omega)]; exact hs) (fun k hk => by rw [e3 (p0 + 1) (by omega)]; exact hC k hk) e4
      refine ⟨h1, a1, ?_, fun q hq => (a3 q hq).trans (e3 q hq)⟩
      show SR h1 (p0 + 2) (ev C e d (i + 1) (ex (C i) e st))
      rw [e1]
      exact a2
    have F : ∀ (k : Nat) (v : Int32) q, q ≠ p0 + 2 → u2 h (p0 + 2) k v q = h q := fun k v q hq => u2_p h v hq
    have base : f_5_run_6 p0 (e 0) (e 1) (e 2) (n + 1) (nI st.length) (nI i) h = if 0 < -(C i) then (if -(C i) = 33 then (if nI st.length ≤ 0 then f_5_run_6 p0 (e 0) (e 1) (e 2) n (nI st.length) (nI i + 1) h else
        (if h (p0 + 2) (st.length - 1) = 0 then f_5_run_6 p0 (e 0) (e 1) (e 2) n (nI st.length) (nI i + 1) (u2 h (p0 + 2) (st.length - 1) 1) else f_5_run_6 p0 (e 0) (e 1) (e 2) n (nI st.length) (nI i + 1) (u2 h (p0 + 2) (st.length - 1) 0)))
        else (if st.length ≤ 1 then f_5_run_6 p0 (e 0) (e 1) (e 2) n (nI st.length) (nI i + 1) h else f_5_run_6 p0 (e 0) (e 1) (e 2) n (nI (st.length - 1)) (nI i + 1) (u2 h (p0 + 2) (st.length - 2) (f_5_join (-(C i)) (h (p0 + 2) (st.length - 2)) (h (p0 + 2) (st.length - 1))))))
        else f_5_run_6 p0 (e 0) (e 1) (e 2) n (nI st.length + 1) (nI i + 1) (u2 h (p0 + 2) st.length (f_5_valueOf (C i) (e 0) (e 1) (e 2))) := by
      rw [f_5_run_6, hs, if_neg t1, gd_s _ (inb_nI (show i < 50 by omega) (by decide)), ci_nI (by omega), hc]
      by_cases a : 0 < -(C i)
      · rw [if_pos a, if_pos a]
        have na : ¬ -(C i) ≤ 0 := fun z => by
          rw [Int32.lt_iff_toInt_lt] at a
          rw [Int32.le_iff_toInt_le] at z
          omega
        by_cases b : -(C i) = 33
        · rw [if_pos b, if_pos b]
          by_cases c : nI st.length ≤ 0
          · have l0 : st.length = 0 := by
              have := (nI_leI (a := st.length) (b := 0) (by omega) (by omega)).mp c
              omega
            have c1 : nI st.length ≤ 1 := by rw [l0]; decide
            rw [if_pos c, if_pos c, if_neg na, if_pos c1]
          · have l0 : 0 < st.length := by
              rcases Nat.eq_zero_or_pos st.length with z | z
              · exact absurd (by rw [z]; decide) c
              · exact z
            have e1 : nI st.length - 1 = nI (st.length - 1) := by rw [lit_nI 1, pk_sub l0]
            have g1 : inb (nI (st.length - 1)) 50 = true := inb_nI (by omega) (by decide)
            rw [if_neg c, if_neg c, e1, gd_s _ g1, ci_nI (by omega)]
            by_cases z : h (p0 + 2) (st.length - 1) = 0
            · rw [if_pos z, if_pos z, gd_s _ g1]; rfl
            · rw [if_neg z, if_neg z, gd_s _ g1]; rfl
        · rw [if_neg b, if_neg b, if_neg na]
          by_cases c : st.length ≤ 1
          · have c1 : nI st.length ≤ (1 : Int32) := nI_le (b := 1) c (by decide)
            rw [if_pos c1, if_pos c]
          · have c1 : ¬ nI st.length ≤ 1 := nI_ge (a := 1) (by omega) (by omega)
            have e1 : nI st.length + (-1) = nI (st.length - 1) := by
              rw [show nI st.length = nI (st.length - 1 + 1) by rw [show st.length - 1 + 1 = st.length by omega], pk_m1]
            have e2 : nI (st.length - 1) - 1 = nI (st.length - 2) := by rw [lit_nI 1, pk_sub (by omega), show st.length - 1 - 1 = st.length - 2 by omega]
            rw [if_neg c1, if_neg c, e1, e2, gd_s _ (inb_nI (by omega) (by decide)), gd_s _ (inb_nI (by omega) (by decide)), gd_s _ (inb_nI (by omega) (by decide)), hl_eq, ci_nI (by omega), ci_nI (by omega)]
      · have t50 : ¬ (50 : Int32) ≤ nI st.length := nI_ge (b := 50) (by omega) (by omega)
        rw [if_neg a, if_neg a, if_neg t50, gd_s _ (inb_nI (show i < 50 by omega) (by decide)), gd_s _ (inb_nI (by omega) (by decide)), hl_eq, ci_nI (by omega)]
    rw [base]
    by_cases a : 0 < -(C i)
    · rw [if_pos a]
      by_cases b : -(C i) = 33
      · rw [if_pos b]
        cases st with
        | nil =>
          rw [if_pos (show nI ([] : List Int32).length ≤ 0 by decide), nI_1]
          exact key [] h (by unfold ex; rw [if_pos a, if_pos b]) (Nat.zero_le _) (fun _ _ => rfl) trivial
        | cons x r =>
          have hl : r.length + 1 ≤ i := hl
          have c : ¬ nI (x :: r).length ≤ 0 := nI_nle (n := r.length + 1) (by omega) (by omega)
          rw [if_neg c, nI_1]
          have e0 : h (p0 + 2) ((x :: r).length - 1) = x := s.1
          rw [e0]
          by_cases z : x = 0
          · rw [if_pos z]
            exact key (1 :: r) (u2 h (p0 + 2) (r.length + 1 - 1) 1) (by unfold ex; rw [if_pos a, if_pos b]; show (if x = 0 then (1 : Int32) else 0) :: r = 1 :: r; rw [if_pos z]) (by show r.length + 1 ≤ _; omega) (F _ _) ⟨u2_s h _ _ _, s.2.up (Nat.le_refl _)⟩
          · rw [if_neg z]
            exact key (0 :: r) (u2 h (p0 + 2) (r.length + 1 - 1) 0) (by unfold ex; rw [if_pos a, if_pos b]; show (if x = 0 then (1 : Int32) else 0) :: r = 0 :: r; rw [if_neg z]) (by show r.length + 1 ≤ _; omega) (F _ _) ⟨u2_s h _ _ _, s.2.up (Nat.le_refl _)⟩
      · rw [if_neg b]
        match st, s, hl with
        | [], s, hl =>
          rw [if_pos (show ([] : List Int32).length ≤ 1 by decide), nI_1]
          exact key [] h (by unfold ex; rw [if_pos a, if_neg b]) (Nat.zero_le _) (fun _ _ => rfl) trivial
        | [x], s, hl =>
          rw [if_pos (show ([x] : List Int32).length ≤ 1 by exact Nat.le_refl 1), nI_1]
          exact key [x] h (by unfold ex; rw [if_pos a, if_neg b]) (by show 1 ≤ _; omega) (fun _ _ => rfl) s
        | y :: x :: r, s, hl =>
          have hl : r.length + 2 ≤ i := hl
          rw [if_neg (show ¬ (y :: x :: r).length ≤ 1 by show ¬ r.length + 2 ≤ 1; omega), nI_1]
          have e1 : h (p0 + 2) ((y :: x :: r).length - 1) = y := s.1
          have e2 : h (p0 + 2) ((y :: x :: r).length - 2) = x := s.2.1
          rw [e1, e2]
          exact key (f_5_join (-(C i)) x y :: r) _ (by unfold ex; rw [if_pos a, if_neg b]) (by show r.length + 1 ≤ _; omega) (F _ _) ⟨u2_s h _ _ _, s.2.2.up (Nat.le_refl _)⟩
    · rw [if_neg a, nI_1, nI_1]
      exact key (f_5_valueOf (C i) (e 0) (e 1) (e 2) :: st) _ (by unfold ex; rw [if_neg a]) (by show st.length + 1 ≤ _; omega) (F _ _) ⟨u2_s h _ _ _, s.up (Nat.le_refl _)⟩
/-- a text that pushes v gives v -/
theorem run_val {p0 : Nat} {e C : Nat → Int32} {N : Nat} {v : Int32} {h : Hp} (hN : N ≤ 50) (hs : h p0 2 = nI N) (hC : ∀ k, k < N → h (p0 + 1) k = C k) (E : EV C e 0 N v) : ∃ h1, f_5_run p0 (e 0) (e 1) (e 2) h = some (v, h1) ∧ ∀ q, q ≠ p0 + 2 → h1 q = h q := by
  obtain ⟨h1, a1, a2, a3⟩ := run_sim p0 e C N hN N 0 FU [] h (by omega) (by omega) (by show N < 4096; omega) (Nat.le_refl 0) hs hC trivial
  have e1 := E []
  rw [show N - 0 = N by omega] at e1
  rw [e1] at a2
  refine ⟨h1, ?_, a3⟩
  have e2 : h1 (p0 + 2) 0 = v := a2.1
  rw [e2] at a1
  exact a1
