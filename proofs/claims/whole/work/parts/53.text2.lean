/-! text -/
section
variable {h h2 : Hp}
theorem ai_tape (X : AI h) {u : Nat} (hu : u ≤ 1) (f : ∀ q, ¬ scr q → q ≠ 1 → q ≠ 115 → q ≠ 6 + 3 * u → q ≠ 7 + 3 * u → h2 q = h q) (e1 : h2 1 = upd (h 1) 12 0) (d5 : h2 115 5 = 0) (d : ∀ k, k ≠ 5 → k ≠ 208 + u → (k < 230 + 50 * u ∨ 280 + 50 * u ≤ k) → h2 115 k = h 115 k) (t2 : h2 114 2 = h 114 2) (t19 : h2 114 19 = h 114 19) (T : TX h2 (6 + 3 * u) (h2 115) u) : AI h2 := by
  have x := X.1
  have hP : ∃ hp : Hp, (∀ q, q ≠ 1 → q ≠ 115 → q ≠ 6 + 3 * u → q ≠ 7 + 3 * u → hp q = h q) ∧ hp 1 = h2 1 ∧ hp 115 = h2 115 ∧ hp (6 + 3 * u) = h2 (6 + 3 * u) ∧ hp (7 + 3 * u) = h2 (7 + 3 * u) := by
    refine ⟨fun q => if q = 1 ∨ q = 115 ∨ q = 6 + 3 * u ∨ q = 7 + 3 * u then h2 q else h q, fun q q1 q2 q3 q4 => ?_, ?_, ?_, ?_, ?_⟩
    · show (if _ then _ else _) = _
      rw [if_neg (by omega)]
    · show (if _ then _ else _) = _
      rw [if_pos (by omega)]
    · show (if _ then _ else _) = _
      rw [if_pos (by omega)]
    · show (if _ then _ else _) = _
      rw [if_pos (by omega)]
    · show (if _ then _ else _) = _
      rw [if_pos (by omega)]
  obtain ⟨hp, p0, p1, p2, p3, p4⟩ := hP
  have pf : PF hp h2 := by
    refine ⟨fun q hq => ?_, ?_, ?_⟩
    · by_cases c1 : q = 1
      · subst c1; exact p1.symm
      by_cases c2 : q = 115
      · subst c2; exact p2.symm
      by_cases c3 : q = 6 + 3 * u
      · rw [c3]; exact p3.symm
      by_cases c4 : q = 7 + 3 * u
      · rw [c4]; exact p4.symm
      rw [p0 q c1 c2 c3 c4]
      exact f q hq c1 c2 c3 c4
    · rw [p0 114 (by decide) (by decide) (by omega) (by omega)]; exact t2
    · rw [p0 114 (by decide) (by decide) (by omega) (by omega)]; exact t19
  refine pf.ai (ai_w X (p0 0 (by decide) (by decide) (by omega) (by omega)) (fun q q1 q2 => p0 q (by omega) q2 (by omega) (by omega)) ?_)
  rw [p2]
  obtain ⟨x1, ⟨a1, a2, a3, a4⟩, x3, x4, x5⟩ := x.1
  have n : ∀ q, q = 2 ∨ q = 5 ∨ q = 12 ∨ q = 13 ∨ (16 ≤ q ∧ q < 48) → hp q = h q := fun q hq => p0 q (by omega) (by omega) (by omega) (by omega)
  have w10 := x.W.2
  have l6 := x.L.2
  have s10 : hp 1 10 = h 1 10 := by rw [p1, e1, upd_n _ _ (by decide)]
  have s11 : hp 1 11 = h 1 11 := by rw [p1, e1, upd_n _ _ (by decide)]
  have T2 : TX hp (6 + 3 * u) (h2 115) u := T.fr p3 (by rw [show 6 + 3 * u + 1 = 7 + 3 * u by omega]; exact p4)
  refine ⟨?_, ⟨fun k hk => ?_, fun k hk => ?_, fun k hk => ?_, fun k hk => ?_⟩, fun j hj => ?_, fun i hi => ?_, ?_, ?_⟩
  · obtain ⟨y1, y2, y3, y4, y5, y6, y7⟩ := x1
    unfold gS
    rw [p1, e1, d 0 (by decide) (by omega) (by omega), d 1 (by decide) (by omega) (by omega), d 2 (by decide) (by omega) (by omega), d 3 (by decide) (by omega) (by omega), d 4 (by decide) (by omega) (by omega), d 6 (by decide) (by omega) (by omega), d5]
    exact ⟨y1, y2, y3, y4, y5, ⟨⟨0, by decide, rfl⟩, rfl⟩, y7⟩
  · rw [d _ (by omega) (by omega) (by omega), n 2 (by decide)]; exact a1 k hk
  · rw [d _ (by omega) (by omega) (by omega), n 12 (by decide)]; exact a2 k hk
  · rw [d _ (by omega) (by omega) (by omega), n 13 (by decide)]; exact a3 k hk
  · rw [d _ (by omega) (by omega) (by omega), n 5 (by decide)]; exact a4 k hk
  · rw [s10] at hj
    exact ((x3 j hj).fr (h1 := hp) (n _ (by omega)) (n _ (by omega))).frD (fun k hk => d _ (by omega) (by omega) (by omega))
  · rw [s11] at hi
    rw [s10]
    exact ((x4 i hi).fr (h1 := hp) (n _ (by omega)) (n _ (by omega))).frD (fun k hk => d _ (by omega) (by omega) (by omega)) (Nat.le_refl _)
  · obtain rfl | rfl : u = 0 ∨ u = 1 := by omega
    · exact T2
    · exact (x5.1.fr (h1 := hp) (p0 _ (by decide) (by decide) (by decide) (by decide)) (p0 _ (by decide) (by decide) (by decide) (by decide))).frD (d _ (by decide) (by decide) (by decide)) (fun i hi => d _ (by omega) (by omega) (by omega))
  · obtain rfl | rfl : u = 0 ∨ u = 1 := by omega
    · exact (x5.2.fr (h1 := hp) (p0 _ (by decide) (by decide) (by decide) (by decide)) (p0 _ (by decide) (by decide) (by decide) (by decide))).frD (d _ (by decide) (by decide) (by decide)) (fun i hi => d _ (by omega) (by omega) (by omega))
    · exact T2
/-- the reference keeps the bytes -/
theorem keep_m {u N : Nat} (hu : u ≤ 1) (hN : N ≤ 50) : ∀ (d k n : Nat) (h0 : Hp), N = k + d → d < n → ∃ h1, f_9_text_69 (nI u) (nI N) n (nI k) h0 = some (1, h1) ∧ (∀ q, q ≠ 115 → h1 q = h0 q) ∧ (∀ j, (j < 230 + 50 * u + k ∨ 280 + 50 * u ≤ j) → h1 115 j = h0 115 j) ∧ ∀ j, k ≤ j → j < N → h1 115 (230 + 50 * u + j) = h0 115 (330 + j)
  | 0, k, n, h0, e1, e2 => by
    obtain ⟨n, rfl⟩ : ∃ z, n = z + 1 := ⟨n - 1, by omega⟩
    refine ⟨h0, ?_, fun _ _ => rfl, fun _ _ => rfl, fun j a b => absurd a (by omega)⟩
    rw [f_9_text_69, if_pos (nI_le (by omega) (by omega))]
  | d + 1, k, n, h0, e1, e2 => by
    obtain ⟨n, rfl⟩ : ∃ z, n = z + 1 := ⟨n - 1, by omega⟩
    obtain ⟨h1, a1, a2, a3, a4⟩ := keep_m hu hN d (k + 1) n (u2 h0 115 (230 + 50 * u + k) (h0 115 (330 + k))) (by omega) (by omega)
    have ek : 230 + 50 * nI u + nI k = nI (230 + 50 * u + k) := by rw [lit_nI 50, pk_mul, lit_nI 230, nI_add, nI_add]
    have ek2 : 330 + nI k = nI (330 + k) := by rw [lit_nI 330, nI_add]
    refine ⟨h1, ?_, fun q hq => (a2 q hq).trans (u2_p _ _ hq), fun j hj => by rw [a3 j (by omega), u2_k _ _ (by omega)], fun j j1 j2 => ?_⟩
    · rw [f_9_text_69, if_neg (nI_ge (by omega) (by omega)), ek2, gd_s _ (inb_nI (show 330 + k < 380 by omega) (by decide)), ek, gd_s _ (inb_nI (show 230 + 50 * u + k < 380 by omega) (by decide)), hl_eq, ci_nI (by omega), ci_nI (by omega), nI_1, a1]
    · by_cases e : j = k
      · subst e
        rw [a3 (230 + 50 * u + j) (by omega), u2_s]
      · rw [a4 j (by omega) j2, u2_k _ _ (by omega)]
/-- the reference begins to work on bytes -/
theorem wk_m {u n b : Nat} {B : Nat → Int32} (hu : u ≤ 1) (hb : b + 50 ≤ 380) (hB : ∀ i, i < n → h 115 (b + i) = B i) : ∃ h0, MS h0 B n u b 0 0 (-1) (h 118) ∧ (∀ q, q ≠ 114 → h0 q = h q) ∧ (∀ k, (k < 4 ∨ 9 < k) → h0 114 k = h 114 k) ∧ f_9_worked (nI b) (nI n) (nI u) h = bnd2 (f_9_either h0) (fun r h => if 0 ≤ (h 114 7) then (some (r, h)) else (if (h 114 6) ≤ (h 114 5) then (some (r, h)) else (bnd2 (f_9_wrong h) (fun r h => some (r, h))))) := by
  have w0 : ∀ (h : Hp) (p : Nat) (v : Int32) (k : Nat), k ≠ p → u2 h 114 p v 114 k = h 114 k := fun h p v k hk => u2_k h v hk
  unfold f_9_worked
  simp only [hl_eq]
  have key : ∀ v : Int32, v = nI u → MS (u2 (u2 (u2 (u2 (u2 (u2 h 114 4 (nI b)) 114 5 0) 114 6 (nI n)) 114 7 (-1)) 114 8 0) 114 9 v) B n u b 0 0 (-1) (h 118) ∧ (∀ q, q ≠ 114 → (u2 (u2 (u2 (u2 (u2 (u2 h 114 4 (nI b)) 114 5 0) 114 6 (nI n)) 114 7 (-1)) 114 8 0) 114 9 v) q = h q) ∧ ∀ k, (k < 4 ∨ 9 < k) → (u2 (u2 (u2 (u2 (u2 (u2 h 114 4 (nI b)) 114 5 0) 114 6 (nI n)) 114 7 (-1)) 114 8 0) 114 9 v) 114 k = h 114 k := by
    intro v hv
    refine ⟨⟨?_, ?_, ?_, ?_, ?_, ?_, ?_, hb, ?_⟩, ?_, ?_⟩
    · rw [w0 _ _ _ _ (by decide), w0 _ _ _ _ (by decide), w0 _ _ _ _ (by decide), w0 _ _ _ _ (by decide), w0 _ _ _ _ (by decide), u2_s]
    · rw [w0 _ _ _ _ (by decide), w0 _ _ _ _ (by decide), w0 _ _ _ _ (by decide), w0 _ _ _ _ (by decide), u2_s]; rfl
    · rw [w0 _ _ _ _ (by decide), w0 _ _ _ _ (by decide), w0 _ _ _ _ (by decide), u2_s]
    · rw [w0 _ _ _ _ (by decide), w0 _ _ _ _ (by decide), u2_s]
    · rw [w0 _ _ _ _ (by decide), u2_s]; rfl
    · rw [u2_s]; exact hv
    · intro i hi
      rw [u2_p _ _ (by decide), u2_p _ _ (by decide), u2_p _ _ (by decide), u2_p _ _ (by decide), u2_p _ _ (by decide), u2_p _ _ (by decide)]
      exact hB i hi
    · intro i hi
      rw [u2_p _ _ (by decide), u2_p _ _ (by decide), u2_p _ _ (by decide), u2_p _ _ (by decide), u2_p _ _ (by decide), u2_p _ _ (by decide)]
    · intro q hq
      rw [u2_p _ _ hq, u2_p _ _ hq, u2_p _ _ hq, u2_p _ _ hq, u2_p _ _ hq, u2_p _ _ hq]
    · intro k hk
      rw [w0 _ _ _ _ (by omega), w0 _ _ _ _ (by omega), w0 _ _ _ _ (by omega), w0 _ _ _ _ (by omega), w0 _ _ _ _ (by omega), w0 _ _ _ _ (by omega)]
  rcases (show u = 0 ∨ u = 1 by omega) with rfl | rfl
  · rw [if_neg (by decide)]
    obtain ⟨k1, k2, k3⟩ := key 0 rfl
    exact ⟨_, k1, k2, k3, rfl⟩
  · rw [if_pos (by decide)]
    obtain ⟨k1, k2, k3⟩ := key 1 rfl
    exact ⟨_, k1, k2, k3, rfl⟩
theorem al_text (X : AI h) (a : Int32) : Al (f_8_text a) (f_9_text a) h := by
  have x := X.1
  have ea := in_w a (A := 0) (B := 1) 0 1 (by decide) (by decide)
  have n10 : ¬ (1 : Int32) = 0 := by decide
  rcases wiC a (A := 0) (B := 1) 0 1 (by decide) (by decide) (by decide) with ⟨w, _⟩ | ⟨w, u, _, u1, rfl⟩
  · refine Al.er X (k := 1) (by decide) (by decide) ?_ (fun h1 f => ?_)
    · unfold f_8_text
      rw [w, if_pos rfl, b2_id]; rfl
    · unfold f_9_text
      rw [ea, w, if_pos rfl, b2_id]; rfl
  obtain ⟨T1, T2, T3⟩ := x.P
  generalize ci (h 1 12) = L at T1 T2
  have g50 : cpok 0 0 50 50 50 = true := by decide
  have i50 : ci 50 = 50 := by decide
  -- the class's start
  obtain ⟨hs, S1, S2, S3⟩ : ∃ hs, CS hs (h 5) L u 0 0 0 ∧ (∀ q, q ≠ 100 → q ≠ 102 → hs q = h q) ∧ f_1_read 5 (h 1 12) (nI u) h = bnd (f_1_readLevel 0 0 hs) (fun h15 => if (h15 100 3) ≤ (h15 100 5) then (if (h15 100 6) = 0 then (some ((-1), h15)) else (some (h15 100 5, h15))) else (hlet (u2 h15 100 6 1) (fun h18 => if (h18 100 6) = 0 then (some ((-1), h18)) else (some (h18 100 5, h18))))) := by
    refine ⟨u2 (u2 (u2 (u2 (u2 (uA h 102 (va_cpy (h 5) (h 102) 0 0 50)) 100 3 (nI L)) 100 4 (nI u)) 100 1 0) 100 5 0) 100 6 0, ⟨?_, ?_, ?_, ?_, ?_, ?_, T2, u1, Nat.zero_le L, Nat.le_refl 0, by decide⟩, fun q q1 q2 => ?_, ?_⟩
    · simp [u2, upd]
    · simp [u2, upd]
    · simp [u2, upd]; rfl
    · simp [u2, upd]; rfl
    · simp [u2, upd]; rfl
    · intro i hi
      rw [u2_p _ _ (by decide), u2_p _ _ (by decide), u2_p _ _ (by decide), u2_p _ _ (by decide), u2_p _ _ (by decide), uA_i]
      unfold va_cpy
      rw [if_pos (by omega), Nat.zero_add, Nat.sub_zero]
    · rw [u2_p _ _ q1, u2_p _ _ q1, u2_p _ _ q1, u2_p _ _ q1, u2_p _ _ q1, uA_n q2]
    · unfold f_1_read
      have m : imax 0 (imin 50 (h 1 12)) = nI L := by
        rw [T1]
        have f : ∀ m : Fin 51, imax 0 (imin 50 (nI m.val)) = nI m.val := by decide
        exact f ⟨L, by omega⟩
      rw [m]
      simp only [hl_eq, gd_s _ g50, il_0, i50]
  -- what the class's reader leaves, against any reader of the reference
  have PT := fun (b : Nat) (e : Nat → Int32) (h' : Hp) (M : MS h' (h 5) L u b 0 0 (-1) e) => parse_top (h 5) e L u b hs h' S1 M
  -- the reference's start, for any world with this tape
  have WK : ∀ h1 : Hp, h1 115 = h 115 → ∃ h0, MS h0 (h 5) L u 330 0 0 (-1) (h1 118) ∧ (∀ q, q ≠ 114 → h0 q = u2 h1 115 5 0 q) ∧ (∀ k, (k < 4 ∨ 9 < k) → h0 114 k = h1 114 k) ∧ f_9_worked 330 (h1 115 5) (nI u) (u2 h1 115 5 0) = bnd2 (f_9_either h0) (fun r h => if 0 ≤ (h 114 7) then (some (r, h)) else (if (h 114 6) ≤ (h 114 5) then (some (r, h)) else (bnd2 (f_9_wrong h) (fun r h => some (r, h))))) := fun h1 f => by
    obtain ⟨h0, k1, k2, k3, k4⟩ := wk_m (h := u2 h1 115 5 0) (u := u) (n := L) (b := 330) (B := h 5) u1 (by decide) (fun i hi => by rw [u2_k _ _ (by omega), f]; exact x.1.2.1.2.2.2 i (by omega))
    rw [u2_p (q := 118) _ _ (by decide)] at k1
    refine ⟨h0, k1, k2, fun k hk => by rw [k3 k hk, u2_p _ _ (by decide)], ?_⟩
    rw [f, T3, T1]
    exact k4
  obtain ⟨hz, z1, _, _, _⟩ := WK h rfl
  obtain ⟨h1, v0, _, R1, _, R3⟩ := PT 330 (h 118) hz z1
  obtain ⟨F1, _, p1, _, R3⟩ := R3
  have R2 := fun (b : Nat) (e : Nat → Int32) (h' : Hp) (M : MS h' (h 5) L u b 0 0 (-1) e) => (by
    obtain ⟨h1', v, h2', a1, a2, a3⟩ := PT b e h' M
    rw [R1] at a1
    cases a1
    exact ⟨v, h2', a2, a3⟩ : ∃ v h2', f_9_either h' = some (v, h2') ∧ PO hs h1 h' h2' (h 5) L u b 0 e 0 0 v)
  have FC1 : ∀ q, q ≠ 100 → q ≠ 101 → q ≠ 102 → h1 q = h q := fun q q1 q2 q3 => (F1 q q1 q2).trans (S2 q q1 q3)
  have BAD : ∀ P : Nat, P ≤ L → (∃ hq, f_1_read 5 (h 1 12) (nI u) h = some (nI P, hq) ∧ ∀ q, q ≠ 100 → q ≠ 101 → q ≠ 102 → hq q = h q) → (∀ b e h', MS h' (h 5) L u b 0 0 (-1) e → ∃ v h2', bnd2 (f_9_either h') (fun r h => if 0 ≤ (h 114 7) then (some (r, h)) else (if (h 114 6) ≤ (h 114 5) then (some (r, h)) else (bnd2 (f_9_wrong h) (fun r h => some (r, h))))) = some (v, h2') ∧ h2' 114 7 = nI P ∧ (∀ q, q ≠ 114 → h2' q = h' q) ∧ ∀ k, (k < 4 ∨ 9 < k) → h2' 114 k = h' 114 k) → Al (f_8_text (nI u)) (f_9_text (nI u)) h := by
    intro P hP ⟨hq, q1, q2⟩ MM
    have C : f_8_text (nI u) h = some ((-10) - nI P, u2 hq 1 12 0) := by
      have c0 : ¬ nI P < (0 : Int32) := fun q => absurd ((nI_ltI (b := 0) (by omega) (by decide)).mp q) (Nat.not_lt_zero _)
      unfold f_8_text
      rw [w, if_neg n10, q1, bnd2_s, hl_eq, if_neg c0]
    have g1 : ∀ q, q ≠ 1 → q ≠ 100 → q ≠ 101 → q ≠ 102 → u2 hq 1 12 0 q = h q := fun q a b c d => by rw [u2_p _ _ a, q2 q b c d]
    have g2 : u2 hq 1 12 0 1 = upd (h 1) 12 0 := by rw [u2_row, q2 1 (by decide) (by decide) (by decide)]
    generalize u2 hq 1 12 0 = h3 at C g1 g2
    obtain ⟨h0, k1, k2, k3, k4⟩ := WK h3 (g1 115 (by decide) (by decide) (by decide) (by decide))
    obtain ⟨v, h4, j1, j2, j3, j4⟩ := MM _ _ h0 k1
    have hf : ∀ q, q ≠ 1 → q ≠ 100 → q ≠ 101 → q ≠ 102 → q ≠ 114 → q ≠ 115 → h4 q = h q := fun q a b c d e f => by rw [j3 q e, k2 q e, u2_p _ _ f, g1 q a b c d]
    have hD : h4 115 = upd (h 115) 5 0 := by rw [j3 115 (by decide), k2 115 (by decide), u2_row, g1 115 (by decide) (by decide) (by decide) (by decide)]
    refine ⟨_, h3, h4, C, ?_, ?_⟩
    · have c0 : ¬ h4 114 7 < (0 : Int32) := by
        rw [j2]
        exact fun q => absurd ((nI_ltI (b := 0) (by omega) (by decide)).mp q) (Nat.not_lt_zero _)
      unfold f_9_text
      rw [ea, w, if_neg n10, hl_eq, k4, j1, bnd2_s, if_neg c0, j2]
    · refine ai_tape X u1 (fun q q1 q2 q3 q4 q5 => hf q q2 (fun e => q1 (by unfold scr; omega)) (fun e => q1 (by unfold scr; omega)) (fun e => q1 (by unfold scr; omega)) (fun e => q1 (by unfold scr; omega)) q3) (by rw [j3 1 (by decide), k2 1 (by decide), u2_p _ _ (by decide), g2]) (by rw [hD, upd_s]) (fun k q1 _ _ => by rw [hD, upd_n _ _ q1]) (by rw [j4 2 (by decide), k3 2 (by decide), g1 114 (by decide) (by decide) (by decide) (by decide)]) (by rw [j4 19 (by decide), k3 19 (by decide), g1 114 (by decide) (by decide) (by decide) (by decide)]) ?_
      have t0 : TX h (6 + 3 * u) (h 115) u := by
        obtain rfl | rfl : u = 0 ∨ u = 1 := by omega
        · exact x.T6
        · exact x.T9
      exact (t0.fr (h1 := h4) (hf _ (by omega) (by omega) (by omega) (by omega) (by omega) (by omega)) (hf _ (by omega) (by omega) (by omega) (by omega) (by omega) (by omega))).frD (by rw [hD, upd_n _ _ (by omega)]) (fun i hi => by rw [hD, upd_n _ _ (by omega)])
  rcases R3 with ⟨m1, P1, M1, PM, CS1, _, _, _⟩ | ⟨CF1, _⟩
  · -- read to p1 without a fault
    obtain ⟨c1, c2, c3, c4, c5, c6, c7, c8, c9, c10, c11⟩ := CS1
    have PTm : ∀ b e h', MS h' (h 5) L u b 0 0 (-1) e → ∃ v h2', f_9_either h' = some (v, h2') ∧ FM h' h2' ∧ MS h2' (h 5) L u b p1 0 (-1) e ∧ EV (h1 101) e 0 m1 v := by
      intro b e h' M
      obtain ⟨v, h2', a1, _, a3, p1', _, a4⟩ := R2 b e h' M
      rcases a4 with ⟨m1', P1', M1', PM', CS1', MS1', _, EV1'⟩ | ⟨CF1', _⟩
      · have e1 : p1' = p1 := (nI_eq (by have := CS1'.2.2.2.2.2.2.2.2.1; omega) (by omega)).mp (CS1'.2.2.1.symm.trans c3)
        have e2 : m1' = m1 := (nI_eq (by have := CS1'.2.2.2.2.2.2.2.2.1; have := CS1'.2.2.2.2.2.2.2.2.2.1; omega) (by omega)).mp (CS1'.2.2.2.2.1.symm.trans c5)
        subst e1 e2
        exact ⟨v, h2', a1, a3, MS1', EV1'⟩
      · exact absurd (c4.symm.trans CF1'.2.2.1) (by decide)
    by_cases cl : L ≤ p1
    rotate_left
    · -- not to the end
      refine BAD p1 c9 ⟨u2 h1 100 6 1, ?_, fun q q1 q2 q3 => by rw [u2_p _ _ q1, FC1 q q1 q2 q3]⟩ (fun b e h' M => ?_)
      · have e3 : u2 h1 100 6 1 100 6 = 1 := u2_s _ _ _ _
        have e5 : u2 h1 100 6 1 100 5 = nI p1 := by rw [u2_k _ _ (by decide)]; exact c3
        rw [S3, R1, bnd_s, c1, c3, if_neg (nI_ge (by omega) (by omega)), hl_eq, e3, if_neg n10, e5]
      · obtain ⟨v, h2', a1, a2, a3, _⟩ := PTm b e h' M
        obtain ⟨b1, b2, b3, b4, b5, b6, b7, b8, b9⟩ := a3
        refine ⟨0, u2 h2' 114 7 (nI p1), ?_, u2_s _ _ _ _, fun q hq => by rw [u2_p _ _ hq, a2.1 q hq], fun k hk => by rw [u2_k _ _ (by omega), a2.2 k (by omega) (by omega) (by omega)]⟩
        have c0 : ¬ (0 : Int32) ≤ -1 := by decide
        unfold f_9_wrong
        rw [a1, bnd2_s, b4, if_neg c0, b3, b2, if_neg (nI_ge (by omega) (by omega)), if_neg c0, hl_eq, bnd2_s]
    · -- to the end: it is kept
      have eL : L = p1 := by omega
      subst eL
      have READ : f_1_read 5 (h 1 12) (nI u) h = some (-1, h1) := by
        rw [S3, R1, bnd_s, c1, c3, if_pos (nI_le (Nat.le_refl L) (by omega)), c4]
        exact if_pos rfl
      have m50 : m1 ≤ 50 := by omega
      obtain ⟨hk, y1, y2, y3, _, y4⟩ := xcopy (6 + 3 * u) 101 (nI m1) (u2 h1 1 12 0) (by omega)
      have tx : f_7_textOf (nI u) = 6 + 3 * u := by
        unfold f_7_textOf
        obtain rfl | rfl : u = 0 ∨ u = 1 := by omega
        · rfl
        · rfl
      have C : f_8_text (nI u) h = some (1, hk) := by
        unfold f_8_text
        have c5' : u2 h1 1 12 0 100 1 = nI m1 := by rw [u2_p _ _ (by decide)]; exact c5
        rw [w, if_neg n10, READ, bnd2_s, hl_eq, if_pos (by decide), c5', tx, y1, bnd_s]
      have g1 : ∀ q, q ≠ 1 → q ≠ 100 → q ≠ 101 → q ≠ 102 → q ≠ 6 + 3 * u → q ≠ 7 + 3 * u → hk q = h q := fun q a b c d e f => by rw [y4 q e (by omega), u2_p _ _ a, FC1 q b c d]
      have g2 : hk 1 = upd (h 1) 12 0 := by rw [y4 1 (by omega) (by omega), u2_row, FC1 1 (by decide) (by decide) (by decide)]
      have D0 : hk 115 = h 115 := g1 115 (by decide) (by decide) (by decide) (by decide) (by omega) (by omega)
      obtain ⟨h0, k1, k2, k3, k4⟩ := WK hk D0
      obtain ⟨v, h4, a1, a2, a3, _⟩ := PTm _ _ h0 k1
      obtain ⟨b1, b2, b3, b4, b5, b6, b7, b8, b9⟩ := a3
      have W : f_9_worked 330 (hk 115 5) (nI u) (u2 hk 115 5 0) = some (v, h4) := by
        rw [k4, a1, bnd2_s, b4, if_neg (by decide), b3, b2, if_pos (nI_le (Nat.le_refl L) (by omega))]
      have D4 : h4 115 = upd (h 115) 5 0 := by rw [a2.1 115 (by decide), k2 115 (by decide), u2_row, D0]
      obtain ⟨h5, j1, j2, j3, j4⟩ := keep_m (u := u) (N := L) u1 c7 L 0 FU (u2 h4 115 (208 + u) (nI L)) (by omega) (by show _ < 4096; omega)
      have M : f_9_text (nI u) hk = some (1, h5) := by
        have e208 : 208 + nI u = nI (208 + u) := by rw [lit_nI 208, nI_add]
        have e5 : hk 115 5 = nI L := by rw [D0, T3, T1]
        unfold f_9_text
        rw [ea, w, if_neg n10, hl_eq, W, bnd2_s, b4, if_pos (by decide), e208, gd_s _ (inb_nI (show 208 + u < 380 by omega) (by decide)), hl_eq, ci_nI (by omega), e5]
        exact j1
      have hf : ∀ q, q ≠ 114 → q ≠ 115 → h5 q = hk q := fun q e f => by rw [j2 q f, u2_p _ _ f, a2.1 q e, k2 q e, u2_p _ _ f]
      have h114 : ∀ k, (k < 4 ∨ 9 < k) → h5 114 k = h 114 k := fun k hk' => by
        rw [j2 114 (by decide), u2_p _ _ (by decide), a2.2 k (by omega) (by omega) (by omega), k3 k hk', g1 114 (by decide) (by decide) (by decide) (by decide) (by omega) (by omega)]
      have D5 : ∀ k, (k < 230 + 50 * u ∨ 280 + 50 * u ≤ k) → h5 115 k = upd (upd (h 115) 5 0) (208 + u) (nI L) k := fun k hk' => by
        rw [j3 k (by omega), u2_row, D4]
      refine ⟨1, hk, h5, C, M, ?_⟩
      refine ai_tape X u1 (fun q q1 q2 q3 q4 q5 => by
        rw [hf q (fun e => q1 (by unfold scr; omega)) q3]
        exact g1 q q2 (fun e => q1 (by unfold scr; omega)) (fun e => q1 (by unfold scr; omega)) (fun e => q1 (by unfold scr; omega)) q4 q5) (by rw [hf 1 (by decide) (by decide), g2]) (by rw [D5 5 (by omega), upd_n _ _ (by omega), upd_s]) (fun k q1 q2 q3 => by rw [D5 k q3, upd_n _ _ q2, upd_n _ _ q1]) (h114 2 (by decide)) (h114 19 (by decide)) ?_
      refine Or.inr ⟨L, m1, by omega, c7, by omega, m50, by rw [D5 _ (by omega), upd_s], ?_, ?_⟩
      · rw [hf _ (by omega) (by omega), y2]
        have f : ∀ m : Fin 51, imax 0 (imin 50 (nI m.val)) = nI m.val := by decide
        exact f ⟨m1, by omega⟩
      · have base : TP (h 5) L u (h1 101) m1 := fun b e h' M => by
          obtain ⟨v, h2', a1, a2, a3, a4⟩ := PTm b e h' M
          exact ⟨v, h2', a1, a2, a3.2.1, a3.2.2.2.1, a4⟩
        refine (base.cg (fun i hi => ?_)).cgC (fun i hi => ?_)
        · rw [j4 i (Nat.zero_le i) hi, u2_k _ _ (by omega), D4, upd_n _ _ (by omega)]
          exact x.1.2.1.2.2.2 i (by omega)
        · rw [hf _ (by omega) (by omega), y3 i (by omega), u2_p _ _ (by decide)]
  · -- a fault at p1
    obtain ⟨f3, f5, f6, _, f50, fp⟩ := CF1
    have n10' : ¬ nI 1 = (0 : Int32) := by decide
    refine BAD p1 fp ?_ (fun b e h' M => ?_)
    · by_cases c : L ≤ p1
      · exact ⟨h1, by rw [S3, R1, bnd_s, f3, f5, if_pos (nI_le c (by omega)), f6, if_neg n10'], FC1⟩
      · refine ⟨u2 h1 100 6 1, ?_, fun q q1 q2 q3 => by rw [u2_p _ _ q1, FC1 q q1 q2 q3]⟩
        have e3 : u2 h1 100 6 1 100 6 = 1 := u2_s _ _ _ _
        have e5 : u2 h1 100 6 1 100 5 = nI p1 := by rw [u2_k _ _ (by decide)]; exact f5
        rw [S3, R1, bnd_s, f3, f5, if_neg (nI_ge (by omega) (by omega)), hl_eq, e3, if_neg n10, e5]
    · obtain ⟨v, h2', a1, _, a3, p1', _, a4⟩ := R2 b e h' M
      rcases a4 with ⟨m1', _, _, _, CS1', _⟩ | ⟨CF1', o1, MS1'⟩
      · exact absurd (CS1'.2.2.2.1.symm.trans f6) (by decide)
      · have e1 : p1' = p1 := (nI_eq (by have := CF1'.2.2.2.2.2; omega) (by omega)).mp (CF1'.2.1.symm.trans f5)
        subst e1
        have e7 : h2' 114 7 = nI p1' := MS1'.2.2.2.1
        have c0 : (0 : Int32) ≤ nI p1' := nI_le (a := 0) (Nat.zero_le _) (by omega)
        exact ⟨v, h2', by rw [a1, bnd2_s, e7, if_pos c0], e7, a3.1, fun k hk => a3.2 k (by omega) (by omega) (by omega)⟩
end
