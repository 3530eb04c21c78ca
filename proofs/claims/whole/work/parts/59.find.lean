/-! the search in the class -/
section
variable {h : Hp}
def rows_ (M x3 : Int32) (h : Hp) (p s : Nat) : Nat → Nat → Fnd → Fnd
  | 0, _, F => F
  | d + 1, x, F => rows_ M x3 h p s d (x + 1) (row_ M x3 h p s (dgr (ci (h 1 10)) s x) F)
def sizes_ (M x3 : Int32) (h : Hp) (p : Nat) : Nat → Nat → Fnd → Fnd
  | 0, _, F => F
  | d + 1, s, F => sizes_ M x3 h p d (s + 1) (rows_ M x3 h p s (ci (h 1 10) ^ s) 0 F)
def tot (M x3 : Int32) (h : Hp) (p : Nat) : Fnd := sizes_ M x3 h p 3 1 (0, 0, 0, fun _ => 0)
def FI (h h0 : Hp) : Prop := ∀ q, q ≠ 8 → ¬ (95 ≤ q ∧ q ≤ 99) → h0 q = h q
theorem FI.pf {h0 : Hp} (f : FI h h0) : PF h h0 := ⟨fun q hq => f q (fun e => hq (by unfold scr; omega)) (fun e => hq (by unfold scr; omega)), by rw [f 114 (by decide) (by decide)], by rw [f 114 (by decide) (by decide)]⟩
theorem pw3 {W s : Nat} (W10 : W ≤ 10) (s3 : s ≤ 3) : W ^ s ≤ 1000 := by
  obtain rfl | rfl | rfl | rfl : s = 0 ∨ s = 1 ∨ s = 2 ∨ s = 3 := by omega
  · rw [Nat.pow_zero]; omega
  · rw [Nat.pow_one]; omega
  · have a : W ^ 2 ≤ 10 ^ 2 := Nat.pow_le_pow_left W10 2
    have b : (10 : Nat) ^ 2 = 100 := by decide
    omega
  · have a : W ^ 3 ≤ 10 ^ 3 := Nat.pow_le_pow_left W10 3
    have b : (10 : Nat) ^ 3 = 1000 := by decide
    omega
theorem find_r {M : Int32} (x : INV h) {l nn s : Nat} (hM : M = 0 ∨ M = 1 ∨ M = 2) (hl : l < ci (h 1 11)) (hn : h (36 + 2 * l) 5 = nI nn) (n15 : nn ≤ 15) (s1 : 1 ≤ s) (s3 : s ≤ 3) (x3 : Int32) (K : Int32 → Int32 → Hp → Option Hp) : ∀ (d k n : Nat) (h0 : Hp) (F : Fnd), ci (h 1 10) ^ s = k + d → d < n → FI h h0 → T97 M h (36 + 2 * l) nn (ci (h 1 10)) 0 h0 → RC h0 F → FW F → F.1 + d < 100000 → ∃ h1, f_2_find_53 K (36 + 2 * l) M x3 (nI (ci (h 1 10) ^ s)) (nI s) n (nI k) h0 = K (nI (ci (h 1 10) ^ s)) (nI (s + 1)) h1 ∧ FI h h1 ∧ T97 M h (36 + 2 * l) nn (ci (h 1 10)) 0 h1 ∧ RC h1 (rows_ M x3 h (36 + 2 * l) s d k F) ∧ FW (rows_ M x3 h (36 + 2 * l) s d k F) ∧ (rows_ M x3 h (36 + 2 * l) s d k F).1 ≤ F.1 + d
  | 0, k, n, h0, F, e1, e2, f, u, q, w, e3 => by
    obtain ⟨n, rfl⟩ : ∃ z, n = z + 1 := ⟨n - 1, by omega⟩
    have p3 := pw3 x.W.2 s3
    refine ⟨h0, ?_, f, u, q, w, Nat.le_refl _⟩
    rw [f_2_find_53, if_pos (nI_le (by omega) (by omega)), nI_1]
  | d + 1, k, n, h0, F, e1, e2, f, u, q, w, e3 => by
    obtain ⟨n, rfl⟩ : ∃ z, n = z + 1 := ⟨n - 1, by omega⟩
    obtain ⟨w1, w10⟩ := x.W
    have p3 := pw3 w10 s3
    have W0 : 0 < ci (h 1 10) := by
      rcases Nat.eq_zero_or_pos (ci (h 1 10)) with z | z
      · rw [z, Nat.zero_pow (by omega)] at e1
        omega
      · exact z
    obtain ⟨h1, a1, a2, a3, a4⟩ := try_c W0 w10 s k FU h0 s3 (by omega) (by show _ < 4096; omega) (by rw [f 1 (by decide) (by decide)]; exact w1)
    have a1 : f_2_tryRow (nI k) (nI s) h0 = some h1 := a1
    have f1 : FI h h1 := fun q q1 q2 => by rw [a2 q (by omega)]; exact f q q1 q2
    have u1 : T97 M h (36 + 2 * l) nn (ci (h 1 10)) 0 h1 := fun a b b1 b2 => by rw [a2 97 (by decide)]; exact u a b b1 b2
    have q1 : RC h1 F := by
      obtain ⟨q1, q2, q3, q4⟩ := q
      unfold RC
      rw [a2 95 (by decide), a2 99 (by decide)]
      exact ⟨q1, q2, q3, q4⟩
    obtain ⟨h2, b1, b2, b3⟩ := row_c (R := dgr (ci (h 1 10)) s k) x hM hl hn n15 s3 (fun t _ => dgr_lt W0 s k t) x3 h1 f1 u1 a4 (by omega) q1
    obtain ⟨r1, r2⟩ := row_w (h := h) (M := M) (x3 := x3) (p := 36 + 2 * l) (R := dgr (ci (h 1 10)) s k) s1 s3 w
    obtain ⟨h3, c1, c2, c3, c4, c5, c6⟩ := find_r x hM hl hn n15 s1 s3 x3 K d (k + 1) n h2 _ (by omega) (by omega) (fun q q1 q2 => by rw [b2 q (by omega) (by omega)]; exact f1 q q1 q2) (fun a b b1 b3 => by rw [b2 97 (by decide) (by decide)]; exact u1 a b b1 b3) b3 r1 (by omega)
    refine ⟨h3, ?_, c2, c3, c4, c5, ?_⟩
    · rw [f_2_find_53, if_neg (nI_ge (by omega) (by omega)), a1, bnd_s, b1, bnd_s, nI_1, c1]
    · show (rows_ M x3 h (36 + 2 * l) s d (k + 1) (row_ M x3 h (36 + 2 * l) s (dgr (ci (h 1 10)) s k) F)).1 ≤ F.1 + (d + 1)
      omega
theorem find_s {M : Int32} (x : INV h) {l nn : Nat} (hM : M = 0 ∨ M = 1 ∨ M = 2) (hl : l < ci (h 1 11)) (hn : h (36 + 2 * l) 5 = nI nn) (n15 : nn ≤ 15) (x3 : Int32) : ∀ (d s n : Nat) (h0 : Hp) (F : Fnd), 4 = s + 1 + d → d < n → FI h h0 → T97 M h (36 + 2 * l) nn (ci (h 1 10)) 0 h0 → RC h0 F → FW F → F.1 + 1000 * d < 100000 → ∃ h1, f_2_find_32 (36 + 2 * l) M x3 n (nI (ci (h 1 10) ^ s)) (nI (s + 1)) h0 = some h1 ∧ FI h h1 ∧ RC h1 (sizes_ M x3 h (36 + 2 * l) d (s + 1) F) ∧ FW (sizes_ M x3 h (36 + 2 * l) d (s + 1) F) ∧ (sizes_ M x3 h (36 + 2 * l) d (s + 1) F).1 ≤ F.1 + 1000 * d
  | 0, s, n, h0, F, e1, e2, f, u, q, w, e3 => by
    obtain ⟨n, rfl⟩ : ∃ z, n = z + 1 := ⟨n - 1, by omega⟩
    refine ⟨h0, ?_, f, q, w, Nat.le_refl _⟩
    have c : (3 : Int32) < nI (s + 1) := (nI_ltI (a := 3) (by decide) (by omega)).mpr (by omega)
    rw [f_2_find_32, if_pos c]
  | d + 1, s, n, h0, F, e1, e2, f, u, q, w, e3 => by
    obtain ⟨n, rfl⟩ : ∃ z, n = z + 1 := ⟨n - 1, by omega⟩
    obtain ⟨w1, w10⟩ := x.W
    have c : ¬ (3 : Int32) < nI (s + 1) := fun q => absurd ((nI_ltI (a := 3) (by decide) (by omega)).mp q) (by omega)
    have p3 := pw3 w10 (show s + 1 ≤ 3 by omega)
    have e : nI (ci (h 1 10) ^ s) * h0 1 10 = nI (ci (h 1 10) ^ (s + 1)) := by rw [f 1 (by decide) (by decide), w1, pk_mul, ci_nI (by omega), Nat.pow_succ]
    obtain ⟨h1, a1, a2, a3, a4, a5, a6⟩ := find_r (M := M) x hM hl hn n15 (show 1 ≤ s + 1 by omega) (by omega) x3 (f_2_find_32 (36 + 2 * l) M x3 n) (ci (h 1 10) ^ (s + 1)) 0 FU h0 F (by omega) (by show _ < 4096; omega) f u q w (by omega)
    obtain ⟨h2, b1, b2, b3, b4, b5⟩ := find_s x hM hl hn n15 x3 d (s + 1) n h1 _ (by omega) (by omega) a2 a3 a4 a5 (by omega)
    refine ⟨h2, ?_, b2, b3, b4, ?_⟩
    · have a1 : f_2_find_53 (f_2_find_32 (36 + 2 * l) M x3 n) (36 + 2 * l) M x3 (nI (ci (h 1 10) ^ (s + 1))) (nI (s + 1)) FU 0 h0 = _ := a1
      rw [f_2_find_32, if_neg c, e, a1, b1]
    · show (sizes_ M x3 h (36 + 2 * l) d (s + 1 + 1) (rows_ M x3 h (36 + 2 * l) (s + 1) (ci (h 1 10) ^ (s + 1)) 0 F)).1 ≤ F.1 + 1000 * (d + 1)
      omega
theorem find_c {M : Int32} (x : INV h) {l : Nat} (hM : M = 0 ∨ M = 1 ∨ M = 2) (hl : l < ci (h 1 11)) (x3 : Int32) : ∃ h1, f_2_find (36 + 2 * l) M x3 h = some h1 ∧ PF h h1 ∧ RC h1 (tot M x3 h (36 + 2 * l)) ∧ FW (tot M x3 h (36 + 2 * l)) ∧ (tot M x3 h (36 + 2 * l)).1 < 10000 := by
  obtain ⟨K, m, b, nn, z, w, ⟨_, _, _, n15, _, _, _⟩, _, _, _, ⟨hn, _⟩, _⟩ := x.line hl
  have l6 := x.L.2
  have w10 := x.W.2
  have f0 : ∀ q, q ≠ 95 → u2 (u2 (u2 h 95 7 0) 95 5 0) 95 6 0 q = h q := fun q hq => by rw [u2_p _ _ hq, u2_p _ _ hq, u2_p _ _ hq]
  have r0 : RC (u2 (u2 (u2 h 95 7 0) 95 5 0) 95 6 0) (0, 0, 0, fun _ => 0) := by
    refine ⟨?_, ?_, fun e => absurd rfl e, fun t ht => absurd ht (Nat.not_lt_zero t)⟩
    · rw [u2_k _ _ (by decide), u2_k _ _ (by decide), u2_s]; rfl
    · rw [u2_k _ _ (by decide), u2_s]; rfl
  unfold f_2_find
  rw [hl_eq, hl_eq, hl_eq]
  generalize u2 (u2 (u2 h 95 7 0) 95 5 0) 95 6 0 = h0 at f0 r0
  obtain ⟨h1, a1, a2, a3, a4⟩ := price_o (M := M) x hl 15 0 FU h0 (by omega) (by show _ < 4096; omega) (fun q _ q2 => f0 q (by omega)) (fun e he => absurd he (by omega))
  have a1 : f_2_priceMouths (36 + 2 * l) M h0 = some h1 := a1
  obtain ⟨h2, b1, b2, b3, b4⟩ := words_o (M := M) x hl hn n15 (ci (h 1 10)) 0 FU h1 (by omega) (by show _ < 4096; omega) a2 a3 (fun a b _ b2 => absurd b2 (by omega))
  have b1 : f_2_priceWords (36 + 2 * l) h1 = some h2 := b1
  have r2 : RC h2 (0, 0, 0, fun _ => 0) := by
    obtain ⟨r1, r2, _, _⟩ := r0
    refine ⟨by rw [b4, a4]; exact r1, by rw [b4, a4]; exact r2, fun e => absurd rfl e, fun t ht => absurd ht (Nat.not_lt_zero t)⟩
  obtain ⟨h3, c1, c2, c3, c4, c5⟩ := find_s (M := M) x hM hl hn n15 x3 3 0 FU h2 (0, 0, 0, fun _ => 0) (by decide) (by decide) b2 b3 r2 ⟨by show 0 ≤ 3; decide, Iff.rfl⟩ (by show 0 + 1000 * 3 < 100000; decide)
  refine ⟨h3, ?_, FI.pf c2, c3, c4, ?_⟩
  · rw [a1, bnd_s, b1, bnd_s]
    rw [Nat.pow_zero] at c1
    exact c1
  · have : (tot M x3 h (36 + 2 * l)).1 ≤ 0 + 1000 * 3 := c5
    omega
end
