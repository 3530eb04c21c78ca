/-! put, sheet, mouths -/
section
variable {h : Hp}
def pv (B c : Int32) : Int32 := if B = 8 then (Int32.toInt8 c).toInt32 else if B = 16 then (Int32.toInt16 c).toInt32 else c
theorem ai_put (X : AI h) {s k : Nat} {v : Int32} (hs : s < 4) (hk : k < 40) : AI (u2 (u2 h (109 + s) k v) 124 (40 * s + k) v) := by
  refine ai_sh X (fun q q1 q2 q3 q4 q5 => by rw [u2_p _ _ q4, u2_p _ _ (by omega)]) (fun t ht => ?_)
  obtain ⟨t1, t2, t3, t4, t5⟩ := X.1.2.2.2.2 t ht
  have e : ∀ q, q ≠ 124 → q ≠ 109 + s → u2 (u2 h (109 + s) k v) 124 (40 * s + k) v q = h q := fun q a b => by rw [u2_p _ _ a, u2_p _ _ b]
  rw [e 106 (by decide) (by omega), e 107 (by decide) (by omega), e 122 (by decide) (by omega), e 123 (by decide) (by omega)]
  refine ⟨t1, t2, t3, t4, fun j hj => ?_⟩
  rw [u2_row, u2_p (q := 109 + t) _ _ (by omega), u2_p (q := 124) _ _ (by omega)]
  by_cases c : t = s
  · subst c
    by_cases d : j = k
    · subst d
      rw [upd_s, u2_s]
    · rw [upd_n _ _ (by omega), u2_k _ _ d]; exact t5 j hj
  · rw [upd_n _ _ (by omega), u2_p _ _ (by omega)]; exact t5 j hj
theorem al_put (X : AI h) (a b c : Int32) : Al (f_8_put a b c) (f_9_put a b c) h := by
  have x := X.1
  have e9 := in_w a (A := 0) (B := 3) 0 3 (by decide) (by decide)
  rcases wiC a (A := 0) (B := 3) 0 3 (by decide) (by decide) (by decide) with ⟨w, _⟩ | ⟨w, s, _, s3, rfl⟩
  · refine Al.er X (k := 1) (by decide) (by decide) ?_ (fun h1 f => ?_)
    · unfold f_8_put f_8_isSheet
      rw [w, if_pos rfl, b2_id]; rfl
    · unfold f_9_put f_9_isSheet
      rw [e9, w, if_pos rfl, b2_id]; rfl
  have hs : s < 4 := by omega
  have gs : inb (nI s) 4 = true := inb_nI hs (by decide)
  obtain ⟨t1, t2, t3, t4, t5⟩ := x.2.2.2.2 s hs
  by_cases z : h 106 s = 0
  · refine Al.er X (k := 2) (by decide) (by decide) ?_ (fun h1 f => ?_)
    · unfold f_8_put f_8_isSheet
      rw [w, if_neg (by decide), gd_s _ gs, ci_nI (by omega), if_pos z, b2_id]; rfl
    · unfold f_9_put f_9_isSheet
      rw [e9, w, if_neg (by decide), gd_s _ gs, ci_nI (by omega), f 122 (by decide), t2, if_pos z, b2_id]; rfl
  obtain ⟨N1, N2⟩ := sm_ci t3 (by decide)
  generalize ci (h 107 s) = N at N1 N2
  have eb := in_w b (A := 0) (B := Int32.toInt64 (nI N - 1)) 0 (nI N - 1) (by decide) rfl
  rcases wiM b (n := N) (by omega) with ⟨v, _⟩ | ⟨v, k, hk, rfl⟩
  · refine Al.er X (k := 1) (by decide) (by decide) ?_ (fun h1 f => ?_)
    · unfold f_8_put f_8_isSheet
      rw [w, if_neg (by decide), gd_s _ gs, ci_nI (by omega), if_neg z, gd_s _ gs, N1, v, if_pos rfl, b2_id]; rfl
    · unfold f_9_put f_9_isSheet
      rw [e9, w, if_neg (by decide), gd_s _ gs, ci_nI (by omega), f 122 (by decide), t2, if_neg z, gd_s _ gs, f 123 (by decide), t4, N1, eb, v, if_pos rfl, b2_id]; rfl
  have gk : inb (nI k) 40 = true := inb_nI (by omega) (by decide)
  have ek : 40 * nI s + nI k = nI (40 * s + k) := by rw [lit_nI 40, pk_mul, nI_add]
  have gk2 : inb (nI (40 * s + k)) 160 = true := inb_nI (by omega) (by decide)
  refine ⟨1, u2 h (109 + s) k (pv (h 106 s) c), u2 (u2 h (109 + s) k (pv (h 106 s) c)) 124 (40 * s + k) (pv (h 106 s) c), ?_, ?_, ai_put X hs (by omega)⟩
  · unfold f_8_put f_8_isSheet
    rw [w, if_neg (by decide), gd_s _ gs, ci_nI (by omega), if_neg z, gd_s _ gs, N1, v, if_neg (by decide)]
    unfold f_3_set pv
    rw [gd_s _ gs, gd_s _ gs, gd_s _ gs, ci_nI (by omega), ci_nI (by omega)]
    simp only [gd_s _ gk, hl_eq]
    by_cases c8 : h 106 s = 8
    · simp only [if_pos c8, bnd_s]
    · simp only [if_neg c8]
      by_cases c16 : h 106 s = 16
      · simp only [if_pos c16, bnd_s]
      · simp only [if_neg c16, bnd_s]
  · have e : ∀ q, q ≠ 109 + s → u2 h (109 + s) k (pv (h 106 s) c) q = h q := fun q hq => u2_p _ _ hq
    unfold f_9_put f_9_isSheet
    rw [e9, w, if_neg (by decide), gd_s _ gs, ci_nI (by omega), e 122 (by omega), t2, if_neg z, gd_s _ gs, e 123 (by omega), t4, N1, eb, v, if_neg (by decide)]
    simp only [gd_s _ gs, ek, gd_s _ gk2, hl_eq]
    rw [ci_nI (by omega)]
    generalize u2 h (109 + s) k (pv (h 106 s) c) = h1
    unfold pv
    by_cases c8 : h 106 s = 8
    · simp only [if_pos c8]
    · simp only [if_neg c8]
      by_cases c16 : h 106 s = 16
      · simp only [if_pos c16]
      · simp only [if_neg c16]
/-- a sheet is wiped -/
theorem wipe_c {s : Nat} (hs : s < 4) : ∀ (d k n : Nat) (h0 : Hp), 40 = k + d → d < n → ∃ h1, f_3_begin_17 (nI s) n (nI k) h0 = some h1 ∧ (∀ q, q ≠ 109 + s → h1 q = h0 q) ∧ (∀ j, j < k → h1 (109 + s) j = h0 (109 + s) j) ∧ ∀ j, k ≤ j → j < 40 → h1 (109 + s) j = 0
  | 0, k, n, h0, e1, e2 => by
    obtain ⟨n, rfl⟩ : ∃ z, n = z + 1 := ⟨n - 1, by omega⟩
    refine ⟨h0, ?_, fun _ _ => rfl, fun _ _ => rfl, fun j a b => absurd a (by omega)⟩
    have c : (40 : Int32) ≤ nI k := nI_le (a := 40) (by omega) (by omega)
    rw [f_3_begin_17, if_pos c]
  | d + 1, k, n, h0, e1, e2 => by
    obtain ⟨n, rfl⟩ : ∃ z, n = z + 1 := ⟨n - 1, by omega⟩
    obtain ⟨h1, a1, a2, a3, a4⟩ := wipe_c hs d (k + 1) n (u2 h0 (109 + s) k 0) (by omega) (by omega)
    have c : ¬ (40 : Int32) ≤ nI k := nI_ge (b := 40) (by omega) (by omega)
    refine ⟨h1, ?_, fun q hq => (a2 q hq).trans (u2_p _ _ hq), fun j hj => by rw [a3 j (by omega), u2_k _ _ (by omega)], fun j j1 j2 => ?_⟩
    · rw [f_3_begin_17, if_neg c, gd_s _ (inb_nI hs (by decide)), gd_s _ (inb_nI (show k < 40 by omega) (by decide)), hl_eq, ci_nI (by omega), ci_nI (by omega), nI_1, a1]
    · by_cases e : j = k
      · subst e
        rw [a3 j (by omega), u2_s]
      · exact a4 j (by omega) j2
theorem wipe_m {s : Nat} (hs : s < 4) : ∀ (d k n : Nat) (h0 : Hp), 40 = k + d → d < n → ∃ h1, f_9_sheet_90 (nI s) n (nI k) h0 = some (1, h1) ∧ (∀ q, q ≠ 124 → h1 q = h0 q) ∧ (∀ j, (j < 40 * s + k ∨ 40 * s + 40 ≤ j) → h1 124 j = h0 124 j) ∧ ∀ j, k ≤ j → j < 40 → h1 124 (40 * s + j) = 0
  | 0, k, n, h0, e1, e2 => by
    obtain ⟨n, rfl⟩ : ∃ z, n = z + 1 := ⟨n - 1, by omega⟩
    refine ⟨h0, ?_, fun _ _ => rfl, fun _ _ => rfl, fun j a b => absurd a (by omega)⟩
    have c : (40 : Int32) ≤ nI k := nI_le (a := 40) (by omega) (by omega)
    rw [f_9_sheet_90, if_pos c]
  | d + 1, k, n, h0, e1, e2 => by
    obtain ⟨n, rfl⟩ : ∃ z, n = z + 1 := ⟨n - 1, by omega⟩
    obtain ⟨h1, a1, a2, a3, a4⟩ := wipe_m hs d (k + 1) n (u2 h0 124 (40 * s + k) 0) (by omega) (by omega)
    have c : ¬ (40 : Int32) ≤ nI k := nI_ge (b := 40) (by omega) (by omega)
    have ek : 40 * nI s + nI k = nI (40 * s + k) := by rw [lit_nI 40, pk_mul, nI_add]
    refine ⟨h1, ?_, fun q hq => (a2 q hq).trans (u2_p _ _ hq), fun j hj => by rw [a3 j (by omega), u2_k _ _ (by omega)], fun j j1 j2 => ?_⟩
    · rw [f_9_sheet_90, if_neg c, ek, gd_s _ (inb_nI (show 40 * s + k < 160 by omega) (by decide)), hl_eq, ci_nI (by omega), nI_1, a1]
    · by_cases e : j = k
      · subst e
        rw [a3 (40 * s + j) (by omega), u2_s]
      · exact a4 j (by omega) j2
/-- a sheet begins, in both -/
theorem sheet_ai (X : AI h) {s : Nat} {B Z : Int32} (hs : s < 4) (hB : B = 0 ∨ B = 8 ∨ B = 16 ∨ B = 32) (hZ : sm Z 40) : ∃ h1 h2, f_3_begin (nI s) B Z h = some h1 ∧ f_9_sheet_90 (nI s) FU 0 (u2 (u2 h1 122 s B) 123 s Z) = some (1, h2) ∧ AI h2 := by
  obtain ⟨h1, a1, a2, _, a4⟩ := wipe_c hs 40 0 FU (u2 (u2 h 106 s B) 107 s Z) (by omega) (by show _ < 4096; omega)
  obtain ⟨h2, b1, b2, b3, b4⟩ := wipe_m hs 40 0 FU (u2 (u2 h1 122 s B) 123 s Z) (by omega) (by show _ < 4096; omega)
  have gs : inb (nI s) 4 = true := inb_nI hs (by decide)
  refine ⟨h1, h2, ?_, b1, ?_⟩
  · unfold f_3_begin
    rw [gd_s _ gs, hl_eq, gd_s _ gs, hl_eq, ci_nI (by omega)]
    exact a1
  have f : ∀ q, q ≠ 106 → q ≠ 107 → q ≠ 109 + s → q ≠ 122 → q ≠ 123 → q ≠ 124 → h2 q = h q := fun q q1 q2 q3 q4 q5 q6 => by
    rw [b2 q q6, u2_p _ _ q5, u2_p _ _ q4, a2 q q3, u2_p _ _ q2, u2_p _ _ q1]
  refine ai_sh X (fun q q1 q2 q3 q4 q5 => f q (by omega) (by omega) (by omega) q2 q3 q4) (fun t ht => ?_)
  obtain ⟨t1, t2, t3, t4, t5⟩ := X.1.2.2.2.2 t ht
  have g6 : h2 106 = upd (h 106) s B := by rw [b2 106 (by decide), u2_p _ _ (by decide), u2_p _ _ (by decide), a2 106 (by omega), u2_p _ _ (by decide), u2_row]
  have g7 : h2 107 = upd (h 107) s Z := by rw [b2 107 (by decide), u2_p _ _ (by decide), u2_p _ _ (by decide), a2 107 (by omega), u2_row, u2_p _ _ (by decide)]
  have g2 : h2 122 = upd (h 122) s B := by rw [b2 122 (by decide), u2_p _ _ (by decide), u2_row, a2 122 (by omega), u2_p _ _ (by decide), u2_p _ _ (by decide)]
  have g3 : h2 123 = upd (h 123) s Z := by rw [b2 123 (by decide), u2_row, u2_p _ _ (by decide), a2 123 (by omega), u2_p _ _ (by decide), u2_p _ _ (by decide)]
  have g4 : ∀ j, u2 (u2 h1 122 s B) 123 s Z 124 j = h 124 j := fun j => by rw [u2_p _ _ (by decide), u2_p _ _ (by decide), a2 124 (by omega), u2_p _ _ (by decide), u2_p _ _ (by decide)]
  rw [g6, g7, g2, g3]
  by_cases c : t = s
  · subst c
    rw [upd_s, upd_s, upd_s, upd_s]
    refine ⟨hB, rfl, hZ, rfl, fun j hj => ?_⟩
    rw [b4 j (by omega) hj, b2 (109 + t) (by omega), u2_p _ _ (by omega), u2_p _ _ (by omega), a4 j (by omega) hj]
  · rw [upd_n _ _ c, upd_n _ _ c, upd_n _ _ c, upd_n _ _ c]
    refine ⟨t1, t2, t3, t4, fun j hj => ?_⟩
    rw [b3 _ (by omega), g4, f (109 + t) (by omega) (by omega) (by omega) (by omega) (by omega) (by omega)]
    exact t5 j hj
theorem al_sheet (X : AI h) (a b c : Int32) : Al (f_8_sheet a b c) (f_9_sheet a b c) h := by
  have e9 := in_w a (A := 0) (B := 3) 0 3 (by decide) (by decide)
  rcases wiC a (A := 0) (B := 3) 0 3 (by decide) (by decide) (by decide) with ⟨w, _⟩ | ⟨w, s, _, s3, rfl⟩
  · refine Al.er X (k := 1) (by decide) (by decide) ?_ (fun h1 f => ?_)
    · unfold f_8_sheet f_8_isSheet
      rw [w, if_pos rfl, b2_id]; rfl
    · unfold f_9_sheet f_9_isSheet
      rw [e9, w, if_pos rfl, b2_id]; rfl
  have hs : s < 4 := by omega
  have gs : inb (nI s) 4 = true := inb_nI hs (by decide)
  have cs : ci (nI s) = s := ci_nI (by omega)
  have n80 : ¬ (8 : Int32) = 0 := by decide
  have n160 : ¬ (16 : Int32) = 0 := by decide
  have n320 : ¬ (32 : Int32) = 0 := by decide
  have n168 : ¬ (16 : Int32) = 8 := by decide
  have n328 : ¬ (32 : Int32) = 8 := by decide
  have n3216 : ¬ (32 : Int32) = 16 := by decide
  have n10 : ¬ (1 : Int32) = 0 := by decide
  by_cases hB : b = 0 ∨ b = 8 ∨ b = 16 ∨ b = 32
  · by_cases z0 : b = 0
    · subst z0
      obtain ⟨h1, h2, a1, a2, a3⟩ := sheet_ai X hs hB (Z := 0) ⟨0, by decide, rfl⟩
      refine ⟨1, h1, h2, ?_, ?_, a3⟩
      · unfold f_8_sheet f_8_isSheet
        rw [w, if_neg n10]
        simp only [if_pos (show (0 : Int32) = 0 from rfl), a1, bnd_s, if_true]
      · unfold f_9_sheet f_9_isSheet
        rw [e9, w, if_neg n10]
        simp only [if_pos (show (0 : Int32) = 0 from rfl), gd_s _ gs, cs, hl_eq, a2, if_true]
    · by_cases c0 : 0 ≤ c
      · by_cases c40 : c ≤ 40
        · have hZ : sm c 40 := by
            have q1 := Int32.le_iff_toInt_le.mp c0
            have q2 := Int32.le_iff_toInt_le.mp c40
            have e0 : (0 : Int32).toInt = 0 := by decide
            have e40 : (40 : Int32).toInt = 40 := by decide
            exact ⟨c.toInt.toNat, by omega, nI_of_toInt (by omega) (by omega)⟩
          obtain ⟨h1, h2, a1, a2, a3⟩ := sheet_ai X hs hB hZ
          refine ⟨1, h1, h2, ?_, ?_, a3⟩
          · unfold f_8_sheet f_8_isSheet
            rw [w, if_neg n10]
            rcases hB with rfl | rfl | rfl | rfl
            · exact absurd rfl z0
            all_goals simp only [if_pos c0, if_pos c40, if_neg n80, if_neg n160, if_neg n320, if_neg n168, if_neg n328, if_neg n3216, a1, bnd_s, if_true]
          · unfold f_9_sheet f_9_isSheet
            rw [e9, w, if_neg n10]
            rcases hB with rfl | rfl | rfl | rfl
            · exact absurd rfl z0
            all_goals simp only [if_pos c0, if_pos c40, if_neg n80, if_neg n160, if_neg n320, if_neg n168, if_neg n328, if_neg n3216, gd_s _ gs, cs, hl_eq, a2, if_true]
        · refine Al.er X (k := 1) (by decide) (by decide) ?_ (fun h1 f => ?_)
          · unfold f_8_sheet f_8_isSheet
            rw [w, if_neg n10]
            rcases hB with rfl | rfl | rfl | rfl
            · exact absurd rfl z0
            all_goals simp only [if_pos c0, if_neg c40, if_neg n80, if_neg n160, if_neg n320, if_neg n168, if_neg n328, if_neg n3216, b2_id, if_true]
            all_goals rfl
          · unfold f_9_sheet f_9_isSheet
            rw [e9, w, if_neg n10]
            rcases hB with rfl | rfl | rfl | rfl
            · exact absurd rfl z0
            all_goals simp only [if_pos c0, if_neg c40, if_neg n80, if_neg n160, if_neg n320, if_neg n168, if_neg n328, if_neg n3216, b2_id, if_true]
            all_goals rfl
      · refine Al.er X (k := 3) (by decide) (by decide) ?_ (fun h1 f => ?_)
        · unfold f_8_sheet f_8_isSheet
          rw [w, if_neg n10]
          rcases hB with rfl | rfl | rfl | rfl
          · exact absurd rfl z0
          all_goals simp only [if_neg c0, if_neg n80, if_neg n160, if_neg n320, if_neg n168, if_neg n328, if_neg n3216, b2_id, if_true]
          all_goals rfl
        · unfold f_9_sheet f_9_isSheet
          rw [e9, w, if_neg n10]
          rcases hB with rfl | rfl | rfl | rfl
          · exact absurd rfl z0
          all_goals simp only [if_neg c0, if_neg n80, if_neg n160, if_neg n320, if_neg n168, if_neg n328, if_neg n3216, b2_id, if_true]
          all_goals rfl
  · have z0 : ¬ b = 0 := fun e => hB (Or.inl e)
    have z8 : ¬ b = 8 := fun e => hB (Or.inr (Or.inl e))
    have z16 : ¬ b = 16 := fun e => hB (Or.inr (Or.inr (Or.inl e)))
    have z32 : ¬ b = 32 := fun e => hB (Or.inr (Or.inr (Or.inr e)))
    refine Al.er X (k := 1) (by decide) (by decide) ?_ (fun h1 f => ?_)
    · unfold f_8_sheet f_8_isSheet
      rw [w, if_neg n10]
      simp only [if_neg z0, if_neg z8, if_neg z16, if_neg z32, b2_id]
      rfl
    · unfold f_9_sheet f_9_isSheet
      rw [e9, w, if_neg n10]
      simp only [if_neg z0, if_neg z8, if_neg z16, if_neg z32, b2_id]
      rfl
end
