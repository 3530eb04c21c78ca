/-! law, tell, check -/
section
variable {h h2 : Hp}
theorem al_law (X : AI h) (a b c d : Int32) : Al (f_8_law a b c d) (f_9_law a b c d) h := by
  have x := X.1
  have ea := in_w a (A := 0) (B := 1) 0 1 (by decide) (by decide)
  rcases wiC a (A := 0) (B := 1) 0 1 (by decide) (by decide) (by decide) with ⟨wa, _⟩ | ⟨wa, i, _, i3, rfl⟩
  · refine Al.er X (k := 1) (by decide) (by decide) ?_ (fun h1 f => ?_)
    · unfold f_8_law
      rw [wa, if_pos rfl, b2_id]; rfl
    · unfold f_9_law
      rw [ea, wa, if_pos rfl, b2_id]; rfl
  have C : f_8_law (nI i) b c d h = if nI i = 0 then f_7_apartBy b c d h else f_7_noticeBy b c d h := by
    unfold f_8_law
    rw [wa, if_neg (by decide), b2_id, b2_id]
  have M : ∀ h1, f_9_law (nI i) b c d h1 = f_9_textGives (nI i) b c d h1 := fun h1 => by
    unfold f_9_law
    rw [ea, wa, if_neg (by decide), b2_id]
  obtain rfl | rfl : i = 0 ∨ i = 1 := by omega
  · refine Al.q (v := fun h => tA h 6 0 b c d) X ?_ (fun h1 x1 f => ?_) (fun h1 f => tA_pf f.rd (Or.inl rfl) b c d)
    · obtain ⟨h1, a1, a2⟩ := apart_c x.T6 b c d
      exact ⟨h1, by rw [C, if_pos (show nI 0 = 0 from rfl), a1], pf8 a2⟩
    · obtain ⟨h2, a1, a2⟩ := apart_m x1.T6 b c d
      exact ⟨h2, by rw [M]; exact a1, a2.pf⟩
  · refine Al.q (v := fun h => tA h 9 1 b c d) X ?_ (fun h1 x1 f => ?_) (fun h1 f => tA_pf f.rd (Or.inr rfl) b c d)
    · obtain ⟨h1, a1, a2⟩ := notice_c x.T9 b c d
      exact ⟨h1, by rw [C, if_neg (show ¬ nI 1 = 0 by decide), a1], pf11 a2⟩
    · obtain ⟨h2, a1, a2⟩ := notice_m x1.T9 b c d
      exact ⟨h2, by rw [M]; exact a1, a2.pf⟩
theorem INV.S (x : INV h) : h 1 13 = nI (ci (h 1 13)) ∧ ci (h 1 13) ≤ 20 ∧ h 115 6 = h 1 13 := by
  obtain ⟨_, _, _, _, _, _, y1, y2⟩ := x.1.1
  obtain ⟨a, b⟩ := sm_ci y1 (by decide)
  exact ⟨a, b, y2⟩
theorem al_tell (X : AI h) (a : Int32) : Al (f_8_tell a) (f_9_tell a) h := by
  have x := X.1
  obtain ⟨s1, s2, s3⟩ := x.S
  generalize ci (h 1 13) = S at s1 s2
  by_cases c : S < 20
  · have g1 : inb (nI S) 20 = true := inb_nI c (by decide)
    have g2 : inb (nI (210 + S)) 380 = true := inb_nI (by omega) (by decide)
    have ec : ∀ q, q ≠ 1 → q ≠ 13 → u2 (u2 h 13 S a) 1 13 (nI (S + 1)) q = h q := fun q q1 q2 => by rw [u2_p _ _ q1, u2_p _ _ q2]
    have e1 : u2 (u2 h 13 S a) 1 13 (nI (S + 1)) 1 = upd (h 1) 13 (nI (S + 1)) := by rw [u2_row, u2_p _ _ (by decide)]
    have e13 : u2 (u2 h 13 S a) 1 13 (nI (S + 1)) 13 = upd (h 13) S a := by rw [u2_p _ _ (by decide), u2_row]
    have C : f_8_tell a h = some (nI (S + 1), u2 (u2 h 13 S a) 1 13 (nI (S + 1))) := by
      unfold f_8_tell
      have t : u2 h 13 S a 1 13 = nI S := by rw [u2_p _ _ (by decide)]; exact s1
      have c1 : h 1 13 < (20 : Int32) := by rw [s1]; exact nI_lt (b := 20) c (by decide)
      rw [if_pos c1, s1, gd_s _ g1, hl_eq, hl_eq, ci_nI (by omega), t, nI_1, u2_s]
    generalize u2 (u2 h 13 S a) 1 13 (nI (S + 1)) = h1 at ec e1 e13 C
    have e115 := ec 115 (by decide) (by decide)
    refine ⟨nI (S + 1), h1, u2 (u2 h1 115 (210 + S) a) 115 6 (nI (S + 1)), C, ?_, ?_⟩
    · unfold f_9_tell
      have t : u2 h1 115 (210 + S) a 115 6 = nI S := by rw [u2_k _ _ (by omega), e115, s3, s1]
      have c1 : ¬ nI S = (20 : Int32) := fun q => by
        have := (nI_eq (a := S) (b := 20) (by omega) (by decide)).mp q
        omega
      rw [e115, s3, s1, if_neg c1, lit_nI 210, nI_add, gd_s _ g2, hl_eq, hl_eq, ci_nI (by omega), t, nI_1, u2_s]
    · have e5 : u2 (u2 h1 115 (210 + S) a) 115 6 (nI (S + 1)) 115 = upd (upd (h 115) (210 + S) a) 6 (nI (S + 1)) := by rw [u2_row, u2_row, e115]
      have f5 : ∀ q, q ≠ 115 → u2 (u2 h1 115 (210 + S) a) 115 6 (nI (S + 1)) q = h1 q := fun q hq => by rw [u2_p _ _ hq, u2_p _ _ hq]
      obtain ⟨a1, a2, a3, a4⟩ := x.1.2.1
      refine ai_g (p := 13) X (by decide) (fun q q1 q2 q3 => by rw [f5 q q3, ec q q1 q2]) ?_ ⟨fun t ht => ?_, fun t ht => ?_, fun t ht => ?_, fun t ht => ?_⟩ (by rw [f5 1 (by decide), e1]; rfl) (by rw [f5 1 (by decide), e1]; rfl) (fun t ht => by rw [e5, upd_n _ _ (by omega), upd_n _ _ (by omega)])
      · obtain ⟨y1, y2, y3, y4, y5, y6, y7⟩ := x.1.1
        rw [e5]
        unfold gS
        rw [f5 1 (by decide), e1]
        refine ⟨⟨y1.1, ?_⟩, ⟨y2.1, ?_⟩, ⟨y3.1, ?_⟩, ?_, ?_, ⟨y6.1, ?_⟩, ⟨S + 1, by omega, rfl⟩, rfl⟩
        · rw [upd_n _ _ (by decide), upd_n _ _ (by omega)]; exact y1.2
        · rw [upd_n _ _ (by decide), upd_n _ _ (by omega)]; exact y2.2
        · rw [upd_n _ _ (by decide), upd_n _ _ (by omega)]; exact y3.2
        · rw [upd_n _ _ (by decide), upd_n _ _ (by omega)]; exact y4
        · rw [upd_n _ _ (by decide), upd_n _ _ (by omega)]; exact y5
        · rw [upd_n _ _ (by decide), upd_n _ _ (by omega)]; exact y6.2
      · rw [e5, upd_n _ _ (by omega), upd_n _ _ (by omega), f5 2 (by decide), ec 2 (by decide) (by decide)]; exact a1 t ht
      · rw [e5, upd_n _ _ (by omega), upd_n _ _ (by omega), f5 12 (by decide), ec 12 (by decide) (by decide)]; exact a2 t ht
      · show u2 (u2 h1 115 (210 + S) a) 115 6 (nI (S + 1)) 115 (210 + t) = u2 (u2 h1 115 (210 + S) a) 115 6 (nI (S + 1)) 13 t
        rw [e5, upd_n _ _ (by omega), f5 13 (by decide), e13]
        by_cases c : t = S
        · subst c
          rw [upd_s, upd_s]
        · rw [upd_n _ _ (by omega), upd_n _ _ c]
          exact a3 t ht
      · rw [e5, upd_n _ _ (by omega), upd_n _ _ (by omega), f5 5 (by decide), ec 5 (by decide) (by decide)]; exact a4 t ht
  · obtain rfl : S = 20 := by omega
    refine Al.er X (k := 4) (by decide) (by decide) ?_ (fun h1 f => ?_)
    · unfold f_8_tell
      rw [s1, if_neg (by decide), b2_id]; rfl
    · unfold f_9_tell
      rw [f 115 (by decide), s3, s1, if_pos (show nI 20 = 20 from rfl), b2_id]; rfl
def chk (h : Hp) : Nat → Nat → Int32
  | 0, _ => 0
  | d + 1, k => if h 13 k = h 2 k then chk h d (k + 1) else 1 + nI k
theorem ck_c {S : Nat} {h1 : Hp} (S20 : S ≤ 20) (f2 : h1 2 = h 2) (f13 : h1 13 = h 13) : ∀ (d k n : Nat), S = k + d → d < n → f_8_check_18 (nI S) n (nI k) h1 = some (chk h d k, h1)
  | 0, k, n, e1, e2 => by
    obtain ⟨n, rfl⟩ : ∃ z, n = z + 1 := ⟨n - 1, by omega⟩
    rw [f_8_check_18, if_pos (nI_le (by omega) (by omega))]
    rfl
  | d + 1, k, n, e1, e2 => by
    obtain ⟨n, rfl⟩ : ∃ z, n = z + 1 := ⟨n - 1, by omega⟩
    rw [f_8_check_18, if_neg (nI_ge (by omega) (by omega)), gd_s _ (inb_nI (show k < 20 by omega) (by decide)), filmAt_c (by omega), bnd_s, if_pos (show k < 60 by omega), ci_nI (by omega), f2, f13]
    unfold chk
    by_cases c : h 13 k = h 2 k
    · rw [if_pos c, if_pos c, nI_1]
      exact ck_c S20 f2 f13 d (k + 1) n (by omega) (by omega)
    · rw [if_neg c, if_neg c]
theorem ck_m {S : Nat} {h1 : Hp} (S20 : S ≤ 20) (f2 : ∀ k, k < 60 → h1 115 (24 + k) = h 2 k) (f13 : ∀ k, k < 20 → h1 115 (210 + k) = h 13 k) : ∀ (d k n : Nat), S = k + d → d < n → f_9_check_18 (nI S) n (nI k) h1 = some (chk h d k, h1)
  | 0, k, n, e1, e2 => by
    obtain ⟨n, rfl⟩ : ∃ z, n = z + 1 := ⟨n - 1, by omega⟩
    rw [f_9_check_18, if_pos (nI_le (by omega) (by omega))]
    rfl
  | d + 1, k, n, e1, e2 => by
    obtain ⟨n, rfl⟩ : ∃ z, n = z + 1 := ⟨n - 1, by omega⟩
    rw [f_9_check_18, if_neg (nI_ge (by omega) (by omega)), lit_nI 210, nI_add, lit_nI 24, nI_add, gd_s _ (inb_nI (show 210 + k < 380 by omega) (by decide)), gd_s _ (inb_nI (show 24 + k < 380 by omega) (by decide)), ci_nI (by omega), ci_nI (by omega), f2 k (by omega), f13 k (by omega)]
    unfold chk
    by_cases c : h 13 k = h 2 k
    · rw [if_pos c, if_pos c, nI_1]
      exact ck_m S20 f2 f13 d (k + 1) n (by omega) (by omega)
    · rw [if_neg c, if_neg c]
theorem al_check (X : AI h) : Al f_8_check f_9_check h := by
  have x := X.1
  obtain ⟨s1, s2, s3⟩ := x.S
  have A : AI (u2 (u2 h 1 13 0) 115 6 0) := by
    refine ai_s X (by decide) (by decide) (by decide) ?_
    have e1 : u2 (u2 h 1 13 0) 115 6 0 1 = upd (h 1) 13 0 := by rw [u2_p _ _ (by decide), u2_row]
    obtain ⟨y1, y2, y3, y4, y5, y6, y7⟩ := x.1.1
    unfold gS
    rw [e1]
    exact ⟨y1, y2, y3, y4, y5, y6, ⟨0, by decide, rfl⟩, rfl⟩
  refine ⟨chk h (ci (h 1 13)) 0, u2 h 1 13 0, _, ?_, ?_, A⟩
  · unfold f_8_check
    rw [hl_eq, s1]
    exact (ck_c (h := h) s2 (u2_p _ _ (by decide)) (u2_p _ _ (by decide)) (ci (h 1 13)) 0 FU (by omega) (by show _ < 4096; omega)).trans (by rw [ci_nI (by omega)])
  · unfold f_9_check
    rw [hl_eq, u2_p (q := 115) _ _ (by decide), s3, s1]
    refine (ck_m (h := h) s2 (fun k hk => ?_) (fun k hk => ?_) (ci (h 1 13)) 0 FU (by omega) (by show _ < 4096; omega)).trans (by rw [ci_nI (by omega)])
    · rw [u2_k _ _ (by omega), u2_p _ _ (by decide)]; exact x.film k hk
    · rw [u2_k _ _ (by omega), u2_p _ _ (by decide)]; exact x.1.2.1.2.2.1 k hk
end
