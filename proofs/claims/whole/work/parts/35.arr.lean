/-! film, likes, tape, waiting -/
section
variable {h h2 : Hp}
theorem ai_g {p : Nat} (X : AI h) (hp : p = 1 ∨ p = 2 ∨ p = 5 ∨ p = 12 ∨ p = 13) (f : ∀ q, q ≠ 1 → q ≠ p → q ≠ 115 → h2 q = h q) (S : gS h2 1 (h2 115)) (A : gA h2 1 (h2 115)) (e10 : h2 1 10 = h 1 10) (e11 : h2 1 11 = h 1 11) (HD : ∀ k, (84 ≤ k ∧ k < 210) ∨ (230 ≤ k ∧ k < 330) → h2 115 k = h 115 k) : AI h2 := by
  refine ai_w X (f 0 (by decide) (by omega) (by decide)) (fun q q1 q2 => f q (by omega) (by omega) q2) ?_
  exact X.1.1.frA S A e10 e11 (fun q hq q0 q1 q4 q11 q12 => f _ (by omega) (by omega) (by unfold kp at hq; omega)) HD
theorem gS_cg {D D2 : Nat → Int32} (e : h2 1 = h 1) (d : ∀ k, k < 7 → D2 k = D k) (x : gS h 1 D) : gS h2 1 D2 := by
  unfold gS
  rw [e, d 0 (by decide), d 1 (by decide), d 2 (by decide), d 3 (by decide), d 4 (by decide), d 5 (by decide), d 6 (by decide)]
  exact x
theorem al_like (X : AI h) (a b c : Int32) : Al (f_8_like a b c) (f_9_like a b c) h := by
  have x := X.1
  have ea := in_w a (A := 0) (B := 3) 0 3 (by decide) (by decide)
  have eb := in_w b (A := 0) (B := 3) 0 3 (by decide) (by decide)
  have ec := in_w c (A := 0) (B := 99) 0 99 (by decide) (by decide)
  rcases wiC a (A := 0) (B := 3) 0 3 (by decide) (by decide) (by decide) with ⟨wa, _⟩ | ⟨wa, i, _, i3, rfl⟩
  · refine Al.er X (k := 1) (by decide) (by decide) ?_ (fun h1 f => ?_)
    · unfold f_8_like
      rw [wa, if_pos rfl, b2_id]; rfl
    · unfold f_9_like
      rw [ea, wa, if_pos rfl, b2_id]; rfl
  rcases wiC b (A := 0) (B := 3) 0 3 (by decide) (by decide) (by decide) with ⟨wb, _⟩ | ⟨wb, j, _, j3, rfl⟩
  · refine Al.er X (k := 1) (by decide) (by decide) ?_ (fun h1 f => ?_)
    · unfold f_8_like
      rw [wa, if_neg (by decide), wb, if_pos rfl, b2_id]; rfl
    · unfold f_9_like
      rw [ea, wa, if_neg (by decide), eb, wb, if_pos rfl, b2_id]; rfl
  rcases wiC c (A := 0) (B := 99) 0 99 (by decide) (by decide) (by decide) with ⟨wc, _⟩ | ⟨wc, v, _, v9, rfl⟩
  · refine Al.er X (k := 1) (by decide) (by decide) ?_ (fun h1 f => ?_)
    · unfold f_8_like
      rw [wa, if_neg (by decide), wb, if_neg (by decide), wc, if_pos rfl, b2_id]; rfl
    · unfold f_9_like
      rw [ea, wa, if_neg (by decide), eb, wb, if_neg (by decide), ec, wc, if_pos rfl, b2_id]; rfl
  have k1 : 4 * nI i + nI j = nI (4 * i + j) := by rw [lit_nI 4, pk_mul, nI_add]
  have k2 : 8 + 4 * nI i + nI j = nI (8 + (4 * i + j)) := by rw [lit_nI 4, pk_mul, lit_nI 8, nI_add, nI_add, Nat.add_assoc]
  have hk : 4 * i + j < 16 := by omega
  generalize 4 * i + j = k at hk k1 k2
  have g1 : inb (nI k) 16 = true := inb_nI hk (by decide)
  have g2 : inb (nI (8 + k)) 380 = true := inb_nI (by omega) (by decide)
  have f : ∀ q, q ≠ 12 → q ≠ 115 → u2 (u2 h 12 k (nI v)) 115 (8 + k) (nI v) q = h q := fun q q1 q2 => by rw [u2_p _ _ q2, u2_p _ _ q1]
  have e5 : u2 (u2 h 12 k (nI v)) 115 (8 + k) (nI v) 115 = upd (h 115) (8 + k) (nI v) := by rw [u2_row, u2_p _ _ (by decide)]
  have e12 : u2 (u2 h 12 k (nI v)) 115 (8 + k) (nI v) 12 = upd (h 12) k (nI v) := by rw [u2_p _ _ (by decide), u2_row]
  refine ⟨h 12 k, u2 h 12 k (nI v), u2 (u2 h 12 k (nI v)) 115 (8 + k) (nI v), ?_, ?_, ?_⟩
  · unfold f_8_like
    rw [wa, if_neg (by decide), wb, if_neg (by decide), wc, if_neg (by decide), k1, gd_s _ g1, gd_s _ g1, hl_eq, ci_nI (by omega)]
  · unfold f_9_like
    rw [ea, wa, if_neg (by decide), eb, wb, if_neg (by decide), ec, wc, if_neg (by decide), k2, gd_s _ g2, gd_s _ g2, hl_eq, ci_nI (by omega), u2_p _ _ (by decide), (x.1.2.1.2.1 k hk).1]
  · obtain ⟨a1, a2, a3, a4⟩ := x.1.2.1
    refine ai_g (p := 12) X (by decide) (fun q _ q1 q2 => f q q1 q2) ?_ ?_ (by rw [f 1 (by decide) (by decide)]) (by rw [f 1 (by decide) (by decide)]) (fun t ht => by rw [e5, upd_n _ _ (by omega)])
    · exact gS_cg (f 1 (by decide) (by decide)) (fun t ht => by rw [e5, upd_n _ _ (by omega)]) x.1.1
    · refine ⟨fun t ht => ?_, fun t ht => ?_, fun t ht => ?_, fun t ht => ?_⟩
      · rw [e5, upd_n _ _ (by omega), f 2 (by decide) (by decide)]; exact a1 t ht
      · show u2 (u2 h 12 k (nI v)) 115 (8 + k) (nI v) 115 (8 + t) = u2 (u2 h 12 k (nI v)) 115 (8 + k) (nI v) 12 t ∧ sm (u2 (u2 h 12 k (nI v)) 115 (8 + k) (nI v) 12 t) 99
        rw [e5, e12]
        by_cases c : t = k
        · subst c
          rw [upd_s, upd_s]
          exact ⟨rfl, v, v9, rfl⟩
        · rw [upd_n _ _ (by omega), upd_n _ _ c]
          exact a2 t ht
      · rw [e5, upd_n _ _ (by omega), f 13 (by decide) (by decide)]; exact a3 t ht
      · rw [e5, upd_n _ _ (by omega), f 5 (by decide) (by decide)]; exact a4 t ht
/-- the film may change alike -/
theorem ai_film (X : AI h) (f : ∀ q, q ≠ 2 → q ≠ 115 → h2 q = h q) (d : ∀ k, (k < 24 ∨ 84 ≤ k) → h2 115 k = h 115 k) (e : ∀ k, k < 60 → h2 115 (24 + k) = h2 2 k) : AI h2 := by
  obtain ⟨a1, a2, a3, a4⟩ := X.1.1.2.1
  refine ai_g (p := 2) X (by decide) (fun q _ q1 q2 => f q q1 q2) (gS_cg (f 1 (by decide) (by decide)) (fun t ht => d t (by omega)) X.1.1.1) ⟨e, fun t ht => ?_, fun t ht => ?_, fun t ht => ?_⟩ (by rw [f 1 (by decide) (by decide)]) (by rw [f 1 (by decide) (by decide)]) (fun t ht => d t (by omega))
  · rw [d _ (by omega), f 12 (by decide) (by decide)]; exact a2 t ht
  · rw [d _ (by omega), f 13 (by decide) (by decide)]; exact a3 t ht
  · rw [d _ (by omega), f 5 (by decide) (by decide)]; exact a4 t ht
theorem al_mouthAt (X : AI h) (a : Int32) : Al (f_8_mouthAt a) (f_9_mouthAt a) h := by
  have x := X.1
  have ea := in_w a (A := 0) (B := 59) 0 59 (by decide) (by decide)
  rcases wiC a (A := 0) (B := 59) 0 59 (by decide) (by decide) (by decide) with ⟨wa, _⟩ | ⟨wa, i, _, i3, rfl⟩
  · refine Al.er X (k := 1) (by decide) (by decide) ?_ (fun h1 f => ?_)
    · unfold f_8_mouthAt
      rw [wa, if_pos rfl, b2_id]; rfl
    · unfold f_9_mouthAt
      rw [ea, wa, if_pos rfl, b2_id]; rfl
  refine ⟨h 2 i, h, h, ?_, ?_, X⟩
  · unfold f_8_mouthAt
    rw [wa, if_neg (by decide), filmAt_c (by omega), if_pos (by omega), bnd_s]
  · unfold f_9_mouthAt
    rw [ea, wa, if_neg (by decide), lit_nI 24, nI_add, gd_s _ (inb_nI (by omega) (by decide)), ci_nI (by omega), x.film i (by omega)]
theorem setFilm_c {k : Nat} (hk : k < 60) (v : Int32) : f_7_setFilm (nI k) v h = some (u2 h 2 k v) := by
  unfold f_7_setFilm
  rcases wiC (nI k) (A := 0) (B := 59) 0 59 (by decide) (by decide) (by decide) with ⟨_, q⟩ | ⟨e, _⟩
  · exact absurd rfl (q k (by omega) (by omega))
  · rw [e, if_neg (by decide), gd_s _ (inb_nI hk (by decide)), hl_eq, ci_nI (by omega)]
theorem mouth_c {s n : Nat} {v : Int32} (hs : s + n ≤ 60) : ∀ (d k m : Nat) (h0 : Hp), n = k + d → d < m → (∀ q, q ≠ 2 → h0 q = h q) → (∀ t, h0 2 t = if s ≤ t ∧ t < s + k then v else h 2 t) → ∃ h1, f_8_mouth_40 (nI s) (nI n) v m (nI k) h0 = some (nI n, h1) ∧ (∀ q, q ≠ 2 → h1 q = h q) ∧ ∀ t, h1 2 t = if s ≤ t ∧ t < s + n then v else h 2 t
  | 0, k, m, h0, e1, e2, f, g => by
    obtain ⟨m, rfl⟩ : ∃ z, m = z + 1 := ⟨m - 1, by omega⟩
    refine ⟨h0, ?_, f, ?_⟩
    · rw [f_8_mouth_40, if_pos (nI_le (by omega) (by omega))]
    · rw [e1]; exact g
  | d + 1, k, m, h0, e1, e2, f, g => by
    obtain ⟨m, rfl⟩ : ∃ z, m = z + 1 := ⟨m - 1, by omega⟩
    obtain ⟨h1, b1, b2⟩ := mouth_c hs d (k + 1) m (u2 h0 2 (s + k) v) (by omega) (by omega) (fun q hq => (u2_p _ _ hq).trans (f q hq)) (fun t => by
      by_cases c : t = s + k
      · subst c
        rw [u2_s, if_pos (by omega)]
      · rw [u2_k _ _ c, g t]
        by_cases c2 : s ≤ t ∧ t < s + k
        · rw [if_pos c2, if_pos (by omega)]
        · rw [if_neg c2, if_neg (by omega)])
    refine ⟨h1, ?_, b2⟩
    rw [f_8_mouth_40, if_neg (nI_ge (by omega) (by omega)), nI_add, setFilm_c (by omega), bnd_s, nI_1, b1]
theorem mouth_m {s n : Nat} {v : Int32} (hs : s + n ≤ 60) : ∀ (d k m : Nat) (h0 : Hp), n = k + d → d < m → (∀ q, q ≠ 115 → h0 q = h q) → (∀ t, h0 115 t = if 24 + s ≤ t ∧ t < 24 + s + k then v else h 115 t) → ∃ h1, f_9_mouth_53 (nI s) (nI n) v m (nI k) h0 = some (nI n, h1) ∧ (∀ q, q ≠ 115 → h1 q = h q) ∧ ∀ t, h1 115 t = if 24 + s ≤ t ∧ t < 24 + s + n then v else h 115 t
  | 0, k, m, h0, e1, e2, f, g => by
    obtain ⟨m, rfl⟩ : ∃ z, m = z + 1 := ⟨m - 1, by omega⟩
    refine ⟨h0, ?_, f, ?_⟩
    · rw [f_9_mouth_53, if_pos (nI_le (by omega) (by omega))]
    · rw [e1]; exact g
  | d + 1, k, m, h0, e1, e2, f, g => by
    obtain ⟨m, rfl⟩ : ∃ z, m = z + 1 := ⟨m - 1, by omega⟩
    obtain ⟨h1, b1, b2⟩ := mouth_m hs d (k + 1) m (u2 h0 115 (24 + s + k) v) (by omega) (by omega) (fun q hq => (u2_p _ _ hq).trans (f q hq)) (fun t => by
      by_cases c : t = 24 + s + k
      · subst c
        rw [u2_s, if_pos (by omega)]
      · rw [u2_k _ _ c, g t]
        by_cases c2 : 24 + s ≤ t ∧ t < 24 + s + k
        · rw [if_pos c2, if_pos (by omega)]
        · rw [if_neg c2, if_neg (by omega)])
    refine ⟨h1, ?_, b2⟩
    rw [f_9_mouth_53, if_neg (nI_ge (by omega) (by omega)), lit_nI 24, nI_add, nI_add, gd_s _ (inb_nI (show 24 + s + k < 380 by omega) (by decide)), hl_eq, ci_nI (by omega), nI_1, b1]
theorem al_mouth (X : AI h) (a b c : Int32) : Al (f_8_mouth a b c) (f_9_mouth a b c) h := by
  have x := X.1
  have ea := in_w a (A := 0) (B := 59) 0 59 (by decide) (by decide)
  have eb := in_w b (A := 1) (B := 60) 1 60 (by decide) (by decide)
  have ec := in_w c (A := 0) (B := 3) 0 3 (by decide) (by decide)
  rcases wiC a (A := 0) (B := 59) 0 59 (by decide) (by decide) (by decide) with ⟨wa, _⟩ | ⟨wa, s, _, i3, rfl⟩
  · refine Al.er X (k := 1) (by decide) (by decide) ?_ (fun h1 f => ?_)
    · unfold f_8_mouth
      rw [wa, if_pos rfl, b2_id]; rfl
    · unfold f_9_mouth
      rw [ea, wa, if_pos rfl, b2_id]; rfl
  have e60 : (60 : Int32) - nI s = nI (60 - s) := by rw [lit_nI 60, pk_sub (by omega)]
  rcases wiC b (A := 1) (B := 60 - nI s) 1 (60 - s) (by decide) (by rw [e60, nI_toInt (by omega)]) (by omega) with ⟨wb, nb⟩ | ⟨wb, n, n1, n2, rfl⟩
  · refine Al.er X (k := 1) (by decide) (by decide) ?_ (fun h1 f => ?_)
    · unfold f_8_mouth
      rw [wa, if_neg (by decide), wb, if_pos rfl, b2_id]; rfl
    · unfold f_9_mouth
      rw [ea, wa, if_neg (by decide), eb]
      rcases wiC b (A := 1) (B := 60) 1 60 (by decide) (by decide) (by decide) with ⟨w2, _⟩ | ⟨w2, n, n1, n2, rfl⟩
      · rw [w2, if_pos rfl, b2_id]; rfl
      · have c2 : ¬ nI s + nI n ≤ 60 := by
          rw [nI_add]
          refine nI_ge (a := 60) ?_ (by omega)
          rcases Nat.lt_or_ge 60 (s + n) with q | q
          · exact q
          · exact absurd rfl (nb n n1 (by omega))
        rw [w2, if_neg (by decide), if_neg c2, b2_id]
        by_cases z : f_9_in c.toInt64 0 3 = 0
        · rw [if_pos z]; rfl
        · rw [if_neg z]; rfl
  have eb2 : f_8_within (nI n) 1 60 = 1 := by
    rcases wiC (nI n) (A := 1) (B := 60) 1 60 (by decide) (by decide) (by decide) with ⟨_, q⟩ | ⟨q, _⟩
    · exact absurd rfl (q n n1 (by omega))
    · exact q
  rcases wiC c (A := 0) (B := 3) 0 3 (by decide) (by decide) (by decide) with ⟨wc, _⟩ | ⟨wc, v, _, v3, rfl⟩
  · refine Al.er X (k := 1) (by decide) (by decide) ?_ (fun h1 f => ?_)
    · unfold f_8_mouth
      rw [wa, if_neg (by decide), wb, if_neg (by decide), wc, if_pos rfl, b2_id]; rfl
    · unfold f_9_mouth
      rw [ea, wa, if_neg (by decide), eb, eb2, if_neg (by decide), ec, wc, if_pos rfl, b2_id]; rfl
  obtain ⟨h1, b1, b2, b3⟩ := mouth_c (h := h) (s := s) (n := n) (v := nI v) (by omega) n 0 FU h (by omega) (by show _ < 4096; omega) (fun _ _ => rfl) (fun t => by rw [if_neg (by omega)])
  obtain ⟨h2, c1, c2, c3⟩ := mouth_m (h := h1) (s := s) (n := n) (v := nI v) (by omega) n 0 FU h1 (by omega) (by show _ < 4096; omega) (fun _ _ => rfl) (fun t => by rw [if_neg (by omega)])
  refine ⟨nI n, h1, h2, ?_, ?_, ?_⟩
  · unfold f_8_mouth
    rw [wa, if_neg (by decide), wb, if_neg (by decide), wc, if_neg (by decide)]
    exact b1
  · have c60 : nI s + nI n ≤ (60 : Int32) := by rw [nI_add]; exact nI_le (b := 60) (by omega) (by decide)
    unfold f_9_mouth
    rw [ea, wa, if_neg (by decide), eb, eb2, if_neg (by decide), ec, wc, if_neg (by decide), if_pos c60]
    exact c1
  · refine ai_film X (fun q q1 q2 => (c2 q q2).trans (b2 q q1)) (fun k hk => ?_) (fun k hk => ?_)
    · rw [c3 k, if_neg (by omega), b2 115 (by decide)]
    · rw [c3 (24 + k), c2 2 (by decide), b3 k, b2 115 (by decide), x.film k hk]
      by_cases c : s ≤ k ∧ k < s + n
      · rw [if_pos c, if_pos (by omega)]
      · rw [if_neg c, if_neg (by omega)]
end
