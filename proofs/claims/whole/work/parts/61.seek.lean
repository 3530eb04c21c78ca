/-! the search in the reference -/
section
variable {h : Hp}
def RM (h0 : Hp) (F : Fnd) : Prop := h0 114 17 = nI F.1 ∧ h0 114 14 = nI F.2.1 ∧ (F.1 ≠ 0 → h0 114 16 = F.2.2.1) ∧ ∀ t, t < F.2.1 → h0 120 t = nI (F.2.2.2 t)
def f_lk (w : Int32) (h : Hp) : Option Hp := hlet (u2 h 114 17 ((h 114 17) + 1)) (fun h21 => if (h21 114 14) = 0 then (hlet (u2 h21 114 14 (h21 114 11)) (fun h25 => hlet (u2 h25 114 16 w) (fun h27 => f_9_looksAt_155 FU 0 h27))) else (if (h21 114 16) ≤ w then (some h21) else (hlet (u2 h21 114 14 (h21 114 11)) (fun h35 => hlet (u2 h35 114 16 w) (fun h37 => f_9_looksAt_155 FU 0 h37)))))
theorem looks0 (l x3 : Int32) (h : Hp) : f_9_looksAt l 0 x3 h = bnd2 (f_9_offNow l h) (fun r h4 => bnd (f_9_lossNow l h4) (fun q => if x3 < q then (hlet (u2 h4 114 17 ((h4 114 17) + 0)) (fun h7 => some h7)) else f_lk r h4)) := by
  unfold f_9_looksAt f_lk
  simp only [if_neg (show ¬ (0 : Int32) = 2 by decide), if_true]
theorem looks1 (l x3 : Int32) (h : Hp) : f_9_looksAt l 1 x3 h = bnd2 (f_9_offNow l h) (fun r h4 => bnd (f_9_lossNow l h4) (fun q => if x3 < r then (hlet (u2 h4 114 17 ((h4 114 17) + 0)) (fun h7 => some h7)) else f_lk q h4)) := by
  unfold f_9_looksAt f_lk
  simp only [if_neg (show ¬ (1 : Int32) = 2 by decide), if_neg (show ¬ (1 : Int32) = 0 by decide), if_true]
theorem looks2 (l x3 : Int32) (h : Hp) : f_9_looksAt l 2 x3 h = bnd2 (f_9_isHeard l h) (fun r h4 => if r = 0 then (hlet (u2 h4 114 17 ((h4 114 17) + 0)) (fun h7 => if r = 0 then some h7 else (if (h7 114 14) = 0 then (hlet (u2 h7 114 14 (h7 114 11)) (fun h25 => hlet (u2 h25 114 16 0) (fun h27 => f_9_looksAt_155 FU 0 h27))) else (if (h7 114 16) ≤ 0 then (some h7) else (hlet (u2 h7 114 14 (h7 114 11)) (fun h35 => hlet (u2 h35 114 16 0) (fun h37 => f_9_looksAt_155 FU 0 h37))))))) else (hlet (u2 h4 114 17 ((h4 114 17) + 1)) (fun h7 => if r = 0 then some h7 else (if (h7 114 14) = 0 then (hlet (u2 h7 114 14 (h7 114 11)) (fun h25 => hlet (u2 h25 114 16 0) (fun h27 => f_9_looksAt_155 FU 0 h27))) else (if (h7 114 16) ≤ 0 then (some h7) else (hlet (u2 h7 114 14 (h7 114 11)) (fun h35 => hlet (u2 h35 114 16 0) (fun h37 => f_9_looksAt_155 FU 0 h37)))))))) := by
  unfold f_9_looksAt
  simp only [if_neg (show ¬ (2 : Int32) = 0 by decide), if_neg (show ¬ (2 : Int32) = 1 by decide), if_true]
theorem lk_l {s : Nat} (s3 : s ≤ 3) : ∀ (d k n : Nat) (h0 : Hp), s = k + d → d < n → h0 114 11 = nI s → ∃ h1, f_9_looksAt_155 n (nI k) h0 = some h1 ∧ (∀ q, q ≠ 120 → h1 q = h0 q) ∧ (∀ t, t < k → h1 120 t = h0 120 t) ∧ ∀ t, k ≤ t → t < s → h1 120 t = h0 119 t
  | 0, k, n, h0, e1, e2, e3 => by
    obtain ⟨n, rfl⟩ : ∃ z, n = z + 1 := ⟨n - 1, by omega⟩
    refine ⟨h0, ?_, fun _ _ => rfl, fun _ _ => rfl, fun t a b => absurd a (by omega)⟩
    rw [f_9_looksAt_155, e3, if_pos (nI_le (by omega) (by omega))]
  | d + 1, k, n, h0, e1, e2, e3 => by
    obtain ⟨n, rfl⟩ : ∃ z, n = z + 1 := ⟨n - 1, by omega⟩
    obtain ⟨h1, a1, a2, a3, a4⟩ := lk_l s3 d (k + 1) n (u2 h0 120 k (h0 119 k)) (by omega) (by omega) (by rw [u2_p _ _ (by decide)]; exact e3)
    have g : inb (nI k) 3 = true := inb_nI (by omega) (by decide)
    refine ⟨h1, ?_, fun q hq => (a2 q hq).trans (u2_p _ _ hq), fun t ht => by rw [a3 t (by omega), u2_k _ _ (by omega)], fun t t1 t2 => ?_⟩
    · rw [f_9_looksAt_155, e3, if_neg (nI_ge (by omega) (by omega)), gd_s _ g, gd_s _ g, hl_eq, ci_nI (by omega), nI_1, a1]
    · by_cases e : t = k
      · subst e
        rw [a3 t (by omega), u2_s]
      · rw [a4 t (by omega) t2, u2_p _ _ (by decide)]
/-- a row is taken into account -/
theorem lk_m {w : Int32} {s : Nat} {R : Nat → Nat} {F : Fnd} {h0 : Hp} (s3 : s ≤ 3) (hF : F.1 < 100000) (W : FW F) (e11 : h0 114 11 = nI s) (v : ∀ t, t < s → h0 119 t = nI (R t)) (q : RM h0 F) : ∃ h1, f_lk w h0 = some h1 ∧ (∀ q, q ≠ 114 → q ≠ 120 → h1 q = h0 q) ∧ (∀ k, k ≠ 14 → k ≠ 16 → k ≠ 17 → h1 114 k = h0 114 k) ∧ RM h1 (offer_ w s R F) := by
  obtain ⟨q1, q2, q3, q4⟩ := q
  have put : ∀ ha : Hp, (∀ q, q ≠ 114 → ha q = h0 q) → (∀ k, k ≠ 17 → ha 114 k = h0 114 k) → ha 114 17 = nI (F.1 + 1) → ∃ h1, f_9_looksAt_155 FU 0 (u2 (u2 ha 114 14 (ha 114 11)) 114 16 w) = some h1 ∧ (∀ q, q ≠ 114 → q ≠ 120 → h1 q = h0 q) ∧ (∀ k, k ≠ 14 → k ≠ 16 → k ≠ 17 → h1 114 k = h0 114 k) ∧ RM h1 (F.1 + 1, s, w, R) := fun ha a1 a2 a3 => by
    have e : u2 (u2 ha 114 14 (ha 114 11)) 114 16 w 114 11 = nI s := by rw [u2_k _ _ (by decide), u2_k _ _ (by decide), a2 11 (by decide)]; exact e11
    obtain ⟨h1, b1, b2, _, b4⟩ := lk_l s3 s 0 FU _ (by omega) (by show _ < 4096; omega) e
    refine ⟨h1, b1, fun q x1 x2 => by rw [b2 q x2, u2_p _ _ x1, u2_p _ _ x1, a1 q x1], fun k k1 k2 k3 => by rw [b2 114 (by decide), u2_k _ _ k2, u2_k _ _ k1, a2 k k3], ?_, ?_, fun _ => ?_, fun t ht => ?_⟩
    · rw [b2 114 (by decide), u2_k _ _ (by decide), u2_k _ _ (by decide)]; exact a3
    · rw [b2 114 (by decide), u2_k _ _ (by decide), u2_s, a2 11 (by decide)]; exact e11
    · rw [b2 114 (by decide), u2_s]
    · have ht : t < s := ht
      rw [b4 t (Nat.zero_le t) ht, u2_p _ _ (by decide), u2_p _ _ (by decide), a1 119 (by decide)]
      exact v t ht
  have e7 : u2 h0 114 17 (h0 114 17 + 1) 114 17 = nI (F.1 + 1) := by rw [u2_s, q1, nI_1]
  have ek : ∀ k, k ≠ 17 → u2 h0 114 17 (h0 114 17 + 1) 114 k = h0 114 k := fun k hk => u2_k _ _ hk
  have fr : ∀ q, q ≠ 114 → u2 h0 114 17 (h0 114 17 + 1) q = h0 q := fun q hq => u2_p _ _ hq
  unfold f_lk offer_
  rw [hl_eq, ek 14 (by decide), ek 16 (by decide), q2]
  generalize u2 h0 114 17 (h0 114 17 + 1) = ha at e7 ek fr
  obtain ⟨h1, p1, p2, p3, p4⟩ := put ha fr ek e7
  by_cases z : F.1 = 0
  · have z1 : nI F.2.1 = (0 : Int32) := by rw [W.2.mp z]; rfl
    refine ⟨h1, ?_, p2, p3, ?_⟩
    · rw [if_pos z1, hl_eq, hl_eq, p1]
    · rw [if_pos (Or.inl z)]; exact p4
  · have z0 : ¬ F.2.1 = 0 := fun e => z (W.2.mpr e)
    have w3 := W.1
    have z1 : ¬ nI F.2.1 = (0 : Int32) := fun e => z0 ((nI_eq (b := 0) (by omega) (by decide)).mp e)
    have q3 := q3 z
    rw [if_neg z1, q3]
    by_cases c : F.2.2.1 ≤ w
    · refine ⟨ha, by rw [if_pos c], fun q x1 _ => fr q x1, fun k _ _ k3 => ek k k3, ?_⟩
      rw [if_neg (fun e => e.elim z (fun e => e c))]
      exact ⟨e7, by rw [ek 14 (by decide)]; exact q2, fun _ => by rw [ek 16 (by decide)]; exact q3, fun t ht => by rw [fr 120 (by decide)]; exact q4 t ht⟩
    · refine ⟨h1, ?_, p2, p3, ?_⟩
      · rw [if_neg c, hl_eq, hl_eq, p1]
      · rw [if_pos (Or.inr c)]; exact p4
/-- a row, weighed by the reference -/
theorem row_m {M : Int32} (x : INV h) {l s : Nat} {R : Nat → Nat} {F : Fnd} (hM : M = 0 ∨ M = 1 ∨ M = 2) (hl : l < ci (h 1 11)) (s3 : s ≤ 3) (hR : ∀ t, t < s → R t < ci (h 1 10)) (x3 : Int32) (h0 : Hp) (f : PF h h0) (e11 : h0 114 11 = nI s) (v : ∀ t, t < s → h0 119 t = nI (R t)) (hF : F.1 < 100000) (W : FW F) (q : RM h0 F) : ∃ h1, f_9_looksAt (nI l) M x3 h0 = some h1 ∧ PF h h1 ∧ h1 114 11 = nI s ∧ h1 119 = h0 119 ∧ RM h1 (row_ M x3 h (36 + 2 * l) s R F) := by
  have l6 := x.L.2
  have w10 := x.W.2
  have x0 := f.inv x
  have L0 := x0.line (l := l) (by rw [f.L]; exact hl)
  have w0 : WM h0 R s := x0.WM (fun t ht => by rw [f.M]; exact hR t ht)
  have cR : ∀ t, t < s → R t < 10 ∧ R t = R t := fun t ht => ⟨by have := hR t ht; omega, rfl⟩
  have ovc : ov h0 (36 + 2 * l) R s = ov h (36 + 2 * l) R s := ov_cong f.rd (by omega) (by omega) cR
  have loc : lo_ h0 (36 + 2 * l) R s = lo_ h (36 + 2 * l) R s := lo_cong f.rd (by omega) (by omega) cR
  -- what changes 114 and 120 alone keeps the rest
  have pf2 : ∀ ha h1 : Hp, FO h0 ha → (∀ q, q ≠ 114 → q ≠ 120 → h1 q = ha q) → (∀ k, k ≠ 14 → k ≠ 16 → k ≠ 17 → h1 114 k = ha 114 k) → PF h h1 ∧ h1 114 11 = nI s ∧ h1 119 = h0 119 := fun ha h1 a b c => by
    refine ⟨f.tr (a.pf.tr ⟨fun q hq => b q (fun e => hq (by unfold scr; omega)) (fun e => hq (by unfold scr; omega)), c 2 (by decide) (by decide) (by decide), c 19 (by decide) (by decide) (by decide)⟩), ?_, ?_⟩
    · rw [c 11 (by decide) (by decide) (by decide), a.2 11 (by decide)]; exact e11
    · rw [b 119 (by decide) (by decide), a.1 119 (by decide) (by decide)]
  have rmk : ∀ ha : Hp, FO h0 ha → RM ha F := fun ha a => by
    obtain ⟨q1, q2, q3, q4⟩ := q
    refine ⟨by rw [a.2 17 (by decide)]; exact q1, by rw [a.2 14 (by decide)]; exact q2, fun z => by rw [a.2 16 (by decide)]; exact q3 z, fun t ht => by rw [a.1 120 (by decide) (by decide)]; exact q4 t ht⟩
  -- nothing is taken
  have skip : ∀ ha : Hp, FO h0 ha → PF h (u2 ha 114 17 (ha 114 17 + 0)) ∧ (u2 ha 114 17 (ha 114 17 + 0)) 114 11 = nI s ∧ (u2 ha 114 17 (ha 114 17 + 0)) 119 = h0 119 ∧ RM (u2 ha 114 17 (ha 114 17 + 0)) F := fun ha a => by
    obtain ⟨p1, p2, p3⟩ := pf2 ha (u2 ha 114 17 (ha 114 17 + 0)) a (fun q q1 _ => u2_p _ _ q1) (fun k _ _ k3 => u2_k _ _ k3)
    obtain ⟨q1, q2, q3, q4⟩ := rmk ha a
    refine ⟨p1, p2, p3, ?_, ?_, fun z => ?_, fun t ht => ?_⟩
    · rw [u2_s, Int32.add_zero]; exact q1
    · rw [u2_k _ _ (by decide)]; exact q2
    · rw [u2_k _ _ (by decide)]; exact q3 z
    · rw [u2_p _ _ (by decide)]; exact q4 t ht
  have take : ∀ (ha : Hp) (w : Int32), FO h0 ha → ∃ h1, f_lk w ha = some h1 ∧ PF h h1 ∧ h1 114 11 = nI s ∧ h1 119 = h0 119 ∧ RM h1 (offer_ w s R F) := fun ha w a => by
    obtain ⟨h1, b1, b2, b3, b4⟩ := lk_m (w := w) (R := R) s3 hF W (by rw [a.2 11 (by decide)]; exact e11) (fun t ht => by rw [a.1 119 (by decide) (by decide)]; exact v t ht) (rmk ha a)
    obtain ⟨p1, p2, p3⟩ := pf2 ha h1 a b2 b3
    exact ⟨h1, b1, p1, p2, p3, b4⟩
  obtain ⟨K, m, b, nn, z, w, ⟨_, _, _, n15, bn, _, w9⟩, _, _, _, _, ⟨c5, c5'⟩, _⟩ := x0.line (l := l) (by rw [f.L]; exact hl)
  have OFF := offNow_m (h := h0) (R := R) x0.T6 L0 (by omega) x0.film s3 e11 v w0
  have LOS : ∀ ha : Hp, FO h0 ha → f_9_lossNow (nI l) ha = some (lo_ h (36 + 2 * l) R s) := fun ha a => by
    have pa := f.tr a.pf
    have xa := pa.inv x
    have rr : ∀ t, t < s → R t < ci (ha 1 10) := fun t ht => by rw [pa.M]; exact hR t ht
    have D : ha 115 = h0 115 := a.1 115 (by decide) (by decide)
    have q := loss4_m (h := ha) (l := l) (R := R) (w := w) (by omega) (by rw [D, ← c5']; congr 1; omega) w9 s3 (by rw [a.2 11 (by decide)]; exact e11) (fun t ht => by rw [a.1 119 (by decide) (by decide)]; exact v t ht) (xa.WM rr) (xa.sense rr) s 0 FU 0 (by omega) (by show _ < 4096; omega) (by omega)
    have q : f_9_lossNow (nI l) ha = _ := q
    rw [q]
    have e : lo_ ha (36 + 2 * l) R s = lo_ h (36 + 2 * l) R s := lo_cong pa.rd (by omega) (by omega) cR
    rw [← e]
    unfold lo_
    rw [a.1 (36 + 2 * l) (by omega) (by omega), c5]
    rfl
  unfold row_ acb wrt
  rcases hM with rfl | rfl | rfl
  · obtain ⟨ha, a1, _, a3⟩ := OFF
    rw [looks0, a3, bnd2_s, LOS ha a1, bnd_s, ovc, if_pos rfl, if_pos rfl]
    by_cases c : x3 < lo_ h (36 + 2 * l) R s
    · obtain ⟨p1, p2, p3, p4⟩ := skip ha a1
      refine ⟨_, by rw [if_pos c, hl_eq], p1, p2, p3, ?_⟩
      rw [if_neg (by simp [c])]; exact p4
    · obtain ⟨h1, p0, p1, p2, p3, p4⟩ := take ha (ov h (36 + 2 * l) R s) a1
      refine ⟨h1, by rw [if_neg c, p0], p1, p2, p3, ?_⟩
      rw [if_pos (by simp [c])]; exact p4
  · obtain ⟨ha, a1, _, a3⟩ := OFF
    rw [looks1, a3, bnd2_s, LOS ha a1, bnd_s, ovc, if_neg (show ¬ (1 : Int32) = 0 by decide), if_pos rfl, if_neg (show ¬ (1 : Int32) = 0 by decide), if_pos rfl]
    by_cases c : x3 < ov h (36 + 2 * l) R s
    · obtain ⟨p1, p2, p3, p4⟩ := skip ha a1
      refine ⟨_, by rw [if_pos c, hl_eq], p1, p2, p3, ?_⟩
      rw [if_neg (by simp [c])]; exact p4
    · obtain ⟨h1, p0, p1, p2, p3, p4⟩ := take ha (lo_ h (36 + 2 * l) R s) a1
      refine ⟨h1, by rw [if_neg c, p0], p1, p2, p3, ?_⟩
      rw [if_pos (by simp [c])]; exact p4
  · obtain ⟨ha, a3, a1⟩ := isHeard_m x hl s3 hR h0 f e11 v
    rw [looks2, a3, bnd2_s, if_neg (show ¬ (2 : Int32) = 0 by decide), if_neg (show ¬ (2 : Int32) = 1 by decide), if_neg (show ¬ (2 : Int32) = 0 by decide), if_neg (show ¬ (2 : Int32) = 1 by decide)]
    generalize (decide (rl h R s 0 0 = ci (h (36 + 2 * l) 5)) && hr h (36 + 2 * l) R s 0 0 true) = B
    cases B with
    | false =>
      obtain ⟨p1, p2, p3, p4⟩ := skip ha a1
      have b0 : bI false = 0 := rfl
      exact ⟨_, by rw [if_pos b0, hl_eq, if_pos b0], p1, p2, p3, p4⟩
    | true =>
      obtain ⟨h1, p0, p1, p2, p3, p4⟩ := take ha 0 a1
      have b0 : ¬ bI true = 0 := by decide
      refine ⟨h1, ?_, p1, p2, p3, p4⟩
      rw [if_neg b0, ← p0]
      unfold f_lk
      rw [hl_eq, if_neg b0, hl_eq (u2 ha 114 17 (ha 114 17 + 1))]
theorem seek_r {M : Int32} (x : INV h) {l s : Nat} (hM : M = 0 ∨ M = 1 ∨ M = 2) (hl : l < ci (h 1 11)) (s1 : 1 ≤ s) (s3 : s ≤ 3) (W0 : 0 < ci (h 1 10)) (x3 : Int32) (K : Int32 → Hp → Option Hp) : ∀ (d k n : Nat) (h0 : Hp) (F : Fnd), ci (h 1 10) ^ s = k + (d + 1) → d + 1 < n → PF h h0 → h0 114 11 = nI s → (∀ t, t < s → h0 119 t = nI (dgr (ci (h 1 10)) s k t)) → RM h0 F → FW F → F.1 + (d + 1) < 100000 → ∃ h1, f_9_seeks_60 K (nI l) M x3 (nI s) n 1 h0 = K (nI (s + 1)) h1 ∧ PF h h1 ∧ RM h1 (rows_ M x3 h (36 + 2 * l) s (d + 1) k F) ∧ FW (rows_ M x3 h (36 + 2 * l) s (d + 1) k F) ∧ (rows_ M x3 h (36 + 2 * l) s (d + 1) k F).1 ≤ F.1 + (d + 1) := by
  obtain ⟨w1, w10⟩ := x.W
  have p3 := pw3 w10 s3
  intro d
  induction d with
  | zero =>
    intro k n h0 F e1 e2 f e11 v q w e3
    obtain ⟨n, rfl⟩ : ∃ z, n = z + 1 := ⟨n - 1, by omega⟩
    obtain ⟨n, rfl⟩ : ∃ z, n = z + 1 := ⟨n - 1, by omega⟩
    obtain ⟨h1, a1, a2, a3, a4, a5⟩ := row_m (R := dgr (ci (h 1 10)) s k) x hM hl s3 (fun t _ => dgr_lt W0 s k t) x3 h0 f e11 v (by omega) w q
    obtain ⟨r1, r2⟩ := row_w (h := h) (M := M) (x3 := x3) (p := 36 + 2 * l) (R := dgr (ci (h 1 10)) s k) s1 s3 w
    have e0 : h1 115 0 = nI (ci (h 1 10)) := by rw [a2.D, ← w1]; exact x.1.1.1.2
    obtain ⟨r, h2, b1, b2, b3, b4⟩ := next_m W0 w10 s k FU h1 s3 (by omega) (by show _ < 4096; omega) e0 (fun t ht => by rw [a4]; exact v t ht)
    rcases b4 with ⟨c1, _⟩ | ⟨_, c2⟩
    · omega
    subst c2
    have nx : f_9_nextRow h1 = some (0, h2) := by
      unfold f_9_nextRow
      rw [a3]
      exact b1
    refine ⟨h2, ?_, a2.tr (PF.c (c := 119) (by unfold scr; decide) (by decide) b2), ?_, r1, r2⟩
    · rw [f_9_seeks_60, if_neg (by decide), a1, bnd_s, nx, bnd2_s, f_9_seeks_60, if_pos rfl, nI_1]
    · obtain ⟨q1, q2, q3, q4⟩ := a5
      have g := b2 114 (by decide)
      have g2 := b2 120 (by decide)
      show RM h2 (row_ M x3 h (36 + 2 * l) s (dgr (ci (h 1 10)) s k) F)
      unfold RM
      rw [g, g2]
      exact ⟨q1, q2, q3, q4⟩
  | succ d ih =>
    intro k n h0 F e1 e2 f e11 v q w e3
    obtain ⟨n, rfl⟩ : ∃ z, n = z + 1 := ⟨n - 1, by omega⟩
    obtain ⟨h1, a1, a2, a3, a4, a5⟩ := row_m (R := dgr (ci (h 1 10)) s k) x hM hl s3 (fun t _ => dgr_lt W0 s k t) x3 h0 f e11 v (by omega) w q
    obtain ⟨r1, r2⟩ := row_w (h := h) (M := M) (x3 := x3) (p := 36 + 2 * l) (R := dgr (ci (h 1 10)) s k) s1 s3 w
    have e0 : h1 115 0 = nI (ci (h 1 10)) := by rw [a2.D, ← w1]; exact x.1.1.1.2
    obtain ⟨r, h2, b1, b2, b3, b4⟩ := next_m W0 w10 s k FU h1 s3 (by omega) (by show _ < 4096; omega) e0 (fun t ht => by rw [a4]; exact v t ht)
    rcases b4 with ⟨_, c1, c2⟩ | ⟨c1, _⟩
    · subst c1
      have nx : f_9_nextRow h1 = some (1, h2) := by
        unfold f_9_nextRow
        rw [a3]
        exact b1
      have pf2 : PF h h2 := a2.tr (PF.c (c := 119) (by unfold scr; decide) (by decide) b2)
      have q2 : RM h2 (row_ M x3 h (36 + 2 * l) s (dgr (ci (h 1 10)) s k) F) := by
        obtain ⟨q1, q2, q3, q4⟩ := a5
        have g := b2 114 (by decide)
        have g2 := b2 120 (by decide)
        unfold RM
        rw [g, g2]
        exact ⟨q1, q2, q3, q4⟩
      obtain ⟨h3, d1, d2, d3, d4, d5⟩ := ih (k + 1) n h2 _ (by omega) (by omega) pf2 (by rw [b2 114 (by decide)]; exact a3) c2 q2 r1 (by omega)
      refine ⟨h3, ?_, d2, d3, d4, ?_⟩
      · rw [f_9_seeks_60, if_neg (by decide), a1, bnd_s, nx, bnd2_s, d1]
      · show (rows_ M x3 h (36 + 2 * l) s (d + 1) (k + 1) (row_ M x3 h (36 + 2 * l) s (dgr (ci (h 1 10)) s k) F)).1 ≤ _
        omega
    · omega
theorem seek_0 {M x3 l x4 : Int32} {K : Int32 → Hp → Option Hp} : ∀ (d k n : Nat) (h0 : Hp), 3 = k + d → d < n → ∃ h1, f_9_seeks_37 K l M x3 x4 n (nI k) h0 = f_9_seeks_60 K l M x3 x4 FU 1 h1 ∧ (∀ q, q ≠ 119 → h1 q = h0 q) ∧ (∀ t, t < k → h1 119 t = h0 119 t) ∧ ∀ t, k ≤ t → t < 3 → h1 119 t = 0
  | 0, k, n, h0, e1, e2 => by
    obtain ⟨n, rfl⟩ : ∃ z, n = z + 1 := ⟨n - 1, by omega⟩
    refine ⟨h0, ?_, fun _ _ => rfl, fun _ _ => rfl, fun t a b => absurd a (by omega)⟩
    have c : (3 : Int32) ≤ nI k := nI_le (a := 3) (by omega) (by omega)
    rw [f_9_seeks_37, if_pos c]
  | d + 1, k, n, h0, e1, e2 => by
    obtain ⟨n, rfl⟩ : ∃ z, n = z + 1 := ⟨n - 1, by omega⟩
    have c : ¬ (3 : Int32) ≤ nI k := nI_ge (b := 3) (by omega) (by decide)
    obtain ⟨h1, a1, a2, a3, a4⟩ := seek_0 (M := M) (x3 := x3) (l := l) (x4 := x4) (K := K) d (k + 1) n (u2 h0 119 k 0) (by omega) (by omega)
    refine ⟨h1, ?_, fun q hq => (a2 q hq).trans (u2_p _ _ hq), fun t ht => by rw [a3 t (by omega), u2_k _ _ (by omega)], fun t t1 t2 => ?_⟩
    · rw [f_9_seeks_37, if_neg c, gd_s _ (inb_nI (show k < 3 by omega) (by decide)), hl_eq, ci_nI (by omega), nI_1, a1]
    · by_cases e : t = k
      · subst e
        rw [a3 t (by omega), u2_s]
      · exact a4 t (by omega) t2
theorem seek_s {M : Int32} (x : INV h) {l : Nat} (hM : M = 0 ∨ M = 1 ∨ M = 2) (hl : l < ci (h 1 11)) (W0 : 0 < ci (h 1 10)) (x3 : Int32) : ∀ (d s n : Nat) (h0 : Hp) (F : Fnd), 4 = s + 1 + d → d < n → PF h h0 → RM h0 F → FW F → F.1 + 1000 * d < 100000 → ∃ h1, f_9_seeks_13 (nI l) M x3 n (nI (s + 1)) h0 = some h1 ∧ PF h h1 ∧ RM h1 (sizes_ M x3 h (36 + 2 * l) d (s + 1) F)
  | 0, s, n, h0, F, e1, e2, f, q, w, e3 => by
    obtain ⟨n, rfl⟩ : ∃ z, n = z + 1 := ⟨n - 1, by omega⟩
    refine ⟨h0, ?_, f, q⟩
    have c : (3 : Int32) < nI (s + 1) := (nI_ltI (a := 3) (by decide) (by omega)).mpr (by omega)
    rw [f_9_seeks_13, if_pos c]
  | d + 1, s, n, h0, F, e1, e2, f, q, w, e3 => by
    obtain ⟨n, rfl⟩ : ∃ z, n = z + 1 := ⟨n - 1, by omega⟩
    obtain ⟨w1, w10⟩ := x.W
    have c : ¬ (3 : Int32) < nI (s + 1) := fun q => absurd ((nI_ltI (a := 3) (by decide) (by omega)).mp q) (by omega)
    have p3 := pw3 w10 (show s + 1 ≤ 3 by omega)
    have e0 : h0 115 0 = nI (ci (h 1 10)) := by rw [f.D, ← w1]; exact x.1.1.1.2
    have c0 : ¬ h0 115 0 ≤ 0 := by rw [e0]; exact nI_ge (a := 0) W0 (by omega)
    have pp : 0 < ci (h 1 10) ^ (s + 1) := Nat.pow_pos W0
    obtain ⟨N, hN⟩ : ∃ N, ci (h 1 10) ^ (s + 1) = 0 + (N + 1) := ⟨ci (h 1 10) ^ (s + 1) - 1, by omega⟩
    obtain ⟨h1, a1, a2, _, a4⟩ := seek_0 (M := M) (x3 := x3) (l := nI l) (x4 := nI (s + 1)) (K := f_9_seeks_13 (nI l) M x3 n) 3 0 FU (u2 h0 114 11 (nI (s + 1))) (by omega) (by show _ < 4096; omega)
    have f1 : PF h h1 := f.tr ⟨fun q hq => by rw [a2 q (fun e => hq (by unfold scr; omega)), u2_p _ _ (fun e => hq (by unfold scr; omega))], by rw [a2 114 (by decide), u2_k _ _ (by decide)], by rw [a2 114 (by decide), u2_k _ _ (by decide)]⟩
    have q1 : RM h1 F := by
      obtain ⟨q1, q2, q3, q4⟩ := q
      unfold RM
      rw [a2 114 (by decide), a2 120 (by decide), u2_k _ _ (by decide), u2_k _ _ (by decide), u2_k _ _ (by decide), u2_p _ _ (by decide)]
      exact ⟨q1, q2, q3, q4⟩
    obtain ⟨h2, b1, b2, b3, b4, b5⟩ := seek_r (M := M) x hM hl (show 1 ≤ s + 1 by omega) (by omega) W0 x3 (f_9_seeks_13 (nI l) M x3 n) N 0 FU h1 F hN (by show _ < 4096; omega) f1 (by rw [a2 114 (by decide), u2_s]) (fun t ht => by rw [a4 t (Nat.zero_le t) (by omega), dgr_0]; rfl) q1 w (by omega)
    have eN : N + 1 = ci (h 1 10) ^ (s + 1) := by omega
    rw [eN] at b3 b4 b5
    obtain ⟨h3, d1, d2, d3⟩ := seek_s x hM hl W0 x3 d (s + 1) n h2 _ (by omega) (by omega) b2 b3 b4 (by omega)
    refine ⟨h3, ?_, d2, d3⟩
    have a1 : f_9_seeks_37 (f_9_seeks_13 (nI l) M x3 n) (nI l) M x3 (nI (s + 1)) FU 0 (u2 h0 114 11 (nI (s + 1))) = _ := a1
    rw [f_9_seeks_13, if_neg c, if_neg c0, hl_eq, a1, b1, d1]
theorem seeks_m {M : Int32} (x : INV h) {l : Nat} (hM : M = 0 ∨ M = 1 ∨ M = 2) (hl : l < ci (h 1 11)) (x3 : Int32) : ∃ h1, f_9_seeks (nI l) M x3 h = some h1 ∧ PF h h1 ∧ RM h1 (tot M x3 h (36 + 2 * l)) := by
  have f0 : PF h (u2 (u2 h 114 14 0) 114 17 0) := ⟨fun q hq => by rw [u2_p _ _ (fun e => hq (by unfold scr; omega)), u2_p _ _ (fun e => hq (by unfold scr; omega))], by rw [u2_k _ _ (by decide), u2_k _ _ (by decide)], by rw [u2_k _ _ (by decide), u2_k _ _ (by decide)]⟩
  have r0 : RM (u2 (u2 h 114 14 0) 114 17 0) (0, 0, 0, fun _ => 0) := by
    refine ⟨?_, ?_, fun e => absurd rfl e, fun t ht => absurd ht (Nat.not_lt_zero t)⟩
    · rw [u2_s]; rfl
    · rw [u2_k _ _ (by decide), u2_s]; rfl
  unfold f_9_seeks
  rw [hl_eq, hl_eq]
  generalize u2 (u2 h 114 14 0) 114 17 0 = h0 at f0 r0
  obtain ⟨w1, w10⟩ := x.W
  rcases Nat.eq_zero_or_pos (ci (h 1 10)) with z | W0
  · refine ⟨h0, ?_, f0, ?_⟩
    · have e0 : h0 115 0 = 0 := by
        rw [f0.D, show h 115 0 = h 1 10 from x.1.1.1.2, w1, z]; rfl
      have c : ¬ (3 : Int32) < 1 := by decide
      show f_9_seeks_13 (nI l) M x3 (4095 + 1) 1 h0 = some h0
      rw [f_9_seeks_13, if_neg c, e0, if_pos (by decide)]
    · have t : tot M x3 h (36 + 2 * l) = (0, 0, 0, fun _ => 0) := by
        unfold tot sizes_ sizes_ sizes_ sizes_
        rw [z]
        rfl
      rw [t]; exact r0
  · exact seek_s (M := M) x hM hl W0 x3 3 0 FU h0 _ (by decide) (by decide) f0 r0 ⟨by show 0 ≤ 3; decide, Iff.rfl⟩ (by show 0 + 1000 * 3 < 100000; decide)
end
