/-! what the reference needs of the world when its scalars are on their way -/
section
variable {h h1 : Hp}
def JN (h : Hp) : Prop := sm (h 1 10) 10 ∧ (sm (h 1 11) 6 ∧ h 115 1 = h 1 11) ∧ (∀ k, k < 60 → h 115 (24 + k) = h 2 k) ∧ gW h 1 (h 115) ∧ gL h 1 (h 115) ∧ gT h 1 (h 115)
theorem INV.jn (x : INV h) : JN h := ⟨x.1.1.1.1, x.1.1.2.1, x.1.2.1.1, x.1.2.2.1, x.1.2.2.2.1, x.1.2.2.2.2⟩
theorem JN.W (x : JN h) : h 1 10 = nI (ci (h 1 10)) ∧ ci (h 1 10) ≤ 10 := sm_ci x.1 (by decide)
theorem JN.L (x : JN h) : h 1 11 = nI (ci (h 1 11)) ∧ ci (h 1 11) ≤ 6 := sm_ci x.2.1.1 (by decide)
theorem JN.T6 (x : JN h) : TX h 6 (h 115) 0 := x.2.2.2.2.2.1
theorem JN.T9 (x : JN h) : TX h 9 (h 115) 1 := x.2.2.2.2.2.2
theorem JN.film (x : JN h) : ∀ k, k < 60 → h 115 (24 + k) = h 2 k := x.2.2.1
theorem JN.line (x : JN h) {l : Nat} (hl : l < ci (h 1 11)) : LN h (36 + 2 * l) (h 115) (154 + 9 * l) (ci (h 1 10)) := by
  have q := x.2.2.2.2.1 l hl
  rw [show 1 + 35 + 2 * l = 36 + 2 * l by omega] at q
  exact q
theorem JN.word (x : JN h) {j : Nat} (hj : j < ci (h 1 10)) : WD h (16 + 2 * j) (h 115) (84 + 7 * j) := by
  have q := x.2.2.2.1 j hj
  rw [show 1 + 15 + 2 * j = 16 + 2 * j by omega] at q
  exact q
/-- two worlds with the same lines, words, texts and film -/
theorem JN.mv {h2 : Hp} (x : JN h) (a10 : h2 1 10 = h 1 10) (a11 : h2 1 11 = h 1 11) (f : ∀ q, 2 ≤ q → kp (q - 1) → q ≠ 5 → q ≠ 12 → q ≠ 13 → h2 q = h q) (d1 : h2 115 1 = h 115 1) (d : ∀ k, 24 ≤ k → k < 330 → h2 115 k = h 115 k) : JN h2 := by
  have w := x.W.2
  have l6 := x.L.2
  obtain ⟨x1, x2, x3, x4, x5, x6, x7⟩ := x
  have g : ∀ q, 16 ≤ q → q < 48 → h2 q = h q := fun q q1 q2 => f q (by omega) (by unfold kp; omega) (by omega) (by omega) (by omega)
  have n : ∀ q, q = 2 ∨ q = 6 ∨ q = 7 ∨ q = 9 ∨ q = 10 → h2 q = h q := fun q q1 => f q (by omega) (by unfold kp; omega) (by omega) (by omega) (by omega)
  refine ⟨by rw [a10]; exact x1, by rw [a11, d1]; exact x2, fun k hk => ?_, fun j hj => ?_, fun l hl => ?_, ?_, ?_⟩
  · rw [d _ (by omega) (by omega), n 2 (by decide)]; exact x3 k hk
  · rw [a10] at hj
    exact ((x4 j hj).fr (h1 := h2) (g _ (by omega) (by omega)) (g _ (by omega) (by omega))).frD (fun k hk => d _ (by omega) (by omega))
  · rw [a11] at hl
    rw [a10]
    exact ((x5 l hl).fr (h1 := h2) (g _ (by omega) (by omega)) (g _ (by omega) (by omega))).frD (fun k hk => d _ (by omega) (by omega)) (Nat.le_refl _)
  · exact (x6.fr (h1 := h2) (n _ (by decide)) (n _ (by decide))).frD (d _ (by omega) (by omega)) (fun i hi => d _ (by omega) (by omega))
  · exact (x7.fr (h1 := h2) (n _ (by decide)) (n _ (by decide))).frD (d _ (by omega) (by omega)) (fun i hi => d _ (by omega) (by omega))
theorem PF.jn (a : PF h h1) (x : JN h) : JN h1 := by
  have f (q : Nat) (hq : ¬ scr q) : h1 q = h q := a.1 q hq
  refine x.mv (by rw [f 1 (by unfold scr; decide)]) (by rw [f 1 (by unfold scr; decide)]) (fun q q1 q2 _ _ _ => f q (by unfold scr; unfold kp at q2; omega)) (by rw [f 115 (by unfold scr; decide)]) (fun k _ _ => by rw [f 115 (by unfold scr; decide)])
theorem JN.WM (x : JN h) {R : Nat → Nat} {z : Nat} (r : ∀ t, t < z → R t < ci (h 1 10)) : WM h R z := fun t ht => by
  have w := x.W.2
  have q := r t ht
  obtain ⟨n, g, n1, n5, g9, a, b, c, d, e, f⟩ := x.word q
  refine ⟨by omega, n, n5, a, b, fun k hk => ?_, ?_⟩
  · obtain ⟨y, _, y1, y2⟩ := f k hk
    rw [y2, show 17 + 2 * R t = 16 + 2 * R t + 1 by omega, y1]
  · rw [show 85 + 7 * R t = 84 + 7 * R t + 1 by omega, d, c]
theorem JN.row (x : JN h) {l : Nat} (hl : l < ci (h 1 11)) : h (36 + 2 * l) 1 = nI (ci (h (36 + 2 * l) 1)) ∧ ci (h (36 + 2 * l) 1) ≤ 3 ∧ h 115 (159 + 9 * l) = h (36 + 2 * l) 1 ∧ ∀ t, t < ci (h (36 + 2 * l) 1) → rw_ h (36 + 2 * l) t < ci (h 1 10) ∧ h (37 + 2 * l) t = nI (rw_ h (36 + 2 * l) t) ∧ h 115 (160 + 9 * l + t) = nI (rw_ h (36 + 2 * l) t) := by
  obtain ⟨K, m, b, n, z, w, ⟨a1, a2, a3, a4, a5, a6, a7⟩, _, _, _, _, _, ⟨c1, c2⟩, c3⟩ := x.line hl
  have w10 := x.W.2
  rw [c1, ci_nI (by omega)]
  refine ⟨rfl, a6, by rw [← c2]; congr 1; omega, fun t ht => ?_⟩
  obtain ⟨j, j1, j2, j3⟩ := c3 t ht
  unfold rw_
  rw [j2, ci_nI (by omega), show 37 + 2 * l = 36 + 2 * l + 1 by omega, j2, show 160 + 9 * l + t = 154 + 9 * l + 6 + t by omega, j3]
  exact ⟨j1, rfl, rfl⟩
theorem JN.sense (x : JN h) {R : Nat → Nat} {z : Nat} (r : ∀ t, t < z → R t < ci (h 1 10)) : ∀ t, t < z → ∃ g : Nat, g ≤ 99 ∧ h (16 + 2 * R t) 3 = nI g := fun t ht => by
  obtain ⟨n, g, n1, n5, g9, a, b, c, _⟩ := x.word (r t ht)
  exact ⟨g, g9, c⟩
theorem takes0_mj (x : JN h) {l : Nat} (hl : l < ci (h 1 11)) : ∃ h1, f_9_takes0 (nI l) h = some h1 ∧ PF h h1 ∧ h1 114 11 = nI (ci (h (36 + 2 * l) 1)) ∧ ∀ t, t < ci (h (36 + 2 * l) 1) → h1 119 t = nI (rw_ h (36 + 2 * l) t) := by
  obtain ⟨r1, r2, r3, r4⟩ := x.row hl
  have l6 := x.L.2
  have a : f_9_of (nI l) 5 h = some (h (36 + 2 * l) 1) := by
    have q := of_m (h := h) (k := 5) (show l < 6 by omega) (by decide)
    rw [show 154 + 9 * l + 5 = 159 + 9 * l by omega, r3] at q
    exact q
  obtain ⟨h1, a1, a2, a3, a4, a5⟩ := takes_l (h := h) (show l < 6 by omega) 3 0 FU (u2 h 114 11 (h (36 + 2 * l) 1)) (by omega) (by show _ < 4096; omega) (fun q q1 q2 => u2_p _ _ q1) (fun j hj => u2_k _ _ hj) (fun t ht => absurd ht (Nat.not_lt_zero t))
  refine ⟨h1, ?_, ⟨fun q hq => a2 q (fun e => hq (by unfold scr; omega)) (fun e => hq (by unfold scr; omega)), a3 2 (by decide), a3 19 (by decide)⟩, ?_, fun t ht => ?_⟩
  · unfold f_9_takes0
    rw [a, bnd_s, hl_eq]
    exact a1
  · rw [a4, u2_s, ← r1]
  · rw [a5 t (by omega), (r4 t ht).2.2]
theorem of_congj (x : JN h) (f : RD h h1) {l : Nat} (hl : l < ci (h 1 11)) : of_ h1 (36 + 2 * l) = of_ h (36 + 2 * l) := by
  have l6 := x.L.2
  have w10 := x.W.2
  obtain ⟨r1, r2, r3, r4⟩ := x.row hl
  unfold of_
  rw [f (36 + 2 * l) (by omega) (by omega) (by omega) (by omega) (by omega)]
  refine ov_cong f (by omega) (by omega) (fun t ht => ⟨by have := (r4 t ht).1; omega, ?_⟩)
  unfold rw_
  rw [f (36 + 2 * l + 1) (by omega) (by omega) (by omega) (by omega) (by omega)]
theorem los_congj (x : JN h) (f : RD h h1) {l : Nat} (hl : l < ci (h 1 11)) : los h1 (36 + 2 * l) = los h (36 + 2 * l) := by
  have l6 := x.L.2
  have w10 := x.W.2
  obtain ⟨r1, r2, r3, r4⟩ := x.row hl
  unfold los
  rw [f (36 + 2 * l) (by omega) (by omega) (by omega) (by omega) (by omega)]
  refine lo_cong f (by omega) (by omega) (fun t ht => ⟨by have := (r4 t ht).1; omega, ?_⟩)
  unfold rw_
  rw [f (36 + 2 * l + 1) (by omega) (by omega) (by omega) (by omega) (by omega)]
theorem offOf_mj (x : JN h) {l : Nat} (hl : l < ci (h 1 11)) : ∃ h1, f_9_offOf (nI l) h = some (of_ h (36 + 2 * l), h1) ∧ PF h h1 := by
  obtain ⟨h1, a1, a2, a3, a4⟩ := takes0_mj x hl
  have l6 := x.L.2
  have x1 := a2.jn x
  obtain ⟨r1, r2, r3, r4⟩ := x.row hl
  have hl1 : l < ci (h1 1 11) := by rw [a2.L]; exact hl
  obtain ⟨h2, b1, b2, b3⟩ := offNow_m (h := h1) (R := rw_ h (36 + 2 * l)) x1.T6 (x1.line hl1) (by omega) x1.film r2 a3 a4 (x1.WM (fun t ht => by rw [a2.M]; exact (r4 t ht).1))
  refine ⟨h2, ?_, a2.tr b1.pf⟩
  unfold f_9_offOf
  rw [a1, bnd_s, b3, bnd2_s]
  have w10 := x.W.2
  rw [ov_cong a2.rd (by omega) (by omega) (fun t ht => ⟨by have := (r4 t ht).1; omega, rfl⟩)]
  rfl
theorem lossOf_mj (x : JN h) {l : Nat} (hl : l < ci (h 1 11)) : ∃ h1, f_9_lossOf (nI l) h = some (los h (36 + 2 * l), h1) ∧ PF h h1 := by
  obtain ⟨h1, a1, a2, a3, a4⟩ := takes0_mj x hl
  have l6 := x.L.2
  have w10 := x.W.2
  have x1 := a2.jn x
  obtain ⟨r1, r2, r3, r4⟩ := x.row hl
  have hl1 : l < ci (h1 1 11) := by rw [a2.L]; exact hl
  obtain ⟨K, m, b, n, z, w, ⟨_, _, _, _, _, _, w9⟩, _, _, _, _, ⟨c1, c2⟩, _⟩ := x1.line hl1
  have rr : ∀ t, t < ci (h (36 + 2 * l) 1) → rw_ h (36 + 2 * l) t < ci (h1 1 10) := fun t ht => by rw [a2.M]; exact (r4 t ht).1
  have q := loss4_m (h := h1) (l := l) (R := rw_ h (36 + 2 * l)) (by omega) (by rw [← c2]; congr 1; omega) w9 r2 a3 a4 (x1.WM rr) (x1.sense rr) (ci (h (36 + 2 * l) 1)) 0 FU 0 (by omega) (by show _ < 4096; omega) (by omega)
  refine ⟨h1, ?_, a2⟩
  have q : f_9_lossNow (nI l) h1 = _ := q
  unfold f_9_lossOf
  rw [a1, bnd_s, q, bnd_s, ← c1]
  have e : lo_ h1 (36 + 2 * l) (rw_ h (36 + 2 * l)) (ci (h (36 + 2 * l) 1)) = los h (36 + 2 * l) := lo_cong a2.rd (by omega) (by omega) (fun t ht => ⟨by have := (r4 t ht).1; omega, rfl⟩)
  rw [← e]
  rfl
theorem noticed_mj (x : JN h) {l : Nat} (hl : l < ci (h 1 11)) (m : Int32) : ∃ h1, f_9_isNoticed (nI l) m h = some (if ntc h (36 + 2 * l) m = 0 then 0 else 1, h1) ∧ PF h h1 := by
  obtain ⟨h1, a1, a2⟩ := offOf_mj x hl
  have x1 := a2.jn x
  have hl1 : l < ci (h1 1 11) := by rw [a2.L]; exact hl
  obtain ⟨h2, b1, b2⟩ := lossOf_mj x1 hl1
  have x2 := b2.jn x1
  have p2 := a2.tr b2
  obtain ⟨h3, c1, c2⟩ := notice_m x2.T9 (of_ h (36 + 2 * l)) (los h (36 + 2 * l)) m
  rw [tA_pf p2.rd (Or.inr rfl)] at c1
  rw [los_congj x a2.rd hl] at b1
  refine ⟨h3, ?_, p2.tr c2.pf⟩
  unfold f_9_isNoticed
  rw [a1, bnd2_s, b1, bnd2_s, c1, bnd2_s]
  show _ = some (if tA h 9 1 (of_ h (36 + 2 * l)) (los h (36 + 2 * l)) m = 0 then 0 else 1, h3)
  by_cases z : tA h 9 1 (of_ h (36 + 2 * l)) (los h (36 + 2 * l)) m = 0
  · rw [if_pos z, if_pos z]
  · rw [if_neg z, if_neg z]
/-- the same, place 1 left out -/
def RE (h h1 : Hp) : Prop := ∀ q, q < 48 → (q ≠ 1 ∧ q ≠ 8) → q ≠ 11 → q ≠ 14 → q ≠ 15 → h1 q = h q
theorem sv_conge {h h1 : Hp} {p i : Nat} {v : Int32} (r : RE h h1) (p1 : 36 ≤ p) (p2 : p < 47) : sv h1 p i v = sv h p i v := by
  unfold sv
  rw [r p (by omega) (by omega) (by omega) (by omega) (by omega), r 2 (by decide) (by decide) (by decide) (by decide) (by decide)]
  rw [tA_cong (r 6 (by decide) (by decide) (by decide) (by decide) (by decide)) (r 7 (by decide) (by decide) (by decide) (by decide) (by decide))]
theorem ws_conge {h h1 : Hp} {p j : Nat} (r : RE h h1) (p1 : 36 ≤ p) (p2 : p < 47) (hj : j < 10) : ∀ (d k i : Nat) (acc : Int32), ws h1 p j d k i acc = ws h p j d k i acc
  | 0, _, _, _ => rfl
  | d + 1, k, i, acc => by
    show ws h1 p j d (k + 1) (i + 1) _ = ws h p j d (k + 1) (i + 1) _
    rw [ws_conge r p1 p2 hj d, sv_conge r p1 p2, r (17 + 2 * j) (by omega) (by omega) (by omega) (by omega) (by omega)]
theorem wl_conge {h h1 : Hp} {j : Nat} (r : RE h h1) (hj : j < 10) : wl h1 j = wl h j := by
  unfold wl
  rw [r (16 + 2 * j) (by omega) (by omega) (by omega) (by omega) (by omega)]
theorem rs_conge {h h1 : Hp} {p : Nat} {R R1 : Nat → Nat} (r : RE h h1) (p1 : 36 ≤ p) (p2 : p < 47) : ∀ (d k i : Nat) (acc : Int32), (∀ t, t < k + d → R t < 10 ∧ R1 t = R t) → rs h1 p R1 d k i acc = rs h p R d k i acc
  | 0, _, _, _, _ => rfl
  | d + 1, k, i, acc, hR => by
    show rs h1 p R1 d (k + 1) _ _ = rs h p R d (k + 1) _ _
    obtain ⟨a, b⟩ := hR k (by omega)
    rw [b, wl_conge r a, ws_conge r p1 p2 a, rs_conge r p1 p2 d (k + 1) _ _ (fun t ht => hR t (by omega))]
theorem ov_conge {h h1 : Hp} {p z : Nat} {R R1 : Nat → Nat} (r : RE h h1) (p1 : 36 ≤ p) (p2 : p < 47) (hR : ∀ t, t < z → R t < 10 ∧ R1 t = R t) : ov h1 p R1 z = ov h p R z := by
  unfold ov
  rw [rs_conge r p1 p2 z 0 0 0 (fun t ht => hR t (by omega)), r p (by omega) (by omega) (by omega) (by omega) (by omega)]
theorem ls_conge {R R1 : Nat → Nat} (f : RE h h1) : ∀ (d k : Nat) (acc : Int32), (∀ t, t < k + d → R t < 10 ∧ R1 t = R t) → ls h1 R1 d k acc = ls h R d k acc
  | 0, _, _, _ => rfl
  | d + 1, k, acc, g => by
    obtain ⟨a, b⟩ := g k (by omega)
    show ls h1 R1 d (k + 1) _ = ls h R d (k + 1) _
    rw [b, f (16 + 2 * R k) (by omega) (by omega) (by omega) (by omega) (by omega), ls_conge f d (k + 1) _ (fun t ht => g t (by omega))]
theorem lo_conge {p z : Nat} {R R1 : Nat → Nat} (f : RE h h1) (p1 : 36 ≤ p) (p2 : p < 47) (g : ∀ t, t < z → R t < 10 ∧ R1 t = R t) : lo_ h1 p R1 z = lo_ h p R z := by
  unfold lo_
  rw [ls_conge f z 0 0 (fun t ht => g t (by omega)), f p (by omega) (by omega) (by omega) (by omega) (by omega)]
theorem tA_pfe (f : RE h h1) {p u : Nat} (hp : p = 6 ∨ p = 9) (a b c : Int32) : tA h1 p u a b c = tA h p u a b c := by
  rcases hp with rfl | rfl
  · exact tA_cong (f 6 (by decide) (by decide) (by decide) (by decide) (by decide)) (f 7 (by decide) (by decide) (by decide) (by decide) (by decide)) a b c
  · exact tA_cong (f 9 (by decide) (by decide) (by decide) (by decide) (by decide)) (f 10 (by decide) (by decide) (by decide) (by decide) (by decide)) a b c
theorem of_conge (x : JN h) (f : RE h h1) {l : Nat} (hl : l < ci (h 1 11)) : of_ h1 (36 + 2 * l) = of_ h (36 + 2 * l) := by
  have l6 := x.L.2
  have w10 := x.W.2
  obtain ⟨r1, r2, r3, r4⟩ := x.row hl
  unfold of_
  rw [f (36 + 2 * l) (by omega) (by omega) (by omega) (by omega) (by omega)]
  refine ov_conge f (by omega) (by omega) (fun t ht => ⟨by have := (r4 t ht).1; omega, ?_⟩)
  unfold rw_
  rw [f (36 + 2 * l + 1) (by omega) (by omega) (by omega) (by omega) (by omega)]
theorem los_conge (x : JN h) (f : RE h h1) {l : Nat} (hl : l < ci (h 1 11)) : los h1 (36 + 2 * l) = los h (36 + 2 * l) := by
  have l6 := x.L.2
  have w10 := x.W.2
  obtain ⟨r1, r2, r3, r4⟩ := x.row hl
  unfold los
  rw [f (36 + 2 * l) (by omega) (by omega) (by omega) (by omega) (by omega)]
  refine lo_conge f (by omega) (by omega) (fun t ht => ⟨by have := (r4 t ht).1; omega, ?_⟩)
  unfold rw_
  rw [f (36 + 2 * l + 1) (by omega) (by omega) (by omega) (by omega) (by omega)]
theorem ntc_conge (x : JN h) (f : RE h h1) {l : Nat} (hl : l < ci (h 1 11)) (m : Int32) : ntc h1 (36 + 2 * l) m = ntc h (36 + 2 * l) m := by
  unfold ntc
  rw [of_conge x f hl, los_conge x f hl, tA_pfe f (Or.inr rfl)]
end
