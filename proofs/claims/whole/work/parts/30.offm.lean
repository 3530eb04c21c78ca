/-! the same in the reference -/
/-- what the reference's off leaves -/
def FO (h h1 : Hp) : Prop := (∀ q, q ≠ 114 → q ≠ 118 → h1 q = h q) ∧ ∀ k, (k < 4 ∨ (9 < k ∧ k ≠ 13)) → h1 114 k = h 114 k
theorem FO.rf (h : Hp) : FO h h := ⟨fun _ _ _ => rfl, fun _ _ => rfl⟩
theorem FO.tr {h h1 h2 : Hp} (a : FO h h1) (b : FO h1 h2) : FO h h2 := ⟨fun q x y => (b.1 q x y).trans (a.1 q x y), fun k x => (b.2 k x).trans (a.2 k x)⟩
theorem FT.fo {h h1 : Hp} (a : FT h h1) : FO h h1 := ⟨a.1, fun k hk => a.2 k (by omega)⟩
theorem FO.at13 (h : Hp) (v : Int32) : FO h (u2 h 114 13 v) := ⟨fun q a _ => u2_p h v a, fun k hk => u2_k h v (by omega)⟩
theorem FO.pf {h h1 : Hp} (a : FO h h1) : PF h h1 := ⟨fun q hq => a.1 q (fun e => hq (by unfold scr; omega)) (fun e => hq (by unfold scr; omega)), a.2 2 (by decide), a.2 19 (by decide)⟩
theorem nI_addl (a k : Nat) : (154 + 9 * nI a) + nI k = nI (154 + 9 * a + k) := by
  rw [lit_nI 154, lit_nI 9, pk_mul, nI_add, nI_add]
theorem of_m {h : Hp} {l k : Nat} (hl : l < 6) (hk : k < 9) : f_9_of (nI l) (nI k) h = some (h 115 (154 + 9 * l + k)) := by
  unfold f_9_of
  rw [nI_addl, gd_s _ (inb_nI (by omega) (by decide)), ci_nI (by omega)]
theorem its_m {h : Hp} {j k : Nat} (hj : j < 10) (hk : k < 7) : f_9_its (nI j) (nI k) h = some (h 115 (84 + 7 * j + k)) := by
  unfold f_9_its
  rw [lit_nI 84, lit_nI 7, pk_mul, nI_add, nI_add, gd_s _ (inb_nI (by omega) (by decide)), ci_nI (by omega)]
theorem seen_m {h : Hp} {l K m W : Nat} (hl : l < 6) (r : Int32) : f_9_seen (nI l) r h = some (f_8_seenOf (h 115 (154 + 9 * l)) (h 115 (155 + 9 * l)) r) := by
  unfold f_9_seen f_8_seenOf
  have a : f_9_of (nI l) 1 h = _ := of_m (k := 1) hl (by decide)
  have b : f_9_of (nI l) 0 h = _ := of_m (k := 0) hl (by decide)
  rw [a, bnd_s, b, bnd_s, show 154 + 9 * l + 1 = 155 + 9 * l by omega, Nat.add_zero]
  repeat' split
  all_goals rfl
/-- the line in the array -/
theorem off40 {l W j N : Nat} {h : Hp} (T : TX h 6 (h 115) 0) (L : LN h (36 + 2 * l) (h 115) (154 + 9 * l) W) (hl : l < 6) (hj : j < 10) (hf : ∀ k, k < 60 → h 115 (24 + k) = h 2 k) (hd : h 115 (84 + 7 * j) = nI N) (hm : ∀ k, k < N → h 115 (84 + 7 * j + 2 + k) = h (17 + 2 * j) k) (N5 : N ≤ 5) (kk : Nat) (hkk : kk < 3) (h9 : h 119 kk = nI j) (K : Int32 → Int32 → Hp → Option (Int32 × Hp)) : ∀ (d k i n : Nat) (acc : Int32) (h0 : Hp), N = k + d → i + d ≤ 45 → d < n → FO h h0 → h0 114 13 = nI i →
    ∃ h1, FO h h1 ∧ h1 114 13 = nI (i + d) ∧ f_9_offNow_40 K (nI l) (24 + h 115 (156 + 9 * l)) (h 115 (157 + 9 * l)) (nI kk) n acc (nI k) h0 = K (ws h (36 + 2 * l) j d k i acc) (nI kk + 1) h1 := by
  have L' := L
  obtain ⟨K', m, b, nn, z, w, ⟨a1, a2, a3, a4, a5, a6, a7⟩, ⟨c1, c1'⟩, ⟨c2, c2'⟩, ⟨c3, c3'⟩, ⟨c4, c4'⟩, _⟩ := L
  have c3' : h 115 (156 + 9 * l) = nI b := by rw [← c3']; congr 1; omega
  have c4' : h 115 (157 + 9 * l) = nI nn := by rw [← c4']; congr 1; omega
  have c2' : h 115 (155 + 9 * l) = nI m := by rw [← c2']; congr 1; omega
  have e24 : (24 : Int32) + nI b = nI (24 + b) := by rw [lit_nI 24, nI_add]
  rw [c3', c4', e24]
  intro d
  induction d with
  | zero =>
    intro k i n acc h0 e1 e2 e3 f f13
    obtain ⟨n, rfl⟩ : ∃ z, n = z + 1 := ⟨n - 1, by omega⟩
    refine ⟨h0, f, f13, ?_⟩
    have q : f_9_its (nI j) 0 h0 = _ := its_m (k := 0) hj (by decide)
    rw [f_9_offNow_40, gd_s _ (inb_nI (show kk < 3 by omega) (by decide)), ci_nI (by omega), f.1 119 (by decide) (by decide), h9, q, bnd_s, f.1 115 (by decide) (by decide), Nat.add_zero, hd, if_pos (nI_le (by omega) (by omega))]
    rfl
  | succ d ih =>
    intro k i n acc h0 e1 e2 e3 f f13
    obtain ⟨n, rfl⟩ : ∃ z, n = z + 1 := ⟨n - 1, by omega⟩
    have hk : k < N := by omega
    have q : f_9_its (nI j) 0 h0 = _ := its_m (k := 0) hj (by decide)
    have q2 : f_9_its (nI j) (2 + nI k) h0 = some (h0 115 (84 + 7 * j + (2 + k))) := by rw [lit_nI 2, nI_add]; exact its_m hj (by omega)
    have fm := f.1 115 (by decide) (by decide)
    rw [f_9_offNow_40, gd_s _ (inb_nI (show kk < 3 by omega) (by decide)), ci_nI (by omega), f.1 119 (by decide) (by decide), h9, q, bnd_s, fm, show 84 + 7 * j + 0 = 84 + 7 * j from rfl, hd, if_neg (nI_ge hk (by omega)), f13]
    have e13 : nI i + 1 = nI (i + 1) := nI_1 i
    have fin : ∀ h2, FO h h2 → h2 114 13 = nI (i + 1) → ∃ h1, FO h h1 ∧ h1 114 13 = nI (i + (d + 1)) ∧ f_9_offNow_40 K (nI l) (nI (24 + b)) (nI nn) (nI kk) n (acc + sv h (36 + 2 * l) i (h (17 + 2 * j) k)) (nI k + 1) h2 = K (ws h (36 + 2 * l) j (d + 1) k i acc) (nI kk + 1) h1 := by
      intro h2 f2 f3
      obtain ⟨h1, g1, g2, g3⟩ := ih (k + 1) (i + 1) n (acc + sv h (36 + 2 * l) i (h (17 + 2 * j) k)) h2 (by omega) (by omega) (by omega) f2 f3
      refine ⟨h1, g1, by rw [g2, show i + 1 + d = i + (d + 1) by omega], ?_⟩
      rw [nI_1, g3]
      rfl
    have svd : sv h (36 + 2 * l) i (h (17 + 2 * j) k) = if nn ≤ i then 0 else if h 2 (b + i) = 3 then 0 else f_8_seenOf (nI K') (nI m) (tA h 6 0 (h 2 (b + i)) (h (17 + 2 * j) k) (nI i)) := by
      unfold sv
      rw [c4, c3, c1, c2, ci_nI (by omega), ci_nI (by omega)]
    by_cases x1 : nn ≤ i
    · rw [if_pos (nI_le x1 (by omega)), hl_eq]
      rw [svd, if_pos x1, Int32.add_zero] at fin
      exact fin _ (f.tr (FO.at13 _ _)) (by rw [u2_s, e13])
    · rw [if_neg (nI_ge (by omega) (by omega))]
      have e5 : nI (24 + b) + nI i = nI (24 + (b + i)) := by rw [nI_add, Nat.add_assoc]
      have g := inb_nI (show 24 + (b + i) < 380 by omega) (by decide)
      rw [e5, gd_s _ g, ci_nI (by omega), hf (b + i) (by omega)]
      by_cases x2 : h 2 (b + i) = 3
      · rw [if_pos x2, hl_eq]
        rw [svd, if_neg x1, if_pos x2, Int32.add_zero] at fin
        exact fin _ (f.tr (FO.at13 _ _)) (by rw [u2_s, e13])
      · have T0 : TX h0 6 (h0 115) 0 := by
          rw [fm]
          exact T.fr (f.1 6 (by decide) (by decide)) (f.1 7 (by decide) (by decide))
        obtain ⟨h2, t1, t2⟩ := apart_m T0 (h 2 (b + i)) (h (17 + 2 * j) k) (nI i)
        have s2 := seen_m (h := h2) (l := l) (K := 0) (m := 0) (W := 0) hl (tA h0 6 0 (h 2 (b + i)) (h (17 + 2 * j) k) (nI i))
        have m2 : h2 115 = h 115 := (t2.1 115 (by decide) (by decide)).trans fm
        rw [m2, c1', c2'] at s2
        rw [tA_cong (f.1 6 (by decide) (by decide)) (f.1 7 (by decide) (by decide))] at t1 s2
        rw [if_neg x2, gd_s _ g, gd_s _ (inb_nI (show kk < 3 by omega) (by decide)), q2, bnd_s, fm, show 84 + 7 * j + (2 + k) = 84 + 7 * j + 2 + k by omega, hm k hk, t1, bnd2_s, s2, bnd_s, hl_eq]
        rw [svd, if_neg x1, if_neg x2] at fin
        refine fin _ (f.tr (t2.fo.tr (FO.at13 _ _))) ?_
        rw [u2_s, t2.2 13 (by decide), f13, e13]
/-- the words of a row, in both -/
def WM (h : Hp) (R : Nat → Nat) (z : Nat) : Prop := ∀ t, t < z → R t < 10 ∧ ∃ N : Nat, N ≤ 5 ∧ h (16 + 2 * R t) 2 = nI N ∧ h 115 (84 + 7 * R t) = nI N ∧ (∀ k, k < N → h 115 (84 + 7 * R t + 2 + k) = h (17 + 2 * R t) k) ∧ h 115 (85 + 7 * R t) = h (16 + 2 * R t) 3
theorem WM.ws {h : Hp} {R : Nat → Nat} {z : Nat} (w : WM h R z) : WS h R z := fun t ht => by
  obtain ⟨a, N, b, c, _⟩ := w t ht
  exact ⟨a, N, b, c⟩
theorem WM.at {h : Hp} {R : Nat → Nat} {z t : Nat} (w : WM h R z) (ht : t < z) : h 115 (84 + 7 * R t) = nI (wl h (R t)) ∧ (∀ k, k < wl h (R t) → h 115 (84 + 7 * R t + 2 + k) = h (17 + 2 * R t) k) := by
  obtain ⟨a, N, b, c, d, e, _⟩ := w t ht
  have q : wl h (R t) = N := by
    unfold wl
    rw [c, ci_nI (by omega)]
  rw [q]
  exact ⟨d, e⟩
theorem ends_m {h : Hp} {l K m x : Nat} (hl : l < 6) (k6 : K ≤ 6) (c1 : h 115 (154 + 9 * l) = nI K) (c2 : h 115 (155 + 9 * l) = nI m) (hx : x < 1000) : f_9_endsOf (nI l) (nI x) h = some (f_8_endsOf (nI K) (nI m) (nI x)) := by
  unfold f_9_endsOf f_8_endsOf
  have a : f_9_of (nI l) 1 h = some (nI m) := by
    have q := of_m (h := h) (k := 1) hl (by decide)
    rw [show 154 + 9 * l + 1 = 155 + 9 * l by omega, c2] at q
    exact q
  have b : f_9_of (nI l) 0 h = some (nI K) := by
    have q := of_m (h := h) (k := 0) hl (by decide)
    rw [show 154 + 9 * l + 0 = 154 + 9 * l from rfl, c1] at q
    exact q
  rw [a, b]
  simp only [bnd_s]
  have cm : nI x + nI m = nI x + nI m := rfl
  by_cases z : 1 ≤ x
  · have z1 : (1 : Int32) ≤ nI x := nI_le (a := 1) z (by omega)
    have mx : imax (nI x - 1) 0 = nI x - 1 := by
      unfold imax
      rw [lit_nI 1, pk_sub z, if_neg]
      exact fun q => absurd ((nI_ltI (b := 0) (by omega) (by decide)).mp q) (by omega)
    rw [if_pos z1, mx]
    repeat' split
    all_goals rfl
  · obtain rfl : x = 0 := by omega
    rw [if_neg (by decide)]
    have mx : imax (nI 0 - 1) 0 = 0 := by decide
    rw [mx]
    repeat' split
    all_goals rfl
theorem iabs_m {a b : Nat} (ha : a < 1000) (hb : b < 1000) : iabs (nI a - nI b) = if b ≤ a then nI (a - b) else nI (b - a) := by
  by_cases c : b ≤ a
  · rw [if_pos c, pk_sub c]
    unfold iabs
    have q : (0 : Int32) ≤ nI (a - b) := nI_le (a := 0) (Nat.zero_le _) (by omega)
    rw [if_pos q]
  · rw [if_neg c]
    have e : nI a - nI b = -(nI (b - a)) := by
      rw [← pk_sub (show a ≤ b by omega), Int32.neg_sub]
    rw [e]
    unfold iabs
    have q : ¬ (0 : Int32) ≤ -(nI (b - a)) := by
      rw [Int32.le_iff_toInt_le, Int32.toInt_neg, nI_toInt (by omega)]
      have : ((-((b - a : Nat) : Int)).bmod (2 ^ 32)) = -((b - a : Nat) : Int) := by
        apply Int.bmod_eq_of_le
        · omega
        · omega
      rw [this]
      have e0 : (0 : Int32).toInt = 0 := by decide
      omega
    rw [if_neg q, Int32.sub_neg, Int32.zero_add]
/-- off, in the reference, for any row -/
theorem off28 {l W z : Nat} {h : Hp} {R : Nat → Nat} (T : TX h 6 (h 115) 0) (L : LN h (36 + 2 * l) (h 115) (154 + 9 * l) W) (hl : l < 6) (hf : ∀ k, k < 60 → h 115 (24 + k) = h 2 k) (z3 : z ≤ 3) (hz : h 114 11 = nI z) (hR : ∀ t, t < z → h 119 t = nI (R t)) (w : WM h R z) : ∀ (d k i n : Nat) (acc : Int32) (h0 : Hp), z = k + d → i + 5 * d ≤ 15 → d < n → FO h h0 → h0 114 13 = nI i →
    ∃ h1, FO h h1 ∧ h1 114 13 = nI (rs h (36 + 2 * l) R d k i acc).2 ∧ f_9_offNow_28 (nI l) (24 + h 115 (156 + 9 * l)) (h 115 (157 + 9 * l)) n acc (nI k) h0 = some ((rs h (36 + 2 * l) R d k i acc).1 + f_8_endsOf (h (36 + 2 * l) 2) (h (36 + 2 * l) 3) (iabs (nI (rs h (36 + 2 * l) R d k i acc).2 - h (36 + 2 * l) 5)), h1) := by
  have L' := L
  obtain ⟨K', m, b, nn, zz, ww, ⟨a1, a2, a3, a4, a5, a6, a7⟩, ⟨c1, c1'⟩, ⟨c2, c2'⟩, ⟨c3, c3'⟩, ⟨c4, c4'⟩, _⟩ := L
  have c4' : h 115 (157 + 9 * l) = nI nn := by rw [← c4']; congr 1; omega
  have c2' : h 115 (155 + 9 * l) = nI m := by rw [← c2']; congr 1; omega
  intro d
  induction d with
  | zero =>
    intro k i n acc h0 e1 e2 e3 f f13
    obtain ⟨n, rfl⟩ : ∃ z, n = z + 1 := ⟨n - 1, by omega⟩
    refine ⟨h0, f, f13, ?_⟩
    have fm := f.1 115 (by decide) (by decide)
    rw [f_9_offNow_28, f.2 11 (by decide), hz, if_pos (nI_le (by omega) (by omega)), f13, c4']
    show _ = some (acc + f_8_endsOf (h (36 + 2 * l) 2) (h (36 + 2 * l) 3) (iabs (nI i - h (36 + 2 * l) 5)), h0)
    rw [c1, c2, c4, iabs_m (by omega) (by omega)]
    by_cases c : nn ≤ i
    · rw [if_pos (nI_le c (by omega)), if_pos c, pk_sub c, ends_m (h := h0) hl a1 (by rw [fm]; exact c1') (by rw [fm]; exact c2') (by omega), bnd_s]
    · rw [if_neg (nI_ge (by omega) (by omega)), if_neg c, pk_sub (by omega), ends_m (h := h0) hl a1 (by rw [fm]; exact c1') (by rw [fm]; exact c2') (by omega), bnd_s]
  | succ d ih =>
    intro k i n acc h0 e1 e2 e3 f f13
    obtain ⟨n, rfl⟩ : ∃ z, n = z + 1 := ⟨n - 1, by omega⟩
    have hk : k < z := by omega
    obtain ⟨w1, w2⟩ := w.ws.len hk
    obtain ⟨w3, w4⟩ := w.at hk
    have r10 := (w k hk).1
    obtain ⟨h1, g1, g13, g2⟩ := off40 T L' hl r10 hf w3 w4 w1 k (by omega) (hR k hk) (f_9_offNow_28 (nI l) (24 + h 115 (156 + 9 * l)) (h 115 (157 + 9 * l)) n) (wl h (R k)) 0 i FU acc h0 (by omega) (by omega) (by show _ < 4096; omega) f f13
    obtain ⟨h2, b1, b13, b2⟩ := ih (k + 1) (i + wl h (R k)) n (ws h (36 + 2 * l) (R k) (wl h (R k)) 0 i acc) h1 (by omega) (by omega) (by omega) g1 g13
    refine ⟨h2, b1, b13, ?_⟩
    have g2 : f_9_offNow_40 (f_9_offNow_28 (nI l) (24 + h 115 (156 + 9 * l)) (h 115 (157 + 9 * l)) n) (nI l) (24 + h 115 (156 + 9 * l)) (h 115 (157 + 9 * l)) (nI k) FU acc 0 h0 = _ := g2
    rw [f_9_offNow_28, f.2 11 (by decide), hz, if_neg (nI_ge hk (by omega)), g2, nI_1, b2]
    rfl
/-- off for the row in the reference's hands -/
theorem offNow_m {l W z : Nat} {h : Hp} {R : Nat → Nat} (T : TX h 6 (h 115) 0) (L : LN h (36 + 2 * l) (h 115) (154 + 9 * l) W) (hl : l < 6) (hf : ∀ k, k < 60 → h 115 (24 + k) = h 2 k) (z3 : z ≤ 3) (hz : h 114 11 = nI z) (hR : ∀ t, t < z → h 119 t = nI (R t)) (w : WM h R z) : ∃ h1, FO h h1 ∧ h1 114 13 = nI (rs h (36 + 2 * l) R z 0 0 0).2 ∧ f_9_offNow (nI l) h = some (ov h (36 + 2 * l) R z, h1) := by
  unfold f_9_offNow ov
  have a : f_9_of (nI l) 2 h = some (h 115 (156 + 9 * l)) := by
    have q := of_m (h := h) (k := 2) hl (by decide)
    rw [show 154 + 9 * l + 2 = 156 + 9 * l by omega] at q
    exact q
  have b : f_9_of (nI l) 3 h = some (h 115 (157 + 9 * l)) := by
    have q := of_m (h := h) (k := 3) hl (by decide)
    rw [show 154 + 9 * l + 3 = 157 + 9 * l by omega] at q
    exact q
  rw [a, bnd_s, b, bnd_s, hl_eq]
  exact off28 T L hl hf z3 hz hR w z 0 0 FU 0 _ (by omega) (by omega) (by show _ < 4096; omega) (FO.at13 h 0) (by rw [u2_s]; rfl)
