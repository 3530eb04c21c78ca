/-! voice, in the reference -/
section
variable {h : Hp} {K l : Nat} {m : Int32}
def VM (K l : Nat) (m : Int32) (h : Hp) : Prop := l < 6 ∧ h 114 20 = nI l ∧ h 115 (154 + 9 * l) = nI K ∧ h 115 (155 + 9 * l) = m ∧ sm (h 114 19) 40
def NM (h h1 : Hp) (N : List Int32) : Prop := (∀ q, q ≠ 114 → q ≠ 121 → h1 q = h q) ∧ (∀ i, i ≠ 19 → h1 114 i = h 114 i) ∧ h1 114 19 = nI (pn N (ci (h 114 19), h 121)).1 ∧ h1 121 = (pn N (ci (h 114 19), h 121)).2
theorem NM.vm {h1 : Hp} {N : List Int32} (a : NM h h1 N) (v : VM K l m h) : VM K l m h1 := by
  obtain ⟨v0, v1, v2, v3, v4⟩ := v
  obtain ⟨a1, a2, a3, a4⟩ := a
  refine ⟨v0, by rw [a2 20 (by decide)]; exact v1, by rw [a1 115 (by decide) (by decide)]; exact v2, by rw [a1 115 (by decide) (by decide)]; exact v3, ?_⟩
  rw [a3]
  exact ⟨_, pn_le N _ (sm_ci v4 (by decide)).2, rfl⟩
theorem NM.tr {h1 h2 : Hp} {N M : List Int32} (v : VM K l m h) (a : NM h h1 N) (b : NM h1 h2 M) : NM h h2 (N ++ M) := by
  have le := pn_le N (ci (h 114 19), h 121) (sm_ci v.2.2.2.2 (by decide)).2
  obtain ⟨a1, a2, a3, a4⟩ := a
  obtain ⟨b1, b2, b3, b4⟩ := b
  rw [a3, a4, ci_nI (by omega)] at b3 b4
  refine ⟨fun q q1 q2 => (b1 q q1 q2).trans (a1 q q1 q2), fun i hi => (b2 i hi).trans (a2 i hi), ?_, ?_⟩
  · rw [b3, pn_app]
  · rw [b4, pn_app]
theorem ran_n (v : VM K l m h) (r : Int32) : ∃ h1, f_9_ran r h = some h1 ∧ NM h h1 [r] ∧ VM K l m h1 := by
  obtain ⟨s1, s2⟩ := sm_ci v.2.2.2.2 (by decide)
  have key : ∃ h1, f_9_ran r h = some h1 ∧ NM h h1 [r] := by
    generalize e : ci (h 114 19) = t at s1 s2
    unfold f_9_ran NM
    rw [s1, ci_nI (by omega)]
    by_cases c : 40 ≤ t
    · refine ⟨h, by rw [if_pos (show (40 : Int32) ≤ nI t from nI_le (a := 40) c (by omega))], fun _ _ _ => rfl, fun _ _ => rfl, ?_, ?_⟩
      · rw [pn, if_pos c]; exact s1
      · rw [pn, if_pos c]; rfl
    · have c2 : ¬ (40 : Int32) ≤ nI t := nI_ge (b := 40) (by omega) (by decide)
      have e2 : u2 h 121 t r 114 19 = nI t := by rw [u2_p _ _ (by decide)]; exact s1
      refine ⟨u2 (u2 h 121 t r) 114 19 (nI (t + 1)), ?_, fun q q1 q2 => by rw [u2_p _ _ q1, u2_p _ _ q2], fun i hi => by rw [u2_k _ _ hi, u2_p _ _ (by decide)], ?_, ?_⟩
      · rw [if_neg c2, gd_s _ (inb_nI (show t < 40 by omega) (by decide)), hl_eq, e2, hl_eq, nI_1]
      · rw [pn, if_neg c, u2_s]; rfl
      · rw [pn, if_neg c, u2_p _ _ (by decide), u2_row]; rfl
  obtain ⟨h1, a1, a2⟩ := key
  exact ⟨h1, a1, a2, a2.vm v⟩
theorem own_m (v : VM K l m h) : f_9_own h = some (nI K) := by
  obtain ⟨v0, v1, v2, v3, v4⟩ := v
  have q : f_9_of (nI l) 0 h = _ := of_m (k := 0) v0 (by decide)
  rw [Nat.add_zero, v2] at q
  unfold f_9_own
  rw [v1, q, bnd_s]
def QM (K l : Nat) (m : Int32) (k : Nat → Int32 → Int32 → Hp → Option (Int32 × Hp)) (c d : Nat) (f : Int32 → Int32) (N : List Int32) : Prop := ∀ (x : Int32) (h : Hp) (n : Nat), VM K l m h → d < n → ∃ h1, k n (nI c) x h = some (f x, h1) ∧ NM h h1 N
/-- a kind without a body of its own -/
theorem QM.up {k : Nat → Int32 → Int32 → Hp → Option (Int32 × Hp)} {c c2 d : Nat} {f : Int32 → Int32} {N : List Int32} (e : ∀ n x h, k (n + 1) (nI c) x h = bnd2 (k n (nI c2) x h) (fun r h => some (r, h))) (q : QM K l m k c2 d f N) : QM K l m k c (d + 1) f N := fun x h n v a => by
  obtain ⟨n, rfl⟩ : ∃ z, n = z + 1 := ⟨n - 1, by omega⟩
  rw [e, b2_id]
  exact q x h n v (by omega)
theorem QM.mono {k : Nat → Int32 → Int32 → Hp → Option (Int32 × Hp)} {c d d2 : Nat} {f : Int32 → Int32} {N : List Int32} (q : QM K l m k c d f N) (e : d ≤ d2) : QM K l m k c d2 f N := fun x h n v a => q x h n v (by omega)
theorem mF {c : Nat} (hc : c ≤ 6) : QM K l m k_9_fitsBy c 2 (vF l c) (nF c) := by
  have z : QM K l m k_9_fitsBy 0 0 (fun x => x + nI l) [10] := fun x h n v a => by
    obtain ⟨n, rfl⟩ : ∃ z, n = z + 1 := ⟨n - 1, by omega⟩
    obtain ⟨h1, a1, a2, a3⟩ := ran_n v 10
    refine ⟨h1, ?_, a2⟩
    show b_9_fitsBy (k_9_fitsBy n) (nI 0) x h = _
    unfold b_9_fitsBy
    rw [if_pos (by decide), a1, bnd_s, a3.2.1]
  have z1 : QM K l m k_9_fitsBy 1 1 (fun x => (x + nI l) * 3) [20, 10] := fun x h n v a => by
    obtain ⟨n, rfl⟩ : ∃ z, n = z + 1 := ⟨n - 1, by omega⟩
    obtain ⟨h1, a1, a2, a3⟩ := ran_n v 20
    obtain ⟨h2, b1, b2⟩ := z x h1 n a3 (by omega)
    have b1 : k_9_fitsBy n (f_9_above 1) x h1 = _ := b1
    refine ⟨h2, ?_, a2.tr v b2⟩
    show b_9_fitsBy (k_9_fitsBy n) (nI 1) x h = _
    unfold b_9_fitsBy
    rw [if_neg (by decide), if_pos (by decide), a1, bnd_s, b1, bnd2_s]
  have e : ∀ (c c2 : Nat), ¬ nI c = 0 → ¬ nI c = 1 → f_9_above (nI c) = nI c2 → ∀ n x h, k_9_fitsBy (n + 1) (nI c) x h = bnd2 (k_9_fitsBy n (nI c2) x h) (fun r h => some (r, h)) := fun c c2 c0 c1 ca n x h => by
    show b_9_fitsBy (k_9_fitsBy n) (nI c) x h = _
    unfold b_9_fitsBy
    rw [if_neg c0, if_neg c1, ca]
  obtain rfl | rfl | rfl | rfl | rfl | rfl | rfl : c = 0 ∨ c = 1 ∨ c = 2 ∨ c = 3 ∨ c = 4 ∨ c = 5 ∨ c = 6 := by omega
  · exact QM.mono z (by decide)
  · exact QM.mono z1 (by decide)
  · exact QM.mono (QM.up (e 2 0 (by decide) (by decide) (by decide)) z) (by decide)
  · exact QM.mono (QM.up (e 3 0 (by decide) (by decide) (by decide)) z) (by decide)
  · exact QM.up (e 4 1 (by decide) (by decide) (by decide)) z1
  · exact QM.up (e 5 2 (by decide) (by decide) (by decide)) (QM.up (e 2 0 (by decide) (by decide) (by decide)) z)
  · exact QM.up (e 6 3 (by decide) (by decide) (by decide)) (QM.up (e 3 0 (by decide) (by decide) (by decide)) z)
theorem mE {c : Nat} (hc : c ≤ 6) : QM K l m k_9_endsBy c 2 (vE l m c) (nE c) := by
  have z : QM K l m k_9_endsBy 0 0 (fun x => x - m) [12] := fun x h n v a => by
    obtain ⟨n, rfl⟩ : ∃ z, n = z + 1 := ⟨n - 1, by omega⟩
    obtain ⟨h1, a1, a2, a3⟩ := ran_n v 12
    have q : f_9_of (nI l) 1 h1 = _ := of_m (k := 1) v.1 (by decide)
    rw [show 154 + 9 * l + 1 = 155 + 9 * l by omega, a3.2.2.2.1] at q
    refine ⟨h1, ?_, a2⟩
    show b_9_endsBy (k_9_endsBy n) (nI 0) x h = _
    unfold b_9_endsBy
    rw [if_pos (by decide), a1, bnd_s, a3.2.1, q, bnd_s]
  have z3 : QM K l m k_9_endsBy 3 1 (fun x => -(x - m)) [40, 12] := fun x h n v a => by
    obtain ⟨n, rfl⟩ : ∃ z, n = z + 1 := ⟨n - 1, by omega⟩
    obtain ⟨h1, a1, a2, a3⟩ := ran_n v 40
    obtain ⟨h2, b1, b2⟩ := z x h1 n a3 (by omega)
    have b1 : k_9_endsBy n (f_9_above 3) x h1 = _ := b1
    refine ⟨h2, ?_, a2.tr v b2⟩
    show b_9_endsBy (k_9_endsBy n) (nI 3) x h = _
    unfold b_9_endsBy
    rw [if_neg (by decide), if_pos (by decide), a1, bnd_s, b1, bnd2_s]
  have z6 : QM K l m k_9_endsBy 6 2 (fun x => (-(x - m)) ^^^ nI l) [70, 40, 12] := fun x h n v a => by
    obtain ⟨n, rfl⟩ : ∃ z, n = z + 1 := ⟨n - 1, by omega⟩
    obtain ⟨h1, a1, a2, a3⟩ := ran_n v 70
    obtain ⟨h2, b1, b2⟩ := z3 x h1 n a3 (by omega)
    have b1 : k_9_endsBy n (f_9_above 6) x h1 = _ := b1
    have v2 := b2.vm a3
    refine ⟨h2, ?_, a2.tr v b2⟩
    show b_9_endsBy (k_9_endsBy n) (nI 6) x h = _
    unfold b_9_endsBy
    rw [if_neg (by decide), if_neg (by decide), if_pos (by decide), a1, bnd_s, b1, bnd2_s, v2.2.1]
  have e : ∀ (c c2 : Nat), ¬ nI c = 0 → ¬ nI c = 3 → ¬ nI c = 6 → f_9_above (nI c) = nI c2 → ∀ n x h, k_9_endsBy (n + 1) (nI c) x h = bnd2 (k_9_endsBy n (nI c2) x h) (fun r h => some (r, h)) := fun c c2 c0 c1 c6 ca n x h => by
    show b_9_endsBy (k_9_endsBy n) (nI c) x h = _
    unfold b_9_endsBy
    rw [if_neg c0, if_neg c1, if_neg c6, ca]
  obtain rfl | rfl | rfl | rfl | rfl | rfl | rfl : c = 0 ∨ c = 1 ∨ c = 2 ∨ c = 3 ∨ c = 4 ∨ c = 5 ∨ c = 6 := by omega
  · exact QM.mono z (by decide)
  · exact QM.mono (QM.up (e 1 0 (by decide) (by decide) (by decide) (by decide)) z) (by decide)
  · exact QM.mono (QM.up (e 2 0 (by decide) (by decide) (by decide) (by decide)) z) (by decide)
  · exact QM.mono z3 (by decide)
  · exact QM.up (e 4 1 (by decide) (by decide) (by decide) (by decide)) (QM.up (e 1 0 (by decide) (by decide) (by decide) (by decide)) z)
  · exact QM.up (e 5 2 (by decide) (by decide) (by decide) (by decide)) (QM.up (e 2 0 (by decide) (by decide) (by decide) (by decide)) z)
  · exact z6
theorem mS (hK : K ≤ 6) {c : Nat} (hc : c ≤ 6) : QM K l m k_9_saysBy c 3 (vS K l m c) (nS K c) := by
  have z : QM K l m k_9_saysBy 0 0 (fun x => vF l K x * 2) (11 :: nF K) := fun x h n v a => by
    obtain ⟨n, rfl⟩ : ∃ z, n = z + 1 := ⟨n - 1, by omega⟩
    obtain ⟨h1, a1, a2, a3⟩ := ran_n v 11
    obtain ⟨h2, b1, b2⟩ := mF hK x h1 RF a3 (by decide)
    have b1 : f_9_fitsBy (nI K) x h1 = _ := b1
    refine ⟨h2, ?_, a2.tr v b2⟩
    show b_9_saysBy (k_9_saysBy n) (nI 0) x h = _
    unfold b_9_saysBy
    rw [if_pos (by decide), a1, bnd_s, own_m a3, bnd_s, b1, bnd2_s]
  have z2 : QM K l m k_9_saysBy 2 1 (vS2 K l m) (nS2 K) := fun x h n v a => by
    obtain ⟨n, rfl⟩ : ∃ z, n = z + 1 := ⟨n - 1, by omega⟩
    obtain ⟨h1, a1, a2, a3⟩ := ran_n v 30
    obtain ⟨h2, b1, b2⟩ := z x h1 n a3 (by omega)
    have b1 : k_9_saysBy n (f_9_above 2) x h1 = _ := b1
    have v2 := b2.vm a3
    obtain ⟨h3, c1, c2⟩ := mE hK 1 h2 RF v2 (by decide)
    have c1 : f_9_endsBy (nI K) 1 h2 = _ := c1
    refine ⟨h3, ?_, a2.tr v (b2.tr a3 c2)⟩
    show b_9_saysBy (k_9_saysBy n) (nI 2) x h = _
    unfold b_9_saysBy
    rw [if_neg (by decide), if_pos (by decide), a1, bnd_s, b1, bnd2_s, own_m v2, bnd_s, c1, bnd2_s]
    rfl
  have z5 : QM K l m k_9_saysBy 5 2 (fun x => vS2 K l m (x + 1)) (60 :: nS2 K) := fun x h n v a => by
    obtain ⟨n, rfl⟩ : ∃ z, n = z + 1 := ⟨n - 1, by omega⟩
    obtain ⟨h1, a1, a2, a3⟩ := ran_n v 60
    obtain ⟨h2, b1, b2⟩ := z2 (x + 1) h1 n a3 (by omega)
    have b1 : k_9_saysBy n (f_9_above 5) (x + 1) h1 = _ := b1
    refine ⟨h2, ?_, a2.tr v b2⟩
    show b_9_saysBy (k_9_saysBy n) (nI 5) x h = _
    unfold b_9_saysBy
    rw [if_neg (by decide), if_neg (by decide), if_pos (by decide), a1, bnd_s, b1, bnd2_s]
  have e : ∀ (c c2 : Nat), ¬ nI c = 0 → ¬ nI c = 2 → ¬ nI c = 5 → f_9_above (nI c) = nI c2 → ∀ n x h, k_9_saysBy (n + 1) (nI c) x h = bnd2 (k_9_saysBy n (nI c2) x h) (fun r h => some (r, h)) := fun c c2 c0 c1 c6 ca n x h => by
    show b_9_saysBy (k_9_saysBy n) (nI c) x h = _
    unfold b_9_saysBy
    rw [if_neg c0, if_neg c1, if_neg c6, ca]
  have z1 := QM.up (e 1 0 (by decide) (by decide) (by decide) (by decide)) z
  have z3 := QM.up (e 3 0 (by decide) (by decide) (by decide) (by decide)) z
  obtain rfl | rfl | rfl | rfl | rfl | rfl | rfl : c = 0 ∨ c = 1 ∨ c = 2 ∨ c = 3 ∨ c = 4 ∨ c = 5 ∨ c = 6 := by omega
  · exact QM.mono z (by decide)
  · exact QM.mono z1 (by decide)
  · exact QM.mono z2 (by decide)
  · exact QM.mono z3 (by decide)
  · exact QM.mono (QM.up (e 4 1 (by decide) (by decide) (by decide) (by decide)) z1) (by decide)
  · exact QM.mono z5 (by decide)
  · exact QM.mono (QM.up (e 6 3 (by decide) (by decide) (by decide) (by decide)) z3) (by decide)
theorem mT (hK : K ≤ 6) {c : Nat} (hc : c ≤ 6) : QM K l m k_9_tellsBy c 3 (vT K l m c) (nT K c) := by
  have z : QM K l m k_9_tellsBy 0 0 (vT0 K l m) (nT0 K) := fun x h n v a => by
    obtain ⟨n, rfl⟩ : ∃ z, n = z + 1 := ⟨n - 1, by omega⟩
    obtain ⟨h1, a1, a2, a3⟩ := ran_n v 13
    obtain ⟨h2, b1, b2⟩ := mS hK hK x h1 RF a3 (by decide)
    have b1 : f_9_saysBy (nI K) x h1 = _ := b1
    have v2 := b2.vm a3
    obtain ⟨h3, c1, c2⟩ := mE hK x h2 RF v2 (by decide)
    have c1 : f_9_endsBy (nI K) x h2 = _ := c1
    refine ⟨h3, ?_, a2.tr v (b2.tr a3 c2)⟩
    show b_9_tellsBy (k_9_tellsBy n) (nI 0) x h = _
    unfold b_9_tellsBy
    rw [if_pos (by decide), a1, bnd_s, own_m a3, bnd_s, b1, bnd2_s, own_m v2, bnd_s, c1, bnd2_s]
    rfl
  have e : ∀ (c c2 : Nat), ¬ nI c = 0 → ¬ nI c = 4 → ¬ nI c = 6 → f_9_above (nI c) = nI c2 → ∀ n x h, k_9_tellsBy (n + 1) (nI c) x h = bnd2 (k_9_tellsBy n (nI c2) x h) (fun r h => some (r, h)) := fun c c2 c0 c1 c6 ca n x h => by
    show b_9_tellsBy (k_9_tellsBy n) (nI c) x h = _
    unfold b_9_tellsBy
    rw [if_neg c0, if_neg c1, if_neg c6, ca]
  have z1 := QM.up (e 1 0 (by decide) (by decide) (by decide) (by decide)) z
  have z2 := QM.up (e 2 0 (by decide) (by decide) (by decide) (by decide)) z
  have z3 := QM.up (e 3 0 (by decide) (by decide) (by decide) (by decide)) z
  have z4 : QM K l m k_9_tellsBy 4 2 (fun x => vT0 K l m x - vF l K 2) (50 :: (nT0 K ++ nF K)) := fun x h n v a => by
    obtain ⟨n, rfl⟩ : ∃ z, n = z + 1 := ⟨n - 1, by omega⟩
    obtain ⟨h1, a1, a2, a3⟩ := ran_n v 50
    obtain ⟨h2, b1, b2⟩ := z1 x h1 n a3 (by omega)
    have b1 : k_9_tellsBy n (f_9_above 4) x h1 = _ := b1
    have v2 := b2.vm a3
    obtain ⟨h3, c1, c2⟩ := mF hK 2 h2 RF v2 (by decide)
    have c1 : f_9_fitsBy (nI K) 2 h2 = _ := c1
    refine ⟨h3, ?_, a2.tr v (b2.tr a3 c2)⟩
    show b_9_tellsBy (k_9_tellsBy n) (nI 4) x h = _
    unfold b_9_tellsBy
    rw [if_neg (by decide), if_pos (by decide), a1, bnd_s, b1, bnd2_s, own_m v2, bnd_s, c1, bnd2_s]
  have z6 : QM K l m k_9_tellsBy 6 2 (fun x => vS K l m K x - vT0 K l m x) (71 :: (nS K K ++ nT0 K)) := fun x h n v a => by
    obtain ⟨n, rfl⟩ : ∃ z, n = z + 1 := ⟨n - 1, by omega⟩
    obtain ⟨h1, a1, a2, a3⟩ := ran_n v 71
    obtain ⟨h2, b1, b2⟩ := mS hK hK x h1 RF a3 (by decide)
    have b1 : f_9_saysBy (nI K) x h1 = _ := b1
    have v2 := b2.vm a3
    obtain ⟨h3, c1, c2⟩ := z3 x h2 n v2 (by omega)
    have c1 : k_9_tellsBy n (f_9_above 6) x h2 = _ := c1
    refine ⟨h3, ?_, a2.tr v (b2.tr a3 c2)⟩
    show b_9_tellsBy (k_9_tellsBy n) (nI 6) x h = _
    unfold b_9_tellsBy
    rw [if_neg (by decide), if_neg (by decide), if_pos (by decide), a1, bnd_s, own_m a3, bnd_s, b1, bnd2_s, c1, bnd2_s]
  obtain rfl | rfl | rfl | rfl | rfl | rfl | rfl : c = 0 ∨ c = 1 ∨ c = 2 ∨ c = 3 ∨ c = 4 ∨ c = 5 ∨ c = 6 := by omega
  · exact QM.mono z (by decide)
  · exact QM.mono z1 (by decide)
  · exact QM.mono z2 (by decide)
  · exact QM.mono z3 (by decide)
  · exact QM.mono z4 (by decide)
  · exact QM.mono (QM.up (e 5 2 (by decide) (by decide) (by decide) (by decide)) z2) (by decide)
  · exact QM.mono z6 (by decide)
theorem al_voice (X : AI h) (a b c : Int32) : Al (f_8_voice a b c) (f_9_voice a b c) h := by
  have x := X.1
  have e9 := in_w b (A := 0) (B := 3) 0 3 (by decide) (by decide)
  have n10 : ¬ (1 : Int32) = 0 := by decide
  rcases isLine_k x a with ⟨r, q⟩ | ⟨r, q, l, hl, rfl⟩
  · refine Al.er X (k := 1) (by decide) (by decide) ?_ (fun h1 f => ?_)
    · unfold f_8_voice
      rw [r, if_pos rfl, b2_id]; rfl
    · unfold f_9_voice
      rw [q h1 (f 115 (by decide)), bnd_s, if_pos rfl, b2_id]; rfl
  rcases wiC b (A := 0) (B := 3) 0 3 (by decide) (by decide) (by decide) with ⟨w, _⟩ | ⟨w, j, _, j3, rfl⟩
  · refine Al.er X (k := 1) (by decide) (by decide) ?_ (fun h1 f => ?_)
    · unfold f_8_voice
      rw [r, if_neg n10, w, if_pos rfl, b2_id]; rfl
    · unfold f_9_voice
      rw [q h1 (f 115 (by decide)), bnd_s, if_neg n10, e9, w, if_pos rfl, b2_id]; rfl
  have l6 := x.L.2
  have gl : inb (nI l) 6 = true := inb_nI (by omega) (by decide)
  obtain ⟨K, m, _, n, z, w', ⟨A1, _⟩, ⟨c1, c1'⟩, ⟨c2, c2'⟩, _⟩ := x.line hl
  have c2'' : h 115 (155 + 9 * l) = nI m := by rw [← c2']; congr 1; omega
  obtain ⟨V, N, hC, hM⟩ : ∃ (V : Int32 → Int32) (N : List Int32), QC K l (nI m) K j 6 V N ∧ ∀ h1 : Hp, VM K l (nI m) h1 → ∃ h2, (if nI j = 0 then (bnd2 (f_9_fitsBy (nI K) c h1) (fun r19 h20 => some (r19, h20))) else (if nI j = 1 then (bnd2 (f_9_saysBy (nI K) c h1) (fun r23 h24 => some (r23, h24))) else (if nI j = 2 then (bnd2 (f_9_endsBy (nI K) c h1) (fun r27 h28 => some (r27, h28))) else (bnd2 (f_9_tellsBy (nI K) c h1) (fun r30 h31 => some (r30, h31)))))) = some (V c, h2) ∧ NM h1 h2 N := by
    obtain rfl | rfl | rfl | rfl : j = 0 ∨ j = 1 ∨ j = 2 ∨ j = 3 := by omega
    · refine ⟨_, _, QC.mono (vcF A1) (by decide), fun h1 v => ?_⟩
      obtain ⟨h2, a1, a2⟩ := mF A1 c h1 RF v (by decide)
      exact ⟨h2, by rw [if_pos (by decide), b2_id]; exact a1, a2⟩
    · refine ⟨_, _, QC.mono (vcS A1 A1) (by decide), fun h1 v => ?_⟩
      obtain ⟨h2, a1, a2⟩ := mS A1 A1 c h1 RF v (by decide)
      exact ⟨h2, by rw [if_neg (by decide), if_pos (by decide), b2_id]; exact a1, a2⟩
    · refine ⟨_, _, QC.mono (vcE A1) (by decide), fun h1 v => ?_⟩
      obtain ⟨h2, a1, a2⟩ := mE A1 c h1 RF v (by decide)
      exact ⟨h2, by rw [if_neg (by decide), if_neg (by decide), if_pos (by decide), b2_id]; exact a1, a2⟩
    · refine ⟨_, _, vcT A1 A1, fun h1 v => ?_⟩
      obtain ⟨h2, a1, a2⟩ := mT A1 A1 c h1 RF v (by decide)
      exact ⟨h2, by rw [if_neg (by decide), if_neg (by decide), if_neg (by decide), b2_id]; exact a1, a2⟩
  -- the class
  have S0 : VS K l (nI m) (u2 (u2 (u2 (u2 h 103 2 (nI K)) 103 3 (nI m)) 103 4 (nI l)) 103 1 0) := by
    refine ⟨?_, ?_, ?_, ⟨0, by decide, ?_⟩⟩
    · rw [u2_k _ _ (by decide), u2_k _ _ (by decide), u2_k _ _ (by decide), u2_s]
    · rw [u2_k _ _ (by decide), u2_k _ _ (by decide), u2_s]
    · rw [u2_k _ _ (by decide), u2_s]
    · rw [u2_s]; rfl
  obtain ⟨h1, a1, a2, _, a4, a5⟩ := hC c _ 0 RF S0 (by decide) (by decide)
  rw [u2_s, u2_p _ _ (by decide), u2_p _ _ (by decide), u2_p _ _ (by decide), u2_p _ _ (by decide)] at a4 a5
  have C : f_8_voice (nI l) (nI j) c h = some (V c, h1) := by
    have k1 : u2 h 103 2 (nI K) (36 + 2 * l) 3 = nI m := by rw [u2_p _ _ (by omega)]; exact c2
    have k2 : u2 (u2 (u2 (u2 h 103 2 (nI K)) 103 3 (nI m)) 103 4 (nI l)) 103 1 0 103 2 = nI K := S0.1
    have a1 : f_4_from (nI K) (nI j) c 0 (u2 (u2 (u2 (u2 h 103 2 (nI K)) 103 3 (nI m)) 103 4 (nI l)) 103 1 0) = some (V c, h1) := a1
    unfold f_8_voice
    rw [r, if_neg n10, w, if_neg n10, gd_s _ gl, ci_nI (by omega), b2_id]
    unfold f_4_play
    rw [c1, hl_eq, k1, hl_eq, hl_eq, hl_eq, k2, a1, bnd2_s]
  have e1 : ∀ q, q ≠ 103 → q ≠ 104 → h1 q = h q := fun q q1 q2 => by rw [a2 q q1 q2, u2_p _ _ q1, u2_p _ _ q1, u2_p _ _ q1, u2_p _ _ q1]
  -- the reference
  have e115 : h1 115 = h 115 := e1 115 (by decide) (by decide)
  have M0 : VM K l (nI m) (u2 (u2 h1 114 19 0) 114 20 (nI l)) := by
    refine ⟨by omega, u2_s _ _ _ _, ?_, ?_, ⟨0, by decide, ?_⟩⟩
    · rw [u2_p _ _ (by decide), u2_p _ _ (by decide), e115]; exact c1'
    · rw [u2_p _ _ (by decide), u2_p _ _ (by decide), e115]; exact c2''
    · rw [u2_k _ _ (by decide), u2_s]; rfl
  obtain ⟨h2, b1, b2, b3, b4, b5⟩ := hM _ M0
  rw [u2_k (j := 19) _ _ (by decide), u2_s, u2_p (q := 121) _ _ (by decide), u2_p (q := 121) _ _ (by decide), e1 121 (by decide) (by decide)] at b4 b5
  refine ⟨V c, h1, h2, C, ?_, ?_⟩
  · unfold f_9_voice
    rw [q h1 e115, bnd_s, if_neg n10, e9, w, if_neg n10, hl_eq, hl_eq, own_m M0, bnd_s]
    exact b1
  · have g : ∀ q, q ≠ 103 → q ≠ 104 → q ≠ 114 → q ≠ 121 → h2 q = h q := fun q q1 q2 q3 q4 => by rw [b2 q q3 q4, u2_p _ _ q3, u2_p _ _ q3, e1 q q1 q2]
    obtain ⟨x1, x2, x3, x5, x6⟩ := x
    have z0 : ci (0 : Int32) = 0 := il_0
    rw [z0] at a4 a5 b4 b5
    obtain ⟨p1, p2⟩ := pn_eq N 0 (h 104) (h 121) (fun k hk => absurd hk (Nat.not_lt_zero k))
    have p3 := pn_le N (0, h 104) (by show 0 ≤ 40; decide)
    have t103 : h2 103 1 = nI (pn N (0, h 104)).1 := by rw [b2 103 (by decide) (by decide), u2_p _ _ (by decide), u2_p _ _ (by decide), a4]
    have t104 : h2 104 = (pn N (0, h 104)).2 := by rw [b2 104 (by decide) (by decide), u2_p _ _ (by decide), u2_p _ _ (by decide), a5]
    refine ⟨⟨?_, ?_, ?_, ?_, ?_⟩, ?_⟩
    · rw [g 115 (by decide) (by decide) (by decide) (by decide)]
      exact x1.fr (fun q hq => g _ (by unfold kp at hq; omega) (by unfold kp at hq; omega) (by unfold kp at hq; omega) (by unfold kp at hq; omega))
    · rw [g 116 (by decide) (by decide) (by decide) (by decide), g 0 (by decide) (by decide) (by decide) (by decide)]
      exact x2.imp id (fun y => y.fr (fun q hq => g _ (by unfold kp at hq; omega) (by unfold kp at hq; omega) (by unfold kp at hq; omega) (by unfold kp at hq; omega)))
    · rw [b3 2 (by decide), u2_k _ _ (by decide), u2_k _ _ (by decide), e1 114 (by decide) (by decide), g 0 (by decide) (by decide) (by decide) (by decide)]; exact x3
    · refine ⟨?_, ?_, fun k hk => ?_⟩
      · rw [t103]; exact ⟨_, p3, rfl⟩
      · rw [t103, b4, p1]
      · rw [t103, ci_nI (by omega)] at hk
        rw [b5, t104, p2 k hk]
    · intro s hs
      rw [g 106 (by decide) (by decide) (by decide) (by decide), g 107 (by decide) (by decide) (by decide) (by decide), g 122 (by decide) (by decide) (by decide) (by decide), g 123 (by decide) (by decide) (by decide) (by decide), g 124 (by decide) (by decide) (by decide) (by decide), g (109 + s) (by omega) (by omega) (by omega) (by omega)]
      exact x6 s hs
    · intro k hk
      rw [g 117 (by decide) (by decide) (by decide) (by decide), g 113 (by decide) (by decide) (by decide) (by decide)]
      exact X.2 k hk
end
