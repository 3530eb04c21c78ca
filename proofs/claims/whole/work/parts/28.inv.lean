/-! the two worlds, kept alike -/
/-- the syllables' digits of n mouths -/
def dg (f : Nat → Int32) : Nat → Int32
  | 0 => 0
  | n + 1 => 10 * dg f n + f n + 1
def WD (h : Hp) (p : Nat) (D : Nat → Int32) (s : Nat) : Prop := ∃ n g : Nat, 1 ≤ n ∧ n ≤ 5 ∧ g ≤ 99 ∧ h p 2 = nI n ∧ D s = nI n ∧ h p 3 = nI g ∧ D (s + 1) = nI g ∧ h p 1 = dg (h (p + 1)) n ∧ ∀ k, k < n → ∃ y : Nat, y < 3 ∧ h (p + 1) k = nI y ∧ D (s + 2 + k) = nI y
def LN (h : Hp) (p : Nat) (D : Nat → Int32) (s W : Nat) : Prop := ∃ K m b n z w : Nat, (K ≤ 6 ∧ m ≤ 9 ∧ 1 ≤ n ∧ n ≤ 15 ∧ b + n ≤ 60 ∧ z ≤ 3 ∧ w ≤ 99) ∧ (h p 2 = nI K ∧ D s = nI K) ∧ (h p 3 = nI m ∧ D (s + 1) = nI m) ∧ (h p 4 = nI b ∧ D (s + 2) = nI b) ∧ (h p 5 = nI n ∧ D (s + 3) = nI n) ∧ (h p 6 = nI w ∧ D (s + 4) = nI w) ∧ (h p 1 = nI z ∧ D (s + 5) = nI z) ∧ ∀ i, i < z → ∃ j : Nat, j < W ∧ h (p + 1) i = nI j ∧ D (s + 6 + i) = nI j
def gS (h : Hp) (w : Nat) (D : Nat → Int32) : Prop := (sm (h w 10) 10 ∧ D 0 = h w 10) ∧ (sm (h w 11) 6 ∧ D 1 = h w 11) ∧ (sm (h w 14) 9999 ∧ D 2 = h w 14) ∧ D 3 = h w 15 ∧ D 4 = h w 16 ∧ (sm (h w 12) 50 ∧ D 5 = h w 12) ∧ (sm (h w 13) 20 ∧ D 6 = h w 13)
def gA (h : Hp) (w : Nat) (D : Nat → Int32) : Prop := (∀ k, k < 60 → D (24 + k) = h (w + 1) k) ∧ (∀ k, k < 16 → D (8 + k) = h (w + 11) k ∧ sm (h (w + 11) k) 99) ∧ (∀ k, k < 20 → D (210 + k) = h (w + 12) k) ∧ (∀ k, k < 50 → D (330 + k) = h (w + 4) k)
def gW (h : Hp) (w : Nat) (D : Nat → Int32) : Prop := ∀ j, j < ci (h w 10) → WD h (w + 15 + 2 * j) D (84 + 7 * j)
def gL (h : Hp) (w : Nat) (D : Nat → Int32) : Prop := ∀ l, l < ci (h w 11) → LN h (w + 35 + 2 * l) D (154 + 9 * l) (ci (h w 10))
def gT (h : Hp) (w : Nat) (D : Nat → Int32) : Prop := TX h (w + 5) D 0 ∧ TX h (w + 8) D 1
def WI (h : Hp) (w : Nat) (D : Nat → Int32) : Prop := gS h w D ∧ gA h w D ∧ gW h w D ∧ gL h w D ∧ gT h w D
/-- the world's places but its scratch -/
def kp (q : Nat) : Prop := q < 47 ∧ q ≠ 7 ∧ q ≠ 10 ∧ q ≠ 13 ∧ q ≠ 14
theorem WD.fr {h h1 : Hp} {p s : Nat} {D : Nat → Int32} (a : h1 p = h p) (b : h1 (p + 1) = h (p + 1)) (x : WD h p D s) : WD h1 p D s := by
  unfold WD
  rw [a, b]
  exact x
theorem LN.fr {h h1 : Hp} {p s W : Nat} {D : Nat → Int32} (a : h1 p = h p) (b : h1 (p + 1) = h (p + 1)) (x : LN h p D s W) : LN h1 p D s W := by
  unfold LN
  rw [a, b]
  exact x
theorem TX.fr {h h1 : Hp} {p u : Nat} {D : Nat → Int32} (a : h1 p = h p) (b : h1 (p + 1) = h (p + 1)) (x : TX h p D u) : TX h1 p D u := by
  unfold TX
  rw [a, b]
  exact x
theorem WI.fr {h h1 : Hp} {w : Nat} {D : Nat → Int32} (H : ∀ q, kp q → h1 (w + q) = h (w + q)) (x : WI h w D) : WI h1 w D := by
  obtain ⟨x1, x2, x3, x4, x5⟩ := x
  have e0 : h1 w = h w := H 0 ⟨by decide, by decide, by decide, by decide, by decide⟩
  refine ⟨?_, ?_, ?_, ?_, ?_⟩
  · unfold gS
    rw [e0]
    exact x1
  · unfold gA
    rw [H 1 (by unfold kp; decide), H 11 (by unfold kp; decide), H 12 (by unfold kp; decide), H 4 (by unfold kp; decide)]
    exact x2
  · intro j hj
    rw [e0] at hj
    obtain ⟨k, k1, k2⟩ := x1.1.1
    have : j < k := by rw [k2, ci_nI (by omega)] at hj; exact hj
    exact (x3 j hj).fr (by rw [Nat.add_assoc]; exact H _ (by unfold kp; omega)) (by rw [Nat.add_assoc, Nat.add_assoc]; exact H _ (by unfold kp; omega))
  · intro l hl
    rw [e0] at hl ⊢
    obtain ⟨k, k1, k2⟩ := x1.2.1.1
    have : l < k := by rw [k2, ci_nI (by omega)] at hl; exact hl
    exact (x4 l hl).fr (by rw [Nat.add_assoc]; exact H _ (by unfold kp; omega)) (by rw [Nat.add_assoc, Nat.add_assoc]; exact H _ (by unfold kp; omega))
  · exact ⟨x5.1.fr (H 5 (by unfold kp; decide)) (by rw [Nat.add_assoc]; exact H 6 (by unfold kp; decide)), x5.2.fr (H 8 (by unfold kp; decide)) (by rw [Nat.add_assoc]; exact H 9 (by unfold kp; decide))⟩
/-- sheets -/
def SH (h : Hp) : Prop := ∀ s, s < 4 → (h 106 s = 0 ∨ h 106 s = 8 ∨ h 106 s = 16 ∨ h 106 s = 32) ∧ h 122 s = h 106 s ∧ sm (h 107 s) 40 ∧ h 123 s = h 107 s ∧ ∀ k, k < 40 → h 124 (40 * s + k) = h (109 + s) k
def TR (h : Hp) : Prop := sm (h 103 1) 40 ∧ h 114 19 = h 103 1 ∧ ∀ k, k < ci (h 103 1) → h 121 k = h 104 k
def INV (h : Hp) : Prop := WI h 1 (h 115) ∧ (h 0 7 = 0 ∨ WI h 48 (h 116)) ∧ h 114 2 = h 0 7 ∧ TR h ∧ SH h
/-- the errors, told alike -/
def ER (h : Hp) : Prop := ∀ k, k < 6 → h 117 k = h 113 k
def AI (h : Hp) : Prop := INV h ∧ ER h
/-- scratch -/
def scr (q : Nat) : Prop := q = 8 ∨ q = 11 ∨ q = 14 ∨ q = 15 ∨ (95 ≤ q ∧ q ≤ 102) ∨ q = 114 ∨ (118 ≤ q ∧ q ≤ 120) ∨ q = 125
def PF (h h1 : Hp) : Prop := (∀ q, ¬ scr q → h1 q = h q) ∧ h1 114 2 = h 114 2 ∧ h1 114 19 = h 114 19
theorem PF.rf (h : Hp) : PF h h := ⟨fun _ _ => rfl, rfl, rfl⟩
theorem PF.tr {h h1 h2 : Hp} (a : PF h h1) (b : PF h1 h2) : PF h h2 := ⟨fun q x => (b.1 q x).trans (a.1 q x), b.2.1.trans a.2.1, b.2.2.trans a.2.2⟩
theorem PF.inv {h h1 : Hp} (a : PF h h1) (x : INV h) : INV h1 := by
  obtain ⟨a1, a2, a3⟩ := a
  obtain ⟨x1, x2, x3, x5, x6⟩ := x
  have f (q : Nat) (hq : ¬ scr q) : h1 q = h q := a1 q hq
  refine ⟨?_, ?_, ?_, ?_, ?_⟩
  · rw [f 115 (by unfold scr; decide)]
    exact x1.fr (fun q hq => f _ (by unfold scr; unfold kp at hq; omega))
  · rw [f 116 (by unfold scr; decide), f 0 (by unfold scr; decide)]
    exact x2.imp id (fun y => y.fr (fun q hq => f _ (by unfold scr; unfold kp at hq; omega)))
  · rw [a2, f 0 (by unfold scr; decide)]; exact x3
  · unfold TR
    rw [a3, f 103 (by unfold scr; decide), f 104 (by unfold scr; decide), f 121 (by unfold scr; decide)]; exact x5
  · intro s hs
    rw [f 106 (by unfold scr; decide), f 107 (by unfold scr; decide), f 122 (by unfold scr; decide), f 123 (by unfold scr; decide), f 124 (by unfold scr; decide), f (109 + s) (by unfold scr; omega)]
    exact x6 s hs
theorem PF.er {h h1 : Hp} (a : PF h h1) (y : ER h) : ER h1 := fun k hk => by
  rw [a.1 117 (by unfold scr; decide), a.1 113 (by unfold scr; decide)]
  exact y k hk
theorem PF.ai {h h1 : Hp} (a : PF h h1) (x : AI h) : AI h1 := ⟨a.inv x.1, a.er x.2⟩
theorem PF.c {h h1 : Hp} {c : Nat} (hc : scr c) (h4 : c ≠ 114) (a : ∀ q, q ≠ c → h1 q = h q) : PF h h1 := ⟨fun q hq => a q (fun e => hq (e ▸ hc)), by rw [a 114 (fun e => h4 e.symm)], by rw [a 114 (fun e => h4 e.symm)]⟩
theorem FT.pf {h h1 : Hp} (a : FT h h1) : PF h h1 := ⟨fun q hq => a.1 q (fun e => hq (by unfold scr; omega)) (fun e => hq (by unfold scr; omega)), a.2 2 (by decide), a.2 19 (by decide)⟩
/-! the errors -/
theorem err_c {h : Hp} {k : Nat} (h1 : 1 ≤ k) (h5 : k ≤ 5) : f_8_error (nI k) h = some ((-1000000000) - nI k, u2 h 113 k (h 113 k + 1)) := by
  unfold f_8_error
  have e : f_8_within (nI k) 1 5 = 1 := by
    rcases wiC (nI k) (A := 1) (B := 5) 1 5 (by decide) (by decide) (by decide) with ⟨_, q⟩ | ⟨q, _⟩
    · exact absurd rfl (q k h1 h5)
    · exact q
  have g : inb (nI k) 6 = true := inb_nI (by omega) (by decide)
  rw [e, if_neg (by decide), gd_s _ g, gd_s _ g, hl_eq, ci_nI (by omega)]
theorem err_m {h : Hp} {k : Nat} (h5 : k ≤ 5) : f_9_finds (nI k) h = some ((-1000000000) - nI k, u2 h 117 k (h 117 k + 1)) := by
  unfold f_9_finds
  have g : inb (nI k) 6 = true := inb_nI (by omega) (by decide)
  rw [gd_s _ g, gd_s _ g, hl_eq, ci_nI (by omega)]
/-- the errors are no part of the worlds -/
theorem inv_e {h h1 : Hp} (f : ∀ q, q ≠ 113 → q ≠ 117 → h1 q = h q) (x : INV h) : INV h1 := by
  obtain ⟨x1, x2, x3, x5, x6⟩ := x
  refine ⟨?_, ?_, ?_, ?_, ?_⟩
  · rw [f 115 (by decide) (by decide)]
    exact x1.fr (fun q hq => f _ (by unfold kp at hq; omega) (by unfold kp at hq; omega))
  · rw [f 116 (by decide) (by decide), f 0 (by decide) (by decide)]
    exact x2.imp id (fun y => y.fr (fun q hq => f _ (by unfold kp at hq; omega) (by unfold kp at hq; omega)))
  · rw [f 114 (by decide) (by decide), f 0 (by decide) (by decide)]; exact x3
  · unfold TR
    rw [f 114 (by decide) (by decide), f 103 (by decide) (by decide), f 104 (by decide) (by decide), f 121 (by decide) (by decide)]; exact x5
  · intro s hs
    rw [f 106 (by decide) (by decide), f 107 (by decide) (by decide), f 122 (by decide) (by decide), f 123 (by decide) (by decide), f 124 (by decide) (by decide), f (109 + s) (by omega) (by omega)]
    exact x6 s hs
/-- both answer alike, and stay alike -/
def Al {α : Type} (F G : Hp → Option (α × Hp)) (h : Hp) : Prop := ∃ r h1 h2, F h = some (r, h1) ∧ G h1 = some (r, h2) ∧ AI h2
/-- both end in the same error, after some scratch -/
theorem Al.er2 {F G : Hp → Option (Int32 × Hp)} {h : Hp} {k : Nat} (x : AI h) (h1 : 1 ≤ k) (h5 : k ≤ 5) (a : ∃ hc, F h = f_8_error (nI k) hc ∧ PF h hc) (b : ∀ h1, INV h1 → (∃ hc, PF h hc ∧ ∀ q, q ≠ 113 → h1 q = hc q) → ∃ hm, G h1 = f_9_finds (nI k) hm ∧ PF h1 hm) : Al F G h := by
  obtain ⟨hc, a1, a2⟩ := a
  have y1 : INV (u2 hc 113 k (hc 113 k + 1)) := inv_e (fun q q1 _ => u2_p _ _ q1) (a2.inv x.1)
  obtain ⟨hm, b1, b2⟩ := b _ y1 ⟨hc, a2, fun q hq => u2_p _ _ hq⟩
  refine ⟨_, _, _, a1.trans (err_c h1 h5), b1.trans (err_m h5), inv_e (fun q _ q2 => u2_p _ _ q2) (b2.inv y1), fun j hj => ?_⟩
  rw [u2_p (q := 113) _ _ (by decide), b2.1 113 (by unfold scr; decide)]
  have e7 : hm 117 = h 117 := by rw [b2.1 117 (by unfold scr; decide), u2_p _ _ (by decide), a2.1 117 (by unfold scr; decide)]
  by_cases e : j = k
  · subst e
    rw [u2_s, u2_s, e7, a2.1 113 (by unfold scr; decide), x.2 j hj]
  · rw [u2_k _ _ e, u2_k _ _ e, e7, a2.1 113 (by unfold scr; decide), x.2 j hj]
theorem Al.er {F G : Hp → Option (Int32 × Hp)} {h : Hp} {k : Nat} (x : AI h) (h1 : 1 ≤ k) (h5 : k ≤ 5) (a : F h = f_8_error (nI k) h) (b : ∀ h1, (∀ q, q ≠ 113 → h1 q = h q) → G h1 = f_9_finds (nI k) h1) : Al F G h := by
  have y1 : INV (u2 h 113 k (h 113 k + 1)) := inv_e (fun q q1 _ => u2_p _ _ q1) x.1
  refine ⟨_, _, _, a.trans (err_c h1 h5), (b _ (fun q hq => u2_p _ _ hq)).trans (err_m h5), inv_e (fun q _ q2 => u2_p _ _ q2) y1, fun j hj => ?_⟩
  rw [u2_p (q := 113) _ _ (by decide)]
  by_cases e : j = k
  · subst e
    rw [u2_s, u2_s, u2_p _ _ (by decide), x.2 j hj]
  · rw [u2_k _ _ e, u2_k _ _ e, u2_p _ _ (by decide), x.2 j hj]
/-- two answers that agree in every alike world -/
theorem Al.q {F G : Hp → Option (Int32 × Hp)} {h : Hp} {v : Hp → Int32} (x : AI h) (a : ∃ h1, F h = some (v h, h1) ∧ PF h h1) (b : ∀ h1, INV h1 → PF h h1 → ∃ h2, G h1 = some (v h1, h2) ∧ PF h1 h2) (c : ∀ h1, PF h h1 → v h1 = v h) : Al F G h := by
  obtain ⟨h1, a1, a2⟩ := a
  obtain ⟨h2, b1, b2⟩ := b h1 (a2.inv x.1) a2
  exact ⟨_, h1, h2, a1, by rw [← c h1 a2]; exact b1, b2.ai (a2.ai x)⟩
