/-! voice -/
/-- what ran is noted, forty at most -/
def pn : List Int32 → Nat × (Nat → Int32) → Nat × (Nat → Int32)
  | [], s => s
  | r :: N, s => pn N (if 40 ≤ s.1 then s else (s.1 + 1, upd s.2 s.1 r))
theorem pn_app : ∀ (N M : List Int32) (s : Nat × (Nat → Int32)), pn (N ++ M) s = pn M (pn N s)
  | [], _, _ => rfl
  | r :: N, M, s => pn_app N M _
theorem pn_le : ∀ (N : List Int32) (s : Nat × (Nat → Int32)), s.1 ≤ 40 → (pn N s).1 ≤ 40
  | [], _, q => q
  | r :: N, s, q => by
    rw [pn]
    by_cases c : 40 ≤ s.1
    · rw [if_pos c]; exact pn_le N s q
    · rw [if_neg c]; exact pn_le N _ (by show s.1 + 1 ≤ 40; omega)
theorem pn_eq : ∀ (N : List Int32) (t : Nat) (A B : Nat → Int32), (∀ k, k < t → A k = B k) → (pn N (t, A)).1 = (pn N (t, B)).1 ∧ ∀ k, k < (pn N (t, A)).1 → (pn N (t, A)).2 k = (pn N (t, B)).2 k
  | [], _, _, _, q => ⟨rfl, q⟩
  | r :: N, t, A, B, q => by
    rw [pn, pn]
    by_cases c : 40 ≤ t
    · rw [if_pos c, if_pos c]; exact pn_eq N t A B q
    · rw [if_neg c, if_neg c]
      refine pn_eq N (t + 1) (upd A t r) (upd B t r) (fun k hk => ?_)
      by_cases e : k = t
      · subst e; rw [upd_s, upd_s]
      · rw [upd_n _ _ e, upd_n _ _ e]; exact q k (by omega)
section
variable {h : Hp} {K l : Nat} {m : Int32}
def VS (K l : Nat) (m : Int32) (h : Hp) : Prop := h 103 2 = nI K ∧ h 103 3 = m ∧ h 103 4 = nI l ∧ sm (h 103 1) 40
def NC (h h1 : Hp) (N : List Int32) : Prop := (∀ q, q ≠ 103 → q ≠ 104 → h1 q = h q) ∧ (∀ i, i ≠ 1 → h1 103 i = h 103 i) ∧ h1 103 1 = nI (pn N (ci (h 103 1), h 104)).1 ∧ h1 104 = (pn N (ci (h 103 1), h 104)).2
theorem NC.vs {h1 : Hp} {N : List Int32} (a : NC h h1 N) (v : VS K l m h) : VS K l m h1 := by
  obtain ⟨v1, v2, v3, v4⟩ := v
  obtain ⟨a1, a2, a3, a4⟩ := a
  refine ⟨by rw [a2 2 (by decide)]; exact v1, by rw [a2 3 (by decide)]; exact v2, by rw [a2 4 (by decide)]; exact v3, ?_⟩
  rw [a3]
  exact ⟨_, pn_le N _ (sm_ci v4 (by decide)).2, rfl⟩
theorem NC.tr {h1 h2 : Hp} {N M : List Int32} (v : VS K l m h) (a : NC h h1 N) (b : NC h1 h2 M) : NC h h2 (N ++ M) := by
  have w := (a.vs v).2.2.2
  have le := pn_le N (ci (h 103 1), h 104) (sm_ci v.2.2.2 (by decide)).2
  obtain ⟨a1, a2, a3, a4⟩ := a
  obtain ⟨b1, b2, b3, b4⟩ := b
  rw [a3, a4, ci_nI (by omega)] at b3 b4
  refine ⟨fun q q1 q2 => (b1 q q1 q2).trans (a1 q q1 q2), fun i hi => (b2 i hi).trans (a2 i hi), ?_, ?_⟩
  · rw [b3, pn_app]
  · rw [b4, pn_app]
theorem note_n (v : VS K l m h) (r : Int32) : ∃ h1, f_4_note r h = some h1 ∧ NC h h1 [r] := by
  obtain ⟨s1, s2⟩ := sm_ci v.2.2.2 (by decide)
  generalize e : ci (h 103 1) = t at s1 s2
  unfold f_4_note NC
  rw [s1, ci_nI (by omega)]
  by_cases c : 40 ≤ t
  · refine ⟨h, by rw [if_pos (show (40 : Int32) ≤ nI t from nI_le (a := 40) c (by omega))], fun _ _ _ => rfl, fun _ _ => rfl, ?_, ?_⟩
    · rw [pn, if_pos c]; exact s1
    · rw [pn, if_pos c]; rfl
  · have c2 : ¬ (40 : Int32) ≤ nI t := nI_ge (b := 40) (by omega) (by decide)
    have e2 : u2 h 104 t r 103 1 = nI t := by rw [u2_p _ _ (by decide)]; exact s1
    refine ⟨u2 (u2 h 104 t r) 103 1 (nI (t + 1)), ?_, fun q q1 q2 => by rw [u2_p _ _ q1, u2_p _ _ q2], fun i hi => by rw [u2_k _ _ hi, u2_p _ _ (by decide)], ?_, ?_⟩
    · rw [if_neg c2, gd_s _ (inb_nI (show t < 40 by omega) (by decide)), hl_eq, e2, hl_eq, nI_1]
    · rw [pn, if_neg c, u2_s]; rfl
    · rw [pn, if_neg c, u2_p _ _ (by decide), u2_row]; rfl
theorem body_h (j : Int32) (h h' : Hp) : ∀ (n : Nat) (x y : Int32), f_4_bodyOf_4 j h n x y = f_4_bodyOf_4 j h' n x y
  | 0, _, _ => rfl
  | n + 1, x, y => by
    rw [f_4_bodyOf_4, f_4_bodyOf_4]
    have e : f_8_kindAbove x h = f_8_kindAbove x h' := rfl
    rw [e]
    have e2 : (fun r6 => f_4_bodyOf_4 j h n r6 (y + 1)) = (fun r6 => f_4_bodyOf_4 j h' n r6 (y + 1)) := funext (fun r => body_h j h h' n r (y + 1))
    rw [e2]
def bdt : List (List Int32) := [[10, 11, 12, 13], [20, 11, 12, 13], [10, 30, 12, 13], [10, 11, 40, 13], [20, 11, 12, 50], [10, 60, 12, 13], [10, 11, 70, 71]]
def bdc (c j : Nat) : Int32 := ((bdt[c]?.getD [])[j]?).getD 0
theorem body_t : ∀ c : Fin 7, ∀ j : Fin 4, f_4_bodyOf (nI c.val) (nI j.val) hz0 = some (bdc c.val j.val) := by decide +kernel
theorem body_e {c j : Nat} (hc : c ≤ 6) (hj : j ≤ 3) : f_4_bodyOf (nI c) (nI j) h = some (bdc c j) := by
  have q := body_t ⟨c, by omega⟩ ⟨j, by omega⟩
  rw [← q]
  exact body_h _ _ _ _ _ _
def QC (K l : Nat) (m : Int32) (c j d : Nat) (f : Int32 → Int32) (N : List Int32) : Prop := ∀ (x : Int32) (h : Hp) (dep n : Nat), VS K l m h → dep + d ≤ 20 → d < n → ∃ h1, k_4_from n (nI c) (nI j) x (nI dep) h = some (f x, h1) ∧ NC h h1 N
theorem QC.mono {c j d d2 : Nat} {f : Int32 → Int32} {N : List Int32} (q : QC K l m c j d f N) (e : d ≤ d2) : QC K l m c j d2 f N := fun x h dep n v a b => q x h dep n v (by omega) (by omega)
/-- a body begins: it is noted -/
theorem q_in {c j dep n : Nat} (hc : c ≤ 6) (hj : j ≤ 3) (hd : dep ≤ 20) (v : VS K l m h) (x : Int32) : ∃ h5, NC h h5 [bdc c j] ∧ VS K l m h5 ∧ k_4_from (n + 1) (nI c) (nI j) x (nI dep) h = (if bdc c j = 10 then (some (x + nI l, h5)) else (if bdc c j = 11 then (bnd2 (k_4_from n (nI K) (nI 0) x (nI (dep + 1)) h5) (fun r9 h10 => some (r9 * 2, h10))) else (if bdc c j = 12 then (some (x - m, h5)) else (if bdc c j = 13 then (bnd2 (k_4_from n (nI K) (nI 1) x (nI (dep + 1)) h5) (fun r14 h15 => bnd2 (k_4_from n (h15 103 2) (nI 2) x (nI (dep + 1)) h15) (fun r17 h18 => some (r14 ^^^ r17, h18)))) else (if bdc c j = 20 then (bnd2 (k_4_from n (nI 0) (nI 0) x (nI (dep + 1)) h5) (fun r21 h22 => some (r21 * 3, h22))) else (if bdc c j = 30 then (bnd2 (k_4_from n (nI 0) (nI 1) x (nI (dep + 1)) h5) (fun r25 h26 => bnd2 (k_4_from n (h26 103 2) (nI 2) 1 (nI (dep + 1)) h26) (fun r28 h29 => some (r25 - r28, h29)))) else (if bdc c j = 40 then (bnd2 (k_4_from n (nI 0) (nI 2) x (nI (dep + 1)) h5) (fun r32 h33 => some (-r32, h33))) else (if bdc c j = 50 then (bnd2 (k_4_from n (nI 1) (nI 3) x (nI (dep + 1)) h5) (fun r36 h37 => bnd2 (k_4_from n (h37 103 2) (nI 0) 2 (nI (dep + 1)) h37) (fun r39 h40 => some (r36 - r39, h40)))) else (if bdc c j = 60 then (bnd2 (k_4_from n (nI 2) (nI 1) (x + 1) (nI (dep + 1)) h5) (fun r43 h44 => some (r43, h44))) else (if bdc c j = 70 then (bnd2 (k_4_from n (nI 3) (nI 2) x (nI (dep + 1)) h5) (fun r47 h48 => some (r47 ^^^ (h48 103 4), h48))) else (if bdc c j = 71 then (bnd2 (k_4_from n (nI K) (nI 1) x (nI (dep + 1)) h5) (fun r51 h52 => bnd2 (k_4_from n (nI 3) (nI 3) x (nI (dep + 1)) h52) (fun r54 h55 => some (r51 - r54, h55)))) else (some (0, h5))))))))))))) := by
  obtain ⟨h5, a1, a2⟩ := note_n v (bdc c j)
  have v5 := a2.vs v
  refine ⟨h5, a2, v5, ?_⟩
  obtain ⟨v1, v2, v3, _⟩ := v5
  show b_4_from (k_4_from n) (nI c) (nI j) x (nI dep) h = _
  unfold b_4_from
  have c20 : nI dep ≤ (20 : Int32) := nI_le (b := 20) hd (by decide)
  rw [if_pos c20, body_e hc hj, bnd_s, a1, bnd_s, nI_1, v1, v2, v3]
  rfl
theorem qc_10 {c j : Nat} (hc : c ≤ 6) (hj : j ≤ 3) (b : bdc c j = 10) : QC K l m c j 0 (fun x => x + nI l) [10] := fun x h dep n v a e => by
  obtain ⟨n, rfl⟩ : ∃ z, n = z + 1 := ⟨n - 1, by omega⟩
  obtain ⟨h5, a1, a2, a3⟩ := q_in (n := n) hc hj (show dep ≤ 20 by omega) v x
  rw [b] at a1 a3
  exact ⟨h5, by rw [a3]; rfl, a1⟩
theorem qc_12 {c j : Nat} (hc : c ≤ 6) (hj : j ≤ 3) (b : bdc c j = 12) : QC K l m c j 0 (fun x => x - m) [12] := fun x h dep n v a e => by
  obtain ⟨n, rfl⟩ : ∃ z, n = z + 1 := ⟨n - 1, by omega⟩
  obtain ⟨h5, a1, a2, a3⟩ := q_in (n := n) hc hj (show dep ≤ 20 by omega) v x
  rw [b] at a1 a3
  exact ⟨h5, by rw [a3, if_neg (by decide), if_neg (by decide), if_pos (by decide)], a1⟩
theorem qc_11 {c j d : Nat} {f : Int32 → Int32} {N : List Int32} (hc : c ≤ 6) (hj : j ≤ 3) (b : bdc c j = 11) (q : QC K l m K 0 d f N) : QC K l m c j (d + 1) (fun x => f x * 2) (11 :: N) := fun x h dep n v a e => by
  obtain ⟨n, rfl⟩ : ∃ z, n = z + 1 := ⟨n - 1, by omega⟩
  obtain ⟨h5, a1, a2, a3⟩ := q_in (n := n) hc hj (show dep ≤ 20 by omega) v x
  rw [b] at a1 a3
  obtain ⟨h6, b1, b2⟩ := q x h5 (dep + 1) n a2 (by omega) (by omega)
  exact ⟨h6, by rw [a3, if_neg (by decide), if_pos (by decide), b1, bnd2_s], a1.tr v b2⟩
theorem qc_20 {c j d : Nat} {f : Int32 → Int32} {N : List Int32} (hc : c ≤ 6) (hj : j ≤ 3) (b : bdc c j = 20) (q : QC K l m 0 0 d f N) : QC K l m c j (d + 1) (fun x => f x * 3) (20 :: N) := fun x h dep n v a e => by
  obtain ⟨n, rfl⟩ : ∃ z, n = z + 1 := ⟨n - 1, by omega⟩
  obtain ⟨h5, a1, a2, a3⟩ := q_in (n := n) hc hj (show dep ≤ 20 by omega) v x
  rw [b] at a1 a3
  obtain ⟨h6, b1, b2⟩ := q x h5 (dep + 1) n a2 (by omega) (by omega)
  exact ⟨h6, by rw [a3, if_neg (by decide), if_neg (by decide), if_neg (by decide), if_neg (by decide), if_pos (by decide), b1, bnd2_s], a1.tr v b2⟩
theorem qc_40 {c j d : Nat} {f : Int32 → Int32} {N : List Int32} (hc : c ≤ 6) (hj : j ≤ 3) (b : bdc c j = 40) (q : QC K l m 0 2 d f N) : QC K l m c j (d + 1) (fun x => -(f x)) (40 :: N) := fun x h dep n v a e => by
  obtain ⟨n, rfl⟩ : ∃ z, n = z + 1 := ⟨n - 1, by omega⟩
  obtain ⟨h5, a1, a2, a3⟩ := q_in (n := n) hc hj (show dep ≤ 20 by omega) v x
  rw [b] at a1 a3
  obtain ⟨h6, b1, b2⟩ := q x h5 (dep + 1) n a2 (by omega) (by omega)
  exact ⟨h6, by rw [a3, if_neg (by decide), if_neg (by decide), if_neg (by decide), if_neg (by decide), if_neg (by decide), if_neg (by decide), if_pos (by decide), b1, bnd2_s], a1.tr v b2⟩
theorem qc_60 {c j d : Nat} {f : Int32 → Int32} {N : List Int32} (hc : c ≤ 6) (hj : j ≤ 3) (b : bdc c j = 60) (q : QC K l m 2 1 d f N) : QC K l m c j (d + 1) (fun x => f (x + 1)) (60 :: N) := fun x h dep n v a e => by
  obtain ⟨n, rfl⟩ : ∃ z, n = z + 1 := ⟨n - 1, by omega⟩
  obtain ⟨h5, a1, a2, a3⟩ := q_in (n := n) hc hj (show dep ≤ 20 by omega) v x
  rw [b] at a1 a3
  obtain ⟨h6, b1, b2⟩ := q (x + 1) h5 (dep + 1) n a2 (by omega) (by omega)
  exact ⟨h6, by rw [a3, if_neg (by decide), if_neg (by decide), if_neg (by decide), if_neg (by decide), if_neg (by decide), if_neg (by decide), if_neg (by decide), if_neg (by decide), if_pos (by decide), b1, bnd2_s], a1.tr v b2⟩
theorem qc_70 {c j d : Nat} {f : Int32 → Int32} {N : List Int32} (hc : c ≤ 6) (hj : j ≤ 3) (b : bdc c j = 70) (q : QC K l m 3 2 d f N) : QC K l m c j (d + 1) (fun x => f x ^^^ nI l) (70 :: N) := fun x h dep n v a e => by
  obtain ⟨n, rfl⟩ : ∃ z, n = z + 1 := ⟨n - 1, by omega⟩
  obtain ⟨h5, a1, a2, a3⟩ := q_in (n := n) hc hj (show dep ≤ 20 by omega) v x
  rw [b] at a1 a3
  obtain ⟨h6, b1, b2⟩ := q x h5 (dep + 1) n a2 (by omega) (by omega)
  have v6 := b2.vs a2
  exact ⟨h6, by rw [a3, if_neg (by decide), if_neg (by decide), if_neg (by decide), if_neg (by decide), if_neg (by decide), if_neg (by decide), if_neg (by decide), if_neg (by decide), if_neg (by decide), if_pos (by decide), b1, bnd2_s, v6.2.2.1], a1.tr v b2⟩
theorem qc_13 {c j d : Nat} {f g : Int32 → Int32} {N M : List Int32} (hc : c ≤ 6) (hj : j ≤ 3) (b : bdc c j = 13) (q : QC K l m K 1 d f N) (r : QC K l m K 2 d g M) : QC K l m c j (d + 1) (fun x => f x ^^^ g x) (13 :: (N ++ M)) := fun x h dep n v a e => by
  obtain ⟨n, rfl⟩ : ∃ z, n = z + 1 := ⟨n - 1, by omega⟩
  obtain ⟨h5, a1, a2, a3⟩ := q_in (n := n) hc hj (show dep ≤ 20 by omega) v x
  rw [b] at a1 a3
  obtain ⟨h6, b1, b2⟩ := q x h5 (dep + 1) n a2 (by omega) (by omega)
  have v6 := b2.vs a2
  obtain ⟨h7, c1, c2⟩ := r x h6 (dep + 1) n v6 (by omega) (by omega)
  exact ⟨h7, by rw [a3, if_neg (by decide), if_neg (by decide), if_neg (by decide), if_pos (by decide), b1, bnd2_s, v6.1, c1, bnd2_s], a1.tr v (b2.tr a2 c2)⟩
theorem qc_30 {c j d : Nat} {f g : Int32 → Int32} {N M : List Int32} (hc : c ≤ 6) (hj : j ≤ 3) (b : bdc c j = 30) (q : QC K l m 0 1 d f N) (r : QC K l m K 2 d g M) : QC K l m c j (d + 1) (fun x => f x - g 1) (30 :: (N ++ M)) := fun x h dep n v a e => by
  obtain ⟨n, rfl⟩ : ∃ z, n = z + 1 := ⟨n - 1, by omega⟩
  obtain ⟨h5, a1, a2, a3⟩ := q_in (n := n) hc hj (show dep ≤ 20 by omega) v x
  rw [b] at a1 a3
  obtain ⟨h6, b1, b2⟩ := q x h5 (dep + 1) n a2 (by omega) (by omega)
  have v6 := b2.vs a2
  obtain ⟨h7, c1, c2⟩ := r 1 h6 (dep + 1) n v6 (by omega) (by omega)
  exact ⟨h7, by rw [a3, if_neg (by decide), if_neg (by decide), if_neg (by decide), if_neg (by decide), if_neg (by decide), if_pos (by decide), b1, bnd2_s, v6.1, c1, bnd2_s], a1.tr v (b2.tr a2 c2)⟩
theorem qc_50 {c j d : Nat} {f g : Int32 → Int32} {N M : List Int32} (hc : c ≤ 6) (hj : j ≤ 3) (b : bdc c j = 50) (q : QC K l m 1 3 d f N) (r : QC K l m K 0 d g M) : QC K l m c j (d + 1) (fun x => f x - g 2) (50 :: (N ++ M)) := fun x h dep n v a e => by
  obtain ⟨n, rfl⟩ : ∃ z, n = z + 1 := ⟨n - 1, by omega⟩
  obtain ⟨h5, a1, a2, a3⟩ := q_in (n := n) hc hj (show dep ≤ 20 by omega) v x
  rw [b] at a1 a3
  obtain ⟨h6, b1, b2⟩ := q x h5 (dep + 1) n a2 (by omega) (by omega)
  have v6 := b2.vs a2
  obtain ⟨h7, c1, c2⟩ := r 2 h6 (dep + 1) n v6 (by omega) (by omega)
  exact ⟨h7, by rw [a3, if_neg (by decide), if_neg (by decide), if_neg (by decide), if_neg (by decide), if_neg (by decide), if_neg (by decide), if_neg (by decide), if_pos (by decide), b1, bnd2_s, v6.1, c1, bnd2_s], a1.tr v (b2.tr a2 c2)⟩
theorem qc_71 {c j d : Nat} {f g : Int32 → Int32} {N M : List Int32} (hc : c ≤ 6) (hj : j ≤ 3) (b : bdc c j = 71) (q : QC K l m K 1 d f N) (r : QC K l m 3 3 d g M) : QC K l m c j (d + 1) (fun x => f x - g x) (71 :: (N ++ M)) := fun x h dep n v a e => by
  obtain ⟨n, rfl⟩ : ∃ z, n = z + 1 := ⟨n - 1, by omega⟩
  obtain ⟨h5, a1, a2, a3⟩ := q_in (n := n) hc hj (show dep ≤ 20 by omega) v x
  rw [b] at a1 a3
  obtain ⟨h6, b1, b2⟩ := q x h5 (dep + 1) n a2 (by omega) (by omega)
  have v6 := b2.vs a2
  obtain ⟨h7, c1, c2⟩ := r x h6 (dep + 1) n v6 (by omega) (by omega)
  exact ⟨h7, by rw [a3, if_neg (by decide), if_neg (by decide), if_neg (by decide), if_neg (by decide), if_neg (by decide), if_neg (by decide), if_neg (by decide), if_neg (by decide), if_neg (by decide), if_neg (by decide), if_pos (by decide), b1, bnd2_s, c1, bnd2_s], a1.tr v (b2.tr a2 c2)⟩
/-! the values -/
def vF (l c : Nat) (x : Int32) : Int32 := if c = 1 ∨ c = 4 then (x + nI l) * 3 else x + nI l
def nF (c : Nat) : List Int32 := if c = 1 ∨ c = 4 then [20, 10] else [10]
def vE (l : Nat) (m : Int32) (c : Nat) (x : Int32) : Int32 := if c = 3 then -(x - m) else if c = 6 then (-(x - m)) ^^^ nI l else x - m
def nE (c : Nat) : List Int32 := if c = 3 then [40, 12] else if c = 6 then [70, 40, 12] else [12]
def vS2 (K l : Nat) (m : Int32) (x : Int32) : Int32 := vF l K x * 2 - vE l m K 1
def nS2 (K : Nat) : List Int32 := 30 :: ((11 :: nF K) ++ nE K)
def vS (K l : Nat) (m : Int32) (c : Nat) (x : Int32) : Int32 := if c = 2 then vS2 K l m x else if c = 5 then vS2 K l m (x + 1) else vF l K x * 2
def nS (K c : Nat) : List Int32 := if c = 2 then nS2 K else if c = 5 then 60 :: nS2 K else 11 :: nF K
def vT0 (K l : Nat) (m : Int32) (x : Int32) : Int32 := vS K l m K x ^^^ vE l m K x
def nT0 (K : Nat) : List Int32 := 13 :: (nS K K ++ nE K)
def vT (K l : Nat) (m : Int32) (c : Nat) (x : Int32) : Int32 := if c = 4 then vT0 K l m x - vF l K 2 else if c = 6 then vS K l m K x - vT0 K l m x else vT0 K l m x
def nT (K c : Nat) : List Int32 := if c = 4 then 50 :: (nT0 K ++ nF K) else if c = 6 then 71 :: (nS K K ++ nT0 K) else nT0 K
theorem vcF {c : Nat} (hc : c ≤ 6) : QC K l m c 0 1 (vF l c) (nF c) := by
  have z : QC K l m 0 0 0 (fun x => x + nI l) [10] := qc_10 (by decide) (by decide) (by decide)
  obtain rfl | rfl | rfl | rfl | rfl | rfl | rfl : c = 0 ∨ c = 1 ∨ c = 2 ∨ c = 3 ∨ c = 4 ∨ c = 5 ∨ c = 6 := by omega
  · exact QC.mono z (by decide)
  · exact qc_20 (by decide) (by decide) (by decide) z
  · exact QC.mono (qc_10 (by decide) (by decide) (by decide)) (by decide)
  · exact QC.mono (qc_10 (by decide) (by decide) (by decide)) (by decide)
  · exact qc_20 (by decide) (by decide) (by decide) z
  · exact QC.mono (qc_10 (by decide) (by decide) (by decide)) (by decide)
  · exact QC.mono (qc_10 (by decide) (by decide) (by decide)) (by decide)
theorem vcE {c : Nat} (hc : c ≤ 6) : QC K l m c 2 2 (vE l m c) (nE c) := by
  have z : QC K l m 0 2 0 (fun x => x - m) [12] := qc_12 (by decide) (by decide) (by decide)
  have z3 : QC K l m 3 2 1 (fun x => -(x - m)) [40, 12] := qc_40 (by decide) (by decide) (by decide) z
  obtain rfl | rfl | rfl | rfl | rfl | rfl | rfl : c = 0 ∨ c = 1 ∨ c = 2 ∨ c = 3 ∨ c = 4 ∨ c = 5 ∨ c = 6 := by omega
  · exact QC.mono z (by decide)
  · exact QC.mono (qc_12 (by decide) (by decide) (by decide)) (by decide)
  · exact QC.mono (qc_12 (by decide) (by decide) (by decide)) (by decide)
  · exact QC.mono z3 (by decide)
  · exact QC.mono (qc_12 (by decide) (by decide) (by decide)) (by decide)
  · exact QC.mono (qc_12 (by decide) (by decide) (by decide)) (by decide)
  · exact qc_70 (by decide) (by decide) (by decide) z3
theorem vcS (hK : K ≤ 6) {c : Nat} (hc : c ≤ 6) : QC K l m c 1 4 (vS K l m c) (nS K c) := by
  have f : ∀ c, c ≤ 6 → bdc c 1 = 11 → QC K l m c 1 2 (fun x => vF l K x * 2) (11 :: nF K) := fun c hc b => qc_11 hc (by decide) b (vcF hK)
  have z2 : QC K l m 2 1 3 (vS2 K l m) (nS2 K) := qc_30 (by decide) (by decide) (by decide) (f 0 (by decide) (by decide)) (vcE hK)
  obtain rfl | rfl | rfl | rfl | rfl | rfl | rfl : c = 0 ∨ c = 1 ∨ c = 2 ∨ c = 3 ∨ c = 4 ∨ c = 5 ∨ c = 6 := by omega
  · exact QC.mono (f _ (by decide) (by decide)) (by decide)
  · exact QC.mono (f _ (by decide) (by decide)) (by decide)
  · exact QC.mono z2 (by decide)
  · exact QC.mono (f _ (by decide) (by decide)) (by decide)
  · exact QC.mono (f _ (by decide) (by decide)) (by decide)
  · exact qc_60 (by decide) (by decide) (by decide) z2
  · exact QC.mono (f _ (by decide) (by decide)) (by decide)
theorem vcT (hK : K ≤ 6) {c : Nat} (hc : c ≤ 6) : QC K l m c 3 6 (vT K l m c) (nT K c) := by
  have f : ∀ c, c ≤ 6 → bdc c 3 = 13 → QC K l m c 3 5 (vT0 K l m) (nT0 K) := fun c hc b => qc_13 hc (by decide) b (vcS hK hK) (QC.mono (vcE hK) (by decide))
  obtain rfl | rfl | rfl | rfl | rfl | rfl | rfl : c = 0 ∨ c = 1 ∨ c = 2 ∨ c = 3 ∨ c = 4 ∨ c = 5 ∨ c = 6 := by omega
  · exact QC.mono (f _ (by decide) (by decide)) (by decide)
  · exact QC.mono (f _ (by decide) (by decide)) (by decide)
  · exact QC.mono (f _ (by decide) (by decide)) (by decide)
  · exact QC.mono (f _ (by decide) (by decide)) (by decide)
  · exact qc_50 (by decide) (by decide) (by decide) (f 1 (by decide) (by decide)) (QC.mono (vcF hK) (by decide))
  · exact QC.mono (f _ (by decide) (by decide)) (by decide)
  · exact qc_71 (by decide) (by decide) (by decide) (QC.mono (vcS hK hK) (by decide)) (f 3 (by decide) (by decide))
end
