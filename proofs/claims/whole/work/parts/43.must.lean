/-! must -/
section
variable {h : Hp}
def mb (h : Hp) (p : Nat) : Nat → Nat → Int32 → Int32
  | 0, _, acc => acc
  | d + 1, k, acc => mb h p d (k + 1) (if sv h p k 1 = 0 then acc else acc ||| (1 <<< (nI k &&& 31)))
theorem must_c (x : INV h) {l n : Nat} (hl : l < ci (h 1 11)) (hn : h (36 + 2 * l) 5 = nI n) (n15 : n ≤ 15) : ∀ (d k m : Nat) (acc : Int32) (h0 : Hp), n = k + d → d < m → PF h h0 → ∃ h1, PF h h1 ∧ f_8_must_29 (36 + 2 * l) m acc (nI k) h0 = some (mb h (36 + 2 * l) d k acc, h1)
  | 0, k, m, acc, h0, e1, e2, f => by
    obtain ⟨m, rfl⟩ : ∃ z, m = z + 1 := ⟨m - 1, by omega⟩
    have l6 := x.L.2
    refine ⟨h0, f, ?_⟩
    rw [f_8_must_29, f.1 (36 + 2 * l) (by unfold scr; omega), hn, if_pos (nI_le (by omega) (by omega))]
    rfl
  | d + 1, k, m, acc, h0, e1, e2, f => by
    obtain ⟨m, rfl⟩ : ∃ z, m = z + 1 := ⟨m - 1, by omega⟩
    have l6 := x.L.2
    have x0 := f.inv x
    obtain ⟨h1, a1, a2⟩ := seen_c x0.T6 (x0.line (l := l) (by rw [f.L]; exact hl)) (show k ≤ 45 by omega) 1
    rw [sv_cong f.rd (by omega) (by omega)] at a1
    obtain ⟨h2, b1, b2⟩ := must_c x hl hn n15 d (k + 1) m (if sv h (36 + 2 * l) k 1 = 0 then acc else acc ||| (1 <<< (nI k &&& 31))) h1 (by omega) (by omega) (f.tr (pf8 a2))
    refine ⟨h2, b1, ?_⟩
    rw [f_8_must_29, f.1 (36 + 2 * l) (by unfold scr; omega), hn, if_neg (nI_ge (by omega) (by omega)), a1, bnd2_s, nI_1]
    unfold mb
    rw [← b2]
    by_cases z : sv h (36 + 2 * l) k 1 = 0
    · rw [if_pos z, if_pos z]
    · rw [if_neg z, if_neg z]
theorem must_m (x : INV h) {l n : Nat} (hl : l < ci (h 1 11)) (hn : h (36 + 2 * l) 5 = nI n) (n15 : n ≤ 15) : ∀ (d k m : Nat) (acc : Int32) (h0 : Hp), n = k + d → d < m → PF h h0 → ∃ h1, PF h h1 ∧ f_9_must_18 (nI l) m acc (nI k) h0 = some (mb h (36 + 2 * l) d k acc, h1)
  | 0, k, m, acc, h0, e1, e2, f => by
    obtain ⟨m, rfl⟩ : ∃ z, m = z + 1 := ⟨m - 1, by omega⟩
    have l6 := x.L.2
    have o3 : f_9_of (nI l) 3 h0 = some (nI n) := by
      have q := of_m (h := h0) (l := l) (k := 3) (by omega) (by decide)
      rw [f.D, x.D5 l hl 3 (by decide)] at q
      exact q.trans (congrArg some hn)
    refine ⟨h0, f, ?_⟩
    rw [f_9_must_18, o3, bnd_s, if_pos (nI_le (by omega) (by omega))]
    rfl
  | d + 1, k, m, acc, h0, e1, e2, f => by
    obtain ⟨m, rfl⟩ : ∃ z, m = z + 1 := ⟨m - 1, by omega⟩
    have l6 := x.L.2
    have x0 := f.inv x
    obtain ⟨K, mm, b, n', z, w, ⟨_, _, _, _, bn, _⟩, ⟨c1, c1'⟩, ⟨c2, c2'⟩, ⟨c3, c3'⟩, ⟨c4, _⟩, _⟩ := x.line hl
    have nn : n' = n := (nI_eq (by omega) (by omega)).mp (c4.symm.trans hn)
    have o3 : f_9_of (nI l) 3 h0 = some (nI n) := by
      have q := of_m (h := h0) (l := l) (k := 3) (by omega) (by decide)
      rw [f.D, x.D5 l hl 3 (by decide)] at q
      exact q.trans (congrArg some hn)
    have o2 : f_9_of (nI l) 2 h0 = some (nI b) := by
      have q := of_m (h := h0) (l := l) (k := 2) (by omega) (by decide)
      rw [f.D, x.D5 l hl 2 (by decide)] at q
      exact q.trans (congrArg some c3)
    have st : ∀ (h2 : Hp), PF h h2 → ∃ h1, PF h h1 ∧ f_9_must_18 (nI l) m (if sv h (36 + 2 * l) k 1 = 0 then acc else acc ||| (1 <<< (nI k &&& 31))) (nI k + 1) h2 = some (mb h (36 + 2 * l) (d + 1) k acc, h1) := fun h2 f2 => by
      obtain ⟨h3, b1, b2⟩ := must_m x hl hn n15 d (k + 1) m (if sv h (36 + 2 * l) k 1 = 0 then acc else acc ||| (1 <<< (nI k &&& 31))) h2 (by omega) (by omega) f2
      exact ⟨h3, b1, by rw [nI_1, b2]; rfl⟩
    have svd : sv h (36 + 2 * l) k 1 = if h 2 (b + k) = 3 then 0 else f_8_seenOf (nI K) (nI mm) (tA h 6 0 (h 2 (b + k)) 1 (nI k)) := by
      unfold sv
      rw [c4, c3, c1, c2, ci_nI (by omega), ci_nI (by omega), if_neg (show ¬ n' ≤ k by omega)]
    have ek : 24 + nI b + nI k = nI (24 + (b + k)) := by rw [lit_nI 24, nI_add, nI_add, Nat.add_assoc]
    have g := inb_nI (show 24 + (b + k) < 380 by omega) (by decide)
    rw [f_9_must_18, o3, bnd_s, if_neg (nI_ge (by omega) (by omega)), o2, bnd_s, ek, gd_s _ g, ci_nI (by omega), f.D, x.film (b + k) (by omega)]
    by_cases z3 : h 2 (b + k) = 3
    · rw [svd, if_pos z3, if_pos (show (0 : Int32) = 0 from rfl)] at st
      rw [if_pos z3, Int32.or_zero]
      exact st h0 f
    · obtain ⟨h2, t1, t2⟩ := apart_m x0.T6 (h 2 (b + k)) 1 (nI k)
      rw [tA_pf f.rd (Or.inl rfl)] at t1
      have m2 : h2 115 = h 115 := (t2.pf.D).trans f.D
      have s2 := seen_m (h := h2) (l := l) (K := 0) (m := 0) (W := 0) (by omega) (tA h 6 0 (h 2 (b + k)) 1 (nI k))
      rw [m2, c1', show 155 + 9 * l = 154 + 9 * l + 1 by omega, c2'] at s2
      rw [svd, if_neg z3] at st
      have q := st h2 (f.tr t2.pf)
      rw [if_neg z3, t1, bnd2_s, s2, bnd_s]
      by_cases z0 : f_8_seenOf (nI K) (nI mm) (tA h 6 0 (h 2 (b + k)) 1 (nI k)) = 0
      · rw [if_pos z0] at q ⊢
        rw [Int32.or_zero]
        exact q
      · rw [if_neg z0] at q ⊢
        exact q
theorem mb_cong {h1 : Hp} {p : Nat} (f : RD h h1) (p1 : 36 ≤ p) (p2 : p < 47) : ∀ (d k : Nat) (acc : Int32), mb h1 p d k acc = mb h p d k acc
  | 0, _, _ => rfl
  | d + 1, k, acc => by
    unfold mb
    rw [sv_cong f p1 p2, mb_cong f p1 p2 d]
theorem al_must (X : AI h) (a : Int32) : Al (f_8_must a) (f_9_must a) h := by
  have x := X.1
  rcases isLine_k x a with ⟨r, q⟩ | ⟨r, q, l, hl, rfl⟩
  · refine Al.er X (k := 1) (by decide) (by decide) ?_ (fun h1 f => ?_)
    · unfold f_8_must
      rw [r, if_pos rfl, b2_id]; rfl
    · unfold f_9_must
      rw [q h1 (f 115 (by decide)), bnd_s, if_pos rfl, b2_id]; rfl
  have l6 := x.L.2
  have gl : inb (nI l) 6 = true := inb_nI (by omega) (by decide)
  obtain ⟨K, mm, b, n, z, w, ⟨_, _, _, n15, _⟩, _, _, _, ⟨c4, _⟩, _⟩ := x.line hl
  obtain ⟨h1, a1, a2⟩ := must_c x hl c4 n15 n 0 FU 0 h (by omega) (by show _ < 4096; omega) (PF.rf h)
  have y1 := a1.inv x
  obtain ⟨h2, b1, b2⟩ := must_m y1 (l := l) (n := n) (by rw [a1.L]; exact hl) (by rw [a1.1 (36 + 2 * l) (by unfold scr; omega)]; exact c4) n15 n 0 FU 0 h1 (by omega) (by show _ < 4096; omega) (PF.rf h1)
  rw [mb_cong a1.rd (by omega) (by omega)] at b2
  refine ⟨mb h (36 + 2 * l) n 0 0, h1, h2, ?_, ?_, b1.ai (a1.ai X)⟩
  · unfold f_8_must
    rw [r, if_neg (by decide), gd_s _ gl, ci_nI (by omega)]
    exact a2
  · unfold f_9_must
    rw [q h1 a1.D, bnd_s, if_neg (by decide)]
    exact b2
end
