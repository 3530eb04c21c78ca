/-! off, loss and notice of a line, in both, and alike in every alike world -/
section
variable {h h1 : Hp}
theorem of_cong (x : INV h) (f : RD h h1) {l : Nat} (hl : l < ci (h 1 11)) : of_ h1 (36 + 2 * l) = of_ h (36 + 2 * l) := by
  have l6 := x.L.2
  have w10 := x.W.2
  obtain ⟨r1, r2, r3, r4⟩ := x.row hl
  unfold of_
  rw [f (36 + 2 * l) (by omega) (by omega) (by omega) (by omega) (by omega)]
  refine ov_cong f (by omega) (by omega) (fun t ht => ⟨by have := (r4 t ht).1; omega, ?_⟩)
  unfold rw_
  rw [f (36 + 2 * l + 1) (by omega) (by omega) (by omega) (by omega) (by omega)]
theorem ls_cong {R R1 : Nat → Nat} (f : RD h h1) : ∀ (d k : Nat) (acc : Int32), (∀ t, t < k + d → R t < 10 ∧ R1 t = R t) → ls h1 R1 d k acc = ls h R d k acc
  | 0, _, _, _ => rfl
  | d + 1, k, acc, g => by
    obtain ⟨a, b⟩ := g k (by omega)
    show ls h1 R1 d (k + 1) _ = ls h R d (k + 1) _
    rw [b, f (16 + 2 * R k) (by omega) (by omega) (by omega) (by omega) (by omega), ls_cong f d (k + 1) _ (fun t ht => g t (by omega))]
theorem lo_cong {p z : Nat} {R R1 : Nat → Nat} (f : RD h h1) (p1 : 36 ≤ p) (p2 : p < 47) (g : ∀ t, t < z → R t < 10 ∧ R1 t = R t) : lo_ h1 p R1 z = lo_ h p R z := by
  unfold lo_
  rw [ls_cong f z 0 0 (fun t ht => g t (by omega)), f p (by omega) (by omega) (by omega) (by omega) (by omega)]
theorem los_cong (x : INV h) (f : RD h h1) {l : Nat} (hl : l < ci (h 1 11)) : los h1 (36 + 2 * l) = los h (36 + 2 * l) := by
  have l6 := x.L.2
  have w10 := x.W.2
  obtain ⟨r1, r2, r3, r4⟩ := x.row hl
  unfold los
  rw [f (36 + 2 * l) (by omega) (by omega) (by omega) (by omega) (by omega)]
  refine lo_cong f (by omega) (by omega) (fun t ht => ⟨by have := (r4 t ht).1; omega, ?_⟩)
  unfold rw_
  rw [f (36 + 2 * l + 1) (by omega) (by omega) (by omega) (by omega) (by omega)]
theorem tA_pf (f : RD h h1) {p u : Nat} (hp : p = 6 ∨ p = 9) (a b c : Int32) : tA h1 p u a b c = tA h p u a b c := by
  rcases hp with rfl | rfl
  · exact tA_cong (f 6 (by decide) (by decide) (by decide) (by decide) (by decide)) (f 7 (by decide) (by decide) (by decide) (by decide) (by decide)) a b c
  · exact tA_cong (f 9 (by decide) (by decide) (by decide) (by decide) (by decide)) (f 10 (by decide) (by decide) (by decide) (by decide) (by decide)) a b c
/-- whether the line at p is noticed at the minute m -/
def ntc (h : Hp) (p : Nat) (m : Int32) : Int32 := tA h 9 1 (of_ h p) (los h p) m
theorem ntc_cong (x : INV h) (f : RD h h1) {l : Nat} (hl : l < ci (h 1 11)) (m : Int32) : ntc h1 (36 + 2 * l) m = ntc h (36 + 2 * l) m := by
  unfold ntc
  rw [of_cong x f hl, los_cong x f hl, tA_pf f (Or.inr rfl)]
theorem pf8 (a : ∀ q, q ≠ 8 → h1 q = h q) : PF h h1 := PF.c (by unfold scr; decide) (by decide) a
theorem pf11 (a : ∀ q, q ≠ 11 → h1 q = h q) : PF h h1 := PF.c (by unfold scr; decide) (by decide) a
theorem PF.L (f : PF h h1) : ci (h1 1 11) = ci (h 1 11) := by rw [f.1 1 (by unfold scr; decide)]
theorem PF.M (f : PF h h1) : h1 1 = h 1 := f.1 1 (by unfold scr; decide)
theorem PF.D (f : PF h h1) : h1 115 = h 115 := f.1 115 (by unfold scr; decide)
theorem noticed_c (x : INV h) {l : Nat} (hl : l < ci (h 1 11)) : ∃ h1 h2, f_7_off (36 + 2 * l) h = some (of_ h (36 + 2 * l), h1) ∧ f_7_loss (36 + 2 * l) h1 = some (los h (36 + 2 * l)) ∧ h1 1 14 = h 1 14 ∧ f_7_noticeBy (of_ h (36 + 2 * l)) (los h (36 + 2 * l)) (h 1 14) h1 = some (ntc h (36 + 2 * l) (h 1 14), h2) ∧ PF h h2 := by
  obtain ⟨h1, a1, a2⟩ := off_c x hl
  have p1 := pf8 a2
  have x1 := p1.inv x
  have b := loss_c x1 (l := l) (by rw [p1.L]; exact hl)
  rw [los_cong x p1.rd hl] at b
  obtain ⟨h2, c1, c2⟩ := notice_c x1.T9 (of_ h (36 + 2 * l)) (los h (36 + 2 * l)) (h 1 14)
  rw [tA_pf p1.rd (Or.inr rfl)] at c1
  exact ⟨h1, h2, a1, b, by rw [p1.M], c1, p1.tr (pf11 c2)⟩
theorem offOf_m (x : INV h) {l : Nat} (hl : l < ci (h 1 11)) : ∃ h1, f_9_offOf (nI l) h = some (of_ h (36 + 2 * l), h1) ∧ PF h h1 := by
  obtain ⟨h1, a1, a2, a3, a4⟩ := takes0_m x hl
  have l6 := x.L.2
  have x1 := a2.inv x
  obtain ⟨r1, r2, r3, r4⟩ := x.row hl
  have hl1 : l < ci (h1 1 11) := by rw [a2.L]; exact hl
  obtain ⟨h2, b1, b2, b3⟩ := offNow_m (h := h1) (R := rw_ h (36 + 2 * l)) x1.T6 (x1.line hl1) (by omega) x1.film r2 a3 a4 (x1.WM (fun t ht => by rw [a2.M]; exact (r4 t ht).1))
  refine ⟨h2, ?_, a2.tr b1.pf⟩
  unfold f_9_offOf
  rw [a1, bnd_s, b3, bnd2_s]
  have w10 := x.W.2
  rw [ov_cong a2.rd (by omega) (by omega) (fun t ht => ⟨by have := (r4 t ht).1; omega, rfl⟩)]
  rfl
theorem lossOf_m (x : INV h) {l : Nat} (hl : l < ci (h 1 11)) : ∃ h1, f_9_lossOf (nI l) h = some (los h (36 + 2 * l), h1) ∧ PF h h1 := by
  obtain ⟨h1, a1, a2, a3, a4⟩ := takes0_m x hl
  have l6 := x.L.2
  have w10 := x.W.2
  have x1 := a2.inv x
  obtain ⟨r1, r2, r3, r4⟩ := x.row hl
  have hl1 : l < ci (h1 1 11) := by rw [a2.L]; exact hl
  obtain ⟨K, m, b, n, z, w, ⟨_, _, _, _, _, _, w9⟩, _, _, _, _, ⟨c1, c2⟩, _⟩ := x1.line hl1
  have rr : ∀ t, t < ci (h (36 + 2 * l) 1) → rw_ h (36 + 2 * l) t < ci (h1 1 10) := fun t ht => by rw [a2.M]; exact (r4 t ht).1
  have q := loss4_m (h := h1) (l := l) (R := rw_ h (36 + 2 * l)) (by omega) (by rw [← c2]; congr 1; omega) w9 r2 a3 a4 (x1.WM rr) (x1.sense rr) (ci (h (36 + 2 * l) 1)) 0 FU 0 (by omega) (by show _ < 4096; omega) (by omega)
  refine ⟨h1, ?_, a2⟩
  have q : f_9_lossNow (nI l) h1 = _ := q
  unfold f_9_lossOf
  rw [a1, bnd_s, q, bnd_s, ← c1]
  have e : lo_ h1 (36 + 2 * l) (rw_ h (36 + 2 * l)) (ci (h (36 + 2 * l) 1)) = los h (36 + 2 * l) := lo_cong a2.rd (by omega) (by omega) (fun t ht => ⟨by have := (r4 t ht).1; omega, rfl⟩)
  rw [← e]
  rfl
theorem noticed_m (x : INV h) {l : Nat} (hl : l < ci (h 1 11)) (m : Int32) : ∃ h1, f_9_isNoticed (nI l) m h = some (if ntc h (36 + 2 * l) m = 0 then 0 else 1, h1) ∧ PF h h1 := by
  obtain ⟨h1, a1, a2⟩ := offOf_m x hl
  have x1 := a2.inv x
  have hl1 : l < ci (h1 1 11) := by rw [a2.L]; exact hl
  obtain ⟨h2, b1, b2⟩ := lossOf_m x1 hl1
  have x2 := b2.inv x1
  have p2 := a2.tr b2
  obtain ⟨h3, c1, c2⟩ := notice_m x2.T9 (of_ h (36 + 2 * l)) (los h (36 + 2 * l)) m
  rw [tA_pf p2.rd (Or.inr rfl)] at c1
  rw [los_cong x a2.rd hl] at b1
  refine ⟨h3, ?_, p2.tr c2.pf⟩
  unfold f_9_isNoticed
  rw [a1, bnd2_s, b1, bnd2_s, c1, bnd2_s]
  show _ = some (if tA h 9 1 (of_ h (36 + 2 * l)) (los h (36 + 2 * l)) m = 0 then 0 else 1, h3)
  by_cases z : tA h 9 1 (of_ h (36 + 2 * l)) (los h (36 + 2 * l)) m = 0
  · rw [if_pos z, if_pos z]
  · rw [if_neg z, if_neg z]
/-! whether a number names a line or a word -/
theorem isLine_k (x : INV h) (a : Int32) : (f_8_isLine a h = 0 ∧ ∀ h1 : Hp, h1 115 = h 115 → f_9_isLine a h1 = some 0) ∨ (f_8_isLine a h = 1 ∧ (∀ h1 : Hp, h1 115 = h 115 → f_9_isLine a h1 = some 1) ∧ ∃ l, l < ci (h 1 11) ∧ a = nI l) := by
  have e : ∀ h1 : Hp, h1 115 = h 115 → f_9_isLine a h1 = some (f_8_isLine a h) := fun h1 f => by
    unfold f_9_isLine f_8_isLine
    rw [f, show h 115 1 = h 1 11 from x.1.1.2.1.2]
    exact congrArg some (in_w a 0 _ (by decide) rfl)
  have q : f_8_isLine a h = f_8_within a 0 (nI (ci (h 1 11)) - 1) := by
    unfold f_8_isLine
    rw [← x.L.1]
  rcases wiM a (n := ci (h 1 11)) (by have := x.L.2; omega) with ⟨r, _⟩ | ⟨r, k, k1, k2⟩
  · left
    rw [q, r] at e
    exact ⟨by rw [q, r], e⟩
  · right
    rw [q, r] at e
    exact ⟨by rw [q, r], e, k, k1, k2⟩
theorem isWord_k (x : INV h) (a : Int32) : (f_8_within a 0 ((h 1 10) - 1) = 0 ∧ ∀ h1 : Hp, h1 115 = h 115 → f_9_isWord a h1 = some 0) ∨ (f_8_within a 0 ((h 1 10) - 1) = 1 ∧ (∀ h1 : Hp, h1 115 = h 115 → f_9_isWord a h1 = some 1) ∧ ∃ l, l < ci (h 1 10) ∧ a = nI l) := by
  have e : ∀ h1 : Hp, h1 115 = h 115 → f_9_isWord a h1 = some (f_8_within a 0 ((h 1 10) - 1)) := fun h1 f => by
    unfold f_9_isWord
    rw [f, show h 115 0 = h 1 10 from x.1.1.1.2]
    exact congrArg some (in_w a 0 _ (by decide) rfl)
  have q : f_8_within a 0 ((h 1 10) - 1) = f_8_within a 0 (nI (ci (h 1 10)) - 1) := by
    rw [← x.W.1]
  rcases wiM a (n := ci (h 1 10)) (by have := x.W.2; omega) with ⟨r, _⟩ | ⟨r, k, k1, k2⟩
  · left
    rw [q, r] at e
    exact ⟨by rw [q, r], e⟩
  · right
    rw [q, r] at e
    exact ⟨by rw [q, r], e, k, k1, k2⟩
end
