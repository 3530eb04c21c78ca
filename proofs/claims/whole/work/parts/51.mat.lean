/-! matinees -/
section
variable {h : Hp}
def evs (G V : Int32 → Int32) (h : Hp) (m : Int32) (l : Nat) (q : Int32 × Int32) : Int32 × Int32 := (if irm (V q.2) 4 = 0 then q.1 else if 9999 ≤ q.1 then q.1 else if ntc h (36 + 2 * l) m = 0 then q.1 else q.1 + 1, G q.2)
def evn (G V : Int32 → Int32) (h : Hp) (m : Int32) : Nat → Nat → Int32 × Int32 → Int32 × Int32
  | 0, _, q => q
  | d + 1, l, q => evn G V h m d (l + 1) (evs G V h m l q)
theorem evn_s (G V : Int32 → Int32) (h : Hp) (m : Int32) (d l : Nat) (q : Int32 × Int32) : evn G V h m (d + 1) l q = evn G V h m d (l + 1) (evs G V h m l q) := rfl
def mats (G V : Int32 → Int32) (h : Hp) : Nat → Int32 → Int32 × Int32 → Int32 × Int32
  | 0, _, q => q
  | d + 1, m, q => mats G V h d (m + 1) (evn G V h m (ci (h 1 11)) 0 q)
/-- what matinees may change on the way -/
def MF (h h0 : Hp) : Prop := (∀ q, ¬ scr q → q ≠ 1 → q ≠ 115 → h0 q = h q) ∧ (∀ j, j ≠ 14 → j ≠ 15 → j ≠ 16 → h0 1 j = h 1 j) ∧ (∀ j, (j < 2 ∨ 4 < j) → h0 115 j = h 115 j) ∧ h0 114 2 = h 114 2 ∧ h0 114 19 = h 114 19
theorem MF.rf (h : Hp) : MF h h := ⟨fun _ _ _ _ => rfl, fun _ _ _ _ => rfl, fun _ _ => rfl, rfl, rfl⟩
theorem MF.pf {h0 h1 : Hp} (a : MF h h0) (b : PF h0 h1) : MF h h1 := ⟨fun q q1 q2 q3 => (b.1 q q1).trans (a.1 q q1 q2 q3), fun j j1 j2 j3 => by rw [b.M]; exact a.2.1 j j1 j2 j3, fun j hj => by rw [b.D]; exact a.2.2.1 j hj, b.2.1.trans a.2.2.2.1, b.2.2.trans a.2.2.2.2⟩
theorem MF.s1 {h0 : Hp} {j : Nat} {v : Int32} (a : MF h h0) (hj : j = 14 ∨ j = 15 ∨ j = 16) : MF h (u2 h0 1 j v) := ⟨fun q q1 q2 q3 => (u2_p _ _ q2).trans (a.1 q q1 q2 q3), fun i j1 j2 j3 => (u2_k _ _ (by omega)).trans (a.2.1 i j1 j2 j3), fun i hi => by rw [u2_p _ _ (by decide)]; exact a.2.2.1 i hi, by rw [u2_p _ _ (by decide)]; exact a.2.2.2.1, by rw [u2_p _ _ (by decide)]; exact a.2.2.2.2⟩
theorem MF.sD {h0 : Hp} {j : Nat} {v : Int32} (a : MF h h0) (hj : j = 2 ∨ j = 3 ∨ j = 4) : MF h (u2 h0 115 j v) := ⟨fun q q1 q2 q3 => (u2_p _ _ q3).trans (a.1 q q1 q2 q3), fun i j1 j2 j3 => by rw [u2_p _ _ (by decide)]; exact a.2.1 i j1 j2 j3, fun i hi => (u2_k _ _ (by omega)).trans (a.2.2.1 i hi), by rw [u2_p _ _ (by decide)]; exact a.2.2.2.1, by rw [u2_p _ _ (by decide)]; exact a.2.2.2.2⟩
theorem MF.jn {h0 : Hp} (a : MF h h0) (x : JN h) : JN h0 := x.mv (a.2.1 10 (by decide) (by decide) (by decide)) (a.2.1 11 (by decide) (by decide) (by decide)) (fun q q1 q2 _ _ _ => a.1 q (by unfold scr; unfold kp at q2; omega) (by omega) (by unfold kp at q2; omega)) (a.2.2.1 1 (by decide)) (fun k k1 _ => a.2.2.1 k (by omega))
theorem MF.re {h0 : Hp} (a : MF h h0) : RE h h0 := fun q q1 q2 q3 q4 q5 => a.1 q (by unfold scr; omega) q2.1 (by omega)
theorem MF.L {h0 : Hp} (a : MF h h0) : h0 1 11 = h 1 11 := a.2.1 11 (by decide) (by decide) (by decide)
/-- an evening, in the class -/
theorem mat_c {G V : Int32 → Int32} (HC : ∀ h0 : Hp, f_7_draw h0 = some (V (h0 1 16), u2 h0 1 16 (G (h0 1 16)))) (x : INV h) (D : Nat → Int32) : ∀ (d l n : Nat) (h0 : Hp) (m : Int32) (q : Int32 × Int32), ci (h 1 11) = l + d → d < n → MF h h0 → h0 115 = D → (∀ l, l < ci (h 1 11) → h0 14 l = of_ h (36 + 2 * l) ∧ h0 15 l = los h (36 + 2 * l)) → h0 1 14 = m → h0 1 15 = q.1 → h0 1 16 = q.2 → ∃ h1, f_7_matinee_2 n (nI l) h0 = some h1 ∧ MF h h1 ∧ h1 115 = D ∧ (∀ l, l < ci (h 1 11) → h1 14 l = of_ h (36 + 2 * l) ∧ h1 15 l = los h (36 + 2 * l)) ∧ h1 1 14 = m + 1 ∧ h1 1 15 = (evn G V h m d l q).1 ∧ h1 1 16 = (evn G V h m d l q).2
  | 0, l, n, h0, m, q, e1, e2, f, gD, w, g14, g15, g16 => by
    obtain ⟨n, rfl⟩ : ∃ z, n = z + 1 := ⟨n - 1, by omega⟩
    obtain ⟨L1, L2⟩ := x.L
    refine ⟨u2 h0 1 14 (m + 1), ?_, f.s1 (by decide), by rw [u2_p _ _ (by decide)]; exact gD, fun l hl => ?_, u2_s _ _ _ _, ?_, ?_⟩
    · have c : h 1 11 ≤ nI l := by rw [L1]; exact nI_le (by omega) (by omega)
      rw [f_7_matinee_2, f.L, if_pos c, hl_eq, g14]
    · rw [u2_p _ _ (by decide), u2_p _ _ (by decide)]; exact w l hl
    · rw [u2_k _ _ (by decide)]; exact g15
    · rw [u2_k _ _ (by decide)]; exact g16
  | d + 1, l, n, h0, m, q, e1, e2, f, gD, w, g14, g15, g16 => by
    obtain ⟨n, rfl⟩ : ∃ z, n = z + 1 := ⟨n - 1, by omega⟩
    obtain ⟨L1, L2⟩ := x.L
    have c : ¬ h 1 11 ≤ nI l := by rw [L1]; exact nI_ge (by omega) (by omega)
    have fz : MF h (u2 h0 1 16 (G q.2)) := f.s1 (by decide)
    have DR : f_7_draw h0 = some (V q.2, u2 h0 1 16 (G q.2)) := by rw [HC, g16]
    have w1 : ∀ t, u2 h0 1 16 (G q.2) 14 t = h0 14 t ∧ u2 h0 1 16 (G q.2) 15 t = h0 15 t := fun t => ⟨by rw [u2_p _ _ (by decide)], by rw [u2_p _ _ (by decide)]⟩
    have t14 : u2 h0 1 16 (G q.2) 1 14 = m := by rw [u2_k _ _ (by decide)]; exact g14
    have t15 : u2 h0 1 16 (G q.2) 1 15 = q.1 := by rw [u2_k _ _ (by decide)]; exact g15
    have t16 : u2 h0 1 16 (G q.2) 1 16 = G q.2 := u2_s _ _ _ _
    have tD : u2 h0 1 16 (G q.2) 115 = D := by rw [u2_p _ _ (by decide)]; exact gD
    have gl : inb (nI l) 6 = true := inb_nI (by omega) (by decide)
    rw [f_7_matinee_2, f.L, if_neg c, DR, bnd2_s]
    generalize u2 h0 1 16 (G q.2) = hd at fz w1 t14 t15 t16 tD
    have w2 : ∀ l, l < ci (h 1 11) → hd 14 l = of_ h (36 + 2 * l) ∧ hd 15 l = los h (36 + 2 * l) := fun l hl => by
      rw [(w1 l).1, (w1 l).2]; exact w l hl
    by_cases c1 : irm (V q.2) 4 = 0
    · have ee : evs G V h m l q = (q.1, G q.2) := by unfold evs; rw [if_pos c1]
      rw [if_pos c1, nI_1]
      have := mat_c HC x D d (l + 1) n hd m (q.1, G q.2) (by omega) (by omega) fz tD w2 t14 t15 t16
      rw [evn_s, ee]
      exact this
    rw [if_neg c1]
    by_cases c2 : 9999 ≤ q.1
    · have ee : evs G V h m l q = (q.1, G q.2) := by unfold evs; rw [if_neg c1, if_pos c2]
      rw [t15, if_pos c2, nI_1]
      have := mat_c HC x D d (l + 1) n hd m (q.1, G q.2) (by omega) (by omega) fz tD w2 t14 t15 t16
      rw [evn_s, ee]
      exact this
    rw [t15, if_neg c2, gd_s _ gl, gd_s _ gl, ci_nI (by omega), (w2 l (by omega)).1, (w2 l (by omega)).2, t14]
    obtain ⟨h2, a1, a2⟩ := notice_c (fz.jn x.jn).T9 (of_ h (36 + 2 * l)) (los h (36 + 2 * l)) m
    have e9 : tA hd 9 1 (of_ h (36 + 2 * l)) (los h (36 + 2 * l)) m = ntc h (36 + 2 * l) m := tA_pfe fz.re (Or.inr rfl) _ _ _
    have f2 : MF h h2 := fz.pf (pf11 a2)
    have w3 : ∀ l, l < ci (h 1 11) → h2 14 l = of_ h (36 + 2 * l) ∧ h2 15 l = los h (36 + 2 * l) := fun l hl => by
      rw [a2 14 (by decide), a2 15 (by decide)]; exact w2 l hl
    rw [e9] at a1
    rw [a1, bnd2_s]
    have s1 : h2 1 = hd 1 := a2 1 (by decide)
    by_cases c3 : ntc h (36 + 2 * l) m = 0
    · have ee : evs G V h m l q = (q.1, G q.2) := by unfold evs; rw [if_neg c1, if_neg c2, if_pos c3]
      rw [if_pos c3, nI_1]
      have := mat_c HC x D d (l + 1) n h2 m (q.1, G q.2) (by omega) (by omega) f2 ((a2 115 (by decide)).trans tD) w3 (by rw [s1]; exact t14) (by rw [s1]; exact t15) (by rw [s1]; exact t16)
      rw [evn_s, ee]
      exact this
    · have ee : evs G V h m l q = (q.1 + 1, G q.2) := by unfold evs; rw [if_neg c1, if_neg c2, if_neg c3]
      rw [if_neg c3, hl_eq, nI_1, s1, t15]
      have := mat_c HC x D d (l + 1) n (u2 h2 1 15 (q.1 + 1)) m (q.1 + 1, G q.2) (by omega) (by omega) (f2.s1 (by decide)) (by rw [u2_p _ _ (by decide), a2 115 (by decide)]; exact tD) (fun l hl => by rw [u2_p _ _ (by decide), u2_p _ _ (by decide)]; exact w3 l hl) (by rw [u2_k _ _ (by decide), s1]; exact t14) (u2_s _ _ _ _) (by rw [u2_k _ _ (by decide), s1]; exact t16)
      rw [evn_s, ee]
      exact this
theorem mats_c {G V : Int32 → Int32} (HC : ∀ h0 : Hp, f_7_draw h0 = some (V (h0 1 16), u2 h0 1 16 (G (h0 1 16)))) (x : INV h) (D : Nat → Int32) {E : Nat} (hE : E ≤ 100) : ∀ (d k n : Nat) (h0 : Hp) (m : Int32) (q : Int32 × Int32), E = k + d → d < n → MF h h0 → h0 115 = D → (∀ l, l < ci (h 1 11) → h0 14 l = of_ h (36 + 2 * l) ∧ h0 15 l = los h (36 + 2 * l)) → h0 1 14 = m → h0 1 15 = q.1 → h0 1 16 = q.2 → ∃ h1, f_8_matinees_46 (nI E) n (nI k) h0 = some ((mats G V h d m q).1, h1) ∧ MF h h1 ∧ h1 115 = D ∧ h1 1 14 = m + nI d ∧ h1 1 15 = (mats G V h d m q).1 ∧ h1 1 16 = (mats G V h d m q).2
  | 0, k, n, h0, m, q, e1, e2, f, gD, w, g14, g15, g16 => by
    obtain ⟨n, rfl⟩ : ∃ z, n = z + 1 := ⟨n - 1, by omega⟩
    refine ⟨h0, ?_, f, gD, by rw [g14]; exact (Int32.add_zero m).symm, g15, g16⟩
    rw [f_8_matinees_46, if_pos (nI_le (by omega) (by omega)), g15]
    rfl
  | d + 1, k, n, h0, m, q, e1, e2, f, gD, w, g14, g15, g16 => by
    obtain ⟨n, rfl⟩ : ∃ z, n = z + 1 := ⟨n - 1, by omega⟩
    obtain ⟨L1, L2⟩ := x.L
    obtain ⟨h1, a1, a2, aD, a3, a4, a5, a6⟩ := mat_c HC x D (ci (h 1 11)) 0 FU h0 m q (by omega) (by show _ < 4096; omega) f gD w g14 g15 g16
    obtain ⟨h2, b1, b2, bD, b3, b4, b5⟩ := mats_c HC x D hE d (k + 1) n h1 (m + 1) (evn G V h m (ci (h 1 11)) 0 q) (by omega) (by omega) a2 aD a3 a4 a5 a6
    have a1 : f_7_matinee h0 = some h1 := a1
    refine ⟨h2, ?_, b2, bD, ?_, b4, b5⟩
    · rw [f_8_matinees_46, if_neg (nI_ge (by omega) (by omega)), a1, bnd_s, nI_1, b1]
      rfl
    · rw [b3, Int32.add_assoc, lit_nI 1, nI_add, Nat.add_comm 1 d]
/-- an evening, in the reference -/
theorem mat_m {G V : Int32 → Int32} (HM : ∀ h0 : Hp, f_9_drawn h0 = some (V (h0 115 4), u2 h0 115 4 (G (h0 115 4)))) (x : INV h) (P : Nat → Int32) {K : Int32 → Hp → Option (Int32 × Hp)} {x1 x2 : Int32} : ∀ (d l n : Nat) (h0 : Hp) (m : Int32) (q : Int32 × Int32), ci (h 1 11) = l + d → d < n → MF h h0 → h0 1 = P → h0 115 2 = m → h0 115 3 = q.1 → h0 115 4 = q.2 → ∃ h1, f_9_matinees_47 K x1 x2 n (nI l) h0 = K (x2 + 1) h1 ∧ MF h h1 ∧ h1 1 = P ∧ h1 115 2 = m + 1 ∧ h1 115 3 = (evn G V h m d l q).1 ∧ h1 115 4 = (evn G V h m d l q).2
  | 0, l, n, h0, m, q, e1, e2, f, gP, g14, g15, g16 => by
    obtain ⟨n, rfl⟩ : ∃ z, n = z + 1 := ⟨n - 1, by omega⟩
    obtain ⟨L1, L2⟩ := x.L
    have e11 : h0 115 1 = h 1 11 := by rw [f.2.2.1 1 (by decide)]; exact x.1.1.2.1.2
    refine ⟨u2 h0 115 2 (m + 1), ?_, f.sD (by decide), by rw [u2_p _ _ (by decide)]; exact gP, u2_s _ _ _ _, ?_, ?_⟩
    · have c : h 1 11 ≤ nI l := by rw [L1]; exact nI_le (by omega) (by omega)
      rw [f_9_matinees_47, e11, if_pos c, hl_eq, g14]
    · rw [u2_k _ _ (by decide)]; exact g15
    · rw [u2_k _ _ (by decide)]; exact g16
  | d + 1, l, n, h0, m, q, e1, e2, f, gP, g14, g15, g16 => by
    obtain ⟨n, rfl⟩ : ∃ z, n = z + 1 := ⟨n - 1, by omega⟩
    obtain ⟨L1, L2⟩ := x.L
    have e11 : h0 115 1 = h 1 11 := by rw [f.2.2.1 1 (by decide)]; exact x.1.1.2.1.2
    have c : ¬ h 1 11 ≤ nI l := by rw [L1]; exact nI_ge (by omega) (by omega)
    have fz : MF h (u2 h0 115 4 (G q.2)) := f.sD (by decide)
    have DR : f_9_drawn h0 = some (V q.2, u2 h0 115 4 (G q.2)) := by rw [HM, g16]
    have tP : u2 h0 115 4 (G q.2) 1 = P := by rw [u2_p _ _ (by decide)]; exact gP
    have t14 : u2 h0 115 4 (G q.2) 115 2 = m := by rw [u2_k _ _ (by decide)]; exact g14
    have t15 : u2 h0 115 4 (G q.2) 115 3 = q.1 := by rw [u2_k _ _ (by decide)]; exact g15
    have t16 : u2 h0 115 4 (G q.2) 115 4 = G q.2 := u2_s _ _ _ _
    rw [f_9_matinees_47, e11, if_neg c, DR, bnd2_s]
    generalize u2 h0 115 4 (G q.2) = hd at fz tP t14 t15 t16
    have go : ∀ (hx : Hp) (v : Int32), MF h hx → hx 1 = P → hx 115 2 = m → hx 115 4 = G q.2 → evs G V h m l q = (v, G q.2) → ∃ h1, f_9_matinees_47 K x1 x2 n (nI l + 1) (u2 hx 115 3 v) = K (x2 + 1) h1 ∧ MF h h1 ∧ h1 1 = P ∧ h1 115 2 = m + 1 ∧ h1 115 3 = (evn G V h m (d + 1) l q).1 ∧ h1 115 4 = (evn G V h m (d + 1) l q).2 := fun hx v f2 p1 p2 p3 ee => by
      rw [nI_1, evn, ee]
      exact mat_m HM x P (K := K) (x1 := x1) (x2 := x2) d (l + 1) n (u2 hx 115 3 v) m (v, G q.2) (by omega) (by omega) (f2.sD (by decide)) (by rw [u2_p _ _ (by decide)]; exact p1) (by rw [u2_k _ _ (by decide)]; exact p2) (u2_s _ _ _ _) (by rw [u2_k _ _ (by decide)]; exact p3)
    by_cases c1 : irm (V q.2) 4 = 0
    · rw [if_pos c1, hl_eq, t15, Int32.add_zero]
      exact go hd q.1 fz tP t14 t16 (by unfold evs; rw [if_pos c1])
    rw [if_neg c1]
    by_cases c2 : 9999 ≤ q.1
    · rw [t15, if_pos c2, hl_eq, Int32.add_zero]
      exact go hd q.1 fz tP t14 t16 (by unfold evs; rw [if_neg c1, if_pos c2])
    have hl : l < ci (hd 1 11) := by rw [fz.L]; omega
    obtain ⟨h2, a1, a2⟩ := noticed_mj (fz.jn x.jn) hl m
    rw [ntc_conge x.jn fz.re (by omega)] at a1
    have f2 : MF h h2 := fz.pf a2
    have s1 : h2 115 = hd 115 := a2.D
    have p1 : h2 1 = P := a2.M.trans tP
    rw [t15, if_neg c2, t14, a1, bnd2_s]
    by_cases c3 : ntc h (36 + 2 * l) m = 0
    · rw [if_pos c3, if_pos rfl, hl_eq, Int32.add_zero]
      exact go h2 q.1 f2 p1 (by rw [s1]; exact t14) (by rw [s1]; exact t16) (by unfold evs; rw [if_neg c1, if_neg c2, if_pos c3])
    · rw [if_neg c3, if_neg (by decide), hl_eq]
      exact go h2 (q.1 + 1) f2 p1 (by rw [s1]; exact t14) (by rw [s1]; exact t16) (by unfold evs; rw [if_neg c1, if_neg c2, if_neg c3])
theorem mats_m {G V : Int32 → Int32} (HM : ∀ h0 : Hp, f_9_drawn h0 = some (V (h0 115 4), u2 h0 115 4 (G (h0 115 4)))) (x : INV h) (P : Nat → Int32) {E : Nat} (hE : E ≤ 100) : ∀ (d k n : Nat) (h0 : Hp) (m : Int32) (q : Int32 × Int32), E = k + d → d < n → MF h h0 → h0 1 = P → h0 115 2 = m → h0 115 3 = q.1 → h0 115 4 = q.2 → ∃ h1, f_9_matinees_40 (nI E) n (nI k) h0 = some ((mats G V h d m q).1, h1) ∧ MF h h1 ∧ h1 1 = P ∧ h1 115 2 = m + nI d ∧ h1 115 3 = (mats G V h d m q).1 ∧ h1 115 4 = (mats G V h d m q).2
  | 0, k, n, h0, m, q, e1, e2, f, gD, g14, g15, g16 => by
    obtain ⟨n, rfl⟩ : ∃ z, n = z + 1 := ⟨n - 1, by omega⟩
    refine ⟨h0, ?_, f, gD, by rw [g14]; exact (Int32.add_zero m).symm, g15, g16⟩
    rw [f_9_matinees_40, if_pos (nI_le (by omega) (by omega)), g15]
    rfl
  | d + 1, k, n, h0, m, q, e1, e2, f, gD, g14, g15, g16 => by
    obtain ⟨n, rfl⟩ : ∃ z, n = z + 1 := ⟨n - 1, by omega⟩
    obtain ⟨L1, L2⟩ := x.L
    obtain ⟨h1, a1, a2, aD, a4, a5, a6⟩ := mat_m HM x P (K := f_9_matinees_40 (nI E) n) (x1 := nI E) (x2 := nI k) (ci (h 1 11)) 0 FU h0 m q (by omega) (by show _ < 4096; omega) f gD g14 g15 g16
    obtain ⟨h2, b1, b2, bD, b3, b4, b5⟩ := mats_m HM x P hE d (k + 1) n h1 (m + 1) (evn G V h m (ci (h 1 11)) 0 q) (by omega) (by omega) a2 aD a4 a5 a6
    have a1 : f_9_matinees_47 (f_9_matinees_40 (nI E) n) (nI E) (nI k) FU 0 h0 = _ := a1
    refine ⟨h2, ?_, b2, bD, ?_, b4, b5⟩
    · rw [f_9_matinees_40, if_neg (nI_ge (by omega) (by omega)), a1, nI_1, b1]
      rfl
    · rw [b3, Int32.add_assoc, lit_nI 1, nI_add, Nat.add_comm 1 d]
/-- the lines are weighed -/
theorem weigh_l (x : INV h) : ∀ (d l n : Nat) (h0 : Hp), ci (h 1 11) = l + d → d < n → PF h h0 → (∀ t, t < l → h0 14 t = of_ h (36 + 2 * t) ∧ h0 15 t = los h (36 + 2 * t)) → ∃ h1, f_7_weighLines_2 n (nI l) h0 = some h1 ∧ PF h h1 ∧ ∀ t, t < ci (h 1 11) → h1 14 t = of_ h (36 + 2 * t) ∧ h1 15 t = los h (36 + 2 * t)
  | 0, l, n, h0, e1, e2, f, w => by
    obtain ⟨n, rfl⟩ : ∃ z, n = z + 1 := ⟨n - 1, by omega⟩
    obtain ⟨L1, L2⟩ := x.L
    refine ⟨h0, ?_, f, fun t ht => w t (by omega)⟩
    have c : h 1 11 ≤ nI l := by rw [L1]; exact nI_le (by omega) (by omega)
    rw [f_7_weighLines_2, f.M, if_pos c]
  | d + 1, l, n, h0, e1, e2, f, w => by
    obtain ⟨n, rfl⟩ : ∃ z, n = z + 1 := ⟨n - 1, by omega⟩
    obtain ⟨L1, L2⟩ := x.L
    have c : ¬ h 1 11 ≤ nI l := by rw [L1]; exact nI_ge (by omega) (by omega)
    have gl : inb (nI l) 6 = true := inb_nI (by omega) (by decide)
    obtain ⟨h1, a1, a2⟩ := off_c (f.inv x) (l := l) (by rw [f.L]; omega)
    rw [of_cong x f.rd (by omega)] at a1
    have p1 : PF h (u2 h1 14 l (of_ h (36 + 2 * l))) := f.tr ((pf8 a2).tr (PF.c (c := 14) (by unfold scr; decide) (by decide) (fun q hq => u2_p _ _ hq)))
    have b := loss_c (p1.inv x) (l := l) (by rw [p1.L]; omega)
    rw [los_cong x p1.rd (by omega)] at b
    have p2 : PF h (u2 (u2 h1 14 l (of_ h (36 + 2 * l))) 15 l (los h (36 + 2 * l))) := p1.tr (PF.c (c := 15) (by unfold scr; decide) (by decide) (fun q hq => u2_p _ _ hq))
    obtain ⟨h2, d1, d2, d3⟩ := weigh_l x d (l + 1) n (u2 (u2 h1 14 l (of_ h (36 + 2 * l))) 15 l (los h (36 + 2 * l))) (by omega) (by omega) p2 (fun t ht => by
      by_cases e : t = l
      · subst e
        rw [u2_p _ _ (by decide), u2_s, u2_s]
        exact ⟨rfl, rfl⟩
      · rw [u2_p (q := 14) _ _ (by decide), u2_k _ _ e, u2_k _ _ e, u2_p (q := 15) _ _ (by decide), a2 14 (by decide), a2 15 (by decide)]
        exact w t (by omega))
    refine ⟨h2, ?_, d2, d3⟩
    rw [f_7_weighLines_2, f.M, if_neg c, gd_s _ gl, ci_nI (by omega), a1, bnd2_s, gd_s _ gl, hl_eq, gd_s _ gl, b, bnd_s, gd_s _ gl, hl_eq, nI_1, d1]
theorem al_matinees (X : AI h) (a : Int32) : Al (f_8_matinees a) (f_9_matinees a) h := by
  have x := X.1
  have e5 := in_w a (A := 1) (B := 100) 1 100 (by decide) (by decide)
  have d2 : h 115 2 = h 1 14 := x.1.1.2.2.1.2
  rcases wiC a (A := 1) (B := 100) 1 100 (by decide) (by decide) (by decide) with ⟨w, _⟩ | ⟨w, E, E1, E2, rfl⟩
  · refine Al.er X (k := 1) (by decide) (by decide) ?_ (fun h1 f => ?_)
    · unfold f_8_matinees
      rw [w, if_pos rfl, b2_id]; rfl
    · unfold f_9_matinees
      rw [e5, w, if_pos rfl, b2_id]; rfl
  obtain ⟨m1, m2⟩ := x.M
  by_cases c : h 1 14 + nI E ≤ 9999
  rotate_left
  · refine Al.er X (k := 3) (by decide) (by decide) ?_ (fun h1 f => ?_)
    · unfold f_8_matinees
      rw [w, if_neg (by decide), if_neg c, b2_id]; rfl
    · unfold f_9_matinees
      rw [e5, w, if_neg (by decide), f 115 (by decide), d2, if_neg c, b2_id]; rfl
  have s : sm (h 1 14 + nI E) 9999 := by
    rw [m1, nI_add] at c ⊢
    exact ⟨_, (nI_leI (b := 9999) (by omega) (by decide)).mp c, rfl⟩
  obtain ⟨G, V, HC, HM⟩ : ∃ G V : Int32 → Int32, (∀ h0 : Hp, f_7_draw h0 = some (V (h0 1 16), u2 h0 1 16 (G (h0 1 16)))) ∧ (∀ h0 : Hp, f_9_drawn h0 = some (V (h0 115 4), u2 h0 115 4 (G (h0 115 4)))) := by
    refine ⟨fun z => z * 1103515245 + 12345, fun z => ((z * 1103515245 + 12345).toUInt32 >>> (Int32.toUInt32 8 &&& Int32.toUInt32 31)).toInt32, fun h0 => ?_, fun h0 => ?_⟩
    · unfold f_7_draw
      rw [hl_eq, u2_s]
    · unfold f_9_drawn
      rw [hl_eq, u2_s]
  obtain ⟨h1, a1, a2, a3⟩ := weigh_l x (ci (h 1 11)) 0 FU h (by omega) (by have := x.L.2; show _ < 4096; omega) (PF.rf h) (fun t ht => absurd ht (Nat.not_lt_zero t))
  have a1 : f_7_weighLines h = some h1 := a1
  obtain ⟨h2, b1, b2, bD, b3, b4, b5⟩ := mats_c HC x (h 115) E2 E 0 FU h1 (h 1 14) (h 1 15, h 1 16) (by omega) (by show _ < 4096; omega) ((MF.rf h).pf a2) a2.D a3 (by rw [a2.M]) (by rw [a2.M]) (by rw [a2.M])
  obtain ⟨h3, p1, p2, pD, p3, p4, p5⟩ := mats_m HM x (h2 1) E2 E 0 FU h2 (h 1 14) (h 1 15, h 1 16) (by omega) (by show _ < 4096; omega) b2 rfl (by rw [bD]; exact d2) (by rw [bD]; exact x.1.1.2.2.2.1) (by rw [bD]; exact x.1.1.2.2.2.2.1)
  refine ⟨(mats G V h E (h 1 14) (h 1 15, h 1 16)).1, h2, h3, ?_, ?_, ?_⟩
  · unfold f_8_matinees
    rw [w, if_neg (by decide), if_pos c, a1, bnd_s]
    exact b1
  · unfold f_9_matinees
    rw [e5, w, if_neg (by decide), bD, d2, if_pos c]
    exact p1
  · obtain ⟨f1, f2, f3, f4, f5⟩ := p2
    have pf : PF (uA (uA h 1 (h3 1)) 115 (h3 115)) h3 := by
      refine ⟨fun q hq => ?_, ?_, ?_⟩
      · by_cases c15 : q = 115
        · subst c15
          rw [uA_i]
        · rw [uA_n c15]
          by_cases c1 : q = 1
          · subst c1
            rw [uA_i]
          · rw [uA_n c1]
            exact f1 q hq c1 c15
      · rw [uA_n (by decide), uA_n (by decide)]; exact f4
      · rw [uA_n (by decide), uA_n (by decide)]; exact f5
    refine pf.ai (ai_w X (by rw [uA_n (by decide), uA_n (by decide)]) (fun q q1 q2 => by rw [uA_n q2, uA_n (by omega)]) ?_)
    rw [uA_i]
    have e1 : uA (uA h 1 (h3 1)) 115 (h3 115) 1 = h3 1 := by rw [uA_n (by decide), uA_i]
    have eq : ∀ q, q ≠ 1 → q ≠ 115 → uA (uA h 1 (h3 1)) 115 (h3 115) q = h q := fun q q1 q2 => by rw [uA_n q2, uA_n q1]
    obtain ⟨g1, g2, g3, g4⟩ := x.1.2.1
    refine x.1.frA ?_ ⟨fun k hk => ?_, fun k hk => ?_, fun k hk => ?_, fun k hk => ?_⟩ (by rw [e1]; exact f2 10 (by decide) (by decide) (by decide)) (by rw [e1]; exact f2 11 (by decide) (by decide) (by decide)) (fun q k0 _ _ _ _ _ => eq _ (by omega) (by unfold kp at k0; omega)) (fun k hk => f3 k (by omega))
    · obtain ⟨y1, y2, y3, y4, y5, y6, y7⟩ := x.1.1
      unfold gS
      rw [e1, f2 10 (by decide) (by decide) (by decide), f2 11 (by decide) (by decide) (by decide), f2 12 (by decide) (by decide) (by decide), f2 13 (by decide) (by decide) (by decide), f3 0 (by decide), f3 1 (by decide), f3 5 (by decide), f3 6 (by decide), pD, b3, b4, b5, p3, p4, p5]
      exact ⟨y1, y2, ⟨s, rfl⟩, rfl, rfl, y6, y7⟩
    · rw [f3 _ (by omega), eq _ (by decide) (by decide)]; exact g1 k hk
    · rw [f3 _ (by omega), eq _ (by decide) (by decide)]; exact g2 k hk
    · rw [f3 _ (by omega), eq _ (by decide) (by decide)]; exact g3 k hk
    · rw [f3 _ (by omega), eq _ (by decide) (by decide)]; exact g4 k hk
end
