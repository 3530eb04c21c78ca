/-! takes, enough, cast -/
section
variable {h : Hp}
theorem Al.up {F G : Hp → Option (Int32 × Hp)} {F2 G2 : Hp → Option (Int64 × Hp)} (a : ∀ r h1, F h = some (r, h1) → F2 h = some (r.toInt64, h1)) (b : ∀ h0 r h1, G h0 = some (r, h1) → G2 h0 = some (r.toInt64, h1)) (x : Al F G h) : Al F2 G2 h := by
  obtain ⟨r, h1, h2, a1, a2, a3⟩ := x
  exact ⟨_, h1, h2, a _ _ a1, b _ _ _ a2, a3⟩
def hz0 : Hp := fun _ _ => 0
def T8 (a b c : Int32) : Option Int64 := bnd (f_8_power 16 b) (fun r14 => bnd (f_8_power (Int32.toInt64 (16 - a)) b) (fun r16 => bnd2 (f_8_takes_62 c FU r14 (r14 - r16) 0 hz0) (fun r _ => some r)))
def T9 (a b c : Int32) : Option Int64 := bnd (f_9_power 16 b) (fun r14 => bnd (f_9_power (16 - (Int32.toInt64 a)) b) (fun r16 => bnd (f_9_common (r14 - r16) r14) (fun r18 => if c = 0 then (gd (decide (¬ r18 = 0)) (some ((r14 - r16) / r18))) else (gd (decide (¬ r18 = 0)) (some (r14 / r18))))))
theorem T_t : ∀ a : Fin 17, 1 ≤ a.val → ∀ b : Fin 7, ∀ c : Fin 2, T8 (nI a.val) (nI b.val) (nI c.val) = T9 (nI a.val) (nI b.val) (nI c.val) ∧ (T8 (nI a.val) (nI b.val) (nI c.val)).isSome = true := by decide +kernel
theorem takes_h (c : Int32) (h h' : Hp) : ∀ (n : Nat) (a b : Int64) (k : Int32), f_8_takes_62 c n a b k h = bnd2 (f_8_takes_62 c n a b k h') (fun r _ => some (r, h))
  | 0, _, _, _ => rfl
  | n + 1, a, b, k => by
    rw [f_8_takes_62, f_8_takes_62]
    by_cases c1 : 24 ≤ k
    · rw [if_pos c1, if_pos c1]
      by_cases c2 : c = 0
      · rw [if_pos c2, if_pos c2]; rfl
      · rw [if_neg c2, if_neg c2]; rfl
    rw [if_neg c1, if_neg c1]
    by_cases c3 : lg_cmp (lrm b 2) 0 = 0
    · rw [if_pos c3, if_pos c3]
      by_cases c4 : lg_cmp (lrm a 2) 0 = 0
      · rw [if_pos c4, if_pos c4]; exact takes_h c h h' n _ _ _
      · rw [if_neg c4, if_neg c4]
        by_cases c2 : c = 0
        · rw [if_pos c2, if_pos c2]; rfl
        · rw [if_neg c2, if_neg c2]; rfl
    · rw [if_neg c3, if_neg c3]
      by_cases c2 : c = 0
      · rw [if_pos c2, if_pos c2]; rfl
      · rw [if_neg c2, if_neg c2]; rfl
theorem bnd_ex {α β : Type} {x : Option α} {f : α → Option β} {r : β} (q : bnd x f = some r) : ∃ a, x = some a ∧ f a = some r := bno q
theorem al_takes (X : AI h) (a b c : Int32) : Al (f_8_takes a b c) (f_9_takes_ a b c) h := by
  have ea := in_w a (A := 1) (B := 16) 1 16 (by decide) (by decide)
  have eb := in_w b (A := 0) (B := 6) 0 6 (by decide) (by decide)
  have ec := in_w c (A := 0) (B := 1) 0 1 (by decide) (by decide)
  have n10 : ¬ (1 : Int32) = 0 := by decide
  rcases wiC a (A := 1) (B := 16) 1 16 (by decide) (by decide) (by decide) with ⟨wa, _⟩ | ⟨wa, i, i1, i2, rfl⟩
  · refine Al.up (F := f_8_error 1) (G := f_9_finds 1) (fun r h1 q => ?_) (fun h0 r h1 q => ?_) (Al.er X (k := 1) (by decide) (by decide) rfl (fun h1 f => rfl))
    · unfold f_8_takes
      rw [wa, if_pos rfl, q, bnd2_s]
    · unfold f_9_takes_
      rw [ea, wa, if_pos rfl, q, bnd2_s]
  rcases wiC b (A := 0) (B := 6) 0 6 (by decide) (by decide) (by decide) with ⟨wb, _⟩ | ⟨wb, j, _, j2, rfl⟩
  · refine Al.up (F := f_8_error 1) (G := f_9_finds 1) (fun r h1 q => ?_) (fun h0 r h1 q => ?_) (Al.er X (k := 1) (by decide) (by decide) rfl (fun h1 f => rfl))
    · unfold f_8_takes
      rw [wa, if_neg n10, wb, if_pos rfl, q, bnd2_s]
    · unfold f_9_takes_
      rw [ea, wa, if_neg n10, eb, wb, if_pos rfl, q, bnd2_s]
  rcases wiC c (A := 0) (B := 1) 0 1 (by decide) (by decide) (by decide) with ⟨wc, _⟩ | ⟨wc, k, _, k2, rfl⟩
  · refine Al.up (F := f_8_error 1) (G := f_9_finds 1) (fun r h1 q => ?_) (fun h0 r h1 q => ?_) (Al.er X (k := 1) (by decide) (by decide) rfl (fun h1 f => rfl))
    · unfold f_8_takes
      rw [wa, if_neg n10, wb, if_neg n10, wc, if_pos rfl, q, bnd2_s]
    · unfold f_9_takes_
      rw [ea, wa, if_neg n10, eb, wb, if_neg n10, ec, wc, if_pos rfl, q, bnd2_s]
  obtain ⟨t1, t2⟩ := T_t ⟨i, by omega⟩ i1 ⟨j, by omega⟩ ⟨k, by omega⟩
  simp only at t1 t2
  obtain ⟨v, t3⟩ := Option.isSome_iff_exists.mp t2
  rw [t3] at t1
  refine ⟨v, h, h, ?_, ?_, X⟩
  · unfold f_8_takes
    rw [wa, if_neg n10, wb, if_neg n10, wc, if_neg n10]
    unfold T8 at t3
    obtain ⟨r14, p1, p2⟩ := bnd_ex t3
    obtain ⟨r16, p3, p4⟩ := bnd_ex p2
    obtain ⟨r, h', p5, p6⟩ := bno2 p4
    rw [p1, bnd_s, p3, bnd_s, takes_h _ h hz0, p5, bnd2_s]
    cases p6
    rfl
  · unfold f_9_takes_
    rw [ea, wa, if_neg n10, eb, wb, if_neg n10, ec, wc, if_neg n10]
    unfold T9 at t1
    obtain ⟨r14, p1, p2⟩ := bnd_ex t1.symm
    obtain ⟨r16, p3, p4⟩ := bnd_ex p2
    obtain ⟨r18, p5, p6⟩ := bnd_ex p4
    rw [p1, bnd_s, p3, bnd_s, p5, bnd_s]
    by_cases c2 : nI k = 0
    · rw [if_pos c2] at p6 ⊢
      obtain ⟨g1, g2⟩ := gdt p6
      rw [gd_s _ g1]
      cases g2
      rfl
    · rw [if_neg c2] at p6 ⊢
      obtain ⟨g1, g2⟩ := gdt p6
      rw [gd_s _ g1]
      cases g2
      rfl
/-! enough -/
def e8 (a b : Int32) : Nat → Int32 → Option (Option Int32)
  | 0, _ => none
  | n + 1, x3 => if 6 < x3 then some none else (bnd (f_8_power 16 x3) (fun r14 => bnd (f_8_power (Int32.toInt64 (16 - a)) x3) (fun r16 => if (lg_cmp (16 * (r14 - r16)) ((Int32.toInt64 b) * r14)) < 0 then (e8 a b n (x3 + 1)) else (some (some x3)))))
def e9 (a b : Int32) : Nat → Int32 → Option (Option Int32)
  | 0, _ => none
  | n + 1, x3 => if 6 < x3 then some none else (bnd (f_9_power 16 x3) (fun r14 => bnd (f_9_power (16 - (Int32.toInt64 a)) x3) (fun r16 => if (lg_cmp ((r14 - r16) * 16) ((Int32.toInt64 b) * r14)) < 0 then (e9 a b n (x3 + 1)) else (some (some x3)))))
theorem e_t : ∀ a : Fin 17, 1 ≤ a.val → ∀ b : Fin 16, 1 ≤ b.val → e8 (nI a.val) (nI b.val) FU 1 = e9 (nI a.val) (nI b.val) FU 1 ∧ (e8 (nI a.val) (nI b.val) FU 1).isSome = true := by decide +kernel
def eo (E : Hp → Option (Int32 × Hp)) (h : Hp) (o : Option (Option Int32)) : Option (Int32 × Hp) := match o with
  | none => none
  | some none => E h
  | some (some r) => some (r, h)
theorem enough_c (a b : Int32) : ∀ (n : Nat) (x3 : Int32) (h : Hp), f_8_enough_28 a b n x3 h = eo (f_8_error 2) h (e8 a b n x3)
  | 0, _, _ => rfl
  | n + 1, x3, h => by
    rw [f_8_enough_28, e8]
    by_cases c1 : 6 < x3
    · rw [if_pos c1, if_pos c1, b2_id]; rfl
    · rw [if_neg c1, if_neg c1]
      cases f_8_power 16 x3 with
      | none => rfl
      | some r14 =>
        rw [bnd_s, bnd_s]
        cases f_8_power (Int32.toInt64 (16 - a)) x3 with
        | none => rfl
        | some r16 =>
          rw [bnd_s, bnd_s]
          by_cases c2 : (lg_cmp (16 * (r14 - r16)) ((Int32.toInt64 b) * r14)) < 0
          · rw [if_pos c2, if_pos c2]; exact enough_c a b n _ h
          · rw [if_neg c2, if_neg c2]; rfl
theorem enough_m (a b : Int32) : ∀ (n : Nat) (x3 : Int32) (h : Hp), f_9_enough_32 a b n x3 h = eo (f_9_finds 2) h (e9 a b n x3)
  | 0, _, _ => rfl
  | n + 1, x3, h => by
    rw [f_9_enough_32, e9]
    by_cases c1 : 6 < x3
    · rw [if_pos c1, if_pos c1, b2_id]; rfl
    · rw [if_neg c1, if_neg c1]
      cases f_9_power 16 x3 with
      | none => rfl
      | some r14 =>
        rw [bnd_s, bnd_s]
        cases f_9_power (16 - (Int32.toInt64 a)) x3 with
        | none => rfl
        | some r16 =>
          rw [bnd_s, bnd_s]
          by_cases c2 : (lg_cmp ((r14 - r16) * 16) ((Int32.toInt64 b) * r14)) < 0
          · rw [if_pos c2, if_pos c2]; exact enough_m a b n _ h
          · rw [if_neg c2, if_neg c2]; rfl
theorem al_enough (X : AI h) (a b : Int32) : Al (f_8_enough a b) (f_9_enough a b) h := by
  have ea := in_w a (A := 1) (B := 16) 1 16 (by decide) (by decide)
  have eb := in_w b (A := 1) (B := 15) 1 15 (by decide) (by decide)
  have n10 : ¬ (1 : Int32) = 0 := by decide
  rcases wiC a (A := 1) (B := 16) 1 16 (by decide) (by decide) (by decide) with ⟨wa, _⟩ | ⟨wa, i, i1, i2, rfl⟩
  · refine Al.er X (k := 1) (by decide) (by decide) ?_ (fun h1 f => ?_)
    · unfold f_8_enough
      rw [wa, if_pos rfl, b2_id]; rfl
    · unfold f_9_enough
      rw [ea, wa, if_pos rfl, b2_id]; rfl
  rcases wiC b (A := 1) (B := 15) 1 15 (by decide) (by decide) (by decide) with ⟨wb, _⟩ | ⟨wb, j, j1, j2, rfl⟩
  · refine Al.er X (k := 1) (by decide) (by decide) ?_ (fun h1 f => ?_)
    · unfold f_8_enough
      rw [wa, if_neg n10, wb, if_pos rfl, b2_id]; rfl
    · unfold f_9_enough
      rw [ea, wa, if_neg n10, eb, wb, if_pos rfl, b2_id]; rfl
  obtain ⟨t1, t2⟩ := e_t ⟨i, by omega⟩ i1 ⟨j, by omega⟩ j1
  simp only at t1 t2
  obtain ⟨v, t3⟩ := Option.isSome_iff_exists.mp t2
  rw [t3] at t1
  have C : f_8_enough (nI i) (nI j) h = eo (f_8_error 2) h (some v) := by
    unfold f_8_enough
    rw [wa, if_neg n10, wb, if_neg n10, enough_c, t3]
  have M : ∀ h, f_9_enough (nI i) (nI j) h = eo (f_9_finds 2) h (some v) := fun h => by
    unfold f_9_enough
    rw [ea, wa, if_neg n10, eb, wb, if_neg n10, enough_m, ← t1]
  cases v with
  | none => exact Al.er X (k := 2) (by decide) (by decide) C (fun h1 _ => M h1)
  | some r => exact ⟨r, h, h, C, M h, X⟩
/-! cast -/
def vo (c k : Nat) : Nat := c / 4 ^ (3 - k) % 4
theorem vo_t : ∀ c : Fin 256, ∀ k : Fin 4, f_8_voiceOf (nI c.val) (nI k.val) = nI (vo c.val k.val) ∧ (nI c.val >>> ((6 - (2 * nI k.val)) &&& 31)) &&& 3 = nI (vo c.val k.val) := by decide +kernel
theorem vo_lt (c k : Nat) : vo c k < 4 := Nat.mod_lt _ (by decide)
def mkf (c : Nat) : Nat → Nat → Int32 → Int32
  | 0, _, m => m
  | d + 1, k, m => mkf c d (k + 1) (m ||| (1 <<< (nI (vo c k) &&& 31)))
def smf (h : Hp) (c : Nat) : Nat → Nat → Int32 → Int32
  | 0, _, s => s
  | d + 1, k, s => smf h c d (k + 1) (s + h 12 (4 * k + vo c k))
theorem smf_n (x : INV h) (c : Nat) : ∀ (d k s : Nat), 4 = k + d → ∃ v : Nat, v ≤ s + 99 * d ∧ smf h c d k (nI s) = nI v
  | 0, k, s, e => ⟨s, by omega, rfl⟩
  | d + 1, k, s, e => by
    have l := vo_lt c k
    obtain ⟨_, v, v9, q⟩ := x.1.2.1.2.1 (4 * k + vo c k) (by omega)
    have q : h 12 (4 * k + vo c k) = nI v := q
    obtain ⟨w, w1, w2⟩ := smf_n x c d (k + 1) (s + v) (by omega)
    refine ⟨w, by omega, ?_⟩
    rw [smf, q, nI_add, w2]
theorem likes_c {c : Nat} (hc : c < 256) : ∀ (d k n : Nat) (s m : Int32), 4 = k + d → d < n → f_7_likesOf_7 (nI c) h n s m (nI k) = some (if mkf c d k m = 15 then smf h c d k s else -1)
  | 0, k, n, s, m, e1, e2 => by
    obtain ⟨n, rfl⟩ : ∃ z, n = z + 1 := ⟨n - 1, by omega⟩
    have c4 : (4 : Int32) ≤ nI k := nI_le (a := 4) (by omega) (by omega)
    rw [f_7_likesOf_7, if_pos c4]
    show _ = some (if m = 15 then s else -1)
    by_cases z : m = 15
    · rw [if_pos z, if_pos z]
    · rw [if_neg z, if_neg z]
  | d + 1, k, n, s, m, e1, e2 => by
    obtain ⟨n, rfl⟩ : ∃ z, n = z + 1 := ⟨n - 1, by omega⟩
    have c4 : ¬ (4 : Int32) ≤ nI k := nI_ge (b := 4) (by omega) (by decide)
    have l := vo_lt c k
    have v1 := (vo_t ⟨c, hc⟩ ⟨k, by omega⟩).1
    simp only at v1
    rw [f_7_likesOf_7, if_neg c4, v1, lit_nI 4, pk_mul, nI_add, gd_s _ (inb_nI (show 4 * k + vo c k < 16 by omega) (by decide)), ci_nI (by omega), nI_1, likes_c hc d (k + 1) n _ _ (by omega) (by omega)]
    rfl
theorem cast_m {c : Nat} {K : Int32 → Int32 → Int32 → Hp → Option (Int32 × Hp)} {x1 x2 x3 : Int32} (hc : c < 256) (h0 : Hp) (D : ∀ k, k < 16 → h0 115 (8 + k) = h 12 k) : ∀ (d k n : Nat) (m s : Int32), 4 = k + d → d < n → f_9_cast_44 K x1 x2 x3 (nI c) n m s (nI k) h0 = if mkf c d k m = 15 then (if smf h c d k s ≤ x3 then K x2 x3 (nI c + 1) h0 else K (nI c) (smf h c d k s) (nI c + 1) h0) else K x2 x3 (nI c + 1) h0
  | 0, k, n, m, s, e1, e2 => by
    obtain ⟨n, rfl⟩ : ∃ z, n = z + 1 := ⟨n - 1, by omega⟩
    have c4 : (4 : Int32) ≤ nI k := nI_le (a := 4) (by omega) (by omega)
    rw [f_9_cast_44, if_pos c4]
    rfl
  | d + 1, k, n, m, s, e1, e2 => by
    obtain ⟨n, rfl⟩ : ∃ z, n = z + 1 := ⟨n - 1, by omega⟩
    have c4 : ¬ (4 : Int32) ≤ nI k := nI_ge (b := 4) (by omega) (by decide)
    have l := vo_lt c k
    have v1 := (vo_t ⟨c, hc⟩ ⟨k, by omega⟩).2
    simp only at v1
    have e8 : 8 + 4 * nI k + nI (vo c k) = nI (8 + (4 * k + vo c k)) := by rw [lit_nI 4, pk_mul, lit_nI 8, nI_add, nI_add, Nat.add_assoc]
    rw [f_9_cast_44, if_neg c4, v1, e8, gd_s _ (inb_nI (show 8 + (4 * k + vo c k) < 380 by omega) (by decide)), ci_nI (by omega), D _ (by omega), nI_1 k, cast_m hc h0 D d (k + 1) n _ _ (by omega) (by omega)]
    rfl
def stp_ (h : Hp) (c : Nat) (b : Int32 × Int32) : Int32 × Int32 := if mkf c 4 0 0 = 15 then (if smf h c 4 0 0 ≤ b.2 then b else (nI c, smf h c 4 0 0)) else b
def bst (h : Hp) : Nat → Nat → Int32 × Int32 → Int32 × Int32
  | 0, _, b => b
  | d + 1, c, b => bst h d (c + 1) (stp_ h c b)
def lo1 (b : Int32 × Int32) : Prop := b.2 = -1 ∨ ∃ v : Nat, v < 1000 ∧ b.2 = nI v
theorem lo1_stp (x : INV h) {c : Nat} {b : Int32 × Int32} (q : lo1 b) : lo1 (stp_ h c b) := by
  unfold stp_
  obtain ⟨v, v1, v2⟩ := smf_n x c 4 0 0 (by decide)
  by_cases c1 : mkf c 4 0 0 = 15
  · rw [if_pos c1]
    by_cases c2 : smf h c 4 0 0 ≤ b.2
    · rw [if_pos c2]; exact q
    · rw [if_neg c2]; exact Or.inr ⟨v, by omega, v2⟩
  · rw [if_neg c1]; exact q
theorem m1_le {b : Int32 × Int32} (q : lo1 b) : (-1 : Int32) ≤ b.2 := by
  rcases q with q | ⟨v, v1, q⟩
  · rw [q]; decide
  · rw [q, Int32.le_iff_toInt_le, nI_toInt (by omega)]
    have : (-1 : Int32).toInt = -1 := by decide
    omega
theorem cast_cl (x : INV h) (a : Int32) (h0 : Hp) (e12 : h0 12 = h 12) : ∀ (d c n : Nat) (b : Int32 × Int32), 256 = c + d → d < n → lo1 b → f_8_cast_22 a n b.1 b.2 (nI c) h0 = if 0 ≤ a then some (f_8_voiceOf (bst h d c b).1 a, h0) else some ((bst h d c b).2, h0)
  | 0, c, n, b, e1, e2, q => by
    obtain ⟨n, rfl⟩ : ∃ z, n = z + 1 := ⟨n - 1, by omega⟩
    have c4 : (256 : Int32) ≤ nI c := nI_le (a := 256) (by omega) (by omega)
    rw [f_8_cast_22, if_pos c4]
    rfl
  | d + 1, c, n, b, e1, e2, q => by
    obtain ⟨n, rfl⟩ : ∃ z, n = z + 1 := ⟨n - 1, by omega⟩
    have c4 : ¬ (256 : Int32) ≤ nI c := nI_ge (b := 256) (by omega) (by decide)
    have L : f_7_likesOf (nI c) h0 = some (if mkf c 4 0 0 = 15 then smf h c 4 0 0 else -1) := by
      have q := likes_c (h := h0) (c := c) (by omega) 4 0 FU 0 0 (by decide) (by decide)
      have sg : ∀ (d k : Nat) (s : Int32), smf h0 c d k s = smf h c d k s := by
        intro d
        induction d with
        | zero => intro k s; rfl
        | succ d ih => intro k s; rw [smf, smf, e12, ih]
      rw [sg] at q
      exact q
    have e : (if (if mkf c 4 0 0 = 15 then smf h c 4 0 0 else -1) ≤ b.2 then f_8_cast_22 a n b.1 b.2 (nI c + 1) h0 else f_8_cast_22 a n (nI c) (if mkf c 4 0 0 = 15 then smf h c 4 0 0 else -1) (nI c + 1) h0) = f_8_cast_22 a n (stp_ h c b).1 (stp_ h c b).2 (nI c + 1) h0 := by
      unfold stp_
      by_cases c1 : mkf c 4 0 0 = 15
      · rw [if_pos c1, if_pos c1]
        by_cases c2 : smf h c 4 0 0 ≤ b.2
        · rw [if_pos c2, if_pos c2]
        · rw [if_neg c2, if_neg c2]
      · rw [if_neg c1, if_neg c1, if_pos (m1_le q)]
    rw [f_8_cast_22, if_neg c4, L, bnd_s, e, nI_1, cast_cl x a h0 e12 d (c + 1) n _ (by omega) (by omega) (lo1_stp x q)]
    rfl
theorem cast_rf (x : INV h) (a : Int32) (h0 : Hp) (D : ∀ k, k < 16 → h0 115 (8 + k) = h 12 k) : ∀ (d c n : Nat) (b : Int32 × Int32), 256 = c + d → d < n → f_9_cast_27 a n b.1 b.2 (nI c) h0 = if 0 ≤ a then some (((bst h d c b).1 >>> ((6 - (2 * a)) &&& 31)) &&& 3, h0) else some ((bst h d c b).2, h0)
  | 0, c, n, b, e1, e2 => by
    obtain ⟨n, rfl⟩ : ∃ z, n = z + 1 := ⟨n - 1, by omega⟩
    have c4 : (256 : Int32) ≤ nI c := nI_le (a := 256) (by omega) (by omega)
    rw [f_9_cast_27, if_pos c4]
    rfl
  | d + 1, c, n, b, e1, e2 => by
    obtain ⟨n, rfl⟩ : ∃ z, n = z + 1 := ⟨n - 1, by omega⟩
    have c4 : ¬ (256 : Int32) ≤ nI c := nI_ge (b := 256) (by omega) (by decide)
    have M := cast_m (h := h) (K := f_9_cast_27 a n) (x1 := a) (x2 := b.1) (x3 := b.2) (c := c) (by omega) h0 D 4 0 FU 0 0 (by decide) (by decide)
    have e : (if mkf c 4 0 0 = 15 then (if smf h c 4 0 0 ≤ b.2 then f_9_cast_27 a n b.1 b.2 (nI c + 1) h0 else f_9_cast_27 a n (nI c) (smf h c 4 0 0) (nI c + 1) h0) else f_9_cast_27 a n b.1 b.2 (nI c + 1) h0) = f_9_cast_27 a n (stp_ h c b).1 (stp_ h c b).2 (nI c + 1) h0 := by
      unfold stp_
      by_cases c1 : mkf c 4 0 0 = 15
      · rw [if_pos c1, if_pos c1]
        by_cases c2 : smf h c 4 0 0 ≤ b.2
        · rw [if_pos c2, if_pos c2]
        · rw [if_neg c2, if_neg c2]
      · rw [if_neg c1, if_neg c1]
    rw [f_9_cast_27, if_neg c4]
    refine M.trans (e.trans ?_)
    rw [nI_1, cast_rf x a h0 D d (c + 1) n _ (by omega) (by omega)]
    rfl
theorem bst_add (d : Nat) : ∀ (e c : Nat) (b : Int32 × Int32), bst h (e + d) c b = bst h d (c + e) (bst h e c b)
  | 0, c, b => by rw [Nat.zero_add]; rfl
  | e + 1, c, b => by
    rw [show e + 1 + d = (e + d) + 1 by omega, bst, bst_add d e (c + 1) _, show c + 1 + e = c + (e + 1) by omega]
    rfl
def qq (b b' : Int32 × Int32) : Prop := b.2 = b'.2 ∧ (b.2 = -1 ∨ b = b')
theorem qq_stp {c : Nat} {b b' : Int32 × Int32} (q : qq b b') : qq (stp_ h c b) (stp_ h c b') := by
  obtain ⟨q1, q2⟩ := q
  unfold stp_
  rw [← q1]
  by_cases c1 : mkf c 4 0 0 = 15
  · rw [if_pos c1, if_pos c1]
    by_cases c2 : smf h c 4 0 0 ≤ b.2
    · rw [if_pos c2, if_pos c2]; exact ⟨q1, q2⟩
    · rw [if_neg c2, if_neg c2]; exact ⟨rfl, Or.inr rfl⟩
  · rw [if_neg c1, if_neg c1]; exact ⟨q1, q2⟩
theorem qq_bst : ∀ (d c : Nat) (b b' : Int32 × Int32), qq b b' → qq (bst h d c b) (bst h d c b')
  | 0, _, _, _, q => q
  | d + 1, c, _, _, q => qq_bst d (c + 1) _ _ (qq_stp q)
theorem lo1_bst (x : INV h) : ∀ (d c : Nat) (b : Int32 × Int32), lo1 b → lo1 (bst h d c b)
  | 0, _, _, q => q
  | d + 1, c, _, q => lo1_bst x d (c + 1) _ (lo1_stp x q)
theorem bst_s (d c : Nat) (b : Int32 × Int32) : bst h (d + 1) c b = bst h d (c + 1) (stp_ h c b) := rfl
theorem bst_eq (x : INV h) : (bst h 256 0 (0, -1)) = (bst h 256 0 (-1, -1)) := by
  have q27 : qq (bst h 27 0 (0, -1)) (bst h 27 0 (-1, -1)) := qq_bst 27 0 _ _ ⟨rfl, Or.inl rfl⟩
  have l27 : lo1 (bst h 27 0 (0, -1)) := lo1_bst x 27 0 _ (Or.inl rfl)
  rw [show 256 = 27 + 229 from rfl, bst_add, bst_add, show 0 + 27 = 27 from rfl]
  generalize bst h 27 0 (0, -1) = b at q27 l27
  generalize bst h 27 0 (-1, -1) = b' at q27
  obtain ⟨q1, q2⟩ := q27
  have s : stp_ h 27 b = stp_ h 27 b' := by
    obtain ⟨v, v1, v2⟩ := smf_n x 27 4 0 0 (by decide)
    have v2 : smf h 27 4 0 0 = nI v := v2
    rcases q2 with q2 | q2
    · unfold stp_
      have c1 : mkf 27 4 0 0 = 15 := by decide
      have c2 : ¬ nI v ≤ (-1 : Int32) := by
        rw [Int32.le_iff_toInt_le, nI_toInt (by omega)]
        have : (-1 : Int32).toInt = -1 := by decide
        omega
      rw [← q1, if_pos c1, if_pos c1, v2, q2, if_neg c2, if_neg c2]
    · rw [q2]
  rw [show 229 = 228 + 1 from rfl, bst_s 228 27 b, bst_s 228 27 b', s]
theorem wiE (x A B : Int32) : f_8_within x A B = 0 ∨ (f_8_within x A B = 1 ∧ A.toInt ≤ x.toInt ∧ x.toInt ≤ B.toInt) := by
  rw [wi_eq]
  by_cases c : A ≤ x ∧ x ≤ B
  · rw [if_pos c]
    exact Or.inr ⟨rfl, Int32.le_iff_toInt_le.mp c.1, Int32.le_iff_toInt_le.mp c.2⟩
  · rw [if_neg c]; exact Or.inl rfl
theorem al_cast (X : AI h) (a : Int32) : Al (f_8_cast a) (f_9_cast a) h := by
  have x := X.1
  have ea := in_w a (A := -1) (B := 3) (-1) 3 (by decide) (by decide)
  have n10 : ¬ (1 : Int32) = 0 := by decide
  rcases wiE a (-1) 3 with w | ⟨w, w1, w2⟩
  · refine Al.er X (k := 1) (by decide) (by decide) ?_ (fun h1 f => ?_)
    · unfold f_8_cast
      rw [w, if_pos rfl, b2_id]; rfl
    · unfold f_9_cast
      rw [ea, w, if_pos rfl, b2_id]; rfl
  have C : f_8_cast a h = if 0 ≤ a then some (f_8_voiceOf (bst h 256 0 (0, -1)).1 a, h) else some ((bst h 256 0 (0, -1)).2, h) := by
    unfold f_8_cast
    rw [w, if_neg n10]
    exact cast_cl x a h rfl 256 0 FU (0, -1) (by decide) (by decide) (Or.inl rfl)
  have M : f_9_cast a h = if 0 ≤ a then some (((bst h 256 0 (-1, -1)).1 >>> ((6 - (2 * a)) &&& 31)) &&& 3, h) else some ((bst h 256 0 (-1, -1)).2, h) := by
    unfold f_9_cast
    rw [ea, w, if_neg n10]
    exact cast_rf x a h (fun k hk => (x.1.2.1.2.1 k hk).1) 256 0 FU (-1, -1) (by decide) (by decide)
  rw [bst_eq x] at C
  by_cases c0 : 0 ≤ a
  · rw [if_pos c0] at C M
    refine ⟨_, h, h, C, ?_, X⟩
    rw [M]
    unfold f_8_voiceOf
    have e : (2 : Int32) * (3 - a) = 6 - 2 * a := by
      have c0' := Int32.le_iff_toInt_le.mp c0
      have t0 : (0 : Int32).toInt = 0 := by decide
      have t3 : (3 : Int32).toInt = 3 := by decide
      have : a = nI a.toInt.toNat := nI_of_toInt (by omega) (by omega)
      rw [this]
      have f : ∀ k : Fin 4, (2 : Int32) * (3 - nI k.val) = 6 - 2 * nI k.val := by decide
      exact f ⟨a.toInt.toNat, by omega⟩
    rw [e]
  · rw [if_neg c0] at C M
    exact ⟨_, h, h, C, M, X⟩
end
