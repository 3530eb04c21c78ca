/-! the search in the reference: a row is looked at -/
section
variable {h : Hp}
def bI (f : Bool) : Int32 := if f = true then 1 else 0
theorem heard_w {p b j N kk : Nat} (hb : ci (h p 4) = b) (hf : ∀ k, k < 60 → h 115 (24 + k) = h 2 k) (hj : j < 10) (N5 : N ≤ 5) (hN : h 115 (84 + 7 * j) = nI N) (hm : ∀ k, k < N → h 115 (84 + 7 * j + 2 + k) = h (17 + 2 * j) k) (hkk : kk < 3) (h0 : Hp) (e0 : h0 115 = h 115) (e9 : h0 119 kk = nI j) (K : Int32 → Int32 → Int32 → Hp → Option (Int32 × Hp)) : ∀ (d k i n : Nat) (f : Bool), N = k + d → d < n → b + i + d ≤ 60 → f_9_isHeard_57 K (nI kk) n (nI (24 + (b + i))) (bI f) (nI k) h0 = K (nI (24 + (b + (i + d)))) (bI (hw h p j d k i f)) (nI kk + 1) h0
  | 0, k, i, n, f, e1, e2, e3 => by
    obtain ⟨n, rfl⟩ : ∃ z, n = z + 1 := ⟨n - 1, by omega⟩
    have q : f_9_its (nI j) 0 h0 = some (nI N) := by
      have q := its_m (h := h0) (k := 0) hj (by decide)
      rw [Nat.add_zero, e0, hN] at q
      exact q
    rw [f_9_isHeard_57, gd_s _ (inb_nI (show kk < 3 by omega) (by decide)), ci_nI (by omega), e9, q, bnd_s, if_pos (nI_le (by omega) (by omega))]
    rfl
  | d + 1, k, i, n, f, e1, e2, e3 => by
    obtain ⟨n, rfl⟩ : ∃ z, n = z + 1 := ⟨n - 1, by omega⟩
    have q : f_9_its (nI j) 0 h0 = some (nI N) := by
      have q := its_m (h := h0) (k := 0) hj (by decide)
      rw [Nat.add_zero, e0, hN] at q
      exact q
    have q2 : f_9_its (nI j) (2 + nI k) h0 = some (h (17 + 2 * j) k) := by
      rw [lit_nI 2, nI_add, its_m hj (by omega), e0, show 84 + 7 * j + (2 + k) = 84 + 7 * j + 2 + k by omega, hm k (by omega)]
    have ih := fun f => heard_w hb hf hj N5 hN hm hkk h0 e0 e9 K d (k + 1) (i + 1) n f (by omega) (by omega) (by omega)
    have a1 : nI (24 + (b + i)) + 1 = nI (24 + (b + (i + 1))) := nI_1 _
    have g : inb (nI (24 + (b + i))) 380 = true := inb_nI (by omega) (by decide)
    have fl : fl_ h p i = h 115 (24 + (b + i)) := by
      unfold fl_
      rw [hb, if_pos (by omega), hf _ (by omega)]
    rw [f_9_isHeard_57, gd_s _ (inb_nI (show kk < 3 by omega) (by decide)), ci_nI (by omega), e9, q, bnd_s, if_neg (nI_ge (by omega) (by omega)), hw, show i + (d + 1) = i + 1 + d by omega, ← ih, a1, nI_1]
    cases f with
    | false =>
      rw [if_pos (show bI false = 0 from rfl)]
      rfl
    | true =>
      rw [if_neg (show ¬ bI true = 0 by decide), gd_s _ g, ci_nI (by omega), e0, Bool.true_and]
      unfold mt
      rw [fl]
      by_cases c1 : h 115 (24 + (b + i)) = 3
      · rw [if_pos c1]
        simp only [c1, decide_true, Bool.true_or]
        rfl
      · rw [if_neg c1, gd_s _ g, gd_s _ (inb_nI (show kk < 3 by omega) (by decide)), q2, bnd_s]
        by_cases c2 : h 115 (24 + (b + i)) = h (17 + 2 * j) k
        · rw [if_pos c2]
          simp only [c2, decide_true, Bool.or_true]
          rfl
        · rw [if_neg c2]
          simp only [c1, c2, decide_false, Bool.or_false]
          rfl
theorem heard_r {p b s : Nat} {R : Nat → Nat} (hb : ci (h p 4) = b) (hf : ∀ k, k < 60 → h 115 (24 + k) = h 2 k) (s3 : s ≤ 3) (w : WM h R s) (h0 : Hp) (e0 : h0 115 = h 115) (e11 : h0 114 11 = nI s) (e9 : ∀ t, t < s → h0 119 t = nI (R t)) : ∀ (d k i n : Nat) (f : Bool), s = k + d → d < n → b + rl h R d k i ≤ 60 → f_9_isHeard_45 n (nI (24 + (b + i))) (bI f) (nI k) h0 = some (bI (hr h p R d k i f), h0)
  | 0, k, i, n, f, e1, e2, e3 => by
    obtain ⟨n, rfl⟩ : ∃ z, n = z + 1 := ⟨n - 1, by omega⟩
    have g : decide (bI f &&& 1 = bI f) = true := by cases f <;> decide
    rw [f_9_isHeard_45, e11, if_pos (nI_le (by omega) (by omega)), gd_s _ g]
    rfl
  | d + 1, k, i, n, f, e1, e2, e3 => by
    obtain ⟨n, rfl⟩ : ∃ z, n = z + 1 := ⟨n - 1, by omega⟩
    obtain ⟨w1, w2⟩ := w.ws.len (show k < s by omega)
    obtain ⟨w3, w4⟩ := w.at (show k < s by omega)
    rw [rl] at e3
    have le : ∀ (d k i : Nat), i ≤ rl h R d k i := by
      intro d
      induction d with
      | zero => intro k i; exact Nat.le_refl i
      | succ d ih =>
        intro k i
        rw [rl]
        have := ih (k + 1) (i + wl h (R k))
        omega
    have l1 := le d (k + 1) (i + wl h (R k))
    have H := heard_w (p := p) hb hf (w k (by omega)).1 w1 w3 w4 (show k < 3 by omega) h0 e0 (e9 k (by omega)) (f_9_isHeard_45 n) (wl h (R k)) 0 i FU f (by omega) (by show _ < 4096; omega) (by omega)
    have H : f_9_isHeard_57 (f_9_isHeard_45 n) (nI k) FU (nI (24 + (b + i))) (bI f) 0 h0 = _ := H
    rw [f_9_isHeard_45, e11, if_neg (nI_ge (by omega) (by omega)), H, nI_1, heard_r hb hf s3 w h0 e0 e11 e9 d (k + 1) (i + wl h (R k)) n _ (by omega) (by omega) e3]
    rfl
/-! off is never below nothing -/
theorem seen_t : ∀ K : Fin 7, ∀ m : Fin 10, ∀ t : Fin 100, 0 ≤ (f_8_seenOf (nI K.val) (nI m.val) (nI t.val)).toInt ∧ (f_8_seenOf (nI K.val) (nI m.val) (nI t.val)).toInt ≤ 207 := by decide +kernel
theorem ends_t : ∀ K : Fin 7, ∀ m : Fin 10, 0 ≤ (f_8_endsOf (nI K.val) (nI m.val) 0).toInt ∧ (f_8_endsOf (nI K.val) (nI m.val) 0).toInt ≤ 9 := by decide +kernel
theorem sv_b {p s W : Nat} {D : Nat → Int32} (L : LN h p D s W) (i : Nat) (v : Int32) : ∃ k : Nat, k ≤ 207 ∧ sv h p i v = nI k := by
  obtain ⟨K, m, b, n, z, w, ⟨K6, m9, _⟩, ⟨c1, _⟩, ⟨c2, _⟩, _⟩ := L
  unfold sv
  by_cases a1 : ci (h p 5) ≤ i
  · exact ⟨0, by decide, by rw [if_pos a1]; rfl⟩
  rw [if_neg a1]
  by_cases a2 : h 2 (ci (h p 4) + i) = 3
  · exact ⟨0, by decide, by rw [if_pos a2]; rfl⟩
  rw [if_neg a2, c1, c2]
  obtain ⟨t, t9, e⟩ := tA_b h 6 (h 2 (ci (h p 4) + i)) v (nI i)
  rw [e]
  obtain ⟨q1, q2⟩ := seen_t ⟨K, by omega⟩ ⟨m, by omega⟩ ⟨t, by omega⟩
  simp only at q1 q2
  exact ⟨(f_8_seenOf (nI K) (nI m) (nI t)).toInt.toNat, by omega, nI_of_toInt (by omega) (by omega)⟩
theorem ws_b {p s W j : Nat} {D : Nat → Int32} (L : LN h p D s W) : ∀ (n k i S : Nat), ∃ S', ws h p j n k i (nI S) = nI S' ∧ S' ≤ S + 207 * n
  | 0, _, _, S => ⟨S, rfl, by omega⟩
  | n + 1, k, i, S => by
    obtain ⟨v, v1, v2⟩ := sv_b L i (h (17 + 2 * j) k)
    rw [ws, v2, nI_add]
    obtain ⟨S', a1, a2⟩ := ws_b (j := j) L n (k + 1) (i + 1) (S + v)
    exact ⟨S', a1, by omega⟩
theorem rs_b {p s W : Nat} {R : Nat → Nat} {D : Nat → Int32} (L : LN h p D s W) : ∀ (d k i S : Nat), (∀ t, t < k + d → wl h (R t) ≤ 5) → ∃ S', (rs h p R d k i (nI S)).1 = nI S' ∧ S' ≤ S + 1035 * d
  | 0, _, _, S, _ => ⟨S, rfl, by omega⟩
  | d + 1, k, i, S, w => by
    obtain ⟨S1, a1, a2⟩ := ws_b (j := R k) L (wl h (R k)) 0 i S
    have w5 := w k (by omega)
    rw [rs, a1]
    obtain ⟨S', b1, b2⟩ := rs_b L d (k + 1) (i + wl h (R k)) S1 (fun t ht => w t (by omega))
    refine ⟨S', b1, ?_⟩
    have : 207 * wl h (R k) ≤ 207 * 5 := Nat.mul_le_mul_left 207 w5
    omega
theorem ov_n0 {p s' W s : Nat} {R : Nat → Nat} {D : Nat → Int32} (L : LN h p D s' W) (s3 : s ≤ 3) (w : ∀ t, t < s → wl h (R t) ≤ 5) (e : nI (rs h p R s 0 0 0).2 = h p 5) : ¬ ov h p R s < 0 := by
  have L' := L
  obtain ⟨K, m, b, n, z, w', ⟨K6, m9, _⟩, ⟨c1, _⟩, ⟨c2, _⟩, _⟩ := L
  obtain ⟨S', a1, a2⟩ := rs_b (R := R) L' s 0 0 0 (fun t ht => w t (by omega))
  have a1 : (rs h p R s 0 0 0).1 = nI S' := a1
  unfold ov
  rw [a1, e, Int32.sub_self, c1, c2, show iabs 0 = 0 from rfl]
  obtain ⟨q1, q2⟩ := ends_t ⟨K, by omega⟩ ⟨m, by omega⟩
  simp only at q1 q2
  have q3 : f_8_endsOf (nI K) (nI m) 0 = nI (f_8_endsOf (nI K) (nI m) 0).toInt.toNat := nI_of_toInt (by omega) (by omega)
  rw [q3, nI_add]
  exact fun q => absurd ((nI_ltI (b := 0) (by omega) (by decide)).mp q) (Nat.not_lt_zero _)
theorem isHeard_m (x : INV h) {l s : Nat} {R : Nat → Nat} (hl : l < ci (h 1 11)) (s3 : s ≤ 3) (hR : ∀ t, t < s → R t < ci (h 1 10)) (h0 : Hp) (f : PF h h0) (e11 : h0 114 11 = nI s) (e9 : ∀ t, t < s → h0 119 t = nI (R t)) : ∃ h1, f_9_isHeard (nI l) h0 = some (bI (decide (rl h R s 0 0 = ci (h (36 + 2 * l) 5)) && hr h (36 + 2 * l) R s 0 0 true), h1) ∧ FO h0 h1 := by
  have l6 := x.L.2
  have x0 := f.inv x
  have L0 := x0.line (l := l) (by rw [f.L]; exact hl)
  have w0 : WM h0 R s := x0.WM (fun t ht => by rw [f.M]; exact hR t ht)
  have w10 := x.W.2
  obtain ⟨h3, a1, a2, a3⟩ := offNow_m (h := h0) (R := R) x0.T6 L0 (by omega) x0.film s3 e11 e9 w0
  obtain ⟨K, m, b, nn, z, w', ⟨K6, m9, n1, n15, bn, _, _⟩, ⟨c1, _⟩, ⟨c2, _⟩, ⟨c3, c3'⟩, ⟨c4, c4'⟩, _⟩ := x.line hl
  have cg : rl h0 R s 0 0 = rl h R s 0 0 := by
    rw [← rs_rl (h := h0) (p := 36 + 2 * l) s 0 0 0, ← rs_rl (h := h) (p := 36 + 2 * l) s 0 0 0]
    exact congrArg Prod.snd (rs_cong f.rd (by omega) (by omega) s 0 0 0 (fun t ht => ⟨by have := hR t (by omega); omega, rfl⟩))
  have o3 : f_9_of (nI l) 3 h3 = some (nI nn) := by
    have q := of_m (h := h3) (l := l) (k := 3) (by omega) (by decide)
    rw [a1.1 115 (by decide) (by decide), f.D, c4'] at q
    exact q
  have o2 : f_9_of (nI l) 2 h3 = some (nI b) := by
    have q := of_m (h := h3) (l := l) (k := 2) (by omega) (by decide)
    rw [a1.1 115 (by decide) (by decide), f.D, c3'] at q
    exact q
  rw [rs_rl, cg] at a2
  have rle : rl h R s 0 0 ≤ 15 := by
    rw [← rs_rl (h := h) (p := 36 + 2 * l) s 0 0 0]
    have := rs_len (h := h) (p := 36 + 2 * l) (R := R) s 0 0 0 (fun t ht => by
      have := (x.WM hR).ws.len (show t < s by omega)
      exact this.1)
    omega
  refine ⟨h3, ?_, a1⟩
  unfold f_9_isHeard
  rw [a3, bnd2_s, o3, bnd_s, a2, c4, ci_nI (by omega)]
  by_cases c : rl h R s 0 0 = nn
  · have c' : nI (rl h R s 0 0) = nI nn := by rw [c]
    have nz : ¬ ov h0 (36 + 2 * l) R s < 0 := ov_n0 L0 s3 (fun t ht => (w0.ws.len ht).1) (by rw [rs_rl, cg, c, f.1 (36 + 2 * l) (by unfold scr; omega), c4])
    have H := heard_r (h := h) (p := 36 + 2 * l) (b := b) (s := s) (R := R) (by rw [c3, ci_nI (by omega)]) x.film s3 (x.WM hR) h3 (by rw [a1.1 115 (by decide) (by decide), f.D]) (by rw [a1.2 11 (by decide)]; exact e11) (fun t ht => by rw [a1.1 119 (by decide) (by decide)]; exact e9 t ht) s 0 0 FU true (by omega) (by show _ < 4096; omega) (by omega)
    have H : f_9_isHeard_45 FU (nI (24 + b)) 1 0 h3 = _ := H
    rw [if_pos c', o2, bnd_s, if_neg nz, lit_nI 24, nI_add, H]
    simp only [c, decide_true, Bool.true_and]
  · have c' : ¬ nI (rl h R s 0 0) = nI nn := fun e => c ((nI_eq (by omega) (by omega)).mp e)
    rw [if_neg c']
    simp only [c, decide_false, Bool.false_and]
    rfl
end
