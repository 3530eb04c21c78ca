set_option maxRecDepth 100000 in
set_option maxHeartbeats 4000000 in
theorem s_7_off_32 {γ : Gm} {ε : En} {dd : Nat} (hd : 4 ≤ dd) {r : Int32} {hz : Hp} {K7 : Int32 → Int32 → Int32 → Hp → Option (Int32 × Hp)} {p1 : Nat} {x4 : Int32} {p5 : Nat} (q1 : isO 0 p1) (q5 : isO 6 p5) (HK7 : ∀ (x2 : Int32) (x3 : Int32) (x4 : Int32) (h : Hp), K7 x2 x3 x4 h = some (r, hz) → VW γ ε cX7_off RX7 7 dd 7 [(0, .ref (γ.2.2.1 1)), (1, .ref (γ.2.2.1 p1)), (2, .int x2), (3, .int x3), (4, .int x4)] [] h) (hR : RT γ ε (some .int) (QI r hz)) : ∀ (n : Nat) (x2 : Int32) (x3 : Int32) (x6 : Int32) (h : Hp), f_7_off_32 K7 p1 x4 p5 n x2 x3 x6 h = some (r, hz) → VW γ ε cX7_off RX7 7 dd 32 [(0, .ref (γ.2.2.1 1)), (1, .ref (γ.2.2.1 p1)), (2, .int x2), (3, .int x3), (4, .int x4), (5, .ref (γ.2.2.1 p5)), (6, .int x6)] [] h := by
  intro n
  induction n with
  | zero =>
    intro x2 x3 x6 h hr
    exact nf hr
  | succ n ih =>
    intro x2 x3 x6 h hr
    rw [f_7_off_32] at hr
    refine VW.iload d7_off_32 6 rfl ?_
    refine VW.aload d7_off_34 5 rfl ?_
    refine VW.getI (k := 2) d7_off_36 (oo_6 q5) rfl fl_7_146 ck6 ?_
    refine VW.icmp_ge 68 d7_off_39 (by decide) (fun c5 => ?_) (fun c5 => ?_)
    · replace hr := ip hr c5
      refine VW.iinc (w := 1) (lo' := [(4, .int (x4 + 1)), (0, .ref (γ.2.2.1 1)), (1, .ref (γ.2.2.1 p1)), (2, .int x2), (3, .int x3), (5, .ref (γ.2.2.1 p5)), (6, .int x6)]) d7_off_68 4 rfl ic_1 (by decide) rfl ?_
      refine VW.goto 7 d7_off_71 (by decide) ?_
      exact VW.sub [1, 2, 3, 4, 0] rfl (HK7 x2 x3 (x4 + 1) h hr)
    · replace hr := im hr c5
      refine VW.iload_n d7_off_42 2 rfl ?_
      refine VW.aload_n d7_off_43 0 rfl ?_
      refine VW.aload_n d7_off_44 1 rfl ?_
      refine VW.iload_n d7_off_45 3 rfl ?_
      refine VW.aload d7_off_46 5 rfl ?_
      refine VW.getR (k := 0) (r := (p5 + 1)) d7_off_48 (oo_6 q5) rfl fl_7_149 ck6 ?_
      refine VW.iload d7_off_51 6 rfl ?_
      obtain ⟨g6, hr⟩ := gdt hr
      refine VW.iald (j := (ci x6)) d7_off_53 (rf_6_0 q5) g6 rfl ?_
      obtain ⟨r8, h9, e7, hr⟩ := bno2 hr
      refine VW.callV (As := [.ref (γ.2.2.1 p1), .int x3, .int (h (p5 + 1) (ci x6))]) (st := [.int x2]) d7_off_54 mi_7_seenAt cv_7_152 (oo_7 o7_1) ⟨rfl, rfl⟩ (by decide) (dl1 hd) _ rfl (Nat.le_of_ble_eq_true rfl) rfl (c_7_seenAt q1 (dl hd rfl) e7) (kI ?_)
      refine VW.iadd d7_off_57 ?_
      refine VW.istore_n (lo' := [(2, .int (x2 + r8)), (0, .ref (γ.2.2.1 1)), (1, .ref (γ.2.2.1 p1)), (3, .int x3), (4, .int x4), (5, .ref (γ.2.2.1 p5)), (6, .int x6)]) d7_off_58 (by decide) rfl ?_
      refine VW.iinc (w := 1) (lo' := [(3, .int (x3 + 1)), (2, .int (x2 + r8)), (0, .ref (γ.2.2.1 1)), (1, .ref (γ.2.2.1 p1)), (4, .int x4), (5, .ref (γ.2.2.1 p5)), (6, .int x6)]) d7_off_59 3 rfl ic_1 (by decide) rfl ?_
      refine VW.iinc (w := 1) (lo' := [(6, .int (x6 + 1)), (3, .int (x3 + 1)), (2, .int (x2 + r8)), (0, .ref (γ.2.2.1 1)), (1, .ref (γ.2.2.1 p1)), (4, .int x4), (5, .ref (γ.2.2.1 p5))]) d7_off_62 6 rfl ic_1 (by decide) rfl ?_
      refine VW.goto 32 d7_off_65 (by decide) ?_
      exact VW.sub [3, 4, 2, 1, 5, 6, 0] rfl (ih (x2 + r8) (x3 + 1) (x6 + 1) h9 hr)
set_option maxRecDepth 100000 in
set_option maxHeartbeats 4000000 in
theorem s_7_off_7 {γ : Gm} {ε : En} {dd : Nat} (hd : 4 ≤ dd) {r : Int32} {hz : Hp} {p1 : Nat} (q1 : isO 0 p1) (hR : RT γ ε (some .int) (QI r hz)) : ∀ (n : Nat) (x2 : Int32) (x3 : Int32) (x4 : Int32) (h : Hp), f_7_off_7 p1 n x2 x3 x4 h = some (r, hz) → VW γ ε cX7_off RX7 7 dd 7 [(0, .ref (γ.2.2.1 1)), (1, .ref (γ.2.2.1 p1)), (2, .int x2), (3, .int x3), (4, .int x4)] [] h := by
  intro n
  induction n with
  | zero =>
    intro x2 x3 x4 h hr
    exact nf hr
  | succ n ih =>
    intro x2 x3 x4 h hr
    rw [f_7_off_7] at hr
    refine VW.iload d7_off_7 4 rfl ?_
    refine VW.aload_n d7_off_9 1 rfl ?_
    refine VW.getI (k := 1) d7_off_10 (oo_0 q1) rfl fl_7_138 ck0 ?_
    refine VW.icmp_ge 74 d7_off_13 (by decide) (fun c1 => ?_) (fun c1 => ?_)
    · replace hr := ip hr c1
      refine VW.iload_n d7_off_74 2 rfl ?_
      refine VW.aload_n d7_off_75 1 rfl ?_
      refine VW.getI (k := 2) d7_off_76 (oo_0 q1) rfl fl_7_126 ck0 ?_
      refine VW.aload_n d7_off_79 1 rfl ?_
      refine VW.getI (k := 3) d7_off_80 (oo_0 q1) rfl fl_7_129 ck0 ?_
      refine VW.iload_n d7_off_83 3 rfl ?_
      refine VW.aload_n d7_off_84 1 rfl ?_
      refine VW.getI (k := 5) d7_off_85 (oo_0 q1) rfl fl_7_123 ck0 ?_
      refine VW.isub d7_off_88 ?_
      refine VW.mabs d7_off_89 jl_7_156 (dl1 hd) (Nat.le_of_ble_eq_true rfl) ?_
      refine VW.callN (As := [.int (h p1 2), .int (h p1 3), .int (iabs (x3 - (h p1 5)))]) (st := [.int x2]) d7_off_92 mi_8_endsOf cn_7_159 (by decide) (dl1 hd) _ rfl (Nat.le_of_ble_eq_true rfl) rfl (c_8_endsOf (dl hd rfl) rfl) (kI ?_)
      refine VW.iadd d7_off_95 ?_
      exact VW.iret d7_off_96 hR (rIw hr)
    · replace hr := im hr c1
      refine VW.aload_n d7_off_16 0 rfl ?_
      refine VW.aload_n d7_off_17 1 rfl ?_
      refine VW.getR (k := 0) (r := (p1 + 1)) d7_off_18 (oo_0 q1) rfl fl_7_139 ck0 ?_
      refine VW.iload d7_off_21 4 rfl ?_
      obtain ⟨g2, hr⟩ := gdt hr
      refine VW.iald (j := (ci x4)) d7_off_23 (rf_0_0 q1) g2 rfl ?_
      obtain ⟨r4, e3, hr⟩ := bno hr
      refine VW.callV (As := [.int (h (p1 + 1) (ci x4))]) (st := []) d7_off_24 mi_7_wordAt cv_7_142 (oo_7 o7_1) ⟨rfl, rfl⟩ (by decide) (dl1 hd) _ rfl (Nat.le_of_ble_eq_true rfl) rfl (c_7_wordAt (dl hd rfl) e3) (kR ?_)
      refine VW.astore (lo' := [(5, .ref (γ.2.2.1 r4)), (0, .ref (γ.2.2.1 1)), (1, .ref (γ.2.2.1 p1)), (2, .int x2), (3, .int x3), (4, .int x4)]) d7_off_27 (by decide) rfl ?_
      refine VW.iconst (v := 0) d7_off_29 ic_0 ?_
      refine VW.istore (lo' := [(6, .int 0), (5, .ref (γ.2.2.1 r4)), (0, .ref (γ.2.2.1 1)), (1, .ref (γ.2.2.1 p1)), (2, .int x2), (3, .int x3), (4, .int x4)]) d7_off_30 (by decide) rfl ?_
      exact VW.sub [2, 3, 4, 5, 6, 1, 0] rfl (s_7_off_32 hd q1 (co_7_wordAt (h (p1 + 1) (ci x4)) e3) ih hR FU x2 x3 0 h hr)
set_option maxRecDepth 100000 in
set_option maxHeartbeats 4000000 in
theorem c_7_off {γ : Gm} {dd : Nat} {p1 : Nat} (q1 : isO 0 p1) {h : Hp} {r : Int32} {hz : Hp} (hd : 4 ≤ dd) (hr : f_7_off p1 h = some (r, hz)) : MC γ dd yX7_off cX7_off 7 (some .int) [.ref (γ.2.2.1 1), .ref (γ.2.2.1 p1)] h (QI r hz) := by
  unfold f_7_off at hr
  refine MC.of mi_7_off (Nat.le_of_ble_eq_true rfl) (fun ε hR => ?_)
  show VW γ ε cX7_off RX7 7 dd 0 [(0, .ref (γ.2.2.1 1)), (1, .ref (γ.2.2.1 p1))] [] h
  refine VW.iconst (v := 0) d7_off_0 ic_0 ?_
  refine VW.istore_n (lo' := [(2, .int 0), (0, .ref (γ.2.2.1 1)), (1, .ref (γ.2.2.1 p1))]) d7_off_1 (by decide) rfl ?_
  refine VW.iconst (v := 0) d7_off_2 ic_0 ?_
  refine VW.istore_n (lo' := [(3, .int 0), (2, .int 0), (0, .ref (γ.2.2.1 1)), (1, .ref (γ.2.2.1 p1))]) d7_off_3 (by decide) rfl ?_
  refine VW.iconst (v := 0) d7_off_4 ic_0 ?_
  refine VW.istore (lo' := [(4, .int 0), (3, .int 0), (2, .int 0), (0, .ref (γ.2.2.1 1)), (1, .ref (γ.2.2.1 p1))]) d7_off_5 (by decide) rfl ?_
  exact VW.sub [3, 4, 2, 1, 0] rfl (s_7_off_7 hd q1 hR FU 0 0 0 h hr)
set_option maxRecDepth 100000 in
set_option maxHeartbeats 4000000 in
theorem s_7_noticedOfAll_4 {γ : Gm} {ε : En} {dd : Nat} (hd : 5 ≤ dd) {r : Int32} {hz : Hp} (hR : RT γ ε (some .int) (QI r hz)) : ∀ (n : Nat) (x1 : Int32) (x2 : Int32) (h : Hp), f_7_noticedOfAll_4 n x1 x2 h = some (r, hz) → VW γ ε cX7_noticedOfAll RX7 3 dd 4 [(0, .ref (γ.2.2.1 1)), (1, .int x1), (2, .int x2)] [] h := by
  intro n
  induction n with
  | zero =>
    intro x1 x2 h hr
    exact nf hr
  | succ n ih =>
    intro x1 x2 h hr
    rw [f_7_noticedOfAll_4] at hr
    refine VW.iload_n d7_noticedOfAll_4 2 rfl ?_
    refine VW.aload_n d7_noticedOfAll_5 0 rfl ?_
    refine VW.getI (k := 11) d7_noticedOfAll_6 (oo_7 o7_1) rfl fl_7_56 ck7 ?_
    refine VW.icmp_ge 57 d7_noticedOfAll_9 (by decide) (fun c1 => ?_) (fun c1 => ?_)
    · replace hr := ip hr c1
      refine VW.iload_n d7_noticedOfAll_57 1 rfl ?_
      exact VW.iret d7_noticedOfAll_58 hR (rIw hr)
    · replace hr := im hr c1
      refine VW.iload_n d7_noticedOfAll_12 1 rfl ?_
      refine VW.aload_n d7_noticedOfAll_13 0 rfl ?_
      refine VW.aload_n d7_noticedOfAll_14 0 rfl ?_
      refine VW.aload_n d7_noticedOfAll_15 0 rfl ?_
      refine VW.getR (k := 2) (r := 4) d7_noticedOfAll_16 (oo_7 o7_1) rfl fl_7_23 ck7 ?_
      refine VW.iload_n d7_noticedOfAll_19 2 rfl ?_
      obtain ⟨g2, hr⟩ := gdt hr
      refine VW.aald (z := 36 + 2 * (ci x2)) d7_noticedOfAll_20 (rf_7_2 o7_1) (by decide) (by decide) g2 rfl ?_
      obtain ⟨r4, h5, e3, hr⟩ := bno2 hr
      refine VW.callV (As := [.ref (γ.2.2.1 (36 + 2 * (ci x2)))]) (st := [.ref (γ.2.2.1 1), .int x1]) d7_noticedOfAll_21 mi_7_off cv_7_168 (oo_7 o7_1) ⟨rfl, rfl⟩ (by decide) (dl1 hd) _ rfl (Nat.le_of_ble_eq_true rfl) rfl (c_7_off (re_7_2 o7_1 (inb_lt g2)) (dl hd rfl) e3) (kI ?_)
      refine VW.aload_n d7_noticedOfAll_24 0 rfl ?_
      refine VW.aload_n d7_noticedOfAll_25 0 rfl ?_
      refine VW.getR (k := 2) (r := 4) d7_noticedOfAll_26 (oo_7 o7_1) rfl fl_7_23 ck7 ?_
      refine VW.iload_n d7_noticedOfAll_29 2 rfl ?_
      obtain ⟨g6, hr⟩ := gdt hr
      refine VW.aald (z := 36 + 2 * (ci x2)) d7_noticedOfAll_30 (rf_7_2 o7_1) (by decide) (by decide) g6 rfl ?_
      obtain ⟨r8, e7, hr⟩ := bno hr
      refine VW.callV (As := [.ref (γ.2.2.1 (36 + 2 * (ci x2)))]) (st := [.int r4, .ref (γ.2.2.1 1), .int x1]) d7_noticedOfAll_31 mi_7_loss cv_7_172 (oo_7 o7_1) ⟨rfl, rfl⟩ (by decide) (dl1 hd) _ rfl (Nat.le_of_ble_eq_true rfl) rfl (c_7_loss (re_7_2 o7_1 (inb_lt g6)) (dl hd rfl) e7) (kI ?_)
      refine VW.aload_n d7_noticedOfAll_34 0 rfl ?_
      refine VW.getI (k := 14) d7_noticedOfAll_35 (oo_7 o7_1) rfl fl_7_65 ck7 ?_
      obtain ⟨r10, h11, e9, hr⟩ := bno2 hr
      refine VW.callV (As := [.int r4, .int r8, .int (h5 1 14)]) (st := [.int x1]) d7_noticedOfAll_38 mi_7_noticeBy cv_7_175 (oo_7 o7_1) ⟨rfl, rfl⟩ (by decide) (dl1 hd) _ rfl (Nat.le_of_ble_eq_true rfl) rfl (c_7_noticeBy (dl hd rfl) e9) (kI ?_)
      refine VW.if_eq 48 d7_noticedOfAll_41 (by decide) (fun c12 => ?_) (fun c12 => ?_)
      · replace hr := ip hr c12
        refine VW.iconst (v := 0) d7_noticedOfAll_48 ic_0 ?_
        refine VW.iadd d7_noticedOfAll_49 ?_
        refine VW.istore_n (lo' := [(1, .int (x1 + 0)), (0, .ref (γ.2.2.1 1)), (2, .int x2)]) d7_noticedOfAll_50 (by decide) rfl ?_
        refine VW.iinc (w := 1) (lo' := [(2, .int (x2 + 1)), (1, .int (x1 + 0)), (0, .ref (γ.2.2.1 1))]) d7_noticedOfAll_51 2 rfl ic_1 (by decide) rfl ?_
        refine VW.goto 4 d7_noticedOfAll_54 (by decide) ?_
        exact VW.sub [2, 1, 0] rfl (ih (x1 + 0) (x2 + 1) h11 hr)
      · replace hr := im hr c12
        refine VW.iconst (v := 1) d7_noticedOfAll_44 ic_1 ?_
        refine VW.goto 49 d7_noticedOfAll_45 (by decide) ?_
        refine VW.iadd d7_noticedOfAll_49 ?_
        refine VW.istore_n (lo' := [(1, .int (x1 + 1)), (0, .ref (γ.2.2.1 1)), (2, .int x2)]) d7_noticedOfAll_50 (by decide) rfl ?_
        refine VW.iinc (w := 1) (lo' := [(2, .int (x2 + 1)), (1, .int (x1 + 1)), (0, .ref (γ.2.2.1 1))]) d7_noticedOfAll_51 2 rfl ic_1 (by decide) rfl ?_
        refine VW.goto 4 d7_noticedOfAll_54 (by decide) ?_
        exact VW.sub [2, 1, 0] rfl (ih (x1 + 1) (x2 + 1) h11 hr)
set_option maxRecDepth 100000 in
set_option maxHeartbeats 4000000 in
theorem c_7_noticedOfAll {γ : Gm} {dd : Nat} {h : Hp} {r : Int32} {hz : Hp} (hd : 5 ≤ dd) (hr : f_7_noticedOfAll h = some (r, hz)) : MC γ dd yX7_noticedOfAll cX7_noticedOfAll 3 (some .int) [.ref (γ.2.2.1 1)] h (QI r hz) := by
  unfold f_7_noticedOfAll at hr
  refine MC.of mi_7_noticedOfAll (Nat.le_of_ble_eq_true rfl) (fun ε hR => ?_)
  show VW γ ε cX7_noticedOfAll RX7 3 dd 0 [(0, .ref (γ.2.2.1 1))] [] h
  refine VW.iconst (v := 0) d7_noticedOfAll_0 ic_0 ?_
  refine VW.istore_n (lo' := [(1, .int 0), (0, .ref (γ.2.2.1 1))]) d7_noticedOfAll_1 (by decide) rfl ?_
  refine VW.iconst (v := 0) d7_noticedOfAll_2 ic_0 ?_
  refine VW.istore_n (lo' := [(2, .int 0), (1, .int 0), (0, .ref (γ.2.2.1 1))]) d7_noticedOfAll_3 (by decide) rfl ?_
  exact VW.sub [2, 1, 0] rfl (s_7_noticedOfAll_4 hd hR FU 0 0 h hr)
set_option maxRecDepth 100000 in
set_option maxHeartbeats 4000000 in
theorem s_7_offOfAll_4 {γ : Gm} {ε : En} {dd : Nat} (hd : 5 ≤ dd) {r : Int32} {hz : Hp} (hR : RT γ ε (some .int) (QI r hz)) : ∀ (n : Nat) (x1 : Int32) (x2 : Int32) (h : Hp), f_7_offOfAll_4 n x1 x2 h = some (r, hz) → VW γ ε cX7_offOfAll RX7 3 dd 4 [(0, .ref (γ.2.2.1 1)), (1, .int x1), (2, .int x2)] [] h := by
  intro n
  induction n with
  | zero =>
    intro x1 x2 h hr
    exact nf hr
  | succ n ih =>
    intro x1 x2 h hr
    rw [f_7_offOfAll_4] at hr
    refine VW.iload_n d7_offOfAll_4 2 rfl ?_
    refine VW.aload_n d7_offOfAll_5 0 rfl ?_
    refine VW.getI (k := 11) d7_offOfAll_6 (oo_7 o7_1) rfl fl_7_56 ck7 ?_
    refine VW.icmp_ge 31 d7_offOfAll_9 (by decide) (fun c1 => ?_) (fun c1 => ?_)
    · replace hr := ip hr c1
      refine VW.iload_n d7_offOfAll_31 1 rfl ?_
      exact VW.iret d7_offOfAll_32 hR (rIw hr)
    · replace hr := im hr c1
      refine VW.iload_n d7_offOfAll_12 1 rfl ?_
      refine VW.aload_n d7_offOfAll_13 0 rfl ?_
      refine VW.aload_n d7_offOfAll_14 0 rfl ?_
      refine VW.getR (k := 2) (r := 4) d7_offOfAll_15 (oo_7 o7_1) rfl fl_7_23 ck7 ?_
      refine VW.iload_n d7_offOfAll_18 2 rfl ?_
      obtain ⟨g2, hr⟩ := gdt hr
      refine VW.aald (z := 36 + 2 * (ci x2)) d7_offOfAll_19 (rf_7_2 o7_1) (by decide) (by decide) g2 rfl ?_
      obtain ⟨r4, h5, e3, hr⟩ := bno2 hr
      refine VW.callV (As := [.ref (γ.2.2.1 (36 + 2 * (ci x2)))]) (st := [.int x1]) d7_offOfAll_20 mi_7_off cv_7_168 (oo_7 o7_1) ⟨rfl, rfl⟩ (by decide) (dl1 hd) _ rfl (Nat.le_of_ble_eq_true rfl) rfl (c_7_off (re_7_2 o7_1 (inb_lt g2)) (dl hd rfl) e3) (kI ?_)
      refine VW.iadd d7_offOfAll_23 ?_
      refine VW.istore_n (lo' := [(1, .int (x1 + r4)), (0, .ref (γ.2.2.1 1)), (2, .int x2)]) d7_offOfAll_24 (by decide) rfl ?_
      refine VW.iinc (w := 1) (lo' := [(2, .int (x2 + 1)), (1, .int (x1 + r4)), (0, .ref (γ.2.2.1 1))]) d7_offOfAll_25 2 rfl ic_1 (by decide) rfl ?_
      refine VW.goto 4 d7_offOfAll_28 (by decide) ?_
      exact VW.sub [2, 1, 0] rfl (ih (x1 + r4) (x2 + 1) h5 hr)
set_option maxRecDepth 100000 in
set_option maxHeartbeats 4000000 in
theorem c_7_offOfAll {γ : Gm} {dd : Nat} {h : Hp} {r : Int32} {hz : Hp} (hd : 5 ≤ dd) (hr : f_7_offOfAll h = some (r, hz)) : MC γ dd yX7_offOfAll cX7_offOfAll 3 (some .int) [.ref (γ.2.2.1 1)] h (QI r hz) := by
  unfold f_7_offOfAll at hr
  refine MC.of mi_7_offOfAll (Nat.le_of_ble_eq_true rfl) (fun ε hR => ?_)
  show VW γ ε cX7_offOfAll RX7 3 dd 0 [(0, .ref (γ.2.2.1 1))] [] h
  refine VW.iconst (v := 0) d7_offOfAll_0 ic_0 ?_
  refine VW.istore_n (lo' := [(1, .int 0), (0, .ref (γ.2.2.1 1))]) d7_offOfAll_1 (by decide) rfl ?_
  refine VW.iconst (v := 0) d7_offOfAll_2 ic_0 ?_
  refine VW.istore_n (lo' := [(2, .int 0), (1, .int 0), (0, .ref (γ.2.2.1 1))]) d7_offOfAll_3 (by decide) rfl ?_
  exact VW.sub [2, 1, 0] rfl (s_7_offOfAll_4 hd hR FU 0 0 h hr)
set_option maxRecDepth 100000 in
set_option maxHeartbeats 4000000 in
theorem c_7_setFilm {γ : Gm} {dd : Nat} {x1 : Int32} {x2 : Int32} {h : Hp} {hz : Hp} (hd : 1 ≤ dd) (hr : f_7_setFilm x1 x2 h = some hz) : MC γ dd yX7_setFilm cX7_setFilm 3 none [.ref (γ.2.2.1 1), .int x1, .int x2] h (QV hz) := by
  unfold f_7_setFilm at hr
  refine MC.of mi_7_setFilm (Nat.le_of_ble_eq_true rfl) (fun ε hR => ?_)
  show VW γ ε cX7_setFilm RX7 3 dd 0 [(0, .ref (γ.2.2.1 1)), (1, .int x1), (2, .int x2)] [] h
  refine VW.iload_n d7_setFilm_0 1 rfl ?_
  refine VW.iconst (v := 0) d7_setFilm_1 ic_0 ?_
  refine VW.bipush (v := 59) d7_setFilm_2 bp_59 ?_
  refine VW.callN (As := [.int x1, .int 0, .int 59]) (st := []) d7_setFilm_4 mi_8_within cn_7_99 (by decide) (dl1 hd) _ rfl (Nat.le_of_ble_eq_true rfl) rfl (c_8_within (dl hd rfl) rfl) (kI ?_)
  refine VW.if_eq 17 d7_setFilm_7 (by decide) (fun c1 => ?_) (fun c1 => ?_)
  · replace hr := ip hr c1
    exact VW.vret d7_setFilm_17 hR (rV hr)
  · replace hr := im hr c1
    refine VW.aload_n d7_setFilm_10 0 rfl ?_
    refine VW.getR (k := 0) (r := 2) d7_setFilm_11 (oo_7 o7_1) rfl fl_7_9 ck7 ?_
    refine VW.iload_n d7_setFilm_14 1 rfl ?_
    refine VW.iload_n d7_setFilm_15 2 rfl ?_
    obtain ⟨g2, hr⟩ := gdt hr
    obtain ⟨h3, e4, hr⟩ := hlt hr
    refine VW.iast (j := (ci x1)) d7_setFilm_16 (rf_7_0 o7_1) g2 rfl ?_
    refine VW.heq e4 ?_
    exact VW.vret d7_setFilm_17 hR (rV hr)
set_option maxRecDepth 100000 in
set_option maxHeartbeats 4000000 in
theorem c_7_textOf {γ : Gm} {dd : Nat} {x1 : Int32} {h : Hp} {r : Nat} (hd : 0 ≤ dd) (hr : f_7_textOf x1 = r) : MC γ dd yX7_textOf cX7_textOf 2 (some (.object "LipsThatFit$Text")) [.ref (γ.2.2.1 1), .int x1] h (QR γ r h) := by
  unfold f_7_textOf at hr
  refine MC.of mi_7_textOf (Nat.le_of_ble_eq_true rfl) (fun ε hR => ?_)
  show VW γ ε cX7_textOf RX7 2 dd 0 [(0, .ref (γ.2.2.1 1)), (1, .int x1)] [] h
  refine VW.iload_n d7_textOf_0 1 rfl ?_
  refine VW.if_ne 11 d7_textOf_1 (by decide) (fun c1 => ?_) (fun c1 => ?_)
  · replace hr := ip hr c1
    refine VW.aload_n d7_textOf_4 0 rfl ?_
    refine VW.getR (k := 4) (r := 6) d7_textOf_5 (oo_7 o7_1) rfl fl_7_33 ck7 ?_
    refine VW.goto 15 d7_textOf_8 (by decide) ?_
    exact VW.aret d7_textOf_15 hR (rRt hr)
  · replace hr := im hr c1
    refine VW.aload_n d7_textOf_11 0 rfl ?_
    refine VW.getR (k := 5) (r := 9) d7_textOf_12 (oo_7 o7_1) rfl fl_7_37 ck7 ?_
    exact VW.aret d7_textOf_15 hR (rRt hr)
theorem co_7_textOf (x1 : Int32) : isO 5 (f_7_textOf x1) := by
  unfold f_7_textOf
  split
  · exact (by decide +kernel : isB 5 6 = true)
  · exact (by decide +kernel : isB 5 9 = true)
set_option maxRecDepth 100000 in
set_option maxHeartbeats 4000000 in
theorem s_7_weighLines_2 {γ : Gm} {ε : En} {dd : Nat} (hd : 5 ≤ dd) {hz : Hp} (hR : RT γ ε none (QV hz)) : ∀ (n : Nat) (x1 : Int32) (h : Hp), f_7_weighLines_2 n x1 h = some hz → VW γ ε cX7_weighLines RX7 2 dd 2 [(0, .ref (γ.2.2.1 1)), (1, .int x1)] [] h := by
  intro n
  induction n with
  | zero =>
    intro x1 h hr
    exact nf hr
  | succ n ih =>
    intro x1 h hr
    rw [f_7_weighLines_2] at hr
    refine VW.iload_n d7_weighLines_2 1 rfl ?_
    refine VW.aload_n d7_weighLines_3 0 rfl ?_
    refine VW.getI (k := 11) d7_weighLines_4 (oo_7 o7_1) rfl fl_7_56 ck7 ?_
    refine VW.icmp_ge 48 d7_weighLines_7 (by decide) (fun c1 => ?_) (fun c1 => ?_)
    · replace hr := ip hr c1
      exact VW.vret d7_weighLines_48 hR (rV hr)
    · replace hr := im hr c1
      refine VW.aload_n d7_weighLines_10 0 rfl ?_
      refine VW.getR (k := 8) (r := 14) d7_weighLines_11 (oo_7 o7_1) rfl fl_7_46 ck7 ?_
      refine VW.iload_n d7_weighLines_14 1 rfl ?_
      refine VW.aload_n d7_weighLines_15 0 rfl ?_
      refine VW.aload_n d7_weighLines_16 0 rfl ?_
      refine VW.getR (k := 2) (r := 4) d7_weighLines_17 (oo_7 o7_1) rfl fl_7_23 ck7 ?_
      refine VW.iload_n d7_weighLines_20 1 rfl ?_
      obtain ⟨g2, hr⟩ := gdt hr
      refine VW.aald (z := 36 + 2 * (ci x1)) d7_weighLines_21 (rf_7_2 o7_1) (by decide) (by decide) g2 rfl ?_
      obtain ⟨r4, h5, e3, hr⟩ := bno2 hr
      refine VW.callV (As := [.ref (γ.2.2.1 (36 + 2 * (ci x1)))]) (st := [.int x1, .ref (γ.2.2.1 14)]) d7_weighLines_22 mi_7_off cv_7_168 (oo_7 o7_1) ⟨rfl, rfl⟩ (by decide) (dl1 hd) _ rfl (Nat.le_of_ble_eq_true rfl) rfl (c_7_off (re_7_2 o7_1 (inb_lt g2)) (dl hd rfl) e3) (kI ?_)
      obtain ⟨g6, hr⟩ := gdt hr
      obtain ⟨h7, e8, hr⟩ := hlt hr
      refine VW.iast (j := (ci x1)) d7_weighLines_25 (rf_7_8 o7_1) g6 rfl ?_
      refine VW.heq e8 ?_
      refine VW.aload_n d7_weighLines_26 0 rfl ?_
      refine VW.getR (k := 9) (r := 15) d7_weighLines_27 (oo_7 o7_1) rfl fl_7_49 ck7 ?_
      refine VW.iload_n d7_weighLines_30 1 rfl ?_
      refine VW.aload_n d7_weighLines_31 0 rfl ?_
      refine VW.aload_n d7_weighLines_32 0 rfl ?_
      refine VW.getR (k := 2) (r := 4) d7_weighLines_33 (oo_7 o7_1) rfl fl_7_23 ck7 ?_
      refine VW.iload_n d7_weighLines_36 1 rfl ?_
      obtain ⟨g9, hr⟩ := gdt hr
      refine VW.aald (z := 36 + 2 * (ci x1)) d7_weighLines_37 (rf_7_2 o7_1) (by decide) (by decide) g9 rfl ?_
      obtain ⟨r11, e10, hr⟩ := bno hr
      refine VW.callV (As := [.ref (γ.2.2.1 (36 + 2 * (ci x1)))]) (st := [.int x1, .ref (γ.2.2.1 15)]) d7_weighLines_38 mi_7_loss cv_7_172 (oo_7 o7_1) ⟨rfl, rfl⟩ (by decide) (dl1 hd) _ rfl (Nat.le_of_ble_eq_true rfl) rfl (c_7_loss (re_7_2 o7_1 (inb_lt g9)) (dl hd rfl) e10) (kI ?_)
      obtain ⟨g12, hr⟩ := gdt hr
      obtain ⟨h13, e14, hr⟩ := hlt hr
      refine VW.iast (j := (ci x1)) d7_weighLines_41 (rf_7_9 o7_1) g12 rfl ?_
      refine VW.heq e14 ?_
      refine VW.iinc (w := 1) (lo' := [(1, .int (x1 + 1)), (0, .ref (γ.2.2.1 1))]) d7_weighLines_42 1 rfl ic_1 (by decide) rfl ?_
      refine VW.goto 2 d7_weighLines_45 (by decide) ?_
      exact VW.sub [1, 0] rfl (ih (x1 + 1) h13 hr)
set_option maxRecDepth 100000 in
set_option maxHeartbeats 4000000 in
theorem c_7_weighLines {γ : Gm} {dd : Nat} {h : Hp} {hz : Hp} (hd : 5 ≤ dd) (hr : f_7_weighLines h = some hz) : MC γ dd yX7_weighLines cX7_weighLines 2 none [.ref (γ.2.2.1 1)] h (QV hz) := by
  unfold f_7_weighLines at hr
  refine MC.of mi_7_weighLines (Nat.le_of_ble_eq_true rfl) (fun ε hR => ?_)
  show VW γ ε cX7_weighLines RX7 2 dd 0 [(0, .ref (γ.2.2.1 1))] [] h
  refine VW.iconst (v := 0) d7_weighLines_0 ic_0 ?_
  refine VW.istore_n (lo' := [(1, .int 0), (0, .ref (γ.2.2.1 1))]) d7_weighLines_1 (by decide) rfl ?_
  exact VW.sub [1, 0] rfl (s_7_weighLines_2 hd hR FU 0 h hr)
set_option maxRecDepth 100000 in
set_option maxHeartbeats 4000000 in
theorem s_8_areSyllables_17 {γ : Gm} {ε : En} {dd : Nat} (hd : 1 ≤ dd) {r : Int32} {h : Hp} (hR : RT γ ε (some .boolean) (QI r h)) : ∀ (n : Nat) (x1 : Int32) (x2 : Int32), f_8_areSyllables_17 n x1 x2 = some r → VW γ ε cX8_areSyllables RX8 3 dd 17 [(1, .int x1), (2, .int x2)] [] h := by
  intro n
  induction n with
  | zero =>
    intro x1 x2 hr
    exact nf hr
  | succ n ih =>
    intro x1 x2 hr
    rw [f_8_areSyllables_17] at hr
    refine VW.iload_n d8_areSyllables_17 1 rfl ?_
    refine VW.iconst (v := 5) d8_areSyllables_18 ic_5 ?_
    refine VW.icmp_ge 51 d8_areSyllables_19 (by decide) (fun c2 => ?_) (fun c2 => ?_)
    · replace hr := ip hr c2
      refine VW.iconst (v := 1) d8_areSyllables_51 ic_1 ?_
      exact VW.zret d8_areSyllables_52 hR rfl (rIf hr)
    · replace hr := im hr c2
      refine VW.iload_n d8_areSyllables_22 0 rfl ?_
      refine VW.if_le 51 d8_areSyllables_23 (by decide) (fun c3 => ?_) (fun c3 => ?_)
      · replace hr := ip hr c3
        refine VW.iconst (v := 1) d8_areSyllables_51 ic_1 ?_
        exact VW.zret d8_areSyllables_52 hR rfl (rIf hr)
      · replace hr := im hr c3
        refine VW.iload_n d8_areSyllables_26 0 rfl ?_
        refine VW.bipush (v := 10) d8_areSyllables_27 bp_10 ?_
        refine VW.irem d8_areSyllables_29 (by decide) ?_
        refine VW.iconst (v := 1) d8_areSyllables_30 ic_1 ?_
        refine VW.iconst (v := 3) d8_areSyllables_31 ic_3 ?_
        refine VW.callS (As := [.int (irm x1 10), .int 1, .int 3]) (st := []) d8_areSyllables_32 mi_8_within cs_8_57 (by decide) (dl1 hd) _ rfl (Nat.le_of_ble_eq_true rfl) rfl (c_8_within (dl hd rfl) rfl) (kI ?_)
        refine VW.if_ne 40 d8_areSyllables_35 (by decide) (fun c4 => ?_) (fun c4 => ?_)
        · replace hr := ip hr c4
          refine VW.iconst (v := 0) d8_areSyllables_38 ic_0 ?_
          exact VW.zret d8_areSyllables_39 hR rfl (rIf hr)
        · replace hr := im hr c4
          refine VW.iload_n d8_areSyllables_40 0 rfl ?_
          refine VW.bipush (v := 10) d8_areSyllables_41 bp_10 ?_
          refine VW.idiv d8_areSyllables_43 (by decide) ?_
          refine VW.istore_n (lo' := [(1, .int (x1 / 10)), (2, .int x2)]) d8_areSyllables_44 (by decide) rfl ?_
          refine VW.iinc (w := 1) (lo' := [(2, .int (x2 + 1)), (1, .int (x1 / 10))]) d8_areSyllables_45 1 rfl ic_1 (by decide) rfl ?_
          refine VW.goto 17 d8_areSyllables_48 (by decide) ?_
          exact VW.sub [1, 0] rfl (ih (x1 / 10) (x2 + 1) hr)
set_option maxRecDepth 100000 in
set_option maxHeartbeats 4000000 in
theorem c_8_areSyllables {γ : Gm} {dd : Nat} {x0 : Int32} {h : Hp} {r : Int32} (hd : 1 ≤ dd) (hr : f_8_areSyllables x0 = some r) : MC γ dd yX8_areSyllables cX8_areSyllables 3 (some .boolean) [.int x0] h (QI r h) := by
  unfold f_8_areSyllables at hr
  refine MC.of mi_8_areSyllables (Nat.le_of_ble_eq_true rfl) (fun ε hR => ?_)
  show VW γ ε cX8_areSyllables RX8 3 dd 0 [(0, .int x0)] [] h
  refine VW.iload_n d8_areSyllables_0 0 rfl ?_
  refine VW.iconst (v := 1) d8_areSyllables_1 ic_1 ?_
  refine VW.ldcw (v := 33333) d8_areSyllables_2 kc_8_312 ?_
  refine VW.callS (As := [.int x0, .int 1, .int 33333]) (st := []) d8_areSyllables_5 mi_8_within cs_8_57 (by decide) (dl1 hd) _ rfl (Nat.le_of_ble_eq_true rfl) rfl (c_8_within (dl hd rfl) rfl) (kI ?_)
  refine VW.if_ne 13 d8_areSyllables_8 (by decide) (fun c1 => ?_) (fun c1 => ?_)
  · replace hr := ip hr c1
    refine VW.iconst (v := 0) d8_areSyllables_11 ic_0 ?_
    exact VW.zret d8_areSyllables_12 hR rfl (rIf hr)
  · replace hr := im hr c1
    refine VW.iload_n d8_areSyllables_13 0 rfl ?_
    refine VW.istore_n (lo' := [(1, .int x0), (0, .int x0)]) d8_areSyllables_14 (by decide) rfl ?_
    refine VW.iconst (v := 0) d8_areSyllables_15 ic_0 ?_
    refine VW.istore_n (lo' := [(2, .int 0), (1, .int x0), (0, .int x0)]) d8_areSyllables_16 (by decide) rfl ?_
    exact VW.sub [1, 0] rfl (s_8_areSyllables_17 hd hR FU x0 0 hr)
theorem nz_8_areWords (x1 : Int32) (x2 : Int32) (x3 : Int32) (x4 : Int32) (h : Hp) : narrow .boolean (.int (f_8_areWords x1 x2 x3 x4 h)) = .int (f_8_areWords x1 x2 x3 x4 h) := by
  unfold f_8_areWords
  (repeat' split) <;> first | rfl | exact nz_8_within _ _ _
set_option maxRecDepth 100000 in
set_option maxHeartbeats 4000000 in
theorem c_8_areWords {γ : Gm} {dd : Nat} {x1 : Int32} {x2 : Int32} {x3 : Int32} {x4 : Int32} {h : Hp} {r : Int32} (hd : 1 ≤ dd) (hr : f_8_areWords x1 x2 x3 x4 h = r) : MC γ dd yX8_areWords cX8_areWords 6 (some .boolean) [.ref (γ.2.2.1 0), .int x1, .int x2, .int x3, .int x4] h (QI r h) := by
  unfold f_8_areWords at hr
  refine MC.of mi_8_areWords (Nat.le_of_ble_eq_true rfl) (fun ε hR => ?_)
  show VW γ ε cX8_areWords RX8 6 dd 0 [(0, .ref (γ.2.2.1 0)), (1, .int x1), (2, .int x2), (3, .int x3), (4, .int x4)] [] h
  refine VW.aload_n d8_areWords_0 0 rfl ?_
  refine VW.getR (k := 0) (r := 1) d8_areWords_1 (oo_8 o8_0) rfl fl_8_10 ck8 ?_
  refine VW.getI (k := 10) d8_areWords_4 (oo_7 (rf_8_0 o8_0)) rfl fl_8_76 ck7 ?_
  refine VW.iconst (v := 1) d8_areWords_7 ic_1 ?_
  refine VW.isub d8_areWords_8 ?_
  refine VW.istore (lo' := [(5, .int ((h 1 10) - 1)), (0, .ref (γ.2.2.1 0)), (1, .int x1), (2, .int x2), (3, .int x3), (4, .int x4)]) d8_areWords_9 (by decide) rfl ?_
  refine VW.iload_n d8_areWords_11 2 rfl ?_
  refine VW.iconst (v := 1) d8_areWords_12 ic_1 ?_
  refine VW.icmp_lt 26 d8_areWords_13 (by decide) (fun c1 => ?_) (fun c1 => ?_)
  · replace hr := ip hr c1
    refine VW.iload_n d8_areWords_26 2 rfl ?_
    refine VW.iconst (v := 2) d8_areWords_27 ic_2 ?_
    refine VW.icmp_lt 41 d8_areWords_28 (by decide) (fun c2 => ?_) (fun c2 => ?_)
    · replace hr := ip hr c2
      refine VW.iload_n d8_areWords_41 2 rfl ?_
      refine VW.iconst (v := 3) d8_areWords_42 ic_3 ?_
      refine VW.icmp_lt 57 d8_areWords_43 (by decide) (fun c3 => ?_) (fun c3 => ?_)
      · replace hr := ip hr c3
        refine VW.iconst (v := 1) d8_areWords_57 ic_1 ?_
        refine VW.goto 62 d8_areWords_58 (by decide) ?_
        exact VW.zret d8_areWords_62 hR rfl (rIt hr)
      · replace hr := im hr c3
        refine VW.iload d8_areWords_46 5 rfl ?_
        refine VW.iconst (v := 0) d8_areWords_48 ic_0 ?_
        refine VW.iload d8_areWords_49 0 rfl ?_
        refine VW.callS (As := [.int x4, .int 0, .int ((h 1 10) - 1)]) (st := []) d8_areWords_51 mi_8_within cs_8_57 (by decide) (dl1 hd) _ rfl (Nat.le_of_ble_eq_true rfl) rfl (c_8_within (dl hd rfl) rfl) (kI ?_)
        refine VW.if_eq 61 d8_areWords_54 (by decide) (fun c4 => ?_) (fun c4 => ?_)
        · replace hr := ip hr c4
          refine VW.iconst (v := 0) d8_areWords_61 ic_0 ?_
          exact VW.zret d8_areWords_62 hR rfl (rIt hr)
        · replace hr := im hr c4
          refine VW.iconst (v := 1) d8_areWords_57 ic_1 ?_
          refine VW.goto 62 d8_areWords_58 (by decide) ?_
          exact VW.zret d8_areWords_62 hR rfl (rIt hr)
    · replace hr := im hr c2
      refine VW.iload_n d8_areWords_31 4 rfl ?_
      refine VW.iconst (v := 0) d8_areWords_32 ic_0 ?_
      refine VW.iload d8_areWords_33 0 rfl ?_
      refine VW.callS (As := [.int x3, .int 0, .int ((h 1 10) - 1)]) (st := []) d8_areWords_35 mi_8_within cs_8_57 (by decide) (dl1 hd) _ rfl (Nat.le_of_ble_eq_true rfl) rfl (c_8_within (dl hd rfl) rfl) (kI ?_)
      refine VW.if_eq 61 d8_areWords_38 (by decide) (fun c5 => ?_) (fun c5 => ?_)
      · replace hr := ip hr c5
        refine VW.iconst (v := 0) d8_areWords_61 ic_0 ?_
        exact VW.zret d8_areWords_62 hR rfl (rIt hr)
      · replace hr := im hr c5
        refine VW.iload_n d8_areWords_41 2 rfl ?_
        refine VW.iconst (v := 3) d8_areWords_42 ic_3 ?_
        refine VW.icmp_lt 57 d8_areWords_43 (by decide) (fun c6 => ?_) (fun c6 => ?_)
        · replace hr := ip hr c6
          refine VW.iconst (v := 1) d8_areWords_57 ic_1 ?_
          refine VW.goto 62 d8_areWords_58 (by decide) ?_
          exact VW.zret d8_areWords_62 hR rfl (rIt hr)
        · replace hr := im hr c6
          refine VW.iload d8_areWords_46 5 rfl ?_
          refine VW.iconst (v := 0) d8_areWords_48 ic_0 ?_
          refine VW.iload d8_areWords_49 0 rfl ?_
          refine VW.callS (As := [.int x4, .int 0, .int ((h 1 10) - 1)]) (st := []) d8_areWords_51 mi_8_within cs_8_57 (by decide) (dl1 hd) _ rfl (Nat.le_of_ble_eq_true rfl) rfl (c_8_within (dl hd rfl) rfl) (kI ?_)
          refine VW.if_eq 61 d8_areWords_54 (by decide) (fun c7 => ?_) (fun c7 => ?_)
          · replace hr := ip hr c7
            refine VW.iconst (v := 0) d8_areWords_61 ic_0 ?_
            exact VW.zret d8_areWords_62 hR rfl (rIt hr)
          · replace hr := im hr c7
            refine VW.iconst (v := 1) d8_areWords_57 ic_1 ?_
            refine VW.goto 62 d8_areWords_58 (by decide) ?_
            exact VW.zret d8_areWords_62 hR rfl (rIt hr)
  · replace hr := im hr c1
    refine VW.iload_n d8_areWords_16 3 rfl ?_
    refine VW.iconst (v := 0) d8_areWords_17 ic_0 ?_
    refine VW.iload d8_areWords_18 0 rfl ?_
    refine VW.callS (As := [.int x2, .int 0, .int ((h 1 10) - 1)]) (st := []) d8_areWords_20 mi_8_within cs_8_57 (by decide) (dl1 hd) _ rfl (Nat.le_of_ble_eq_true rfl) rfl (c_8_within (dl hd rfl) rfl) (kI ?_)
    refine VW.if_eq 61 d8_areWords_23 (by decide) (fun c8 => ?_) (fun c8 => ?_)
    · replace hr := ip hr c8
      refine VW.iconst (v := 0) d8_areWords_61 ic_0 ?_
      exact VW.zret d8_areWords_62 hR rfl (rIt hr)
    · replace hr := im hr c8
      refine VW.iload_n d8_areWords_26 2 rfl ?_
      refine VW.iconst (v := 2) d8_areWords_27 ic_2 ?_
      refine VW.icmp_lt 41 d8_areWords_28 (by decide) (fun c9 => ?_) (fun c9 => ?_)
      · replace hr := ip hr c9
        refine VW.iload_n d8_areWords_41 2 rfl ?_
        refine VW.iconst (v := 3) d8_areWords_42 ic_3 ?_
        refine VW.icmp_lt 57 d8_areWords_43 (by decide) (fun c10 => ?_) (fun c10 => ?_)
        · replace hr := ip hr c10
          refine VW.iconst (v := 1) d8_areWords_57 ic_1 ?_
          refine VW.goto 62 d8_areWords_58 (by decide) ?_
          exact VW.zret d8_areWords_62 hR rfl (rIt hr)
        · replace hr := im hr c10
          refine VW.iload d8_areWords_46 5 rfl ?_
          refine VW.iconst (v := 0) d8_areWords_48 ic_0 ?_
          refine VW.iload d8_areWords_49 0 rfl ?_
          refine VW.callS (As := [.int x4, .int 0, .int ((h 1 10) - 1)]) (st := []) d8_areWords_51 mi_8_within cs_8_57 (by decide) (dl1 hd) _ rfl (Nat.le_of_ble_eq_true rfl) rfl (c_8_within (dl hd rfl) rfl) (kI ?_)
          refine VW.if_eq 61 d8_areWords_54 (by decide) (fun c11 => ?_) (fun c11 => ?_)
          · replace hr := ip hr c11
            refine VW.iconst (v := 0) d8_areWords_61 ic_0 ?_
            exact VW.zret d8_areWords_62 hR rfl (rIt hr)
          · replace hr := im hr c11
            refine VW.iconst (v := 1) d8_areWords_57 ic_1 ?_
            refine VW.goto 62 d8_areWords_58 (by decide) ?_
            exact VW.zret d8_areWords_62 hR rfl (rIt hr)
      · replace hr := im hr c9
        refine VW.iload_n d8_areWords_31 4 rfl ?_
        refine VW.iconst (v := 0) d8_areWords_32 ic_0 ?_
        refine VW.iload d8_areWords_33 0 rfl ?_
        refine VW.callS (As := [.int x3, .int 0, .int ((h 1 10) - 1)]) (st := []) d8_areWords_35 mi_8_within cs_8_57 (by decide) (dl1 hd) _ rfl (Nat.le_of_ble_eq_true rfl) rfl (c_8_within (dl hd rfl) rfl) (kI ?_)
        refine VW.if_eq 61 d8_areWords_38 (by decide) (fun c12 => ?_) (fun c12 => ?_)
        · replace hr := ip hr c12
          refine VW.iconst (v := 0) d8_areWords_61 ic_0 ?_
          exact VW.zret d8_areWords_62 hR rfl (rIt hr)
        · replace hr := im hr c12
          refine VW.iload_n d8_areWords_41 2 rfl ?_
          refine VW.iconst (v := 3) d8_areWords_42 ic_3 ?_
          refine VW.icmp_lt 57 d8_areWords_43 (by decide) (fun c13 => ?_) (fun c13 => ?_)
          · replace hr := ip hr c13
            refine VW.iconst (v := 1) d8_areWords_57 ic_1 ?_
            refine VW.goto 62 d8_areWords_58 (by decide) ?_
            exact VW.zret d8_areWords_62 hR rfl (rIt hr)
          · replace hr := im hr c13
            refine VW.iload d8_areWords_46 5 rfl ?_
            refine VW.iconst (v := 0) d8_areWords_48 ic_0 ?_
            refine VW.iload d8_areWords_49 0 rfl ?_
            refine VW.callS (As := [.int x4, .int 0, .int ((h 1 10) - 1)]) (st := []) d8_areWords_51 mi_8_within cs_8_57 (by decide) (dl1 hd) _ rfl (Nat.le_of_ble_eq_true rfl) rfl (c_8_within (dl hd rfl) rfl) (kI ?_)
            refine VW.if_eq 61 d8_areWords_54 (by decide) (fun c14 => ?_) (fun c14 => ?_)
            · replace hr := ip hr c14
              refine VW.iconst (v := 0) d8_areWords_61 ic_0 ?_
              exact VW.zret d8_areWords_62 hR rfl (rIt hr)
            · replace hr := im hr c14
              refine VW.iconst (v := 1) d8_areWords_57 ic_1 ?_
              refine VW.goto 62 d8_areWords_58 (by decide) ?_
              exact VW.zret d8_areWords_62 hR rfl (rIt hr)
set_option maxRecDepth 100000 in
set_option maxHeartbeats 4000000 in
theorem c_8_error {γ : Gm} {dd : Nat} {x1 : Int32} {h : Hp} {r : Int32} {hz : Hp} (hd : 1 ≤ dd) (hr : f_8_error x1 h = some (r, hz)) : MC γ dd yX8_error cX8_error 2 (some .int) [.ref (γ.2.2.1 0), .int x1] h (QI r hz) := by
  unfold f_8_error at hr
  refine MC.of mi_8_error (Nat.le_of_ble_eq_true rfl) (fun ε hR => ?_)
  show VW γ ε cX8_error RX8 2 dd 0 [(0, .ref (γ.2.2.1 0)), (1, .int x1)] [] h
  refine VW.iload_n d8_error_0 1 rfl ?_
  refine VW.iconst (v := 1) d8_error_1 ic_1 ?_
  refine VW.iconst (v := 5) d8_error_2 ic_5 ?_
  refine VW.callS (As := [.int x1, .int 1, .int 5]) (st := []) d8_error_3 mi_8_within cs_8_57 (by decide) (dl1 hd) _ rfl (Nat.le_of_ble_eq_true rfl) rfl (c_8_within (dl hd rfl) rfl) (kI ?_)
  refine VW.if_eq 19 d8_error_6 (by decide) (fun c1 => ?_) (fun c1 => ?_)
  · replace hr := ip hr c1
    refine VW.ldcw (v := (-1000000000)) d8_error_19 kc_8_304 ?_
    refine VW.iload_n d8_error_22 1 rfl ?_
    refine VW.isub d8_error_23 ?_
    exact VW.iret d8_error_24 hR (rIw hr)
  · replace hr := im hr c1
    refine VW.aload_n d8_error_9 0 rfl ?_
    refine VW.getR (k := 6) (r := 113) d8_error_10 (oo_8 o8_0) rfl fl_8_49 ck8 ?_
    refine VW.iload_n d8_error_13 1 rfl ?_
    refine VW.dup2 d8_error_14 rfl rfl ?_
    obtain ⟨g2, hr⟩ := gdt hr
    refine VW.iald (j := (ci x1)) d8_error_15 (rf_8_6 o8_0) g2 rfl ?_
    refine VW.iconst (v := 1) d8_error_16 ic_1 ?_
    refine VW.iadd d8_error_17 ?_
    obtain ⟨g3, hr⟩ := gdt hr
    obtain ⟨h4, e5, hr⟩ := hlt hr
    refine VW.iast (j := (ci x1)) d8_error_18 (rf_8_6 o8_0) g3 rfl ?_
    refine VW.heq e5 ?_
    refine VW.ldcw (v := (-1000000000)) d8_error_19 kc_8_304 ?_
    refine VW.iload_n d8_error_22 1 rfl ?_
    refine VW.isub d8_error_23 ?_
    exact VW.iret d8_error_24 hR (rIw hr)
theorem nz_8_isLine (x1 : Int32) (h : Hp) : narrow .boolean (.int (f_8_isLine x1 h)) = .int (f_8_isLine x1 h) := by
  unfold f_8_isLine
  (repeat' split) <;> first | rfl | exact nz_8_within _ _ _
set_option maxRecDepth 100000 in
set_option maxHeartbeats 4000000 in
theorem c_8_isLine {γ : Gm} {dd : Nat} {x1 : Int32} {h : Hp} {r : Int32} (hd : 1 ≤ dd) (hr : f_8_isLine x1 h = r) : MC γ dd yX8_isLine cX8_isLine 2 (some .boolean) [.ref (γ.2.2.1 0), .int x1] h (QI r h) := by
  unfold f_8_isLine at hr
  refine MC.of mi_8_isLine (Nat.le_of_ble_eq_true rfl) (fun ε hR => ?_)
  show VW γ ε cX8_isLine RX8 2 dd 0 [(0, .ref (γ.2.2.1 0)), (1, .int x1)] [] h
  refine VW.iload_n d8_isLine_0 1 rfl ?_
  refine VW.iconst (v := 0) d8_isLine_1 ic_0 ?_
  refine VW.aload_n d8_isLine_2 0 rfl ?_
  refine VW.getR (k := 0) (r := 1) d8_isLine_3 (oo_8 o8_0) rfl fl_8_10 ck8 ?_
  refine VW.getI (k := 11) d8_isLine_6 (oo_7 (rf_8_0 o8_0)) rfl fl_8_106 ck7 ?_
  refine VW.iconst (v := 1) d8_isLine_9 ic_1 ?_
  refine VW.isub d8_isLine_10 ?_
  refine VW.callS (As := [.int x1, .int 0, .int ((h 1 11) - 1)]) (st := []) d8_isLine_11 mi_8_within cs_8_57 (by decide) (dl1 hd) _ rfl (Nat.le_of_ble_eq_true rfl) rfl (c_8_within (dl hd rfl) rfl) (kI ?_)
  exact VW.zret d8_isLine_14 hR (nz_8_within x1 0 ((h 1 11) - 1)) (rIt hr)
set_option maxRecDepth 100000 in
set_option maxHeartbeats 4000000 in
theorem s_8_isUnder_4 {γ : Gm} {ε : En} {dd : Nat} (hd : 2 ≤ dd) {r : Int32} {x1 : Int32} {h : Hp} (hR : RT γ ε (some .boolean) (QI r h)) : ∀ (n : Nat) (x2 : Int32) (x3 : Int32), f_8_isUnder_4 x1 h n x2 x3 = some r → VW γ ε cX8_isUnder RX8 4 dd 4 [(1, .int x1), (2, .int x2), (3, .int x3)] [] h := by
  intro n
  induction n with
  | zero =>
    intro x2 x3 hr
    exact nf hr
  | succ n ih =>
    intro x2 x3 hr
    rw [f_8_isUnder_4] at hr
    refine VW.iload_n d8_isUnder_4 2 rfl ?_
    refine VW.bipush (v := 6) d8_isUnder_5 bp_6 ?_
    refine VW.icmp_gt 32 d8_isUnder_7 (by decide) (fun c1 => ?_) (fun c1 => ?_)
    · replace hr := ip hr c1
      refine VW.iconst (v := 0) d8_isUnder_32 ic_0 ?_
      exact VW.zret d8_isUnder_33 hR rfl (rIf hr)
    · replace hr := im hr c1
      refine VW.iload_n d8_isUnder_10 1 rfl ?_
      refine VW.if_lt 32 d8_isUnder_11 (by decide) (fun c2 => ?_) (fun c2 => ?_)
      · replace hr := ip hr c2
        refine VW.iconst (v := 0) d8_isUnder_32 ic_0 ?_
        exact VW.zret d8_isUnder_33 hR rfl (rIf hr)
      · replace hr := im hr c2
        refine VW.iload_n d8_isUnder_14 1 rfl ?_
        refine VW.iload_n d8_isUnder_15 0 rfl ?_
        refine VW.icmp_ne 21 d8_isUnder_16 (by decide) (fun c3 => ?_) (fun c3 => ?_)
        · replace hr := ip hr c3
          refine VW.iconst (v := 1) d8_isUnder_19 ic_1 ?_
          exact VW.zret d8_isUnder_20 hR rfl (rIf hr)
        · replace hr := im hr c3
          refine VW.iload_n d8_isUnder_21 1 rfl ?_
          obtain ⟨r5, e4, hr⟩ := bno hr
          refine VW.callS (As := [.int x2]) (st := []) d8_isUnder_22 mi_8_kindAbove cs_8_316 (by decide) (dl1 hd) _ rfl (Nat.le_of_ble_eq_true rfl) rfl (c_8_kindAbove (dl hd rfl) e4) (kI ?_)
          refine VW.istore_n (lo' := [(2, .int r5), (1, .int x1), (3, .int x3)]) d8_isUnder_25 (by decide) rfl ?_
          refine VW.iinc (w := 1) (lo' := [(3, .int (x3 + 1)), (2, .int r5), (1, .int x1)]) d8_isUnder_26 2 rfl ic_1 (by decide) rfl ?_
          refine VW.goto 4 d8_isUnder_29 (by decide) ?_
          exact VW.sub [2, 1, 0] rfl (ih r5 (x3 + 1) hr)
set_option maxRecDepth 100000 in
set_option maxHeartbeats 4000000 in
theorem c_8_isUnder {γ : Gm} {dd : Nat} {x0 : Int32} {x1 : Int32} {h : Hp} {r : Int32} (hd : 2 ≤ dd) (hr : f_8_isUnder x0 x1 h = some r) : MC γ dd yX8_isUnder cX8_isUnder 4 (some .boolean) [.int x0, .int x1] h (QI r h) := by
  unfold f_8_isUnder at hr
  refine MC.of mi_8_isUnder (Nat.le_of_ble_eq_true rfl) (fun ε hR => ?_)
  show VW γ ε cX8_isUnder RX8 4 dd 0 [(0, .int x0), (1, .int x1)] [] h
  refine VW.iload_n d8_isUnder_0 0 rfl ?_
  refine VW.istore_n (lo' := [(2, .int x0), (0, .int x0), (1, .int x1)]) d8_isUnder_1 (by decide) rfl ?_
  refine VW.iconst (v := 0) d8_isUnder_2 ic_0 ?_
  refine VW.istore_n (lo' := [(3, .int 0), (2, .int x0), (0, .int x0), (1, .int x1)]) d8_isUnder_3 (by decide) rfl ?_
  exact VW.sub [3, 1, 0] rfl (s_8_isUnder_4 hd hR FU x0 0 hr)
set_option maxRecDepth 100000 in
set_option maxHeartbeats 4000000 in
theorem c_8_as {γ : Gm} {dd : Nat} {x1 : Int32} {x2 : Int32} {h : Hp} {r : Int32} {hz : Hp} (hd : 3 ≤ dd) (hr : f_8_as x1 x2 h = some (r, hz)) : MC γ dd yX8_as cX8_as 4 (some .int) [.ref (γ.2.2.1 0), .int x1, .int x2] h (QI r hz) := by
  unfold f_8_as at hr
  refine MC.of mi_8_as (Nat.le_of_ble_eq_true rfl) (fun ε hR => ?_)
  show VW γ ε cX8_as RX8 4 dd 0 [(0, .ref (γ.2.2.1 0)), (1, .int x1), (2, .int x2)] [] h
  refine VW.aload_n d8_as_0 0 rfl ?_
  refine VW.iload_n d8_as_1 1 rfl ?_
  refine VW.callV (As := [.int x1]) (st := []) d8_as_2 mi_8_isLine cv_8_119 (oo_8 o8_0) ⟨rfl, rfl⟩ (by decide) (dl1 hd) _ rfl (Nat.le_of_ble_eq_true rfl) rfl (c_8_isLine (dl hd rfl) rfl) (kI ?_)
  refine VW.if_eq 18 d8_as_5 (by decide) (fun c1 => ?_) (fun c1 => ?_)
  · replace hr := ip hr c1
    refine VW.aload_n d8_as_18 0 rfl ?_
    refine VW.iconst (v := 1) d8_as_19 ic_1 ?_
    obtain ⟨r3, h4, e2, hr⟩ := bno2 hr
    refine VW.callV (As := [.int 1]) (st := []) d8_as_20 mi_8_error cv_8_61 (oo_8 o8_0) ⟨rfl, rfl⟩ (by decide) (dl1 hd) _ rfl (Nat.le_of_ble_eq_true rfl) rfl (c_8_error (dl hd rfl) e2) (kI ?_)
    exact VW.iret d8_as_23 hR (rIw hr)
  · replace hr := im hr c1
    refine VW.iload_n d8_as_8 2 rfl ?_
    refine VW.iconst (v := 0) d8_as_9 ic_0 ?_
    refine VW.bipush (v := 6) d8_as_10 bp_6 ?_
    refine VW.callS (As := [.int x2, .int 0, .int 6]) (st := []) d8_as_12 mi_8_within cs_8_57 (by decide) (dl1 hd) _ rfl (Nat.le_of_ble_eq_true rfl) rfl (c_8_within (dl hd rfl) rfl) (kI ?_)
    refine VW.if_ne 24 d8_as_15 (by decide) (fun c5 => ?_) (fun c5 => ?_)
    · replace hr := ip hr c5
      refine VW.aload_n d8_as_18 0 rfl ?_
      refine VW.iconst (v := 1) d8_as_19 ic_1 ?_
      obtain ⟨r7, h8, e6, hr⟩ := bno2 hr
      refine VW.callV (As := [.int 1]) (st := []) d8_as_20 mi_8_error cv_8_61 (oo_8 o8_0) ⟨rfl, rfl⟩ (by decide) (dl1 hd) _ rfl (Nat.le_of_ble_eq_true rfl) rfl (c_8_error (dl hd rfl) e6) (kI ?_)
      exact VW.iret d8_as_23 hR (rIw hr)
    · replace hr := im hr c5
      refine VW.aload_n d8_as_24 0 rfl ?_
      refine VW.getR (k := 0) (r := 1) d8_as_25 (oo_8 o8_0) rfl fl_8_10 ck8 ?_
      refine VW.getR (k := 2) (r := 4) d8_as_28 (oo_7 (rf_8_0 o8_0)) rfl fl_8_109 ck7 ?_
      refine VW.iload_n d8_as_31 1 rfl ?_
      obtain ⟨g9, hr⟩ := gdt hr
      refine VW.aald (z := 36 + 2 * (ci x1)) d8_as_32 (rf_7_2 (rf_8_0 o8_0)) (by decide) (by decide) g9 rfl ?_
      refine VW.astore_n (lo' := [(3, .ref (γ.2.2.1 (36 + 2 * (ci x1)))), (0, .ref (γ.2.2.1 0)), (1, .int x1), (2, .int x2)]) d8_as_33 (by decide) rfl ?_
      refine VW.aload_n d8_as_34 0 rfl ?_
      refine VW.getI (k := 2) d8_as_35 (oo_0 (re_7_2 (rf_8_0 o8_0) (inb_lt g9))) rfl fl_8_122 ck0 ?_
      refine VW.iload_n d8_as_38 3 rfl ?_
      obtain ⟨r11, e10, hr⟩ := bno hr
      refine VW.callS (As := [.int (h (36 + 2 * (ci x1)) 2), .int x2]) (st := []) d8_as_39 mi_8_isUnder cs_8_163 (by decide) (dl1 hd) _ rfl (Nat.le_of_ble_eq_true rfl) rfl (c_8_isUnder (dl hd rfl) e10) (kI ?_)
      refine VW.if_eq 52 d8_as_42 (by decide) (fun c12 => ?_) (fun c12 => ?_)
      · replace hr := ip hr c12
        refine VW.aload_n d8_as_52 1 rfl ?_
        refine VW.iconst (v := 5) d8_as_53 ic_5 ?_
        obtain ⟨r14, h15, e13, hr⟩ := bno2 hr
        refine VW.callV (As := [.int 5]) (st := []) d8_as_54 mi_8_error cv_8_61 (oo_8 o8_0) ⟨rfl, rfl⟩ (by decide) (dl1 hd) _ rfl (Nat.le_of_ble_eq_true rfl) rfl (c_8_error (dl hd rfl) e13) (kI ?_)
        exact VW.iret d8_as_57 hR (rIw hr)
      · replace hr := im hr c12
        refine VW.aload_n d8_as_45 0 rfl ?_
        refine VW.getI (k := 3) d8_as_46 (oo_0 (re_7_2 (rf_8_0 o8_0) (inb_lt g9))) rfl fl_8_125 ck0 ?_
        refine VW.goto 57 d8_as_49 (by decide) ?_
        exact VW.iret d8_as_57 hR (rIw hr)
theorem nz_8_isKindAndNumber (x0 : Int32) : narrow .boolean (.int (f_8_isKindAndNumber x0)) = .int (f_8_isKindAndNumber x0) := by
  unfold f_8_isKindAndNumber
  (repeat' split) <;> first | rfl | exact nz_8_within _ _ _
set_option maxRecDepth 100000 in
set_option maxHeartbeats 4000000 in
theorem c_8_isKindAndNumber {γ : Gm} {dd : Nat} {x0 : Int32} {h : Hp} {r : Int32} (hd : 1 ≤ dd) (hr : f_8_isKindAndNumber x0 = r) : MC γ dd yX8_isKindAndNumber cX8_isKindAndNumber 1 (some .boolean) [.int x0] h (QI r h) := by
  unfold f_8_isKindAndNumber at hr
  refine MC.of mi_8_isKindAndNumber (Nat.le_of_ble_eq_true rfl) (fun ε hR => ?_)
  show VW γ ε cX8_isKindAndNumber RX8 1 dd 0 [(0, .int x0)] [] h
  refine VW.iload_n d8_isKindAndNumber_0 0 rfl ?_
  refine VW.iconst (v := 0) d8_isKindAndNumber_1 ic_0 ?_
  refine VW.bipush (v := 69) d8_isKindAndNumber_2 bp_69 ?_
  refine VW.callS (As := [.int x0, .int 0, .int 69]) (st := []) d8_isKindAndNumber_4 mi_8_within cs_8_57 (by decide) (dl1 hd) _ rfl (Nat.le_of_ble_eq_true rfl) rfl (c_8_within (dl hd rfl) rfl) (kI ?_)
  exact VW.zret d8_isKindAndNumber_7 hR (nz_8_within x0 0 69) (rIt hr)
set_option maxRecDepth 100000 in
set_option maxHeartbeats 4000000 in
theorem c_8_become {γ : Gm} {dd : Nat} {x1 : Int32} {x2 : Int32} {h : Hp} {r : Int32} {hz : Hp} (hd : 2 ≤ dd) (hr : f_8_become x1 x2 h = some (r, hz)) : MC γ dd yX8_become cX8_become 4 (some .int) [.ref (γ.2.2.1 0), .int x1, .int x2] h (QI r hz) := by
  unfold f_8_become at hr
  refine MC.of mi_8_become (Nat.le_of_ble_eq_true rfl) (fun ε hR => ?_)
  show VW γ ε cX8_become RX8 4 dd 0 [(0, .ref (γ.2.2.1 0)), (1, .int x1), (2, .int x2)] [] h
  refine VW.aload_n d8_become_0 0 rfl ?_
  refine VW.iload_n d8_become_1 1 rfl ?_
  refine VW.callV (As := [.int x1]) (st := []) d8_become_2 mi_8_isLine cv_8_119 (oo_8 o8_0) ⟨rfl, rfl⟩ (by decide) (dl1 hd) _ rfl (Nat.le_of_ble_eq_true rfl) rfl (c_8_isLine (dl hd rfl) rfl) (kI ?_)
  refine VW.if_eq 15 d8_become_5 (by decide) (fun c1 => ?_) (fun c1 => ?_)
  · replace hr := ip hr c1
    refine VW.aload_n d8_become_15 0 rfl ?_
    refine VW.iconst (v := 1) d8_become_16 ic_1 ?_
    obtain ⟨r3, h4, e2, hr⟩ := bno2 hr
    refine VW.callV (As := [.int 1]) (st := []) d8_become_17 mi_8_error cv_8_61 (oo_8 o8_0) ⟨rfl, rfl⟩ (by decide) (dl1 hd) _ rfl (Nat.le_of_ble_eq_true rfl) rfl (c_8_error (dl hd rfl) e2) (kI ?_)
    exact VW.iret d8_become_20 hR (rIw hr)
  · replace hr := im hr c1
    refine VW.iload_n d8_become_8 2 rfl ?_
    refine VW.callS (As := [.int x2]) (st := []) d8_become_9 mi_8_isKindAndNumber cs_8_97 (by decide) (dl1 hd) _ rfl (Nat.le_of_ble_eq_true rfl) rfl (c_8_isKindAndNumber (dl hd rfl) rfl) (kI ?_)
    refine VW.if_ne 21 d8_become_12 (by decide) (fun c5 => ?_) (fun c5 => ?_)
    · replace hr := ip hr c5
      refine VW.aload_n d8_become_15 0 rfl ?_
      refine VW.iconst (v := 1) d8_become_16 ic_1 ?_
      obtain ⟨r7, h8, e6, hr⟩ := bno2 hr
      refine VW.callV (As := [.int 1]) (st := []) d8_become_17 mi_8_error cv_8_61 (oo_8 o8_0) ⟨rfl, rfl⟩ (by decide) (dl1 hd) _ rfl (Nat.le_of_ble_eq_true rfl) rfl (c_8_error (dl hd rfl) e6) (kI ?_)
      exact VW.iret d8_become_20 hR (rIw hr)
    · replace hr := im hr c5
      refine VW.aload_n d8_become_21 0 rfl ?_
      refine VW.getR (k := 0) (r := 1) d8_become_22 (oo_8 o8_0) rfl fl_8_10 ck8 ?_
      refine VW.getR (k := 2) (r := 4) d8_become_25 (oo_7 (rf_8_0 o8_0)) rfl fl_8_109 ck7 ?_
      refine VW.iload_n d8_become_28 1 rfl ?_
      obtain ⟨g9, hr⟩ := gdt hr
      refine VW.aald (z := 36 + 2 * (ci x1)) d8_become_29 (rf_7_2 (rf_8_0 o8_0)) (by decide) (by decide) g9 rfl ?_
      refine VW.getI (k := 2) d8_become_30 (oo_0 (re_7_2 (rf_8_0 o8_0) (inb_lt g9))) rfl fl_8_122 ck0 ?_
      refine VW.istore_n (lo' := [(3, .int (h (36 + 2 * (ci x1)) 2)), (0, .ref (γ.2.2.1 0)), (1, .int x1), (2, .int x2)]) d8_become_33 (by decide) rfl ?_
      refine VW.aload_n d8_become_34 1 rfl ?_
      refine VW.getR (k := 0) (r := 1) d8_become_35 (oo_8 o8_0) rfl fl_8_10 ck8 ?_
      refine VW.getR (k := 2) (r := 4) d8_become_38 (oo_7 (rf_8_0 o8_0)) rfl fl_8_109 ck7 ?_
      refine VW.iload_n d8_become_41 2 rfl ?_
      obtain ⟨g10, hr⟩ := gdt hr
      refine VW.aald (z := 36 + 2 * (ci x1)) d8_become_42 (rf_7_2 (rf_8_0 o8_0)) (by decide) (by decide) g10 rfl ?_
      refine VW.iload_n d8_become_43 3 rfl ?_
      obtain ⟨h12, e11, hr⟩ := bno hr
      refine VW.callV (As := [.int x2]) (st := []) d8_become_44 mi_0_setKind cv_8_159 (oo_0 (re_7_2 (rf_8_0 o8_0) (inb_lt g10))) ⟨rfl, rfl⟩ (by decide) (dl1 hd) _ rfl (Nat.le_of_ble_eq_true rfl) rfl (c_0_setKind (re_7_2 (rf_8_0 o8_0) (inb_lt g10)) (dl hd rfl) e11) (kV ?_)
      refine VW.iload_n d8_become_47 0 rfl ?_
      exact VW.iret d8_become_48 hR (rIw hr)
set_option maxRecDepth 100000 in
set_option maxHeartbeats 4000000 in
theorem c_8_ofFound {γ : Gm} {dd : Nat} {x1 : Int32} {h : Hp} {r : Int32} {hz : Hp} (hd : 2 ≤ dd) (hr : f_8_ofFound x1 h = some (r, hz)) : MC γ dd yX8_ofFound cX8_ofFound 2 (some .int) [.ref (γ.2.2.1 0), .int x1] h (QI r hz) := by
  unfold f_8_ofFound at hr
  refine MC.of mi_8_ofFound (Nat.le_of_ble_eq_true rfl) (fun ε hR => ?_)
  show VW γ ε cX8_ofFound RX8 2 dd 0 [(0, .ref (γ.2.2.1 0)), (1, .int x1)] [] h
  refine VW.aload_n d8_ofFound_0 0 rfl ?_
  refine VW.getR (k := 2) (r := 95) d8_ofFound_1 (oo_8 o8_0) rfl fl_8_24 ck8 ?_
  refine VW.getI (k := 7) d8_ofFound_4 (oo_2 (rf_8_2 o8_0)) rfl fl_8_221 ck2 ?_
  refine VW.if_eq 21 d8_ofFound_7 (by decide) (fun c1 => ?_) (fun c1 => ?_)
  · replace hr := ip hr c1
    refine VW.aload_n d8_ofFound_21 0 rfl ?_
    refine VW.iconst (v := 2) d8_ofFound_22 ic_2 ?_
    obtain ⟨r3, h4, e2, hr⟩ := bno2 hr
    refine VW.callV (As := [.int 2]) (st := []) d8_ofFound_23 mi_8_error cv_8_61 (oo_8 o8_0) ⟨rfl, rfl⟩ (by decide) (dl1 hd) _ rfl (Nat.le_of_ble_eq_true rfl) rfl (c_8_error (dl hd rfl) e2) (kI ?_)
    exact VW.iret d8_ofFound_26 hR (rIw hr)
  · replace hr := im hr c1
    refine VW.iload_n d8_ofFound_10 1 rfl ?_
    refine VW.aload_n d8_ofFound_11 0 rfl ?_
    refine VW.getR (k := 2) (r := 95) d8_ofFound_12 (oo_8 o8_0) rfl fl_8_24 ck8 ?_
    refine VW.getI (k := 5) d8_ofFound_15 (oo_2 (rf_8_2 o8_0)) rfl fl_8_305 ck2 ?_
    refine VW.icmp_lt 27 d8_ofFound_18 (by decide) (fun c5 => ?_) (fun c5 => ?_)
    · replace hr := ip hr c5
      refine VW.iload_n d8_ofFound_27 1 rfl ?_
      refine VW.bipush (v := (-2)) d8_ofFound_28 bp_m2 ?_
      refine VW.icmp_ne 43 d8_ofFound_30 (by decide) (fun c6 => ?_) (fun c6 => ?_)
      · replace hr := ip hr c6
        refine VW.aload_n d8_ofFound_33 0 rfl ?_
        refine VW.getR (k := 2) (r := 95) d8_ofFound_34 (oo_8 o8_0) rfl fl_8_24 ck8 ?_
        refine VW.getI (k := 6) d8_ofFound_37 (oo_2 (rf_8_2 o8_0)) rfl fl_8_306 ck2 ?_
        refine VW.goto 66 d8_ofFound_40 (by decide) ?_
        exact VW.iret d8_ofFound_66 hR (rIw hr)
      · replace hr := im hr c6
        refine VW.iload_n d8_ofFound_43 1 rfl ?_
        refine VW.iconst (v := (-1)) d8_ofFound_44 ic_m1 ?_
        refine VW.icmp_ne 58 d8_ofFound_45 (by decide) (fun c7 => ?_) (fun c7 => ?_)
        · replace hr := ip hr c7
          refine VW.aload_n d8_ofFound_48 0 rfl ?_
          refine VW.getR (k := 2) (r := 95) d8_ofFound_49 (oo_8 o8_0) rfl fl_8_24 ck8 ?_
          refine VW.getI (k := 5) d8_ofFound_52 (oo_2 (rf_8_2 o8_0)) rfl fl_8_305 ck2 ?_
          refine VW.goto 66 d8_ofFound_55 (by decide) ?_
          exact VW.iret d8_ofFound_66 hR (rIw hr)
        · replace hr := im hr c7
          refine VW.aload_n d8_ofFound_58 0 rfl ?_
          refine VW.getR (k := 2) (r := 95) d8_ofFound_59 (oo_8 o8_0) rfl fl_8_24 ck8 ?_
          refine VW.iload_n d8_ofFound_62 1 rfl ?_
          obtain ⟨r9, e8, hr⟩ := bno hr
          refine VW.callV (As := [.int x1]) (st := []) d8_ofFound_63 mi_2_wordAt cv_8_309 (oo_2 (rf_8_2 o8_0)) ⟨rfl, rfl⟩ (by decide) (dl1 hd) _ rfl (Nat.le_of_ble_eq_true rfl) rfl (c_2_wordAt (dl hd rfl) e8) (kI ?_)
          exact VW.iret d8_ofFound_66 hR (rIw hr)
    · replace hr := im hr c5
      refine VW.aload_n d8_ofFound_21 0 rfl ?_
      refine VW.iconst (v := 2) d8_ofFound_22 ic_2 ?_
      obtain ⟨r11, h12, e10, hr⟩ := bno2 hr
      refine VW.callV (As := [.int 2]) (st := []) d8_ofFound_23 mi_8_error cv_8_61 (oo_8 o8_0) ⟨rfl, rfl⟩ (by decide) (dl1 hd) _ rfl (Nat.le_of_ble_eq_true rfl) rfl (c_8_error (dl hd rfl) e10) (kI ?_)
      exact VW.iret d8_ofFound_26 hR (rIw hr)
set_option maxRecDepth 100000 in
set_option maxHeartbeats 4000000 in
theorem c_8_best {γ : Gm} {dd : Nat} {x1 : Int32} {x2 : Int32} {x3 : Int32} {h : Hp} {r : Int32} {hz : Hp} (hd : 6 ≤ dd) (hr : f_8_best x1 x2 x3 h = some (r, hz)) : MC γ dd yX8_best cX8_best 4 (some .int) [.ref (γ.2.2.1 0), .int x1, .int x2, .int x3] h (QI r hz) := by
  unfold f_8_best at hr
  refine MC.of mi_8_best (Nat.le_of_ble_eq_true rfl) (fun ε hR => ?_)
  show VW γ ε cX8_best RX8 4 dd 0 [(0, .ref (γ.2.2.1 0)), (1, .int x1), (2, .int x2), (3, .int x3)] [] h
  refine VW.aload_n d8_best_0 0 rfl ?_
  refine VW.iload_n d8_best_1 1 rfl ?_
  refine VW.callV (As := [.int x1]) (st := []) d8_best_2 mi_8_isLine cv_8_119 (oo_8 o8_0) ⟨rfl, rfl⟩ (by decide) (dl1 hd) _ rfl (Nat.le_of_ble_eq_true rfl) rfl (c_8_isLine (dl hd rfl) rfl) (kI ?_)
  refine VW.if_eq 28 d8_best_5 (by decide) (fun c1 => ?_) (fun c1 => ?_)
  · replace hr := ip hr c1
    refine VW.aload_n d8_best_28 0 rfl ?_
    refine VW.iconst (v := 1) d8_best_29 ic_1 ?_
    obtain ⟨r3, h4, e2, hr⟩ := bno2 hr
    refine VW.callV (As := [.int 1]) (st := []) d8_best_30 mi_8_error cv_8_61 (oo_8 o8_0) ⟨rfl, rfl⟩ (by decide) (dl1 hd) _ rfl (Nat.le_of_ble_eq_true rfl) rfl (c_8_error (dl hd rfl) e2) (kI ?_)
    exact VW.iret d8_best_33 hR (rIw hr)
  · replace hr := im hr c1
    refine VW.iload_n d8_best_8 2 rfl ?_
    refine VW.iconst (v := 0) d8_best_9 ic_0 ?_
    refine VW.bipush (v := 99) d8_best_10 bp_99 ?_
    refine VW.callS (As := [.int x2, .int 0, .int 99]) (st := []) d8_best_12 mi_8_within cs_8_57 (by decide) (dl1 hd) _ rfl (Nat.le_of_ble_eq_true rfl) rfl (c_8_within (dl hd rfl) rfl) (kI ?_)
    refine VW.if_eq 28 d8_best_15 (by decide) (fun c5 => ?_) (fun c5 => ?_)
    · replace hr := ip hr c5
      refine VW.aload_n d8_best_28 0 rfl ?_
      refine VW.iconst (v := 1) d8_best_29 ic_1 ?_
      obtain ⟨r7, h8, e6, hr⟩ := bno2 hr
      refine VW.callV (As := [.int 1]) (st := []) d8_best_30 mi_8_error cv_8_61 (oo_8 o8_0) ⟨rfl, rfl⟩ (by decide) (dl1 hd) _ rfl (Nat.le_of_ble_eq_true rfl) rfl (c_8_error (dl hd rfl) e6) (kI ?_)
      exact VW.iret d8_best_33 hR (rIw hr)
    · replace hr := im hr c5
      refine VW.iload_n d8_best_18 3 rfl ?_
      refine VW.bipush (v := (-2)) d8_best_19 bp_m2 ?_
      refine VW.iconst (v := 2) d8_best_21 ic_2 ?_
      refine VW.callS (As := [.int x3, .int (-2), .int 2]) (st := []) d8_best_22 mi_8_within cs_8_57 (by decide) (dl1 hd) _ rfl (Nat.le_of_ble_eq_true rfl) rfl (c_8_within (dl hd rfl) rfl) (kI ?_)
      refine VW.if_ne 34 d8_best_25 (by decide) (fun c9 => ?_) (fun c9 => ?_)
      · replace hr := ip hr c9
        refine VW.aload_n d8_best_28 0 rfl ?_
        refine VW.iconst (v := 1) d8_best_29 ic_1 ?_
        obtain ⟨r11, h12, e10, hr⟩ := bno2 hr
        refine VW.callV (As := [.int 1]) (st := []) d8_best_30 mi_8_error cv_8_61 (oo_8 o8_0) ⟨rfl, rfl⟩ (by decide) (dl1 hd) _ rfl (Nat.le_of_ble_eq_true rfl) rfl (c_8_error (dl hd rfl) e10) (kI ?_)
        exact VW.iret d8_best_33 hR (rIw hr)
      · replace hr := im hr c9
        refine VW.aload_n d8_best_34 0 rfl ?_
        refine VW.getR (k := 2) (r := 95) d8_best_35 (oo_8 o8_0) rfl fl_8_24 ck8 ?_
        refine VW.aload_n d8_best_38 0 rfl ?_
        refine VW.getR (k := 0) (r := 1) d8_best_39 (oo_8 o8_0) rfl fl_8_10 ck8 ?_
        refine VW.getR (k := 2) (r := 4) d8_best_42 (oo_7 (rf_8_0 o8_0)) rfl fl_8_109 ck7 ?_
        refine VW.iload_n d8_best_45 1 rfl ?_
        obtain ⟨g13, hr⟩ := gdt hr
        refine VW.aald (z := 36 + 2 * (ci x1)) d8_best_46 (rf_7_2 (rf_8_0 o8_0)) (by decide) (by decide) g13 rfl ?_
        refine VW.iconst (v := 0) d8_best_47 ic_0 ?_
        refine VW.iload_n d8_best_48 2 rfl ?_
        obtain ⟨h15, e14, hr⟩ := bno hr
        refine VW.callV (As := [.ref (γ.2.2.1 (36 + 2 * (ci x1))), .int 0, .int x2]) (st := []) d8_best_49 mi_2_find cv_8_214 (oo_2 (rf_8_2 o8_0)) ⟨rfl, rfl⟩ (by decide) (dl1 hd) _ rfl (Nat.le_of_ble_eq_true rfl) rfl (c_2_find (re_7_2 (rf_8_0 o8_0) (inb_lt g13)) (dl hd rfl) e14) (kV ?_)
        refine VW.aload_n d8_best_52 0 rfl ?_
        refine VW.iload_n d8_best_53 3 rfl ?_
        obtain ⟨r17, h18, e16, hr⟩ := bno2 hr
        refine VW.callV (As := [.int x3]) (st := []) d8_best_54 mi_8_ofFound cv_8_218 (oo_8 o8_0) ⟨rfl, rfl⟩ (by decide) (dl1 hd) _ rfl (Nat.le_of_ble_eq_true rfl) rfl (c_8_ofFound (dl hd rfl) e16) (kI ?_)
        exact VW.iret d8_best_57 hR (rIw hr)
set_option maxRecDepth 100000 in
set_option maxHeartbeats 4000000 in
theorem s_8_cast_22 {γ : Gm} {ε : En} {dd : Nat} (hd : 2 ≤ dd) {r : Int32} {hz : Hp} {x1 : Int32} (hR : RT γ ε (some .int) (QI r hz)) : ∀ (n : Nat) (x2 : Int32) (x3 : Int32) (x4 : Int32) (h : Hp), f_8_cast_22 x1 n x2 x3 x4 h = some (r, hz) → VW γ ε cX8_cast RX8 6 dd 22 [(0, .ref (γ.2.2.1 0)), (1, .int x1), (2, .int x2), (3, .int x3), (4, .int x4)] [] h := by
  intro n
  induction n with
  | zero =>
    intro x2 x3 x4 h hr
    exact nf hr
  | succ n ih =>
    intro x2 x3 x4 h hr
    rw [f_8_cast_22] at hr
    refine VW.iload d8_cast_22 4 rfl ?_
    refine VW.sipush (v := 256) d8_cast_24 sp_256 ?_
    refine VW.icmp_ge 59 d8_cast_27 (by decide) (fun c5 => ?_) (fun c5 => ?_)
    · replace hr := ip hr c5
      refine VW.iload_n d8_cast_59 1 rfl ?_
      refine VW.if_ge 67 d8_cast_60 (by decide) (fun c6 => ?_) (fun c6 => ?_)
      · replace hr := ip hr c6
        refine VW.iload_n d8_cast_67 2 rfl ?_
        refine VW.iload_n d8_cast_68 1 rfl ?_
        refine VW.callS (As := [.int x2, .int x1]) (st := []) d8_cast_69 mi_8_voiceOf cs_8_234 (by decide) (dl1 hd) _ rfl (Nat.le_of_ble_eq_true rfl) rfl (c_8_voiceOf (dl hd rfl) rfl) (kI ?_)
        exact VW.iret d8_cast_72 hR (rIw hr)
      · replace hr := im hr c6
        refine VW.iload_n d8_cast_63 3 rfl ?_
        refine VW.goto 72 d8_cast_64 (by decide) ?_
        exact VW.iret d8_cast_72 hR (rIw hr)
    · replace hr := im hr c5
      refine VW.aload_n d8_cast_30 0 rfl ?_
      refine VW.getR (k := 0) (r := 1) d8_cast_31 (oo_8 o8_0) rfl fl_8_10 ck8 ?_
      refine VW.iload d8_cast_34 4 rfl ?_
      obtain ⟨r8, e7, hr⟩ := bno hr
      refine VW.callV (As := [.int x4]) (st := []) d8_cast_36 mi_7_likesOf cv_8_231 (oo_7 (rf_8_0 o8_0)) ⟨rfl, rfl⟩ (by decide) (dl1 hd) _ rfl (Nat.le_of_ble_eq_true rfl) rfl (c_7_likesOf (dl hd rfl) e7) (kI ?_)
      refine VW.istore (lo' := [(5, .int r8), (0, .ref (γ.2.2.1 0)), (1, .int x1), (2, .int x2), (3, .int x3), (4, .int x4)]) d8_cast_39 (by decide) rfl ?_
      refine VW.iload d8_cast_41 0 rfl ?_
      refine VW.iload_n d8_cast_43 4 rfl ?_
      refine VW.icmp_le 53 d8_cast_44 (by decide) (fun c9 => ?_) (fun c9 => ?_)
      · replace hr := ip hr c9
        refine VW.iinc (w := 1) (lo' := [(4, .int (x4 + 1)), (5, .int r8), (0, .ref (γ.2.2.1 0)), (1, .int x1), (2, .int x2), (3, .int x3)]) d8_cast_53 5 rfl ic_1 (by decide) rfl ?_
        refine VW.goto 22 d8_cast_56 (by decide) ?_
        exact VW.sub [2, 3, 4, 5, 0] rfl (ih x2 x3 (x4 + 1) h hr)
      · replace hr := im hr c9
        refine VW.iload d8_cast_47 0 rfl ?_
        refine VW.istore_n (lo' := [(3, .int r8), (5, .int r8), (0, .ref (γ.2.2.1 0)), (1, .int x1), (2, .int x2), (4, .int x4)]) d8_cast_49 (by decide) rfl ?_
        refine VW.iload d8_cast_50 5 rfl ?_
        refine VW.istore_n (lo' := [(2, .int x4), (3, .int r8), (5, .int r8), (0, .ref (γ.2.2.1 0)), (1, .int x1), (4, .int x4)]) d8_cast_52 (by decide) rfl ?_
        refine VW.iinc (w := 1) (lo' := [(4, .int (x4 + 1)), (2, .int x4), (3, .int r8), (5, .int r8), (0, .ref (γ.2.2.1 0)), (1, .int x1)]) d8_cast_53 5 rfl ic_1 (by decide) rfl ?_
        refine VW.goto 22 d8_cast_56 (by decide) ?_
        exact VW.sub [4, 5, 1, 2, 0] rfl (ih x4 r8 (x4 + 1) h hr)
set_option maxRecDepth 100000 in
set_option maxHeartbeats 4000000 in
theorem c_8_cast {γ : Gm} {dd : Nat} {x1 : Int32} {h : Hp} {r : Int32} {hz : Hp} (hd : 2 ≤ dd) (hr : f_8_cast x1 h = some (r, hz)) : MC γ dd yX8_cast cX8_cast 6 (some .int) [.ref (γ.2.2.1 0), .int x1] h (QI r hz) := by
  unfold f_8_cast at hr
  refine MC.of mi_8_cast (Nat.le_of_ble_eq_true rfl) (fun ε hR => ?_)
  show VW γ ε cX8_cast RX8 6 dd 0 [(0, .ref (γ.2.2.1 0)), (1, .int x1)] [] h
  refine VW.iload_n d8_cast_0 1 rfl ?_
  refine VW.iconst (v := (-1)) d8_cast_1 ic_m1 ?_
  refine VW.iconst (v := 3) d8_cast_2 ic_3 ?_
  refine VW.callS (As := [.int x1, .int (-1), .int 3]) (st := []) d8_cast_3 mi_8_within cs_8_57 (by decide) (dl1 hd) _ rfl (Nat.le_of_ble_eq_true rfl) rfl (c_8_within (dl hd rfl) rfl) (kI ?_)
  refine VW.if_ne 15 d8_cast_6 (by decide) (fun c1 => ?_) (fun c1 => ?_)
  · replace hr := ip hr c1
    refine VW.aload_n d8_cast_9 0 rfl ?_
    refine VW.iconst (v := 1) d8_cast_10 ic_1 ?_
    obtain ⟨r3, h4, e2, hr⟩ := bno2 hr
    refine VW.callV (As := [.int 1]) (st := []) d8_cast_11 mi_8_error cv_8_61 (oo_8 o8_0) ⟨rfl, rfl⟩ (by decide) (dl1 hd) _ rfl (Nat.le_of_ble_eq_true rfl) rfl (c_8_error (dl hd rfl) e2) (kI ?_)
    exact VW.iret d8_cast_14 hR (rIw hr)
  · replace hr := im hr c1
    refine VW.iconst (v := 0) d8_cast_15 ic_0 ?_
    refine VW.istore_n (lo' := [(2, .int 0), (0, .ref (γ.2.2.1 0)), (1, .int x1)]) d8_cast_16 (by decide) rfl ?_
    refine VW.iconst (v := (-1)) d8_cast_17 ic_m1 ?_
    refine VW.istore_n (lo' := [(3, .int (-1)), (2, .int 0), (0, .ref (γ.2.2.1 0)), (1, .int x1)]) d8_cast_18 (by decide) rfl ?_
    refine VW.iconst (v := 0) d8_cast_19 ic_0 ?_
    refine VW.istore (lo' := [(4, .int 0), (3, .int (-1)), (2, .int 0), (0, .ref (γ.2.2.1 0)), (1, .int x1)]) d8_cast_20 (by decide) rfl ?_
    exact VW.sub [3, 4, 2, 1, 0] rfl (s_8_cast_22 hd hR FU 0 (-1) 0 h hr)
set_option maxRecDepth 100000 in
set_option maxHeartbeats 4000000 in
theorem s_8_check_18 {γ : Gm} {ε : En} {dd : Nat} (hd : 2 ≤ dd) {r : Int32} {hz : Hp} {x1 : Int32} (hR : RT γ ε (some .int) (QI r hz)) : ∀ (n : Nat) (x2 : Int32) (h : Hp), f_8_check_18 x1 n x2 h = some (r, hz) → VW γ ε cX8_check RX8 3 dd 18 [(0, .ref (γ.2.2.1 0)), (1, .int x1), (2, .int x2)] [] h := by
  intro n
  induction n with
  | zero =>
    intro x2 h hr
    exact nf hr
  | succ n ih =>
    intro x2 h hr
    rw [f_8_check_18] at hr
    refine VW.iload_n d8_check_18 2 rfl ?_
    refine VW.iload_n d8_check_19 1 rfl ?_
    refine VW.icmp_ge 53 d8_check_20 (by decide) (fun c3 => ?_) (fun c3 => ?_)
    · replace hr := ip hr c3
      refine VW.iconst (v := 0) d8_check_53 ic_0 ?_
      exact VW.iret d8_check_54 hR (rIw hr)
    · replace hr := im hr c3
      refine VW.aload_n d8_check_23 0 rfl ?_
      refine VW.getR (k := 0) (r := 1) d8_check_24 (oo_8 o8_0) rfl fl_8_10 ck8 ?_
      refine VW.getR (k := 7) (r := 13) d8_check_27 (oo_7 (rf_8_0 o8_0)) rfl fl_8_291 ck7 ?_
      refine VW.iload_n d8_check_30 2 rfl ?_
      obtain ⟨g4, hr⟩ := gdt hr
      refine VW.iald (j := (ci x2)) d8_check_31 (rf_7_7 (rf_8_0 o8_0)) g4 rfl ?_
      refine VW.aload_n d8_check_32 0 rfl ?_
      refine VW.getR (k := 0) (r := 1) d8_check_33 (oo_8 o8_0) rfl fl_8_10 ck8 ?_
      refine VW.iload_n d8_check_36 2 rfl ?_
      obtain ⟨r6, e5, hr⟩ := bno hr
      refine VW.callV (As := [.int x2]) (st := [.int (h 13 (ci x2))]) d8_check_37 mi_7_filmAt cv_8_69 (oo_7 (rf_8_0 o8_0)) ⟨rfl, rfl⟩ (by decide) (dl1 hd) _ rfl (Nat.le_of_ble_eq_true rfl) rfl (c_7_filmAt (dl hd rfl) e5) (kI ?_)
      refine VW.icmp_eq 47 d8_check_40 (by decide) (fun c7 => ?_) (fun c7 => ?_)
      · replace hr := ip hr c7
        refine VW.iinc (w := 1) (lo' := [(2, .int (x2 + 1)), (0, .ref (γ.2.2.1 0)), (1, .int x1)]) d8_check_47 2 rfl ic_1 (by decide) rfl ?_
        refine VW.goto 18 d8_check_50 (by decide) ?_
        exact VW.sub [1, 2, 0] rfl (ih (x2 + 1) h hr)
      · replace hr := im hr c7
        refine VW.iconst (v := 1) d8_check_43 ic_1 ?_
        refine VW.iload_n d8_check_44 2 rfl ?_
        refine VW.iadd d8_check_45 ?_
        exact VW.iret d8_check_46 hR (rIw hr)
set_option maxRecDepth 100000 in
set_option maxHeartbeats 4000000 in
theorem c_8_check {γ : Gm} {dd : Nat} {h : Hp} {r : Int32} {hz : Hp} (hd : 2 ≤ dd) (hr : f_8_check h = some (r, hz)) : MC γ dd yX8_check cX8_check 3 (some .int) [.ref (γ.2.2.1 0)] h (QI r hz) := by
  unfold f_8_check at hr
  refine MC.of mi_8_check (Nat.le_of_ble_eq_true rfl) (fun ε hR => ?_)
  show VW γ ε cX8_check RX8 3 dd 0 [(0, .ref (γ.2.2.1 0))] [] h
  refine VW.aload_n d8_check_0 0 rfl ?_
  refine VW.getR (k := 0) (r := 1) d8_check_1 (oo_8 o8_0) rfl fl_8_10 ck8 ?_
  refine VW.getI (k := 13) d8_check_4 (oo_7 (rf_8_0 o8_0)) rfl fl_8_288 ck7 ?_
  refine VW.istore_n (lo' := [(1, .int (h 1 13)), (0, .ref (γ.2.2.1 0))]) d8_check_7 (by decide) rfl ?_
  refine VW.aload_n d8_check_8 1 rfl ?_
  refine VW.getR (k := 0) (r := 1) d8_check_9 (oo_8 o8_0) rfl fl_8_10 ck8 ?_
  refine VW.iconst (v := 0) d8_check_12 ic_0 ?_
  obtain ⟨h1, e2, hr⟩ := hlt hr
  refine VW.putI (k := 13) d8_check_13 (oo_7 (rf_8_0 o8_0)) rfl fl_8_288 ck7 rfl rfl rfl rfl ?_
  refine VW.heq e2 ?_
  refine VW.iconst (v := 0) d8_check_16 ic_0 ?_
  refine VW.istore_n (lo' := [(2, .int 0), (1, .int (h 1 13)), (0, .ref (γ.2.2.1 0))]) d8_check_17 (by decide) rfl ?_
  exact VW.sub [2, 1, 0] rfl (s_8_check_18 hd hR FU 0 h1 hr)
set_option maxRecDepth 100000 in
set_option maxHeartbeats 4000000 in
theorem c_8_count {γ : Gm} {dd : Nat} {x1 : Int32} {h : Hp} {r : Int32} {hz : Hp} (hd : 6 ≤ dd) (hr : f_8_count x1 h = some (r, hz)) : MC γ dd yX8_count cX8_count 2 (some .int) [.ref (γ.2.2.1 0), .int x1] h (QI r hz) := by
  unfold f_8_count at hr
  refine MC.of mi_8_count (Nat.le_of_ble_eq_true rfl) (fun ε hR => ?_)
  show VW γ ε cX8_count RX8 2 dd 0 [(0, .ref (γ.2.2.1 0)), (1, .int x1)] [] h
  refine VW.iload_n d8_count_0 1 rfl ?_
  by_cases c1 : x1 = 0
  · replace hr := ip hr c1
    refine VW.tableIn (off := 59) 60 d8_count_1 (by rw [c1]; decide) (by rw [c1]; decide) (by rw [c1]; decide) (by decide) ?_
    refine VW.aload_n d8_count_60 0 rfl ?_
    refine VW.getR (k := 0) (r := 1) d8_count_61 (oo_8 o8_0) rfl fl_8_10 ck8 ?_
    refine VW.getI (k := 10) d8_count_64 (oo_7 (rf_8_0 o8_0)) rfl fl_8_76 ck7 ?_
    exact VW.iret d8_count_67 hR (rIw hr)
  · replace hr := im hr c1
    by_cases c2 : x1 = 1
    · replace hr := ip hr c2
      refine VW.tableIn (off := 67) 68 d8_count_1 (by rw [c2]; decide) (by rw [c2]; decide) (by rw [c2]; decide) (by decide) ?_
      refine VW.aload_n d8_count_68 0 rfl ?_
      refine VW.getR (k := 0) (r := 1) d8_count_69 (oo_8 o8_0) rfl fl_8_10 ck8 ?_
      refine VW.getI (k := 11) d8_count_72 (oo_7 (rf_8_0 o8_0)) rfl fl_8_106 ck7 ?_
      exact VW.iret d8_count_75 hR (rIw hr)
    · replace hr := im hr c2
      by_cases c3 : x1 = 2
      · replace hr := ip hr c3
        refine VW.tableIn (off := 75) 76 d8_count_1 (by rw [c3]; decide) (by rw [c3]; decide) (by rw [c3]; decide) (by decide) ?_
        refine VW.aload_n d8_count_76 0 rfl ?_
        refine VW.getR (k := 0) (r := 1) d8_count_77 (oo_8 o8_0) rfl fl_8_10 ck8 ?_
        refine VW.getI (k := 14) d8_count_80 (oo_7 (rf_8_0 o8_0)) rfl fl_8_146 ck7 ?_
        exact VW.iret d8_count_83 hR (rIw hr)
      · replace hr := im hr c3
        by_cases c4 : x1 = 3
        · replace hr := ip hr c4
          refine VW.tableIn (off := 83) 84 d8_count_1 (by rw [c4]; decide) (by rw [c4]; decide) (by rw [c4]; decide) (by decide) ?_
          refine VW.aload_n d8_count_84 0 rfl ?_
          refine VW.getR (k := 0) (r := 1) d8_count_85 (oo_8 o8_0) rfl fl_8_10 ck8 ?_
          refine VW.getI (k := 15) d8_count_88 (oo_7 (rf_8_0 o8_0)) rfl fl_8_211 ck7 ?_
          exact VW.iret d8_count_91 hR (rIw hr)
        · replace hr := im hr c4
          by_cases c5 : x1 = 4
          · replace hr := ip hr c5
            refine VW.tableIn (off := 91) 92 d8_count_1 (by rw [c5]; decide) (by rw [c5]; decide) (by rw [c5]; decide) (by decide) ?_
            refine VW.aload_n d8_count_92 0 rfl ?_
            refine VW.getR (k := 0) (r := 1) d8_count_93 (oo_8 o8_0) rfl fl_8_10 ck8 ?_
            obtain ⟨r7, h8, e6, hr⟩ := bno2 hr
            refine VW.callV (As := []) (st := []) d8_count_96 mi_7_offOfAll cv_8_294 (oo_7 (rf_8_0 o8_0)) ⟨rfl, rfl⟩ (by decide) (dl1 hd) _ rfl (Nat.le_of_ble_eq_true rfl) rfl (c_7_offOfAll (dl hd rfl) e6) (kI ?_)
            exact VW.iret d8_count_99 hR (rIw hr)
          · replace hr := im hr c5
            by_cases c9 : x1 = 5
            · replace hr := ip hr c9
              refine VW.tableIn (off := 99) 100 d8_count_1 (by rw [c9]; decide) (by rw [c9]; decide) (by rw [c9]; decide) (by decide) ?_
              refine VW.aload_n d8_count_100 0 rfl ?_
              refine VW.getR (k := 0) (r := 1) d8_count_101 (oo_8 o8_0) rfl fl_8_10 ck8 ?_
              obtain ⟨r11, e10, hr⟩ := bno hr
              refine VW.callV (As := []) (st := []) d8_count_104 mi_7_lossOfAll cv_8_298 (oo_7 (rf_8_0 o8_0)) ⟨rfl, rfl⟩ (by decide) (dl1 hd) _ rfl (Nat.le_of_ble_eq_true rfl) rfl (c_7_lossOfAll (dl hd rfl) e10) (kI ?_)
              exact VW.iret d8_count_107 hR (rIw hr)
            · replace hr := im hr c9
              by_cases c12 : x1 = 6
              · replace hr := ip hr c12
                refine VW.tableIn (off := 107) 108 d8_count_1 (by rw [c12]; decide) (by rw [c12]; decide) (by rw [c12]; decide) (by decide) ?_
                refine VW.aload_n d8_count_108 0 rfl ?_
                refine VW.getR (k := 0) (r := 1) d8_count_109 (oo_8 o8_0) rfl fl_8_10 ck8 ?_
                obtain ⟨r14, h15, e13, hr⟩ := bno2 hr
                refine VW.callV (As := []) (st := []) d8_count_112 mi_7_noticedOfAll cv_8_301 (oo_7 (rf_8_0 o8_0)) ⟨rfl, rfl⟩ (by decide) (dl1 hd) _ rfl (Nat.le_of_ble_eq_true rfl) rfl (c_7_noticedOfAll (dl hd rfl) e13) (kI ?_)
                exact VW.iret d8_count_115 hR (rIw hr)
              · replace hr := im hr c12
                by_cases c16 : x1 = 7
                · replace hr := ip hr c16
                  refine VW.tableIn (off := 115) 116 d8_count_1 (by rw [c16]; decide) (by rw [c16]; decide) (by rw [c16]; decide) (by decide) ?_
                  refine VW.aload_n d8_count_116 0 rfl ?_
                  refine VW.getR (k := 0) (r := 1) d8_count_117 (oo_8 o8_0) rfl fl_8_10 ck8 ?_
                  refine VW.getI (k := 12) d8_count_120 (oo_7 (rf_8_0 o8_0)) rfl fl_8_175 ck7 ?_
                  exact VW.iret d8_count_123 hR (rIw hr)
                · replace hr := im hr c16
                  by_cases c17 : x1 = 8
                  · replace hr := ip hr c17
                    refine VW.tableIn (off := 123) 124 d8_count_1 (by rw [c17]; decide) (by rw [c17]; decide) (by rw [c17]; decide) (by decide) ?_
                    refine VW.aload_n d8_count_124 0 rfl ?_
                    refine VW.getR (k := 0) (r := 1) d8_count_125 (oo_8 o8_0) rfl fl_8_10 ck8 ?_
                    refine VW.getI (k := 13) d8_count_128 (oo_7 (rf_8_0 o8_0)) rfl fl_8_288 ck7 ?_
                    exact VW.iret d8_count_131 hR (rIw hr)
                  · replace hr := im hr c17
                    by_cases c18 : x1 = 9
                    · replace hr := ip hr c18
                      refine VW.tableIn (off := 131) 132 d8_count_1 (by rw [c18]; decide) (by rw [c18]; decide) (by rw [c18]; decide) (by decide) ?_
                      refine VW.aload_n d8_count_132 0 rfl ?_
                      refine VW.getR (k := 4) (r := 103) d8_count_133 (oo_8 o8_0) rfl fl_8_38 ck8 ?_
                      refine VW.getI (k := 1) d8_count_136 (oo_4 (rf_8_4 o8_0)) rfl fl_8_252 ck4 ?_
                      exact VW.iret d8_count_139 hR (rIw hr)
                    · replace hr := im hr c18
                      by_cases c19 : x1 = 10
                      · replace hr := ip hr c19
                        refine VW.tableIn (off := 139) 140 d8_count_1 (by rw [c19]; decide) (by rw [c19]; decide) (by rw [c19]; decide) (by decide) ?_
                        refine VW.aload_n d8_count_140 0 rfl ?_
                        refine VW.getR (k := 0) (r := 1) d8_count_141 (oo_8 o8_0) rfl fl_8_10 ck8 ?_
                        refine VW.getI (k := 16) d8_count_144 (oo_7 (rf_8_0 o8_0)) rfl fl_8_245 ck7 ?_
                        exact VW.iret d8_count_147 hR (rIw hr)
                      · replace hr := im hr c19
                        have tc1 := lv_neT c1 (by decide : (0 : Int32).toInt = 0)
                        have tc2 := lv_neT c2 (by decide : (1 : Int32).toInt = 1)
                        have tc3 := lv_neT c3 (by decide : (2 : Int32).toInt = 2)
                        have tc4 := lv_neT c4 (by decide : (3 : Int32).toInt = 3)
                        have tc5 := lv_neT c5 (by decide : (4 : Int32).toInt = 4)
                        have tc9 := lv_neT c9 (by decide : (5 : Int32).toInt = 5)
                        have tc12 := lv_neT c12 (by decide : (6 : Int32).toInt = 6)
                        have tc16 := lv_neT c16 (by decide : (7 : Int32).toInt = 7)
                        have tc17 := lv_neT c17 (by decide : (8 : Int32).toInt = 8)
                        have tc18 := lv_neT c18 (by decide : (9 : Int32).toInt = 9)
                        have tc19 := lv_neT c19 (by decide : (10 : Int32).toInt = 10)
                        refine VW.tableOut 148 d8_count_1 (by omega) (by decide) ?_
                        refine VW.aload_n d8_count_148 0 rfl ?_
                        refine VW.iconst (v := 1) d8_count_149 ic_1 ?_
                        obtain ⟨r21, h22, e20, hr⟩ := bno2 hr
                        refine VW.callV (As := [.int 1]) (st := []) d8_count_150 mi_8_error cv_8_61 (oo_8 o8_0) ⟨rfl, rfl⟩ (by decide) (dl1 hd) _ rfl (Nat.le_of_ble_eq_true rfl) rfl (c_8_error (dl hd rfl) e20) (kI ?_)
                        exact VW.iret d8_count_153 hR (rIw hr)
set_option maxRecDepth 100000 in
set_option maxHeartbeats 4000000 in
theorem c_8_dearest {γ : Gm} {dd : Nat} {x1 : Int32} {x2 : Int32} {x3 : Int32} {h : Hp} {r : Int32} {hz : Hp} (hd : 6 ≤ dd) (hr : f_8_dearest x1 x2 x3 h = some (r, hz)) : MC γ dd yX8_dearest cX8_dearest 4 (some .int) [.ref (γ.2.2.1 0), .int x1, .int x2, .int x3] h (QI r hz) := by
  unfold f_8_dearest at hr
  refine MC.of mi_8_dearest (Nat.le_of_ble_eq_true rfl) (fun ε hR => ?_)
  show VW γ ε cX8_dearest RX8 4 dd 0 [(0, .ref (γ.2.2.1 0)), (1, .int x1), (2, .int x2), (3, .int x3)] [] h
  refine VW.aload_n d8_dearest_0 0 rfl ?_
  refine VW.iload_n d8_dearest_1 1 rfl ?_
  refine VW.callV (As := [.int x1]) (st := []) d8_dearest_2 mi_8_isLine cv_8_119 (oo_8 o8_0) ⟨rfl, rfl⟩ (by decide) (dl1 hd) _ rfl (Nat.le_of_ble_eq_true rfl) rfl (c_8_isLine (dl hd rfl) rfl) (kI ?_)
  refine VW.if_eq 28 d8_dearest_5 (by decide) (fun c1 => ?_) (fun c1 => ?_)
  · replace hr := ip hr c1
    refine VW.aload_n d8_dearest_28 0 rfl ?_
    refine VW.iconst (v := 1) d8_dearest_29 ic_1 ?_
    obtain ⟨r3, h4, e2, hr⟩ := bno2 hr
    refine VW.callV (As := [.int 1]) (st := []) d8_dearest_30 mi_8_error cv_8_61 (oo_8 o8_0) ⟨rfl, rfl⟩ (by decide) (dl1 hd) _ rfl (Nat.le_of_ble_eq_true rfl) rfl (c_8_error (dl hd rfl) e2) (kI ?_)
    exact VW.iret d8_dearest_33 hR (rIw hr)
  · replace hr := im hr c1
    refine VW.iload_n d8_dearest_8 2 rfl ?_
    refine VW.iconst (v := 0) d8_dearest_9 ic_0 ?_
    refine VW.bipush (v := 99) d8_dearest_10 bp_99 ?_
    refine VW.callS (As := [.int x2, .int 0, .int 99]) (st := []) d8_dearest_12 mi_8_within cs_8_57 (by decide) (dl1 hd) _ rfl (Nat.le_of_ble_eq_true rfl) rfl (c_8_within (dl hd rfl) rfl) (kI ?_)
    refine VW.if_eq 28 d8_dearest_15 (by decide) (fun c5 => ?_) (fun c5 => ?_)
    · replace hr := ip hr c5
      refine VW.aload_n d8_dearest_28 0 rfl ?_
      refine VW.iconst (v := 1) d8_dearest_29 ic_1 ?_
      obtain ⟨r7, h8, e6, hr⟩ := bno2 hr
      refine VW.callV (As := [.int 1]) (st := []) d8_dearest_30 mi_8_error cv_8_61 (oo_8 o8_0) ⟨rfl, rfl⟩ (by decide) (dl1 hd) _ rfl (Nat.le_of_ble_eq_true rfl) rfl (c_8_error (dl hd rfl) e6) (kI ?_)
      exact VW.iret d8_dearest_33 hR (rIw hr)
    · replace hr := im hr c5
      refine VW.iload_n d8_dearest_18 3 rfl ?_
      refine VW.bipush (v := (-2)) d8_dearest_19 bp_m2 ?_
      refine VW.iconst (v := 2) d8_dearest_21 ic_2 ?_
      refine VW.callS (As := [.int x3, .int (-2), .int 2]) (st := []) d8_dearest_22 mi_8_within cs_8_57 (by decide) (dl1 hd) _ rfl (Nat.le_of_ble_eq_true rfl) rfl (c_8_within (dl hd rfl) rfl) (kI ?_)
      refine VW.if_ne 34 d8_dearest_25 (by decide) (fun c9 => ?_) (fun c9 => ?_)
      · replace hr := ip hr c9
        refine VW.aload_n d8_dearest_28 0 rfl ?_
        refine VW.iconst (v := 1) d8_dearest_29 ic_1 ?_
        obtain ⟨r11, h12, e10, hr⟩ := bno2 hr
        refine VW.callV (As := [.int 1]) (st := []) d8_dearest_30 mi_8_error cv_8_61 (oo_8 o8_0) ⟨rfl, rfl⟩ (by decide) (dl1 hd) _ rfl (Nat.le_of_ble_eq_true rfl) rfl (c_8_error (dl hd rfl) e10) (kI ?_)
        exact VW.iret d8_dearest_33 hR (rIw hr)
      · replace hr := im hr c9
        refine VW.aload_n d8_dearest_34 0 rfl ?_
        refine VW.getR (k := 2) (r := 95) d8_dearest_35 (oo_8 o8_0) rfl fl_8_24 ck8 ?_
        refine VW.aload_n d8_dearest_38 0 rfl ?_
        refine VW.getR (k := 0) (r := 1) d8_dearest_39 (oo_8 o8_0) rfl fl_8_10 ck8 ?_
        refine VW.getR (k := 2) (r := 4) d8_dearest_42 (oo_7 (rf_8_0 o8_0)) rfl fl_8_109 ck7 ?_
        refine VW.iload_n d8_dearest_45 1 rfl ?_
        obtain ⟨g13, hr⟩ := gdt hr
        refine VW.aald (z := 36 + 2 * (ci x1)) d8_dearest_46 (rf_7_2 (rf_8_0 o8_0)) (by decide) (by decide) g13 rfl ?_
        refine VW.iconst (v := 1) d8_dearest_47 ic_1 ?_
        refine VW.iload_n d8_dearest_48 2 rfl ?_
        obtain ⟨h15, e14, hr⟩ := bno hr
        refine VW.callV (As := [.ref (γ.2.2.1 (36 + 2 * (ci x1))), .int 1, .int x2]) (st := []) d8_dearest_49 mi_2_find cv_8_214 (oo_2 (rf_8_2 o8_0)) ⟨rfl, rfl⟩ (by decide) (dl1 hd) _ rfl (Nat.le_of_ble_eq_true rfl) rfl (c_2_find (re_7_2 (rf_8_0 o8_0) (inb_lt g13)) (dl hd rfl) e14) (kV ?_)
        refine VW.aload_n d8_dearest_52 0 rfl ?_
        refine VW.iload_n d8_dearest_53 3 rfl ?_
        obtain ⟨r17, h18, e16, hr⟩ := bno2 hr
        refine VW.callV (As := [.int x3]) (st := []) d8_dearest_54 mi_8_ofFound cv_8_218 (oo_8 o8_0) ⟨rfl, rfl⟩ (by decide) (dl1 hd) _ rfl (Nat.le_of_ble_eq_true rfl) rfl (c_8_ofFound (dl hd rfl) e16) (kI ?_)
        exact VW.iret d8_dearest_57 hR (rIw hr)
set_option maxRecDepth 100000 in
set_option maxHeartbeats 4000000 in
theorem s_8_power_5 {γ : Gm} {ε : En} {dd : Nat} (hd : 0 ≤ dd) {r : Int64} {x0 : Int64} {x2 : Int32} {h : Hp} (hR : RT γ ε (some .long) (QL r h)) : ∀ (n : Nat) (x3 : Int64) (x5 : Int32), f_8_power_5 x0 x2 n x3 x5 = some r → VW γ ε cX8_power RX8 6 dd 5 [(0, .long x0), (2, .int x2), (3, .long x3), (5, .int x5)] [] h := by
  intro n
  induction n with
  | zero =>
    intro x3 x5 hr
    exact nf hr
  | succ n ih =>
    intro x3 x5 hr
    rw [f_8_power_5] at hr
    refine VW.iload d8_power_5 3 rfl ?_
    refine VW.iload_n d8_power_7 1 rfl ?_
    refine VW.icmp_ge 21 d8_power_8 (by decide) (fun c1 => ?_) (fun c1 => ?_)
    · replace hr := ip hr c1
      refine VW.lload_n d8_power_21 2 rfl ?_
      exact VW.lret d8_power_22 hR (rLf hr)
    · replace hr := im hr c1
      refine VW.lload_n d8_power_11 2 rfl ?_
      refine VW.lload_n d8_power_12 0 rfl ?_
      refine VW.lmul d8_power_13 ?_
      refine VW.lstore_n (lo' := [(3, .long (x3 * x0)), (0, .long x0), (2, .int x2), (5, .int x5)]) d8_power_14 (by decide) rfl ?_
      refine VW.iinc (w := 1) (lo' := [(5, .int (x5 + 1)), (3, .long (x3 * x0)), (0, .long x0), (2, .int x2)]) d8_power_15 3 rfl ic_1 (by decide) rfl ?_
      refine VW.goto 5 d8_power_18 (by decide) ?_
      exact VW.sub [2, 3, 1, 0] rfl (ih (x3 * x0) (x5 + 1) hr)
set_option maxRecDepth 100000 in
set_option maxHeartbeats 4000000 in
theorem c_8_power {γ : Gm} {dd : Nat} {x0 : Int64} {x2 : Int32} {h : Hp} {r : Int64} (hd : 0 ≤ dd) (hr : f_8_power x0 x2 = some r) : MC γ dd yX8_power cX8_power 6 (some .long) [.long x0, .int x2] h (QL r h) := by
  unfold f_8_power at hr
  refine MC.of mi_8_power (Nat.le_of_ble_eq_true rfl) (fun ε hR => ?_)
  show VW γ ε cX8_power RX8 6 dd 0 [(0, .long x0), (2, .int x2)] [] h
  refine VW.lconst (v := 1) d8_power_0 (by decide) ?_
  refine VW.lstore_n (lo' := [(3, .long 1), (0, .long x0), (2, .int x2)]) d8_power_1 (by decide) rfl ?_
  refine VW.iconst (v := 0) d8_power_2 ic_0 ?_
  refine VW.istore (lo' := [(5, .int 0), (3, .long 1), (0, .long x0), (2, .int x2)]) d8_power_3 (by decide) rfl ?_
  exact VW.sub [2, 3, 1, 0] rfl (s_8_power_5 hd hR FU 1 0 hr)
set_option maxRecDepth 100000 in
set_option maxHeartbeats 4000000 in
theorem s_8_enough_28 {γ : Gm} {ε : En} {dd : Nat} (hd : 2 ≤ dd) {r : Int32} {hz : Hp} {x1 : Int32} {x2 : Int32} (hR : RT γ ε (some .int) (QI r hz)) : ∀ (n : Nat) (x3 : Int32) (h : Hp), f_8_enough_28 x1 x2 n x3 h = some (r, hz) → VW γ ε cX8_enough RX8 6 dd 28 [(0, .ref (γ.2.2.1 0)), (1, .int x1), (2, .int x2), (3, .int x3)] [] h := by
  intro n
  induction n with
  | zero =>
    intro x3 h hr
    exact nf hr
  | succ n ih =>
    intro x3 h hr
    rw [f_8_enough_28] at hr
    refine VW.iload_n d8_enough_28 3 rfl ?_
    refine VW.bipush (v := 6) d8_enough_29 bp_6 ?_
    refine VW.icmp_gt 76 d8_enough_31 (by decide) (fun c9 => ?_) (fun c9 => ?_)
    · replace hr := ip hr c9
      refine VW.aload_n d8_enough_76 0 rfl ?_
      refine VW.iconst (v := 2) d8_enough_77 ic_2 ?_
      obtain ⟨r11, h12, e10, hr⟩ := bno2 hr
      refine VW.callV (As := [.int 2]) (st := []) d8_enough_78 mi_8_error cv_8_61 (oo_8 o8_0) ⟨rfl, rfl⟩ (by decide) (dl1 hd) _ rfl (Nat.le_of_ble_eq_true rfl) rfl (c_8_error (dl hd rfl) e10) (kI ?_)
      exact VW.iret d8_enough_81 hR (rIw hr)
    · replace hr := im hr c9
      refine VW.ldc2 (v := 16) d8_enough_34 kc_8_237 ?_
      refine VW.iload_n d8_enough_37 3 rfl ?_
      obtain ⟨r14, e13, hr⟩ := bno hr
      refine VW.callS (As := [.long 16, .int x3]) (st := []) d8_enough_38 mi_8_power cs_8_239 (by decide) (dl1 hd) _ rfl (Nat.le_of_ble_eq_true rfl) rfl (c_8_power (dl hd rfl) e13) (kL ?_)
      refine VW.lstore (lo' := [(4, .long r14), (0, .ref (γ.2.2.1 0)), (1, .int x1), (2, .int x2), (3, .int x3)]) d8_enough_41 (by decide) rfl ?_
      refine VW.ldc2 (v := 16) d8_enough_43 kc_8_237 ?_
      refine VW.lload d8_enough_46 0 rfl ?_
      refine VW.bipush (v := 16) d8_enough_48 bp_16 ?_
      refine VW.iload_n d8_enough_50 2 rfl ?_
      refine VW.isub d8_enough_51 ?_
      refine VW.i2l d8_enough_52 ?_
      refine VW.iload_n d8_enough_53 4 rfl ?_
      obtain ⟨r16, e15, hr⟩ := bno hr
      refine VW.callS (As := [.long (Int32.toInt64 (16 - x1)), .int x3]) (st := [.long r14, .long 16]) d8_enough_54 mi_8_power cs_8_239 (by decide) (dl1 hd) _ rfl (Nat.le_of_ble_eq_true rfl) rfl (c_8_power (dl hd rfl) e15) (kL ?_)
      refine VW.lsub d8_enough_57 ?_
      refine VW.lmul d8_enough_58 ?_
      refine VW.iload_n d8_enough_59 3 rfl ?_
      refine VW.i2l d8_enough_60 ?_
      refine VW.lload d8_enough_61 0 rfl ?_
      refine VW.lmul d8_enough_63 ?_
      refine VW.lcmp d8_enough_64 ?_
      refine VW.if_lt 70 d8_enough_65 (by decide) (fun c17 => ?_) (fun c17 => ?_)
      · replace hr := ip hr c17
        refine VW.iinc (w := 1) (lo' := [(3, .int (x3 + 1)), (4, .long r14), (0, .ref (γ.2.2.1 0)), (1, .int x1), (2, .int x2)]) d8_enough_70 4 rfl ic_1 (by decide) rfl ?_
        refine VW.goto 28 d8_enough_73 (by decide) ?_
        exact VW.sub [2, 3, 4, 0] rfl (ih (x3 + 1) h hr)
      · replace hr := im hr c17
        refine VW.iload_n d8_enough_68 4 rfl ?_
        exact VW.iret d8_enough_69 hR (rIw hr)
set_option maxRecDepth 100000 in
set_option maxHeartbeats 4000000 in
theorem c_8_enough {γ : Gm} {dd : Nat} {x1 : Int32} {x2 : Int32} {h : Hp} {r : Int32} {hz : Hp} (hd : 2 ≤ dd) (hr : f_8_enough x1 x2 h = some (r, hz)) : MC γ dd yX8_enough cX8_enough 6 (some .int) [.ref (γ.2.2.1 0), .int x1, .int x2] h (QI r hz) := by
  unfold f_8_enough at hr
  refine MC.of mi_8_enough (Nat.le_of_ble_eq_true rfl) (fun ε hR => ?_)
  show VW γ ε cX8_enough RX8 6 dd 0 [(0, .ref (γ.2.2.1 0)), (1, .int x1), (2, .int x2)] [] h
  refine VW.iload_n d8_enough_0 1 rfl ?_
  refine VW.iconst (v := 1) d8_enough_1 ic_1 ?_
  refine VW.bipush (v := 16) d8_enough_2 bp_16 ?_
  refine VW.callS (As := [.int x1, .int 1, .int 16]) (st := []) d8_enough_4 mi_8_within cs_8_57 (by decide) (dl1 hd) _ rfl (Nat.le_of_ble_eq_true rfl) rfl (c_8_within (dl hd rfl) rfl) (kI ?_)
  refine VW.if_eq 20 d8_enough_7 (by decide) (fun c1 => ?_) (fun c1 => ?_)
  · replace hr := ip hr c1
    refine VW.aload_n d8_enough_20 0 rfl ?_
    refine VW.iconst (v := 1) d8_enough_21 ic_1 ?_
    obtain ⟨r3, h4, e2, hr⟩ := bno2 hr
    refine VW.callV (As := [.int 1]) (st := []) d8_enough_22 mi_8_error cv_8_61 (oo_8 o8_0) ⟨rfl, rfl⟩ (by decide) (dl1 hd) _ rfl (Nat.le_of_ble_eq_true rfl) rfl (c_8_error (dl hd rfl) e2) (kI ?_)
    exact VW.iret d8_enough_25 hR (rIw hr)
  · replace hr := im hr c1
    refine VW.iload_n d8_enough_10 2 rfl ?_
    refine VW.iconst (v := 1) d8_enough_11 ic_1 ?_
    refine VW.bipush (v := 15) d8_enough_12 bp_15 ?_
    refine VW.callS (As := [.int x2, .int 1, .int 15]) (st := []) d8_enough_14 mi_8_within cs_8_57 (by decide) (dl1 hd) _ rfl (Nat.le_of_ble_eq_true rfl) rfl (c_8_within (dl hd rfl) rfl) (kI ?_)
    refine VW.if_ne 26 d8_enough_17 (by decide) (fun c5 => ?_) (fun c5 => ?_)
    · replace hr := ip hr c5
      refine VW.aload_n d8_enough_20 0 rfl ?_
      refine VW.iconst (v := 1) d8_enough_21 ic_1 ?_
      obtain ⟨r7, h8, e6, hr⟩ := bno2 hr
      refine VW.callV (As := [.int 1]) (st := []) d8_enough_22 mi_8_error cv_8_61 (oo_8 o8_0) ⟨rfl, rfl⟩ (by decide) (dl1 hd) _ rfl (Nat.le_of_ble_eq_true rfl) rfl (c_8_error (dl hd rfl) e6) (kI ?_)
      exact VW.iret d8_enough_25 hR (rIw hr)
    · replace hr := im hr c5
      refine VW.iconst (v := 1) d8_enough_26 ic_1 ?_
      refine VW.istore_n (lo' := [(3, .int 1), (0, .ref (γ.2.2.1 0)), (1, .int x1), (2, .int x2)]) d8_enough_27 (by decide) rfl ?_
      exact VW.sub [1, 2, 3, 0] rfl (s_8_enough_28 hd hR FU 1 h hr)
set_option maxRecDepth 100000 in
set_option maxHeartbeats 4000000 in
theorem s_8_feed_39 {γ : Gm} {ε : En} {dd : Nat} (hd : 2 ≤ dd) {r : Int32} {hz : Hp} {x1 : Int64} {x3 : Int32} (hR : RT γ ε (some .int) (QI r hz)) : ∀ (n : Nat) (x4 : Int32) (h : Hp), f_8_feed_39 x1 x3 n x4 h = some (r, hz) → VW γ ε cX8_feed RX8 5 dd 39 [(0, .ref (γ.2.2.1 0)), (1, .long x1), (3, .int x3), (4, .int x4)] [] h := by
  intro n
  induction n with
  | zero =>
    intro x4 h hr
    exact nf hr
  | succ n ih =>
    intro x4 h hr
    rw [f_8_feed_39] at hr
    refine VW.iload d8_feed_39 3 rfl ?_
    refine VW.iload_n d8_feed_41 2 rfl ?_
    refine VW.icmp_ge 70 d8_feed_42 (by decide) (fun c6 => ?_) (fun c6 => ?_)
    · replace hr := ip hr c6
      refine VW.aload_n d8_feed_70 0 rfl ?_
      refine VW.getR (k := 0) (r := 1) d8_feed_71 (oo_8 o8_0) rfl fl_8_10 ck8 ?_
      refine VW.getI (k := 12) d8_feed_74 (oo_7 (rf_8_0 o8_0)) rfl fl_8_175 ck7 ?_
      exact VW.iret d8_feed_77 hR (rIw hr)
    · replace hr := im hr c6
      refine VW.aload_n d8_feed_45 0 rfl ?_
      refine VW.getR (k := 0) (r := 1) d8_feed_46 (oo_8 o8_0) rfl fl_8_10 ck8 ?_
      refine VW.lload_n d8_feed_49 1 rfl ?_
      refine VW.bipush (v := 8) d8_feed_50 bp_8 ?_
      refine VW.iload d8_feed_52 3 rfl ?_
      refine VW.imul d8_feed_54 ?_
      refine VW.lushr d8_feed_55 ?_
      refine VW.l2i d8_feed_56 ?_
      refine VW.sipush (v := 255) d8_feed_57 sp_255 ?_
      refine VW.iand d8_feed_60 ?_
      obtain ⟨h8, e7, hr⟩ := bno hr
      refine VW.callV (As := [.int ((Int64.toInt32 (((Int64.toUInt64 x1) >>> (Int64.toUInt64 (Int32.toInt64 (8 * x4)) &&& Int64.toUInt64 63)).toInt64)) &&& 255)]) (st := []) d8_feed_61 mi_7_addByte cv_8_178 (oo_7 (rf_8_0 o8_0)) ⟨rfl, rfl⟩ (by decide) (dl1 hd) _ rfl (Nat.le_of_ble_eq_true rfl) rfl (c_7_addByte (dl hd rfl) e7) (kV ?_)
      refine VW.iinc (w := 1) (lo' := [(4, .int (x4 + 1)), (0, .ref (γ.2.2.1 0)), (1, .long x1), (3, .int x3)]) d8_feed_64 3 rfl ic_1 (by decide) rfl ?_
      refine VW.goto 39 d8_feed_67 (by decide) ?_
      exact VW.sub [1, 2, 3, 0] rfl (ih (x4 + 1) h8 hr)
set_option maxRecDepth 100000 in
set_option maxHeartbeats 4000000 in
theorem c_8_feed {γ : Gm} {dd : Nat} {x1 : Int64} {x3 : Int32} {h : Hp} {r : Int32} {hz : Hp} (hd : 2 ≤ dd) (hr : f_8_feed x1 x3 h = some (r, hz)) : MC γ dd yX8_feed cX8_feed 5 (some .int) [.ref (γ.2.2.1 0), .long x1, .int x3] h (QI r hz) := by
  unfold f_8_feed at hr
  refine MC.of mi_8_feed (Nat.le_of_ble_eq_true rfl) (fun ε hR => ?_)
  show VW γ ε cX8_feed RX8 5 dd 0 [(0, .ref (γ.2.2.1 0)), (1, .long x1), (3, .int x3)] [] h
  refine VW.iload_n d8_feed_0 2 rfl ?_
  refine VW.iconst (v := 1) d8_feed_1 ic_1 ?_
  refine VW.bipush (v := 8) d8_feed_2 bp_8 ?_
  refine VW.callS (As := [.int x3, .int 1, .int 8]) (st := []) d8_feed_4 mi_8_within cs_8_57 (by decide) (dl1 hd) _ rfl (Nat.le_of_ble_eq_true rfl) rfl (c_8_within (dl hd rfl) rfl) (kI ?_)
  refine VW.if_ne 16 d8_feed_7 (by decide) (fun c1 => ?_) (fun c1 => ?_)
  · replace hr := ip hr c1
    refine VW.aload_n d8_feed_10 0 rfl ?_
    refine VW.iconst (v := 1) d8_feed_11 ic_1 ?_
    obtain ⟨r3, h4, e2, hr⟩ := bno2 hr
    refine VW.callV (As := [.int 1]) (st := []) d8_feed_12 mi_8_error cv_8_61 (oo_8 o8_0) ⟨rfl, rfl⟩ (by decide) (dl1 hd) _ rfl (Nat.le_of_ble_eq_true rfl) rfl (c_8_error (dl hd rfl) e2) (kI ?_)
    exact VW.iret d8_feed_15 hR (rIw hr)
  · replace hr := im hr c1
    refine VW.aload_n d8_feed_16 0 rfl ?_
    refine VW.getR (k := 0) (r := 1) d8_feed_17 (oo_8 o8_0) rfl fl_8_10 ck8 ?_
    refine VW.getI (k := 12) d8_feed_20 (oo_7 (rf_8_0 o8_0)) rfl fl_8_175 ck7 ?_
    refine VW.iload_n d8_feed_23 2 rfl ?_
    refine VW.iadd d8_feed_24 ?_
    refine VW.bipush (v := 50) d8_feed_25 bp_50 ?_
    refine VW.icmp_le 36 d8_feed_27 (by decide) (fun c5 => ?_) (fun c5 => ?_)
    · replace hr := ip hr c5
      refine VW.iconst (v := 0) d8_feed_36 ic_0 ?_
      refine VW.istore (lo' := [(4, .int 0), (0, .ref (γ.2.2.1 0)), (1, .long x1), (3, .int x3)]) d8_feed_37 (by decide) rfl ?_
      exact VW.sub [1, 2, 3, 0] rfl (s_8_feed_39 hd hR FU 0 h hr)
    · replace hr := im hr c5
      refine VW.aload_n d8_feed_30 0 rfl ?_
      refine VW.iconst (v := 4) d8_feed_31 ic_4 ?_
      obtain ⟨r10, h11, e9, hr⟩ := bno2 hr
      refine VW.callV (As := [.int 4]) (st := []) d8_feed_32 mi_8_error cv_8_61 (oo_8 o8_0) ⟨rfl, rfl⟩ (by decide) (dl1 hd) _ rfl (Nat.le_of_ble_eq_true rfl) rfl (c_8_error (dl hd rfl) e9) (kI ?_)
      exact VW.iret d8_feed_35 hR (rIw hr)
set_option maxRecDepth 100000 in
set_option maxHeartbeats 4000000 in
theorem s_8_forgotten_51 {γ : Gm} {ε : En} {dd : Nat} (hd : 5 ≤ dd) {r : Int32} {hz : Hp} {x2 : Int32} {x3 : Int32} (hR : RT γ ε (some .int) (QI r hz)) : ∀ (n : Nat) (x4 : Int32) (h : Hp), f_8_forgotten_51 x2 x3 n x4 h = some (r, hz) → VW γ ε cX8_forgotten RX8 5 dd 51 [(0, .ref (γ.2.2.1 0)), (2, .int x2), (3, .int x3), (4, .int x4)] [] h := by
  intro n
  induction n with
  | zero =>
    intro x4 h hr
    exact nf hr
  | succ n ih =>
    intro x4 h hr
    rw [f_8_forgotten_51] at hr
    refine VW.iload d8_forgotten_51 3 rfl ?_
    refine VW.sipush (v := 500) d8_forgotten_53 sp_500 ?_
    refine VW.icmp_gt 90 d8_forgotten_56 (by decide) (fun c12 => ?_) (fun c12 => ?_)
    · replace hr := ip hr c12
      refine VW.aload_n d8_forgotten_90 0 rfl ?_
      refine VW.iconst (v := 2) d8_forgotten_91 ic_2 ?_
      obtain ⟨r14, h15, e13, hr⟩ := bno2 hr
      refine VW.callV (As := [.int 2]) (st := []) d8_forgotten_92 mi_8_error cv_8_61 (oo_8 o8_0) ⟨rfl, rfl⟩ (by decide) (dl1 hd) _ rfl (Nat.le_of_ble_eq_true rfl) rfl (c_8_error (dl hd rfl) e13) (kI ?_)
      exact VW.iret d8_forgotten_95 hR (rIw hr)
    · replace hr := im hr c12
      refine VW.aload_n d8_forgotten_59 0 rfl ?_
      refine VW.getR (k := 0) (r := 1) d8_forgotten_60 (oo_8 o8_0) rfl fl_8_10 ck8 ?_
      refine VW.iload_n d8_forgotten_63 1 rfl ?_
      refine VW.iload_n d8_forgotten_64 2 rfl ?_
      refine VW.aload_n d8_forgotten_65 0 rfl ?_
      refine VW.getR (k := 0) (r := 1) d8_forgotten_66 (oo_8 o8_0) rfl fl_8_10 ck8 ?_
      refine VW.getI (k := 14) d8_forgotten_69 (oo_7 (rf_8_0 o8_0)) rfl fl_8_146 ck7 ?_
      refine VW.iload d8_forgotten_72 3 rfl ?_
      refine VW.iadd d8_forgotten_74 ?_
      obtain ⟨r17, h18, e16, hr⟩ := bno2 hr
      refine VW.callV (As := [.int x2, .int x3, .int ((h 1 14) + x4)]) (st := []) d8_forgotten_75 mi_7_noticeBy cv_8_149 (oo_7 (rf_8_0 o8_0)) ⟨rfl, rfl⟩ (by decide) (dl1 hd) _ rfl (Nat.le_of_ble_eq_true rfl) rfl (c_7_noticeBy (dl hd rfl) e16) (kI ?_)
      refine VW.if_ne 84 d8_forgotten_78 (by decide) (fun c19 => ?_) (fun c19 => ?_)
      · replace hr := ip hr c19
        refine VW.iload d8_forgotten_81 3 rfl ?_
        exact VW.iret d8_forgotten_83 hR (rIw hr)
      · replace hr := im hr c19
        refine VW.iinc (w := 1) (lo' := [(4, .int (x4 + 1)), (0, .ref (γ.2.2.1 0)), (2, .int x2), (3, .int x3)]) d8_forgotten_84 3 rfl ic_1 (by decide) rfl ?_
        refine VW.goto 51 d8_forgotten_87 (by decide) ?_
        exact VW.sub [1, 2, 3, 0] rfl (ih (x4 + 1) h18 hr)
set_option maxRecDepth 100000 in
set_option maxHeartbeats 4000000 in
theorem c_8_forgotten {γ : Gm} {dd : Nat} {x1 : Int32} {h : Hp} {r : Int32} {hz : Hp} (hd : 5 ≤ dd) (hr : f_8_forgotten x1 h = some (r, hz)) : MC γ dd yX8_forgotten cX8_forgotten 5 (some .int) [.ref (γ.2.2.1 0), .int x1] h (QI r hz) := by
  unfold f_8_forgotten at hr
  refine MC.of mi_8_forgotten (Nat.le_of_ble_eq_true rfl) (fun ε hR => ?_)
  show VW γ ε cX8_forgotten RX8 5 dd 0 [(0, .ref (γ.2.2.1 0)), (1, .int x1)] [] h
  refine VW.aload_n d8_forgotten_0 0 rfl ?_
  refine VW.iload_n d8_forgotten_1 1 rfl ?_
  refine VW.callV (As := [.int x1]) (st := []) d8_forgotten_2 mi_8_isLine cv_8_119 (oo_8 o8_0) ⟨rfl, rfl⟩ (by decide) (dl1 hd) _ rfl (Nat.le_of_ble_eq_true rfl) rfl (c_8_isLine (dl hd rfl) rfl) (kI ?_)
  refine VW.if_ne 14 d8_forgotten_5 (by decide) (fun c1 => ?_) (fun c1 => ?_)
  · replace hr := ip hr c1
    refine VW.aload_n d8_forgotten_8 0 rfl ?_
    refine VW.iconst (v := 1) d8_forgotten_9 ic_1 ?_
    obtain ⟨r3, h4, e2, hr⟩ := bno2 hr
    refine VW.callV (As := [.int 1]) (st := []) d8_forgotten_10 mi_8_error cv_8_61 (oo_8 o8_0) ⟨rfl, rfl⟩ (by decide) (dl1 hd) _ rfl (Nat.le_of_ble_eq_true rfl) rfl (c_8_error (dl hd rfl) e2) (kI ?_)
    exact VW.iret d8_forgotten_13 hR (rIw hr)
  · replace hr := im hr c1
    refine VW.aload_n d8_forgotten_14 0 rfl ?_
    refine VW.getR (k := 0) (r := 1) d8_forgotten_15 (oo_8 o8_0) rfl fl_8_10 ck8 ?_
    refine VW.aload_n d8_forgotten_18 0 rfl ?_
    refine VW.getR (k := 0) (r := 1) d8_forgotten_19 (oo_8 o8_0) rfl fl_8_10 ck8 ?_
    refine VW.getR (k := 2) (r := 4) d8_forgotten_22 (oo_7 (rf_8_0 o8_0)) rfl fl_8_109 ck7 ?_
    refine VW.iload_n d8_forgotten_25 1 rfl ?_
    obtain ⟨g5, hr⟩ := gdt hr
    refine VW.aald (z := 36 + 2 * (ci x1)) d8_forgotten_26 (rf_7_2 (rf_8_0 o8_0)) (by decide) (by decide) g5 rfl ?_
    obtain ⟨r7, h8, e6, hr⟩ := bno2 hr
    refine VW.callV (As := [.ref (γ.2.2.1 (36 + 2 * (ci x1)))]) (st := []) d8_forgotten_27 mi_7_off cv_8_139 (oo_7 (rf_8_0 o8_0)) ⟨rfl, rfl⟩ (by decide) (dl1 hd) _ rfl (Nat.le_of_ble_eq_true rfl) rfl (c_7_off (re_7_2 (rf_8_0 o8_0) (inb_lt g5)) (dl hd rfl) e6) (kI ?_)
    refine VW.istore_n (lo' := [(2, .int r7), (0, .ref (γ.2.2.1 0)), (1, .int x1)]) d8_forgotten_30 (by decide) rfl ?_
    refine VW.aload_n d8_forgotten_31 1 rfl ?_
    refine VW.getR (k := 0) (r := 1) d8_forgotten_32 (oo_8 o8_0) rfl fl_8_10 ck8 ?_
    refine VW.aload_n d8_forgotten_35 1 rfl ?_
    refine VW.getR (k := 0) (r := 1) d8_forgotten_36 (oo_8 o8_0) rfl fl_8_10 ck8 ?_
    refine VW.getR (k := 2) (r := 4) d8_forgotten_39 (oo_7 (rf_8_0 o8_0)) rfl fl_8_109 ck7 ?_
    refine VW.iload_n d8_forgotten_42 2 rfl ?_
    obtain ⟨g9, hr⟩ := gdt hr
    refine VW.aald (z := 36 + 2 * (ci x1)) d8_forgotten_43 (rf_7_2 (rf_8_0 o8_0)) (by decide) (by decide) g9 rfl ?_
    obtain ⟨r11, e10, hr⟩ := bno hr
    refine VW.callV (As := [.ref (γ.2.2.1 (36 + 2 * (ci x1)))]) (st := []) d8_forgotten_44 mi_7_loss cv_8_143 (oo_7 (rf_8_0 o8_0)) ⟨rfl, rfl⟩ (by decide) (dl1 hd) _ rfl (Nat.le_of_ble_eq_true rfl) rfl (c_7_loss (re_7_2 (rf_8_0 o8_0) (inb_lt g9)) (dl hd rfl) e10) (kI ?_)
    refine VW.istore_n (lo' := [(3, .int r11), (2, .int r7), (0, .ref (γ.2.2.1 0)), (1, .int x1)]) d8_forgotten_47 (by decide) rfl ?_
    refine VW.iconst (v := 0) d8_forgotten_48 ic_0 ?_
    refine VW.istore (lo' := [(4, .int 0), (3, .int r11), (2, .int r7), (0, .ref (γ.2.2.1 0)), (1, .int x1)]) d8_forgotten_49 (by decide) rfl ?_
    exact VW.sub [3, 2, 1, 0] rfl (s_8_forgotten_51 hd hR FU 0 h8 hr)
set_option maxRecDepth 100000 in
set_option maxHeartbeats 4000000 in
theorem c_8_heard {γ : Gm} {dd : Nat} {x1 : Int32} {x2 : Int32} {h : Hp} {r : Int32} {hz : Hp} (hd : 6 ≤ dd) (hr : f_8_heard x1 x2 h = some (r, hz)) : MC γ dd yX8_heard cX8_heard 3 (some .int) [.ref (γ.2.2.1 0), .int x1, .int x2] h (QI r hz) := by
  unfold f_8_heard at hr
  refine MC.of mi_8_heard (Nat.le_of_ble_eq_true rfl) (fun ε hR => ?_)
  show VW γ ε cX8_heard RX8 3 dd 0 [(0, .ref (γ.2.2.1 0)), (1, .int x1), (2, .int x2)] [] h
  refine VW.aload_n d8_heard_0 0 rfl ?_
  refine VW.iload_n d8_heard_1 1 rfl ?_
  refine VW.callV (As := [.int x1]) (st := []) d8_heard_2 mi_8_isLine cv_8_119 (oo_8 o8_0) ⟨rfl, rfl⟩ (by decide) (dl1 hd) _ rfl (Nat.le_of_ble_eq_true rfl) rfl (c_8_isLine (dl hd rfl) rfl) (kI ?_)
  refine VW.if_eq 18 d8_heard_5 (by decide) (fun c1 => ?_) (fun c1 => ?_)
  · replace hr := ip hr c1
    refine VW.aload_n d8_heard_18 0 rfl ?_
    refine VW.iconst (v := 1) d8_heard_19 ic_1 ?_
    obtain ⟨r3, h4, e2, hr⟩ := bno2 hr
    refine VW.callV (As := [.int 1]) (st := []) d8_heard_20 mi_8_error cv_8_61 (oo_8 o8_0) ⟨rfl, rfl⟩ (by decide) (dl1 hd) _ rfl (Nat.le_of_ble_eq_true rfl) rfl (c_8_error (dl hd rfl) e2) (kI ?_)
    exact VW.iret d8_heard_23 hR (rIw hr)
  · replace hr := im hr c1
    refine VW.iload_n d8_heard_8 2 rfl ?_
    refine VW.bipush (v := (-2)) d8_heard_9 bp_m2 ?_
    refine VW.iconst (v := 2) d8_heard_11 ic_2 ?_
    refine VW.callS (As := [.int x2, .int (-2), .int 2]) (st := []) d8_heard_12 mi_8_within cs_8_57 (by decide) (dl1 hd) _ rfl (Nat.le_of_ble_eq_true rfl) rfl (c_8_within (dl hd rfl) rfl) (kI ?_)
    refine VW.if_ne 24 d8_heard_15 (by decide) (fun c5 => ?_) (fun c5 => ?_)
    · replace hr := ip hr c5
      refine VW.aload_n d8_heard_18 0 rfl ?_
      refine VW.iconst (v := 1) d8_heard_19 ic_1 ?_
      obtain ⟨r7, h8, e6, hr⟩ := bno2 hr
      refine VW.callV (As := [.int 1]) (st := []) d8_heard_20 mi_8_error cv_8_61 (oo_8 o8_0) ⟨rfl, rfl⟩ (by decide) (dl1 hd) _ rfl (Nat.le_of_ble_eq_true rfl) rfl (c_8_error (dl hd rfl) e6) (kI ?_)
      exact VW.iret d8_heard_23 hR (rIw hr)
    · replace hr := im hr c5
      refine VW.aload_n d8_heard_24 0 rfl ?_
      refine VW.getR (k := 2) (r := 95) d8_heard_25 (oo_8 o8_0) rfl fl_8_24 ck8 ?_
      refine VW.aload_n d8_heard_28 0 rfl ?_
      refine VW.getR (k := 0) (r := 1) d8_heard_29 (oo_8 o8_0) rfl fl_8_10 ck8 ?_
      refine VW.getR (k := 2) (r := 4) d8_heard_32 (oo_7 (rf_8_0 o8_0)) rfl fl_8_109 ck7 ?_
      refine VW.iload_n d8_heard_35 1 rfl ?_
      obtain ⟨g9, hr⟩ := gdt hr
      refine VW.aald (z := 36 + 2 * (ci x1)) d8_heard_36 (rf_7_2 (rf_8_0 o8_0)) (by decide) (by decide) g9 rfl ?_
      refine VW.iconst (v := 2) d8_heard_37 ic_2 ?_
      refine VW.iconst (v := 0) d8_heard_38 ic_0 ?_
      obtain ⟨h11, e10, hr⟩ := bno hr
      refine VW.callV (As := [.ref (γ.2.2.1 (36 + 2 * (ci x1))), .int 2, .int 0]) (st := []) d8_heard_39 mi_2_find cv_8_214 (oo_2 (rf_8_2 o8_0)) ⟨rfl, rfl⟩ (by decide) (dl1 hd) _ rfl (Nat.le_of_ble_eq_true rfl) rfl (c_2_find (re_7_2 (rf_8_0 o8_0) (inb_lt g9)) (dl hd rfl) e10) (kV ?_)
      refine VW.iload_n d8_heard_42 2 rfl ?_
      refine VW.bipush (v := (-2)) d8_heard_43 bp_m2 ?_
      refine VW.icmp_ne 58 d8_heard_45 (by decide) (fun c12 => ?_) (fun c12 => ?_)
      · replace hr := ip hr c12
        refine VW.aload_n d8_heard_48 0 rfl ?_
        refine VW.getR (k := 2) (r := 95) d8_heard_49 (oo_8 o8_0) rfl fl_8_24 ck8 ?_
        refine VW.getI (k := 7) d8_heard_52 (oo_2 (rf_8_2 o8_0)) rfl fl_8_221 ck2 ?_
        refine VW.goto 63 d8_heard_55 (by decide) ?_
        exact VW.iret d8_heard_63 hR (rIw hr)
      · replace hr := im hr c12
        refine VW.aload_n d8_heard_58 0 rfl ?_
        refine VW.iload_n d8_heard_59 2 rfl ?_
        obtain ⟨r14, h15, e13, hr⟩ := bno2 hr
        refine VW.callV (As := [.int x2]) (st := []) d8_heard_60 mi_8_ofFound cv_8_218 (oo_8 o8_0) ⟨rfl, rfl⟩ (by decide) (dl1 hd) _ rfl (Nat.le_of_ble_eq_true rfl) rfl (c_8_ofFound (dl hd rfl) e13) (kI ?_)
        exact VW.iret d8_heard_63 hR (rIw hr)
set_option maxRecDepth 100000 in
set_option maxHeartbeats 4000000 in
theorem c_8_image {γ : Gm} {dd : Nat} {h : Hp} {r : Int32} {hz : Hp} (hd : 3 ≤ dd) (hr : f_8_image h = some (r, hz)) : MC γ dd yX8_image cX8_image 1 (some .int) [.ref (γ.2.2.1 0)] h (QI r hz) := by
  unfold f_8_image at hr
  refine MC.of mi_8_image (Nat.le_of_ble_eq_true rfl) (fun ε hR => ?_)
  show VW γ ε cX8_image RX8 1 dd 0 [(0, .ref (γ.2.2.1 0))] [] h
  refine VW.aload_n d8_image_0 0 rfl ?_
  refine VW.getR (k := 1) (r := 48) d8_image_1 (oo_8 o8_0) rfl fl_8_16 ck8 ?_
  refine VW.aload_n d8_image_4 0 rfl ?_
  refine VW.getR (k := 0) (r := 1) d8_image_5 (oo_8 o8_0) rfl fl_8_10 ck8 ?_
  obtain ⟨h2, e1, hr⟩ := bno hr
  refine VW.callV (As := [.ref (γ.2.2.1 1)]) (st := []) d8_image_8 mi_7_copy cv_8_285 (oo_7 (rf_8_1 o8_0)) ⟨rfl, rfl⟩ (by decide) (dl1 hd) _ rfl (Nat.le_of_ble_eq_true rfl) rfl (c_7_copy (rf_8_1 o8_0) (rf_8_0 o8_0) (dl hd rfl) e1) (kV ?_)
  refine VW.aload_n d8_image_11 0 rfl ?_
  refine VW.dup d8_image_12 rfl ?_
  refine VW.getI (k := 7) d8_image_13 (oo_8 o8_0) rfl fl_8_53 ck8 ?_
  refine VW.iconst (v := 1) d8_image_16 ic_1 ?_
  refine VW.iadd d8_image_17 ?_
  obtain ⟨h3, e4, hr⟩ := hlt hr
  refine VW.putI (k := 7) d8_image_18 (oo_8 o8_0) rfl fl_8_53 ck8 rfl rfl rfl rfl ?_
  refine VW.heq e4 ?_
  refine VW.aload_n d8_image_21 0 rfl ?_
  refine VW.getI (k := 7) d8_image_22 (oo_8 o8_0) rfl fl_8_53 ck8 ?_
  exact VW.iret d8_image_25 hR (rIw hr)
theorem nz_8_isSheet (x0 : Int32) : narrow .boolean (.int (f_8_isSheet x0)) = .int (f_8_isSheet x0) := by
  unfold f_8_isSheet
  (repeat' split) <;> first | rfl | exact nz_8_within _ _ _
set_option maxRecDepth 100000 in
set_option maxHeartbeats 4000000 in
theorem c_8_isSheet {γ : Gm} {dd : Nat} {x0 : Int32} {h : Hp} {r : Int32} (hd : 1 ≤ dd) (hr : f_8_isSheet x0 = r) : MC γ dd yX8_isSheet cX8_isSheet 1 (some .boolean) [.int x0] h (QI r h) := by
  unfold f_8_isSheet at hr
  refine MC.of mi_8_isSheet (Nat.le_of_ble_eq_true rfl) (fun ε hR => ?_)
  show VW γ ε cX8_isSheet RX8 1 dd 0 [(0, .int x0)] [] h
  refine VW.iload_n d8_isSheet_0 0 rfl ?_
  refine VW.iconst (v := 0) d8_isSheet_1 ic_0 ?_
  refine VW.iconst (v := 3) d8_isSheet_2 ic_3 ?_
  refine VW.callS (As := [.int x0, .int 0, .int 3]) (st := []) d8_isSheet_3 mi_8_within cs_8_57 (by decide) (dl1 hd) _ rfl (Nat.le_of_ble_eq_true rfl) rfl (c_8_within (dl hd rfl) rfl) (kI ?_)
  exact VW.zret d8_isSheet_6 hR (nz_8_within x0 0 3) (rIt hr)
set_option maxRecDepth 100000 in
set_option maxHeartbeats 4000000 in
theorem s_8_judge_56 {γ : Gm} {ε : En} {dd : Nat} (hd : 5 ≤ dd) {r : Int32} {hz : Hp} {x1 : Int32} {x2 : Int32} {x3 : Int32} (hR : RT γ ε (some .int) (QI r hz)) : ∀ (n : Nat) (x4 : Int32) (h : Hp), f_8_judge_56 x1 x2 x3 n x4 h = some (r, hz) → VW γ ε cX8_judge RX8 5 dd 56 [(0, .ref (γ.2.2.1 0)), (1, .int x1), (2, .int x2), (3, .int x3), (4, .int x4)] [] h := by
  intro n
  induction n with
  | zero =>
    intro x4 h hr
    exact nf hr
  | succ n ih =>
    intro x4 h hr
    rw [f_8_judge_56] at hr
    refine VW.iload d8_judge_56 4 rfl ?_
    refine VW.iload_n d8_judge_58 3 rfl ?_
    refine VW.icmp_ge 101 d8_judge_59 (by decide) (fun c11 => ?_) (fun c11 => ?_)
    · replace hr := ip hr c11
      refine VW.iload_n d8_judge_101 2 rfl ?_
      refine VW.aload_n d8_judge_102 0 rfl ?_
      refine VW.getR (k := 0) (r := 1) d8_judge_103 (oo_8 o8_0) rfl fl_8_10 ck8 ?_
      refine VW.getI (k := 11) d8_judge_106 (oo_7 (rf_8_0 o8_0)) rfl fl_8_106 ck7 ?_
      refine VW.icmp_ne 116 d8_judge_109 (by decide) (fun c12 => ?_) (fun c12 => ?_)
      · replace hr := ip hr c12
        refine VW.iconst (v := (-1)) d8_judge_112 ic_m1 ?_
        refine VW.goto 117 d8_judge_113 (by decide) ?_
        exact VW.iret d8_judge_117 hR (rIw hr)
      · replace hr := im hr c12
        refine VW.iload_n d8_judge_116 3 rfl ?_
        exact VW.iret d8_judge_117 hR (rIw hr)
    · replace hr := im hr c11
      refine VW.aload_n d8_judge_62 0 rfl ?_
      refine VW.getR (k := 5) (r := 105) d8_judge_63 (oo_8 o8_0) rfl fl_8_45 ck8 ?_
      refine VW.iload_n d8_judge_66 1 rfl ?_
      refine VW.iload d8_judge_67 4 rfl ?_
      obtain ⟨r14, e13, hr⟩ := bno hr
      refine VW.callV (As := [.int x1, .int x4]) (st := []) d8_judge_69 mi_3_at cv_8_282 (oo_3 (rf_8_5 o8_0)) ⟨rfl, rfl⟩ (by decide) (dl1 hd) _ rfl (Nat.le_of_ble_eq_true rfl) rfl (c_3_at (dl hd rfl) e13) (kI ?_)
      refine VW.aload_n d8_judge_72 0 rfl ?_
      refine VW.getR (k := 0) (r := 1) d8_judge_73 (oo_8 o8_0) rfl fl_8_10 ck8 ?_
      refine VW.aload_n d8_judge_76 0 rfl ?_
      refine VW.getR (k := 0) (r := 1) d8_judge_77 (oo_8 o8_0) rfl fl_8_10 ck8 ?_
      refine VW.getR (k := 2) (r := 4) d8_judge_80 (oo_7 (rf_8_0 o8_0)) rfl fl_8_109 ck7 ?_
      refine VW.iload d8_judge_83 4 rfl ?_
      obtain ⟨g15, hr⟩ := gdt hr
      refine VW.aald (z := 36 + 2 * (ci x4)) d8_judge_85 (rf_7_2 (rf_8_0 o8_0)) (by decide) (by decide) g15 rfl ?_
      obtain ⟨r17, h18, e16, hr⟩ := bno2 hr
      refine VW.callV (As := [.ref (γ.2.2.1 (36 + 2 * (ci x4)))]) (st := [.int r14]) d8_judge_86 mi_7_off cv_8_139 (oo_7 (rf_8_0 o8_0)) ⟨rfl, rfl⟩ (by decide) (dl1 hd) _ rfl (Nat.le_of_ble_eq_true rfl) rfl (c_7_off (re_7_2 (rf_8_0 o8_0) (inb_lt g15)) (dl hd rfl) e16) (kI ?_)
      refine VW.icmp_eq 95 d8_judge_89 (by decide) (fun c19 => ?_) (fun c19 => ?_)
      · replace hr := ip hr c19
        refine VW.iinc (w := 1) (lo' := [(4, .int (x4 + 1)), (0, .ref (γ.2.2.1 0)), (1, .int x1), (2, .int x2), (3, .int x3)]) d8_judge_95 4 rfl ic_1 (by decide) rfl ?_
        refine VW.goto 56 d8_judge_98 (by decide) ?_
        exact VW.sub [1, 2, 3, 4, 0] rfl (ih (x4 + 1) h18 hr)
      · replace hr := im hr c19
        refine VW.iload d8_judge_92 4 rfl ?_
        exact VW.iret d8_judge_94 hR (rIw hr)
set_option maxRecDepth 100000 in
set_option maxHeartbeats 4000000 in
theorem c_8_judge {γ : Gm} {dd : Nat} {x1 : Int32} {h : Hp} {r : Int32} {hz : Hp} (hd : 5 ≤ dd) (hr : f_8_judge x1 h = some (r, hz)) : MC γ dd yX8_judge cX8_judge 5 (some .int) [.ref (γ.2.2.1 0), .int x1] h (QI r hz) := by
  unfold f_8_judge at hr
  refine MC.of mi_8_judge (Nat.le_of_ble_eq_true rfl) (fun ε hR => ?_)
  show VW γ ε cX8_judge RX8 5 dd 0 [(0, .ref (γ.2.2.1 0)), (1, .int x1)] [] h
  refine VW.iload_n d8_judge_0 1 rfl ?_
  refine VW.callS (As := [.int x1]) (st := []) d8_judge_1 mi_8_isSheet cs_8_256 (by decide) (dl1 hd) _ rfl (Nat.le_of_ble_eq_true rfl) rfl (c_8_isSheet (dl hd rfl) rfl) (kI ?_)
  refine VW.if_ne 13 d8_judge_4 (by decide) (fun c1 => ?_) (fun c1 => ?_)
  · replace hr := ip hr c1
    refine VW.aload_n d8_judge_7 0 rfl ?_
    refine VW.iconst (v := 1) d8_judge_8 ic_1 ?_
    obtain ⟨r3, h4, e2, hr⟩ := bno2 hr
    refine VW.callV (As := [.int 1]) (st := []) d8_judge_9 mi_8_error cv_8_61 (oo_8 o8_0) ⟨rfl, rfl⟩ (by decide) (dl1 hd) _ rfl (Nat.le_of_ble_eq_true rfl) rfl (c_8_error (dl hd rfl) e2) (kI ?_)
    exact VW.iret d8_judge_12 hR (rIw hr)
  · replace hr := im hr c1
    refine VW.aload_n d8_judge_13 0 rfl ?_
    refine VW.getR (k := 5) (r := 105) d8_judge_14 (oo_8 o8_0) rfl fl_8_45 ck8 ?_
    refine VW.getR (k := 0) (r := 106) d8_judge_17 (oo_3 (rf_8_5 o8_0)) rfl fl_8_260 ck3 ?_
    refine VW.iload_n d8_judge_20 1 rfl ?_
    obtain ⟨g5, hr⟩ := gdt hr
    refine VW.iald (j := (ci x1)) d8_judge_21 (rf_3_0 (rf_8_5 o8_0)) g5 rfl ?_
    refine VW.if_ne 31 d8_judge_22 (by decide) (fun c6 => ?_) (fun c6 => ?_)
    · replace hr := ip hr c6
      refine VW.aload_n d8_judge_25 0 rfl ?_
      refine VW.iconst (v := 2) d8_judge_26 ic_2 ?_
      obtain ⟨r8, h9, e7, hr⟩ := bno2 hr
      refine VW.callV (As := [.int 2]) (st := []) d8_judge_27 mi_8_error cv_8_61 (oo_8 o8_0) ⟨rfl, rfl⟩ (by decide) (dl1 hd) _ rfl (Nat.le_of_ble_eq_true rfl) rfl (c_8_error (dl hd rfl) e7) (kI ?_)
      exact VW.iret d8_judge_30 hR (rIw hr)
    · replace hr := im hr c6
      refine VW.aload_n d8_judge_31 0 rfl ?_
      refine VW.getR (k := 5) (r := 105) d8_judge_32 (oo_8 o8_0) rfl fl_8_45 ck8 ?_
      refine VW.getR (k := 1) (r := 107) d8_judge_35 (oo_3 (rf_8_5 o8_0)) rfl fl_8_263 ck3 ?_
      refine VW.iload_n d8_judge_38 1 rfl ?_
      obtain ⟨g10, hr⟩ := gdt hr
      refine VW.iald (j := (ci x1)) d8_judge_39 (rf_3_1 (rf_8_5 o8_0)) g10 rfl ?_
      refine VW.istore_n (lo' := [(2, .int (h 107 (ci x1))), (0, .ref (γ.2.2.1 0)), (1, .int x1)]) d8_judge_40 (by decide) rfl ?_
      refine VW.iload_n d8_judge_41 0 rfl ?_
      refine VW.aload_n d8_judge_42 1 rfl ?_
      refine VW.getR (k := 0) (r := 1) d8_judge_43 (oo_8 o8_0) rfl fl_8_10 ck8 ?_
      refine VW.getI (k := 11) d8_judge_46 (oo_7 (rf_8_0 o8_0)) rfl fl_8_106 ck7 ?_
      refine VW.mmin d8_judge_49 jl_8_100 (dl1 hd) (Nat.le_of_ble_eq_true rfl) ?_
      refine VW.istore_n (lo' := [(3, .int (imin (h 107 (ci x1)) (h 1 11))), (2, .int (h 107 (ci x1))), (0, .ref (γ.2.2.1 0)), (1, .int x1)]) d8_judge_52 (by decide) rfl ?_
      refine VW.iconst (v := 0) d8_judge_53 ic_0 ?_
      refine VW.istore (lo' := [(4, .int 0), (3, .int (imin (h 107 (ci x1)) (h 1 11))), (2, .int (h 107 (ci x1))), (0, .ref (γ.2.2.1 0)), (1, .int x1)]) d8_judge_54 (by decide) rfl ?_
      exact VW.sub [3, 4, 2, 1, 0] rfl (s_8_judge_56 hd hR FU 0 h hr)
set_option maxRecDepth 100000 in
set_option maxHeartbeats 4000000 in
theorem c_8_law {γ : Gm} {dd : Nat} {x1 : Int32} {x2 : Int32} {x3 : Int32} {x4 : Int32} {h : Hp} {r : Int32} {hz : Hp} (hd : 3 ≤ dd) (hr : f_8_law x1 x2 x3 x4 h = some (r, hz)) : MC γ dd yX8_law cX8_law 5 (some .int) [.ref (γ.2.2.1 0), .int x1, .int x2, .int x3, .int x4] h (QI r hz) := by
  unfold f_8_law at hr
  refine MC.of mi_8_law (Nat.le_of_ble_eq_true rfl) (fun ε hR => ?_)
  show VW γ ε cX8_law RX8 5 dd 0 [(0, .ref (γ.2.2.1 0)), (1, .int x1), (2, .int x2), (3, .int x3), (4, .int x4)] [] h
  refine VW.iload_n d8_law_0 1 rfl ?_
  refine VW.iconst (v := 0) d8_law_1 ic_0 ?_
  refine VW.iconst (v := 1) d8_law_2 ic_1 ?_
  refine VW.callS (As := [.int x1, .int 0, .int 1]) (st := []) d8_law_3 mi_8_within cs_8_57 (by decide) (dl1 hd) _ rfl (Nat.le_of_ble_eq_true rfl) rfl (c_8_within (dl hd rfl) rfl) (kI ?_)
  refine VW.if_ne 15 d8_law_6 (by decide) (fun c1 => ?_) (fun c1 => ?_)
  · replace hr := ip hr c1
    refine VW.aload_n d8_law_9 0 rfl ?_
    refine VW.iconst (v := 1) d8_law_10 ic_1 ?_
    obtain ⟨r3, h4, e2, hr⟩ := bno2 hr
    refine VW.callV (As := [.int 1]) (st := []) d8_law_11 mi_8_error cv_8_61 (oo_8 o8_0) ⟨rfl, rfl⟩ (by decide) (dl1 hd) _ rfl (Nat.le_of_ble_eq_true rfl) rfl (c_8_error (dl hd rfl) e2) (kI ?_)
    exact VW.iret d8_law_14 hR (rIw hr)
  · replace hr := im hr c1
    refine VW.iload_n d8_law_15 1 rfl ?_
    refine VW.if_ne 33 d8_law_16 (by decide) (fun c5 => ?_) (fun c5 => ?_)
    · replace hr := ip hr c5
      refine VW.aload_n d8_law_19 0 rfl ?_
      refine VW.getR (k := 0) (r := 1) d8_law_20 (oo_8 o8_0) rfl fl_8_10 ck8 ?_
      refine VW.iload_n d8_law_23 2 rfl ?_
      refine VW.iload_n d8_law_24 3 rfl ?_
      refine VW.iload d8_law_25 4 rfl ?_
      obtain ⟨r7, h8, e6, hr⟩ := bno2 hr
      refine VW.callV (As := [.int x2, .int x3, .int x4]) (st := []) d8_law_27 mi_7_apartBy cv_8_202 (oo_7 (rf_8_0 o8_0)) ⟨rfl, rfl⟩ (by decide) (dl1 hd) _ rfl (Nat.le_of_ble_eq_true rfl) rfl (c_7_apartBy (dl hd rfl) e6) (kI ?_)
      refine VW.goto 44 d8_law_30 (by decide) ?_
      exact VW.iret d8_law_44 hR (rIw hr)
    · replace hr := im hr c5
      refine VW.aload_n d8_law_33 0 rfl ?_
      refine VW.getR (k := 0) (r := 1) d8_law_34 (oo_8 o8_0) rfl fl_8_10 ck8 ?_
      refine VW.iload_n d8_law_37 2 rfl ?_
      refine VW.iload_n d8_law_38 3 rfl ?_
      refine VW.iload d8_law_39 4 rfl ?_
      obtain ⟨r10, h11, e9, hr⟩ := bno2 hr
      refine VW.callV (As := [.int x2, .int x3, .int x4]) (st := []) d8_law_41 mi_7_noticeBy cv_8_149 (oo_7 (rf_8_0 o8_0)) ⟨rfl, rfl⟩ (by decide) (dl1 hd) _ rfl (Nat.le_of_ble_eq_true rfl) rfl (c_7_noticeBy (dl hd rfl) e9) (kI ?_)
      exact VW.iret d8_law_44 hR (rIw hr)
set_option maxRecDepth 100000 in
set_option maxHeartbeats 4000000 in
theorem c_8_like {γ : Gm} {dd : Nat} {x1 : Int32} {x2 : Int32} {x3 : Int32} {h : Hp} {r : Int32} {hz : Hp} (hd : 2 ≤ dd) (hr : f_8_like x1 x2 x3 h = some (r, hz)) : MC γ dd yX8_like cX8_like 5 (some .int) [.ref (γ.2.2.1 0), .int x1, .int x2, .int x3] h (QI r hz) := by
  unfold f_8_like at hr
  refine MC.of mi_8_like (Nat.le_of_ble_eq_true rfl) (fun ε hR => ?_)
  show VW γ ε cX8_like RX8 5 dd 0 [(0, .ref (γ.2.2.1 0)), (1, .int x1), (2, .int x2), (3, .int x3)] [] h
  refine VW.iload_n d8_like_0 1 rfl ?_
  refine VW.iconst (v := 0) d8_like_1 ic_0 ?_
  refine VW.iconst (v := 3) d8_like_2 ic_3 ?_
  refine VW.callS (As := [.int x1, .int 0, .int 3]) (st := []) d8_like_3 mi_8_within cs_8_57 (by decide) (dl1 hd) _ rfl (Nat.le_of_ble_eq_true rfl) rfl (c_8_within (dl hd rfl) rfl) (kI ?_)
  refine VW.if_eq 28 d8_like_6 (by decide) (fun c1 => ?_) (fun c1 => ?_)
  · replace hr := ip hr c1
    refine VW.aload_n d8_like_28 0 rfl ?_
    refine VW.iconst (v := 1) d8_like_29 ic_1 ?_
    obtain ⟨r3, h4, e2, hr⟩ := bno2 hr
    refine VW.callV (As := [.int 1]) (st := []) d8_like_30 mi_8_error cv_8_61 (oo_8 o8_0) ⟨rfl, rfl⟩ (by decide) (dl1 hd) _ rfl (Nat.le_of_ble_eq_true rfl) rfl (c_8_error (dl hd rfl) e2) (kI ?_)
    exact VW.iret d8_like_33 hR (rIw hr)
  · replace hr := im hr c1
    refine VW.iload_n d8_like_9 2 rfl ?_
    refine VW.iconst (v := 0) d8_like_10 ic_0 ?_
    refine VW.iconst (v := 3) d8_like_11 ic_3 ?_
    refine VW.callS (As := [.int x2, .int 0, .int 3]) (st := []) d8_like_12 mi_8_within cs_8_57 (by decide) (dl1 hd) _ rfl (Nat.le_of_ble_eq_true rfl) rfl (c_8_within (dl hd rfl) rfl) (kI ?_)
    refine VW.if_eq 28 d8_like_15 (by decide) (fun c5 => ?_) (fun c5 => ?_)
    · replace hr := ip hr c5
      refine VW.aload_n d8_like_28 0 rfl ?_
      refine VW.iconst (v := 1) d8_like_29 ic_1 ?_
      obtain ⟨r7, h8, e6, hr⟩ := bno2 hr
      refine VW.callV (As := [.int 1]) (st := []) d8_like_30 mi_8_error cv_8_61 (oo_8 o8_0) ⟨rfl, rfl⟩ (by decide) (dl1 hd) _ rfl (Nat.le_of_ble_eq_true rfl) rfl (c_8_error (dl hd rfl) e6) (kI ?_)
      exact VW.iret d8_like_33 hR (rIw hr)
    · replace hr := im hr c5
      refine VW.iload_n d8_like_18 3 rfl ?_
      refine VW.iconst (v := 0) d8_like_19 ic_0 ?_
      refine VW.bipush (v := 99) d8_like_20 bp_99 ?_
      refine VW.callS (As := [.int x3, .int 0, .int 99]) (st := []) d8_like_22 mi_8_within cs_8_57 (by decide) (dl1 hd) _ rfl (Nat.le_of_ble_eq_true rfl) rfl (c_8_within (dl hd rfl) rfl) (kI ?_)
      refine VW.if_ne 34 d8_like_25 (by decide) (fun c9 => ?_) (fun c9 => ?_)
      · replace hr := ip hr c9
        refine VW.aload_n d8_like_28 0 rfl ?_
        refine VW.iconst (v := 1) d8_like_29 ic_1 ?_
        obtain ⟨r11, h12, e10, hr⟩ := bno2 hr
        refine VW.callV (As := [.int 1]) (st := []) d8_like_30 mi_8_error cv_8_61 (oo_8 o8_0) ⟨rfl, rfl⟩ (by decide) (dl1 hd) _ rfl (Nat.le_of_ble_eq_true rfl) rfl (c_8_error (dl hd rfl) e10) (kI ?_)
        exact VW.iret d8_like_33 hR (rIw hr)
      · replace hr := im hr c9
        refine VW.aload_n d8_like_34 0 rfl ?_
        refine VW.getR (k := 0) (r := 1) d8_like_35 (oo_8 o8_0) rfl fl_8_10 ck8 ?_
        refine VW.getR (k := 6) (r := 12) d8_like_38 (oo_7 (rf_8_0 o8_0)) rfl fl_8_228 ck7 ?_
        refine VW.iconst (v := 4) d8_like_41 ic_4 ?_
        refine VW.iload_n d8_like_42 1 rfl ?_
        refine VW.imul d8_like_43 ?_
        refine VW.iload_n d8_like_44 2 rfl ?_
        refine VW.iadd d8_like_45 ?_
        obtain ⟨g13, hr⟩ := gdt hr
        refine VW.iald (j := (ci ((4 * x1) + x2))) d8_like_46 (rf_7_6 (rf_8_0 o8_0)) g13 rfl ?_
        refine VW.istore (lo' := [(4, .int (h 12 (ci ((4 * x1) + x2)))), (0, .ref (γ.2.2.1 0)), (1, .int x1), (2, .int x2), (3, .int x3)]) d8_like_47 (by decide) rfl ?_
        refine VW.aload_n d8_like_49 1 rfl ?_
        refine VW.getR (k := 0) (r := 1) d8_like_50 (oo_8 o8_0) rfl fl_8_10 ck8 ?_
        refine VW.getR (k := 6) (r := 12) d8_like_53 (oo_7 (rf_8_0 o8_0)) rfl fl_8_228 ck7 ?_
        refine VW.iconst (v := 4) d8_like_56 ic_4 ?_
        refine VW.iload_n d8_like_57 2 rfl ?_
        refine VW.imul d8_like_58 ?_
        refine VW.iload_n d8_like_59 3 rfl ?_
        refine VW.iadd d8_like_60 ?_
        refine VW.iload_n d8_like_61 4 rfl ?_
        obtain ⟨g14, hr⟩ := gdt hr
        obtain ⟨h15, e16, hr⟩ := hlt hr
        refine VW.iast (j := (ci ((4 * x1) + x2))) d8_like_62 (rf_7_6 (rf_8_0 o8_0)) g14 rfl ?_
        refine VW.heq e16 ?_
        refine VW.iload d8_like_63 0 rfl ?_
        exact VW.iret d8_like_65 hR (rIw hr)
