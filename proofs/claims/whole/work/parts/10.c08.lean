set_option maxRecDepth 100000 in
set_option maxHeartbeats 4000000 in
theorem s_9_nextRow_7 {γ : Gm} {ε : En} {dd : Nat} (hd : 0 ≤ dd) {r : Int32} {hz : Hp} (hR : RT γ ε (some .boolean) (QI r hz)) : ∀ (n : Nat) (x1 : Int32) (h : Hp), f_9_nextRow_7 n x1 h = some (r, hz) → VW γ ε cX9_nextRow RX9 2 dd 7 [(0, .ref (γ.2.2.1 114)), (1, .int x1)] [] h := by
  intro n
  induction n with
  | zero =>
    intro x1 h hr
    exact nf hr
  | succ n ih =>
    intro x1 h hr
    rw [f_9_nextRow_7] at hr
    refine VW.iload_n d9_nextRow_7 1 rfl ?_
    refine VW.if_lt 41 d9_nextRow_8 (by decide) (fun c1 => ?_) (fun c1 => ?_)
    · replace hr := ip hr c1
      refine VW.iload_n d9_nextRow_41 1 rfl ?_
      refine VW.if_ge 47 d9_nextRow_42 (by decide) (fun c2 => ?_) (fun c2 => ?_)
      · replace hr := ip hr c2
        refine VW.aload_n d9_nextRow_47 0 rfl ?_
        refine VW.getR (k := 12) (r := 119) d9_nextRow_48 (oo_9 o9_114) rfl fl_9_22 ck9 ?_
        refine VW.iload_n d9_nextRow_51 1 rfl ?_
        refine VW.dup2 d9_nextRow_52 rfl rfl ?_
        obtain ⟨g3, hr⟩ := gdt hr
        refine VW.iald (j := (ci x1)) d9_nextRow_53 (rf_9_12 o9_114) g3 rfl ?_
        refine VW.iconst (v := 1) d9_nextRow_54 ic_1 ?_
        refine VW.iadd d9_nextRow_55 ?_
        obtain ⟨g4, hr⟩ := gdt hr
        obtain ⟨h5, e6, hr⟩ := hlt hr
        refine VW.iast (j := (ci x1)) d9_nextRow_56 (rf_9_12 o9_114) g4 rfl ?_
        refine VW.heq e6 ?_
        refine VW.iconst (v := 1) d9_nextRow_57 ic_1 ?_
        exact VW.zret d9_nextRow_58 hR rfl (rIw hr)
      · replace hr := im hr c2
        refine VW.iconst (v := 0) d9_nextRow_45 ic_0 ?_
        exact VW.zret d9_nextRow_46 hR rfl (rIw hr)
    · replace hr := im hr c1
      refine VW.aload_n d9_nextRow_11 0 rfl ?_
      refine VW.getR (k := 12) (r := 119) d9_nextRow_12 (oo_9 o9_114) rfl fl_9_22 ck9 ?_
      refine VW.iload_n d9_nextRow_15 1 rfl ?_
      obtain ⟨g7, hr⟩ := gdt hr
      refine VW.iald (j := (ci x1)) d9_nextRow_16 (rf_9_12 o9_114) g7 rfl ?_
      refine VW.aload_n d9_nextRow_17 0 rfl ?_
      refine VW.getR (k := 0) (r := 115) d9_nextRow_18 (oo_9 o9_114) rfl fl_9_7 ck9 ?_
      refine VW.iconst (v := 0) d9_nextRow_21 ic_0 ?_
      refine VW.iald (j := 0) d9_nextRow_22 (rf_9_0 o9_114) ib_0_380 il_0 ?_
      refine VW.iconst (v := 1) d9_nextRow_23 ic_1 ?_
      refine VW.isub d9_nextRow_24 ?_
      refine VW.icmp_ne 41 d9_nextRow_25 (by decide) (fun c8 => ?_) (fun c8 => ?_)
      · replace hr := ip hr c8
        refine VW.aload_n d9_nextRow_28 0 rfl ?_
        refine VW.getR (k := 12) (r := 119) d9_nextRow_29 (oo_9 o9_114) rfl fl_9_22 ck9 ?_
        refine VW.iload_n d9_nextRow_32 1 rfl ?_
        refine VW.iconst (v := 0) d9_nextRow_33 ic_0 ?_
        obtain ⟨g9, hr⟩ := gdt hr
        obtain ⟨h10, e11, hr⟩ := hlt hr
        refine VW.iast (j := (ci x1)) d9_nextRow_34 (rf_9_12 o9_114) g9 rfl ?_
        refine VW.heq e11 ?_
        refine VW.iinc (w := (-1)) (lo' := [(1, .int (x1 + (-1))), (0, .ref (γ.2.2.1 114))]) d9_nextRow_35 1 rfl ic_m1 (by decide) rfl ?_
        refine VW.goto 7 d9_nextRow_38 (by decide) ?_
        exact VW.sub [1, 0] rfl (ih (x1 + (-1)) h10 hr)
      · replace hr := im hr c8
        refine VW.iload_n d9_nextRow_41 1 rfl ?_
        refine VW.if_ge 47 d9_nextRow_42 (by decide) (fun c12 => ?_) (fun c12 => ?_)
        · replace hr := ip hr c12
          refine VW.aload_n d9_nextRow_47 0 rfl ?_
          refine VW.getR (k := 12) (r := 119) d9_nextRow_48 (oo_9 o9_114) rfl fl_9_22 ck9 ?_
          refine VW.iload_n d9_nextRow_51 1 rfl ?_
          refine VW.dup2 d9_nextRow_52 rfl rfl ?_
          obtain ⟨g13, hr⟩ := gdt hr
          refine VW.iald (j := (ci x1)) d9_nextRow_53 (rf_9_12 o9_114) g13 rfl ?_
          refine VW.iconst (v := 1) d9_nextRow_54 ic_1 ?_
          refine VW.iadd d9_nextRow_55 ?_
          obtain ⟨g14, hr⟩ := gdt hr
          obtain ⟨h15, e16, hr⟩ := hlt hr
          refine VW.iast (j := (ci x1)) d9_nextRow_56 (rf_9_12 o9_114) g14 rfl ?_
          refine VW.heq e16 ?_
          refine VW.iconst (v := 1) d9_nextRow_57 ic_1 ?_
          exact VW.zret d9_nextRow_58 hR rfl (rIw hr)
        · replace hr := im hr c12
          refine VW.iconst (v := 0) d9_nextRow_45 ic_0 ?_
          exact VW.zret d9_nextRow_46 hR rfl (rIw hr)
set_option maxRecDepth 100000 in
set_option maxHeartbeats 4000000 in
theorem c_9_nextRow {γ : Gm} {dd : Nat} {h : Hp} {r : Int32} {hz : Hp} (hd : 0 ≤ dd) (hr : f_9_nextRow h = some (r, hz)) : MC γ dd yX9_nextRow cX9_nextRow 2 (some .boolean) [.ref (γ.2.2.1 114)] h (QI r hz) := by
  unfold f_9_nextRow at hr
  refine MC.of mi_9_nextRow (Nat.le_of_ble_eq_true rfl) (fun ε hR => ?_)
  show VW γ ε cX9_nextRow RX9 2 dd 0 [(0, .ref (γ.2.2.1 114))] [] h
  refine VW.aload_n d9_nextRow_0 0 rfl ?_
  refine VW.getI (k := 11) d9_nextRow_1 (oo_9 o9_114) rfl fl_9_151 ck9 ?_
  refine VW.iconst (v := 1) d9_nextRow_4 ic_1 ?_
  refine VW.isub d9_nextRow_5 ?_
  refine VW.istore_n (lo' := [(1, .int ((h 114 11) - 1)), (0, .ref (γ.2.2.1 114))]) d9_nextRow_6 (by decide) rfl ?_
  exact VW.sub [1, 0] rfl (s_9_nextRow_7 hd hR FU ((h 114 11) - 1) h hr)
set_option maxRecDepth 100000 in
set_option maxHeartbeats 4000000 in
theorem s_9_seeks_60 {γ : Gm} {ε : En} {dd : Nat} (hd : 72 ≤ dd) {hz : Hp} {K13 : Int32 → Hp → Option Hp} {x1 : Int32} {x2 : Int32} {x3 : Int32} {x4 : Int32} (HK13 : ∀ (x4 : Int32) (h : Hp), K13 x4 h = some hz → VW γ ε cX9_seeks RX9 6 dd 13 [(0, .ref (γ.2.2.1 114)), (1, .int x1), (2, .int x2), (3, .int x3), (4, .int x4)] [] h) (hR : RT γ ε none (QV hz)) : ∀ (n : Nat) (x5 : Int32) (h : Hp), f_9_seeks_60 K13 x1 x2 x3 x4 n x5 h = some hz → VW γ ε cX9_seeks RX9 6 dd 60 [(0, .ref (γ.2.2.1 114)), (1, .int x1), (2, .int x2), (3, .int x3), (4, .int x4), (5, .int x5)] [] h := by
  intro n
  induction n with
  | zero =>
    intro x5 h hr
    exact nf hr
  | succ n ih =>
    intro x5 h hr
    rw [f_9_seeks_60] at hr
    refine VW.iload d9_seeks_60 5 rfl ?_
    refine VW.if_eq 81 d9_seeks_62 (by decide) (fun c10 => ?_) (fun c10 => ?_)
    · replace hr := ip hr c10
      refine VW.iinc (w := 1) (lo' := [(4, .int (x4 + 1)), (0, .ref (γ.2.2.1 114)), (1, .int x1), (2, .int x2), (3, .int x3), (5, .int x5)]) d9_seeks_81 4 rfl ic_1 (by decide) rfl ?_
      refine VW.goto 13 d9_seeks_84 (by decide) ?_
      exact VW.sub [1, 2, 3, 4, 0] rfl (HK13 (x4 + 1) h hr)
    · replace hr := im hr c10
      refine VW.aload_n d9_seeks_65 0 rfl ?_
      refine VW.iload_n d9_seeks_66 1 rfl ?_
      refine VW.iload_n d9_seeks_67 2 rfl ?_
      refine VW.iload_n d9_seeks_68 3 rfl ?_
      obtain ⟨h12, e11, hr⟩ := bno hr
      refine VW.callV (As := [.int x1, .int x2, .int x3]) (st := []) d9_seeks_69 mi_9_looksAt cv_9_218 (oo_9 o9_114) ⟨rfl, rfl⟩ (by decide) (dl1 hd) _ rfl (Nat.le_of_ble_eq_true rfl) rfl (c_9_looksAt (dl hd rfl) e11) (kV ?_)
      refine VW.aload_n d9_seeks_72 0 rfl ?_
      obtain ⟨r14, h15, e13, hr⟩ := bno2 hr
      refine VW.callV (As := []) (st := []) d9_seeks_73 mi_9_nextRow cv_9_221 (oo_9 o9_114) ⟨rfl, rfl⟩ (by decide) (dl1 hd) _ rfl (Nat.le_of_ble_eq_true rfl) rfl (c_9_nextRow (dl hd rfl) e13) (kI ?_)
      refine VW.istore (lo' := [(5, .int r14), (0, .ref (γ.2.2.1 114)), (1, .int x1), (2, .int x2), (3, .int x3), (4, .int x4)]) d9_seeks_76 (by decide) rfl ?_
      refine VW.goto 60 d9_seeks_78 (by decide) ?_
      exact VW.sub [1, 2, 3, 4, 5, 0] rfl (ih r14 h15 hr)
set_option maxRecDepth 100000 in
set_option maxHeartbeats 4000000 in
theorem s_9_seeks_37 {γ : Gm} {ε : En} {dd : Nat} (hd : 72 ≤ dd) {hz : Hp} {K13 : Int32 → Hp → Option Hp} {x1 : Int32} {x2 : Int32} {x3 : Int32} {x4 : Int32} (HK13 : ∀ (x4 : Int32) (h : Hp), K13 x4 h = some hz → VW γ ε cX9_seeks RX9 6 dd 13 [(0, .ref (γ.2.2.1 114)), (1, .int x1), (2, .int x2), (3, .int x3), (4, .int x4)] [] h) (hR : RT γ ε none (QV hz)) : ∀ (n : Nat) (x5 : Int32) (h : Hp), f_9_seeks_37 K13 x1 x2 x3 x4 n x5 h = some hz → VW γ ε cX9_seeks RX9 6 dd 37 [(0, .ref (γ.2.2.1 114)), (1, .int x1), (2, .int x2), (3, .int x3), (4, .int x4), (5, .int x5)] [] h := by
  intro n
  induction n with
  | zero =>
    intro x5 h hr
    exact nf hr
  | succ n ih =>
    intro x5 h hr
    rw [f_9_seeks_37] at hr
    refine VW.iload d9_seeks_37 5 rfl ?_
    refine VW.iconst (v := 3) d9_seeks_39 ic_3 ?_
    refine VW.icmp_ge 57 d9_seeks_40 (by decide) (fun c9 => ?_) (fun c9 => ?_)
    · replace hr := ip hr c9
      refine VW.iconst (v := 1) d9_seeks_57 ic_1 ?_
      refine VW.istore (lo' := [(5, .int 1), (0, .ref (γ.2.2.1 114)), (1, .int x1), (2, .int x2), (3, .int x3), (4, .int x4)]) d9_seeks_58 (by decide) rfl ?_
      exact VW.sub [1, 2, 3, 4, 5, 0] rfl (s_9_seeks_60 hd HK13 hR FU 1 h hr)
    · replace hr := im hr c9
      refine VW.aload_n d9_seeks_43 0 rfl ?_
      refine VW.getR (k := 12) (r := 119) d9_seeks_44 (oo_9 o9_114) rfl fl_9_22 ck9 ?_
      refine VW.iload d9_seeks_47 5 rfl ?_
      refine VW.iconst (v := 0) d9_seeks_49 ic_0 ?_
      obtain ⟨g16, hr⟩ := gdt hr
      obtain ⟨h17, e18, hr⟩ := hlt hr
      refine VW.iast (j := (ci x5)) d9_seeks_50 (rf_9_12 o9_114) g16 rfl ?_
      refine VW.heq e18 ?_
      refine VW.iinc (w := 1) (lo' := [(5, .int (x5 + 1)), (0, .ref (γ.2.2.1 114)), (1, .int x1), (2, .int x2), (3, .int x3), (4, .int x4)]) d9_seeks_51 5 rfl ic_1 (by decide) rfl ?_
      refine VW.goto 37 d9_seeks_54 (by decide) ?_
      exact VW.sub [1, 2, 3, 4, 5, 0] rfl (ih (x5 + 1) h17 hr)
set_option maxRecDepth 100000 in
set_option maxHeartbeats 4000000 in
theorem s_9_seeks_13 {γ : Gm} {ε : En} {dd : Nat} (hd : 72 ≤ dd) {hz : Hp} {x1 : Int32} {x2 : Int32} {x3 : Int32} (hR : RT γ ε none (QV hz)) : ∀ (n : Nat) (x4 : Int32) (h : Hp), f_9_seeks_13 x1 x2 x3 n x4 h = some hz → VW γ ε cX9_seeks RX9 6 dd 13 [(0, .ref (γ.2.2.1 114)), (1, .int x1), (2, .int x2), (3, .int x3), (4, .int x4)] [] h := by
  intro n
  induction n with
  | zero =>
    intro x4 h hr
    exact nf hr
  | succ n ih =>
    intro x4 h hr
    rw [f_9_seeks_13] at hr
    refine VW.iload d9_seeks_13 4 rfl ?_
    refine VW.iconst (v := 3) d9_seeks_15 ic_3 ?_
    refine VW.icmp_gt 87 d9_seeks_16 (by decide) (fun c5 => ?_) (fun c5 => ?_)
    · replace hr := ip hr c5
      exact VW.vret d9_seeks_87 hR (rV hr)
    · replace hr := im hr c5
      refine VW.aload_n d9_seeks_19 0 rfl ?_
      refine VW.getR (k := 0) (r := 115) d9_seeks_20 (oo_9 o9_114) rfl fl_9_7 ck9 ?_
      refine VW.iconst (v := 0) d9_seeks_23 ic_0 ?_
      refine VW.iald (j := 0) d9_seeks_24 (rf_9_0 o9_114) ib_0_380 il_0 ?_
      refine VW.if_le 87 d9_seeks_25 (by decide) (fun c6 => ?_) (fun c6 => ?_)
      · replace hr := ip hr c6
        exact VW.vret d9_seeks_87 hR (rV hr)
      · replace hr := im hr c6
        refine VW.aload_n d9_seeks_28 0 rfl ?_
        refine VW.iload d9_seeks_29 4 rfl ?_
        obtain ⟨h7, e8, hr⟩ := hlt hr
        refine VW.putI (k := 11) d9_seeks_31 (oo_9 o9_114) rfl fl_9_151 ck9 rfl rfl rfl rfl ?_
        refine VW.heq e8 ?_
        refine VW.iconst (v := 0) d9_seeks_34 ic_0 ?_
        refine VW.istore (lo' := [(5, .int 0), (0, .ref (γ.2.2.1 114)), (1, .int x1), (2, .int x2), (3, .int x3), (4, .int x4)]) d9_seeks_35 (by decide) rfl ?_
        exact VW.sub [1, 2, 3, 4, 5, 0] rfl (s_9_seeks_37 hd ih hR FU 0 h7 hr)
set_option maxRecDepth 100000 in
set_option maxHeartbeats 4000000 in
theorem c_9_seeks {γ : Gm} {dd : Nat} {x1 : Int32} {x2 : Int32} {x3 : Int32} {h : Hp} {hz : Hp} (hd : 72 ≤ dd) (hr : f_9_seeks x1 x2 x3 h = some hz) : MC γ dd yX9_seeks cX9_seeks 6 none [.ref (γ.2.2.1 114), .int x1, .int x2, .int x3] h (QV hz) := by
  unfold f_9_seeks at hr
  refine MC.of mi_9_seeks (Nat.le_of_ble_eq_true rfl) (fun ε hR => ?_)
  show VW γ ε cX9_seeks RX9 6 dd 0 [(0, .ref (γ.2.2.1 114)), (1, .int x1), (2, .int x2), (3, .int x3)] [] h
  refine VW.aload_n d9_seeks_0 0 rfl ?_
  refine VW.iconst (v := 0) d9_seeks_1 ic_0 ?_
  obtain ⟨h1, e2, hr⟩ := hlt hr
  refine VW.putI (k := 14) d9_seeks_2 (oo_9 o9_114) rfl fl_9_212 ck9 rfl rfl rfl rfl ?_
  refine VW.heq e2 ?_
  refine VW.aload_n d9_seeks_5 0 rfl ?_
  refine VW.iconst (v := 0) d9_seeks_6 ic_0 ?_
  obtain ⟨h3, e4, hr⟩ := hlt hr
  refine VW.putI (k := 17) d9_seeks_7 (oo_9 o9_114) rfl fl_9_209 ck9 rfl rfl rfl rfl ?_
  refine VW.heq e4 ?_
  refine VW.iconst (v := 1) d9_seeks_10 ic_1 ?_
  refine VW.istore (lo' := [(4, .int 1), (0, .ref (γ.2.2.1 114)), (1, .int x1), (2, .int x2), (3, .int x3)]) d9_seeks_11 (by decide) rfl ?_
  exact VW.sub [1, 2, 3, 4, 0] rfl (s_9_seeks_13 hd hR FU 1 h3 hr)
set_option maxRecDepth 100000 in
set_option maxHeartbeats 4000000 in
theorem c_9_best {γ : Gm} {dd : Nat} {x1 : Int32} {x2 : Int32} {x3 : Int32} {h : Hp} {r : Int32} {hz : Hp} (hd : 73 ≤ dd) (hr : f_9_best x1 x2 x3 h = some (r, hz)) : MC γ dd yX9_best cX9_best 4 (some .int) [.ref (γ.2.2.1 114), .int x1, .int x2, .int x3] h (QI r hz) := by
  unfold f_9_best at hr
  refine MC.of mi_9_best (Nat.le_of_ble_eq_true rfl) (fun ε hR => ?_)
  show VW γ ε cX9_best RX9 4 dd 0 [(0, .ref (γ.2.2.1 114)), (1, .int x1), (2, .int x2), (3, .int x3)] [] h
  refine VW.aload_n d9_best_0 0 rfl ?_
  refine VW.iload_n d9_best_1 1 rfl ?_
  obtain ⟨r2, e1, hr⟩ := bno hr
  refine VW.callV (As := [.int x1]) (st := []) d9_best_2 mi_9_isLine cv_9_184 (oo_9 o9_114) ⟨rfl, rfl⟩ (by decide) (dl1 hd) _ rfl (Nat.le_of_ble_eq_true rfl) rfl (c_9_isLine (dl hd rfl) e1) (kI ?_)
  refine VW.if_eq 34 d9_best_5 (by decide) (fun c3 => ?_) (fun c3 => ?_)
  · replace hr := ip hr c3
    refine VW.aload_n d9_best_34 0 rfl ?_
    refine VW.iconst (v := 1) d9_best_35 ic_1 ?_
    obtain ⟨r5, h6, e4, hr⟩ := bno2 hr
    refine VW.callV (As := [.int 1]) (st := []) d9_best_36 mi_9_finds cv_9_107 (oo_9 o9_114) ⟨rfl, rfl⟩ (by decide) (dl1 hd) _ rfl (Nat.le_of_ble_eq_true rfl) rfl (c_9_finds (dl hd rfl) e4) (kI ?_)
    exact VW.iret d9_best_39 hR (rIw hr)
  · replace hr := im hr c3
    refine VW.iload_n d9_best_8 2 rfl ?_
    refine VW.i2l d9_best_9 ?_
    refine VW.lconst (v := 0) d9_best_10 (by decide) ?_
    refine VW.ldc2 (v := 99) d9_best_11 kc_9_134 ?_
    refine VW.callS (As := [.long (Int32.toInt64 x2), .long 0, .long 99]) (st := []) d9_best_14 mi_9_in cs_9_44 (by decide) (dl1 hd) _ rfl (Nat.le_of_ble_eq_true rfl) rfl (c_9_in (dl hd rfl) rfl) (kI ?_)
    refine VW.if_eq 34 d9_best_17 (by decide) (fun c7 => ?_) (fun c7 => ?_)
    · replace hr := ip hr c7
      refine VW.aload_n d9_best_34 0 rfl ?_
      refine VW.iconst (v := 1) d9_best_35 ic_1 ?_
      obtain ⟨r9, h10, e8, hr⟩ := bno2 hr
      refine VW.callV (As := [.int 1]) (st := []) d9_best_36 mi_9_finds cv_9_107 (oo_9 o9_114) ⟨rfl, rfl⟩ (by decide) (dl1 hd) _ rfl (Nat.le_of_ble_eq_true rfl) rfl (c_9_finds (dl hd rfl) e8) (kI ?_)
      exact VW.iret d9_best_39 hR (rIw hr)
    · replace hr := im hr c7
      refine VW.iload_n d9_best_20 3 rfl ?_
      refine VW.i2l d9_best_21 ?_
      refine VW.ldc2 (v := (-2)) d9_best_22 kc_9_225 ?_
      refine VW.ldc2 (v := 2) d9_best_25 kc_9_139 ?_
      refine VW.callS (As := [.long (Int32.toInt64 x3), .long (-2), .long 2]) (st := []) d9_best_28 mi_9_in cs_9_44 (by decide) (dl1 hd) _ rfl (Nat.le_of_ble_eq_true rfl) rfl (c_9_in (dl hd rfl) rfl) (kI ?_)
      refine VW.if_ne 40 d9_best_31 (by decide) (fun c11 => ?_) (fun c11 => ?_)
      · replace hr := ip hr c11
        refine VW.aload_n d9_best_34 0 rfl ?_
        refine VW.iconst (v := 1) d9_best_35 ic_1 ?_
        obtain ⟨r13, h14, e12, hr⟩ := bno2 hr
        refine VW.callV (As := [.int 1]) (st := []) d9_best_36 mi_9_finds cv_9_107 (oo_9 o9_114) ⟨rfl, rfl⟩ (by decide) (dl1 hd) _ rfl (Nat.le_of_ble_eq_true rfl) rfl (c_9_finds (dl hd rfl) e12) (kI ?_)
        exact VW.iret d9_best_39 hR (rIw hr)
      · replace hr := im hr c11
        refine VW.aload_n d9_best_40 0 rfl ?_
        refine VW.iload_n d9_best_41 1 rfl ?_
        refine VW.iconst (v := 0) d9_best_42 ic_0 ?_
        refine VW.iload_n d9_best_43 2 rfl ?_
        obtain ⟨h16, e15, hr⟩ := bno hr
        refine VW.callV (As := [.int x1, .int 0, .int x2]) (st := []) d9_best_44 mi_9_seeks cv_9_227 (oo_9 o9_114) ⟨rfl, rfl⟩ (by decide) (dl1 hd) _ rfl (Nat.le_of_ble_eq_true rfl) rfl (c_9_seeks (dl hd rfl) e15) (kV ?_)
        refine VW.aload_n d9_best_47 0 rfl ?_
        refine VW.iload_n d9_best_48 3 rfl ?_
        obtain ⟨r18, h19, e17, hr⟩ := bno2 hr
        refine VW.callV (As := [.int x3]) (st := []) d9_best_49 mi_9_foundTold cv_9_230 (oo_9 o9_114) ⟨rfl, rfl⟩ (by decide) (dl1 hd) _ rfl (Nat.le_of_ble_eq_true rfl) rfl (c_9_foundTold (dl hd rfl) e17) (kI ?_)
        exact VW.iret d9_best_52 hR (rIw hr)
set_option maxRecDepth 100000 in
set_option maxHeartbeats 4000000 in
theorem s_9_cast_44 {γ : Gm} {ε : En} {dd : Nat} (hd : 1 ≤ dd) {r : Int32} {hz : Hp} {K27 : Int32 → Int32 → Int32 → Hp → Option (Int32 × Hp)} {x1 : Int32} {x2 : Int32} {x3 : Int32} {x4 : Int32} (HK27 : ∀ (x2 : Int32) (x3 : Int32) (x4 : Int32) (h : Hp), K27 x2 x3 x4 h = some (r, hz) → VW γ ε cX9_cast RX9 9 dd 27 [(0, .ref (γ.2.2.1 114)), (1, .int x1), (2, .int x2), (3, .int x3), (4, .int x4)] [] h) (hR : RT γ ε (some .int) (QI r hz)) : ∀ (n : Nat) (x5 : Int32) (x6 : Int32) (x7 : Int32) (h : Hp), f_9_cast_44 K27 x1 x2 x3 x4 n x5 x6 x7 h = some (r, hz) → VW γ ε cX9_cast RX9 9 dd 44 [(0, .ref (γ.2.2.1 114)), (1, .int x1), (2, .int x2), (3, .int x3), (4, .int x4), (5, .int x5), (6, .int x6), (7, .int x7)] [] h := by
  intro n
  induction n with
  | zero =>
    intro x5 x6 x7 h hr
    exact nf hr
  | succ n ih =>
    intro x5 x6 x7 h hr
    rw [f_9_cast_44] at hr
    refine VW.iload d9_cast_44 7 rfl ?_
    refine VW.iconst (v := 4) d9_cast_46 ic_4 ?_
    refine VW.icmp_ge 99 d9_cast_47 (by decide) (fun c7 => ?_) (fun c7 => ?_)
    · replace hr := ip hr c7
      refine VW.iload d9_cast_99 5 rfl ?_
      refine VW.bipush (v := 15) d9_cast_101 bp_15 ?_
      refine VW.icmp_ne 118 d9_cast_103 (by decide) (fun c8 => ?_) (fun c8 => ?_)
      · replace hr := ip hr c8
        refine VW.iload d9_cast_106 6 rfl ?_
        refine VW.iload_n d9_cast_108 3 rfl ?_
        refine VW.icmp_le 118 d9_cast_109 (by decide) (fun c9 => ?_) (fun c9 => ?_)
        · replace hr := ip hr c9
          refine VW.iinc (w := 1) (lo' := [(4, .int (x4 + 1)), (0, .ref (γ.2.2.1 114)), (1, .int x1), (2, .int x2), (3, .int x3), (5, .int x5), (6, .int x6), (7, .int x7)]) d9_cast_118 4 rfl ic_1 (by decide) rfl ?_
          refine VW.goto 27 d9_cast_121 (by decide) ?_
          exact VW.sub [1, 2, 3, 4, 0] rfl (HK27 x2 x3 (x4 + 1) h hr)
        · replace hr := im hr c9
          refine VW.iload d9_cast_112 6 rfl ?_
          refine VW.istore_n (lo' := [(3, .int x6), (0, .ref (γ.2.2.1 114)), (1, .int x1), (2, .int x2), (4, .int x4), (5, .int x5), (6, .int x6), (7, .int x7)]) d9_cast_114 (by decide) rfl ?_
          refine VW.iload d9_cast_115 4 rfl ?_
          refine VW.istore_n (lo' := [(2, .int x4), (3, .int x6), (0, .ref (γ.2.2.1 114)), (1, .int x1), (4, .int x4), (5, .int x5), (6, .int x6), (7, .int x7)]) d9_cast_117 (by decide) rfl ?_
          refine VW.iinc (w := 1) (lo' := [(4, .int (x4 + 1)), (2, .int x4), (3, .int x6), (0, .ref (γ.2.2.1 114)), (1, .int x1), (5, .int x5), (6, .int x6), (7, .int x7)]) d9_cast_118 4 rfl ic_1 (by decide) rfl ?_
          refine VW.goto 27 d9_cast_121 (by decide) ?_
          exact VW.sub [3, 4, 1, 2, 0] rfl (HK27 x4 x6 (x4 + 1) h hr)
      · replace hr := im hr c8
        refine VW.iinc (w := 1) (lo' := [(4, .int (x4 + 1)), (0, .ref (γ.2.2.1 114)), (1, .int x1), (2, .int x2), (3, .int x3), (5, .int x5), (6, .int x6), (7, .int x7)]) d9_cast_118 4 rfl ic_1 (by decide) rfl ?_
        refine VW.goto 27 d9_cast_121 (by decide) ?_
        exact VW.sub [1, 2, 3, 4, 0] rfl (HK27 x2 x3 (x4 + 1) h hr)
    · replace hr := im hr c7
      refine VW.iload d9_cast_50 4 rfl ?_
      refine VW.bipush (v := 6) d9_cast_52 bp_6 ?_
      refine VW.iconst (v := 2) d9_cast_54 ic_2 ?_
      refine VW.iload d9_cast_55 7 rfl ?_
      refine VW.imul d9_cast_57 ?_
      refine VW.isub d9_cast_58 ?_
      refine VW.ishr d9_cast_59 ?_
      refine VW.iconst (v := 3) d9_cast_60 ic_3 ?_
      refine VW.iand d9_cast_61 ?_
      refine VW.istore (lo' := [(8, .int ((x4 >>> ((6 - (2 * x7)) &&& 31)) &&& 3)), (0, .ref (γ.2.2.1 114)), (1, .int x1), (2, .int x2), (3, .int x3), (4, .int x4), (5, .int x5), (6, .int x6), (7, .int x7)]) d9_cast_62 (by decide) rfl ?_
      refine VW.iload d9_cast_64 6 rfl ?_
      refine VW.iconst (v := 1) d9_cast_66 ic_1 ?_
      refine VW.iload d9_cast_67 0 rfl ?_
      refine VW.ishl d9_cast_69 ?_
      refine VW.ior d9_cast_70 ?_
      refine VW.istore (lo' := [(5, .int (x5 ||| (1 <<< (((x4 >>> ((6 - (2 * x7)) &&& 31)) &&& 3) &&& 31)))), (8, .int ((x4 >>> ((6 - (2 * x7)) &&& 31)) &&& 3)), (0, .ref (γ.2.2.1 114)), (1, .int x1), (2, .int x2), (3, .int x3), (4, .int x4), (6, .int x6), (7, .int x7)]) d9_cast_71 (by decide) rfl ?_
      refine VW.iload d9_cast_73 7 rfl ?_
      refine VW.aload_n d9_cast_75 2 rfl ?_
      refine VW.getR (k := 0) (r := 115) d9_cast_76 (oo_9 o9_114) rfl fl_9_7 ck9 ?_
      refine VW.bipush (v := 8) d9_cast_79 bp_8 ?_
      refine VW.iconst (v := 4) d9_cast_81 ic_4 ?_
      refine VW.iload d9_cast_82 8 rfl ?_
      refine VW.imul d9_cast_84 ?_
      refine VW.iadd d9_cast_85 ?_
      refine VW.iload d9_cast_86 1 rfl ?_
      refine VW.iadd d9_cast_88 ?_
      obtain ⟨g10, hr⟩ := gdt hr
      refine VW.iald (j := (ci ((8 + (4 * x7)) + ((x4 >>> ((6 - (2 * x7)) &&& 31)) &&& 3)))) d9_cast_89 (rf_9_0 o9_114) g10 rfl ?_
      refine VW.iadd d9_cast_90 ?_
      refine VW.istore (lo' := [(6, .int (x6 + (h 115 (ci ((8 + (4 * x7)) + ((x4 >>> ((6 - (2 * x7)) &&& 31)) &&& 3)))))), (5, .int (x5 ||| (1 <<< (((x4 >>> ((6 - (2 * x7)) &&& 31)) &&& 3) &&& 31)))), (8, .int ((x4 >>> ((6 - (2 * x7)) &&& 31)) &&& 3)), (0, .ref (γ.2.2.1 114)), (1, .int x1), (2, .int x2), (3, .int x3), (4, .int x4), (7, .int x7)]) d9_cast_91 (by decide) rfl ?_
      refine VW.iinc (w := 1) (lo' := [(7, .int (x7 + 1)), (6, .int (x6 + (h 115 (ci ((8 + (4 * x7)) + ((x4 >>> ((6 - (2 * x7)) &&& 31)) &&& 3)))))), (5, .int (x5 ||| (1 <<< (((x4 >>> ((6 - (2 * x7)) &&& 31)) &&& 3) &&& 31)))), (8, .int ((x4 >>> ((6 - (2 * x7)) &&& 31)) &&& 3)), (0, .ref (γ.2.2.1 114)), (1, .int x1), (2, .int x2), (3, .int x3), (4, .int x4)]) d9_cast_93 8 rfl ic_1 (by decide) rfl ?_
      refine VW.goto 44 d9_cast_96 (by decide) ?_
      exact VW.sub [4, 5, 6, 7, 8, 2, 1, 0] rfl (ih (x5 ||| (1 <<< (((x4 >>> ((6 - (2 * x7)) &&& 31)) &&& 3) &&& 31))) (x6 + (h 115 (ci ((8 + (4 * x7)) + ((x4 >>> ((6 - (2 * x7)) &&& 31)) &&& 3))))) (x7 + 1) h hr)
set_option maxRecDepth 100000 in
set_option maxHeartbeats 4000000 in
theorem s_9_cast_27 {γ : Gm} {ε : En} {dd : Nat} (hd : 1 ≤ dd) {r : Int32} {hz : Hp} {x1 : Int32} (hR : RT γ ε (some .int) (QI r hz)) : ∀ (n : Nat) (x2 : Int32) (x3 : Int32) (x4 : Int32) (h : Hp), f_9_cast_27 x1 n x2 x3 x4 h = some (r, hz) → VW γ ε cX9_cast RX9 9 dd 27 [(0, .ref (γ.2.2.1 114)), (1, .int x1), (2, .int x2), (3, .int x3), (4, .int x4)] [] h := by
  intro n
  induction n with
  | zero =>
    intro x2 x3 x4 h hr
    exact nf hr
  | succ n ih =>
    intro x2 x3 x4 h hr
    rw [f_9_cast_27] at hr
    refine VW.iload d9_cast_27 4 rfl ?_
    refine VW.sipush (v := 256) d9_cast_29 sp_256 ?_
    refine VW.icmp_ge 124 d9_cast_32 (by decide) (fun c5 => ?_) (fun c5 => ?_)
    · replace hr := ip hr c5
      refine VW.iload_n d9_cast_124 1 rfl ?_
      refine VW.if_ge 132 d9_cast_125 (by decide) (fun c6 => ?_) (fun c6 => ?_)
      · replace hr := ip hr c6
        refine VW.iload_n d9_cast_132 2 rfl ?_
        refine VW.bipush (v := 6) d9_cast_133 bp_6 ?_
        refine VW.iconst (v := 2) d9_cast_135 ic_2 ?_
        refine VW.iload_n d9_cast_136 1 rfl ?_
        refine VW.imul d9_cast_137 ?_
        refine VW.isub d9_cast_138 ?_
        refine VW.ishr d9_cast_139 ?_
        refine VW.iconst (v := 3) d9_cast_140 ic_3 ?_
        refine VW.iand d9_cast_141 ?_
        exact VW.iret d9_cast_142 hR (rIw hr)
      · replace hr := im hr c6
        refine VW.iload_n d9_cast_128 3 rfl ?_
        refine VW.goto 142 d9_cast_129 (by decide) ?_
        exact VW.iret d9_cast_142 hR (rIw hr)
    · replace hr := im hr c5
      refine VW.iconst (v := 0) d9_cast_35 ic_0 ?_
      refine VW.istore (lo' := [(5, .int 0), (0, .ref (γ.2.2.1 114)), (1, .int x1), (2, .int x2), (3, .int x3), (4, .int x4)]) d9_cast_36 (by decide) rfl ?_
      refine VW.iconst (v := 0) d9_cast_38 ic_0 ?_
      refine VW.istore (lo' := [(6, .int 0), (5, .int 0), (0, .ref (γ.2.2.1 114)), (1, .int x1), (2, .int x2), (3, .int x3), (4, .int x4)]) d9_cast_39 (by decide) rfl ?_
      refine VW.iconst (v := 0) d9_cast_41 ic_0 ?_
      refine VW.istore (lo' := [(7, .int 0), (6, .int 0), (5, .int 0), (0, .ref (γ.2.2.1 114)), (1, .int x1), (2, .int x2), (3, .int x3), (4, .int x4)]) d9_cast_42 (by decide) rfl ?_
      exact VW.sub [3, 4, 5, 6, 7, 2, 1, 0] rfl (s_9_cast_44 hd ih hR FU 0 0 0 h hr)
set_option maxRecDepth 100000 in
set_option maxHeartbeats 4000000 in
theorem c_9_cast {γ : Gm} {dd : Nat} {x1 : Int32} {h : Hp} {r : Int32} {hz : Hp} (hd : 1 ≤ dd) (hr : f_9_cast x1 h = some (r, hz)) : MC γ dd yX9_cast cX9_cast 9 (some .int) [.ref (γ.2.2.1 114), .int x1] h (QI r hz) := by
  unfold f_9_cast at hr
  refine MC.of mi_9_cast (Nat.le_of_ble_eq_true rfl) (fun ε hR => ?_)
  show VW γ ε cX9_cast RX9 9 dd 0 [(0, .ref (γ.2.2.1 114)), (1, .int x1)] [] h
  refine VW.iload_n d9_cast_0 1 rfl ?_
  refine VW.i2l d9_cast_1 ?_
  refine VW.ldc2 (v := (-1)) d9_cast_2 kc_9_233 ?_
  refine VW.ldc2 (v := 3) d9_cast_5 kc_9_127 ?_
  refine VW.callS (As := [.long (Int32.toInt64 x1), .long (-1), .long 3]) (st := []) d9_cast_8 mi_9_in cs_9_44 (by decide) (dl1 hd) _ rfl (Nat.le_of_ble_eq_true rfl) rfl (c_9_in (dl hd rfl) rfl) (kI ?_)
  refine VW.if_ne 20 d9_cast_11 (by decide) (fun c1 => ?_) (fun c1 => ?_)
  · replace hr := ip hr c1
    refine VW.aload_n d9_cast_14 0 rfl ?_
    refine VW.iconst (v := 1) d9_cast_15 ic_1 ?_
    obtain ⟨r3, h4, e2, hr⟩ := bno2 hr
    refine VW.callV (As := [.int 1]) (st := []) d9_cast_16 mi_9_finds cv_9_107 (oo_9 o9_114) ⟨rfl, rfl⟩ (by decide) (dl1 hd) _ rfl (Nat.le_of_ble_eq_true rfl) rfl (c_9_finds (dl hd rfl) e2) (kI ?_)
    exact VW.iret d9_cast_19 hR (rIw hr)
  · replace hr := im hr c1
    refine VW.iconst (v := (-1)) d9_cast_20 ic_m1 ?_
    refine VW.istore_n (lo' := [(2, .int (-1)), (0, .ref (γ.2.2.1 114)), (1, .int x1)]) d9_cast_21 (by decide) rfl ?_
    refine VW.iconst (v := (-1)) d9_cast_22 ic_m1 ?_
    refine VW.istore_n (lo' := [(3, .int (-1)), (2, .int (-1)), (0, .ref (γ.2.2.1 114)), (1, .int x1)]) d9_cast_23 (by decide) rfl ?_
    refine VW.iconst (v := 0) d9_cast_24 ic_0 ?_
    refine VW.istore (lo' := [(4, .int 0), (3, .int (-1)), (2, .int (-1)), (0, .ref (γ.2.2.1 114)), (1, .int x1)]) d9_cast_25 (by decide) rfl ?_
    exact VW.sub [3, 4, 2, 1, 0] rfl (s_9_cast_27 hd hR FU (-1) (-1) 0 h hr)
set_option maxRecDepth 100000 in
set_option maxHeartbeats 4000000 in
theorem s_9_check_18 {γ : Gm} {ε : En} {dd : Nat} (hd : 0 ≤ dd) {r : Int32} {hz : Hp} {x1 : Int32} (hR : RT γ ε (some .int) (QI r hz)) : ∀ (n : Nat) (x2 : Int32) (h : Hp), f_9_check_18 x1 n x2 h = some (r, hz) → VW γ ε cX9_check RX9 3 dd 18 [(0, .ref (γ.2.2.1 114)), (1, .int x1), (2, .int x2)] [] h := by
  intro n
  induction n with
  | zero =>
    intro x2 h hr
    exact nf hr
  | succ n ih =>
    intro x2 h hr
    rw [f_9_check_18] at hr
    refine VW.iload_n d9_check_18 2 rfl ?_
    refine VW.iload_n d9_check_19 1 rfl ?_
    refine VW.icmp_ge 55 d9_check_20 (by decide) (fun c3 => ?_) (fun c3 => ?_)
    · replace hr := ip hr c3
      refine VW.iconst (v := 0) d9_check_55 ic_0 ?_
      exact VW.iret d9_check_56 hR (rIw hr)
    · replace hr := im hr c3
      refine VW.aload_n d9_check_23 0 rfl ?_
      refine VW.getR (k := 0) (r := 115) d9_check_24 (oo_9 o9_114) rfl fl_9_7 ck9 ?_
      refine VW.sipush (v := 210) d9_check_27 sp_210 ?_
      refine VW.iload_n d9_check_30 2 rfl ?_
      refine VW.iadd d9_check_31 ?_
      obtain ⟨g4, hr⟩ := gdt hr
      refine VW.iald (j := (ci (210 + x2))) d9_check_32 (rf_9_0 o9_114) g4 rfl ?_
      refine VW.aload_n d9_check_33 0 rfl ?_
      refine VW.getR (k := 0) (r := 115) d9_check_34 (oo_9 o9_114) rfl fl_9_7 ck9 ?_
      refine VW.bipush (v := 24) d9_check_37 bp_24 ?_
      refine VW.iload_n d9_check_39 2 rfl ?_
      refine VW.iadd d9_check_40 ?_
      obtain ⟨g5, hr⟩ := gdt hr
      refine VW.iald (j := (ci (24 + x2))) d9_check_41 (rf_9_0 o9_114) g5 rfl ?_
      refine VW.icmp_eq 49 d9_check_42 (by decide) (fun c6 => ?_) (fun c6 => ?_)
      · replace hr := ip hr c6
        refine VW.iinc (w := 1) (lo' := [(2, .int (x2 + 1)), (0, .ref (γ.2.2.1 114)), (1, .int x1)]) d9_check_49 2 rfl ic_1 (by decide) rfl ?_
        refine VW.goto 18 d9_check_52 (by decide) ?_
        exact VW.sub [1, 2, 0] rfl (ih (x2 + 1) h hr)
      · replace hr := im hr c6
        refine VW.iconst (v := 1) d9_check_45 ic_1 ?_
        refine VW.iload_n d9_check_46 2 rfl ?_
        refine VW.iadd d9_check_47 ?_
        exact VW.iret d9_check_48 hR (rIw hr)
set_option maxRecDepth 100000 in
set_option maxHeartbeats 4000000 in
theorem c_9_check {γ : Gm} {dd : Nat} {h : Hp} {r : Int32} {hz : Hp} (hd : 0 ≤ dd) (hr : f_9_check h = some (r, hz)) : MC γ dd yX9_check cX9_check 3 (some .int) [.ref (γ.2.2.1 114)] h (QI r hz) := by
  unfold f_9_check at hr
  refine MC.of mi_9_check (Nat.le_of_ble_eq_true rfl) (fun ε hR => ?_)
  show VW γ ε cX9_check RX9 3 dd 0 [(0, .ref (γ.2.2.1 114))] [] h
  refine VW.aload_n d9_check_0 0 rfl ?_
  refine VW.getR (k := 0) (r := 115) d9_check_1 (oo_9 o9_114) rfl fl_9_7 ck9 ?_
  refine VW.bipush (v := 6) d9_check_4 bp_6 ?_
  refine VW.iald (j := 6) d9_check_6 (rf_9_0 o9_114) ib_6_380 il_6 ?_
  refine VW.istore_n (lo' := [(1, .int (h 115 6)), (0, .ref (γ.2.2.1 114))]) d9_check_7 (by decide) rfl ?_
  refine VW.aload_n d9_check_8 1 rfl ?_
  refine VW.getR (k := 0) (r := 115) d9_check_9 (oo_9 o9_114) rfl fl_9_7 ck9 ?_
  refine VW.bipush (v := 6) d9_check_12 bp_6 ?_
  refine VW.iconst (v := 0) d9_check_14 ic_0 ?_
  obtain ⟨h1, e2, hr⟩ := hlt hr
  refine VW.iast (j := 6) d9_check_15 (rf_9_0 o9_114) ib_6_380 il_6 ?_
  refine VW.heq e2 ?_
  refine VW.iconst (v := 0) d9_check_16 ic_0 ?_
  refine VW.istore_n (lo' := [(2, .int 0), (1, .int (h 115 6)), (0, .ref (γ.2.2.1 114))]) d9_check_17 (by decide) rfl ?_
  exact VW.sub [2, 1, 0] rfl (s_9_check_18 hd hR FU 0 h1 hr)
set_option maxRecDepth 100000 in
set_option maxHeartbeats 4000000 in
theorem s_9_common_6 {γ : Gm} {ε : En} {dd : Nat} (hd : 0 ≤ dd) {r : Int64} {h : Hp} (hR : RT γ ε (some .long) (QL r h)) : ∀ (n : Nat) (x4 : Int64) (x6 : Int64), f_9_common_6 n x4 x6 = some r → VW γ ε cX9_common RX9 10 dd 6 [(4, .long x4), (6, .long x6)] [] h := by
  intro n
  induction n with
  | zero =>
    intro x4 x6 hr
    exact nf hr
  | succ n ih =>
    intro x4 x6 hr
    rw [f_9_common_6] at hr
    refine VW.lload d9_common_6 1 rfl ?_
    refine VW.lconst (v := 0) d9_common_8 (by decide) ?_
    refine VW.lcmp d9_common_9 ?_
    refine VW.if_eq 31 d9_common_10 (by decide) (fun c1 => ?_) (fun c1 => ?_)
    · replace hr := ip hr c1
      refine VW.lload d9_common_31 0 rfl ?_
      exact VW.lret d9_common_33 hR (rLf hr)
    · replace hr := im hr c1
      refine VW.lload d9_common_13 0 rfl ?_
      refine VW.lload d9_common_15 1 rfl ?_
      obtain ⟨g2, hr⟩ := gdt hr
      refine VW.lrem d9_common_17 (of_decide_eq_true g2) ?_
      refine VW.lstore (lo' := [(8, .long (lrm x4 x6)), (4, .long x4), (6, .long x6)]) d9_common_18 (by decide) rfl ?_
      refine VW.lload d9_common_20 2 rfl ?_
      refine VW.lstore (lo' := [(4, .long x6), (8, .long (lrm x4 x6)), (6, .long x6)]) d9_common_22 (by decide) rfl ?_
      refine VW.lload d9_common_24 1 rfl ?_
      refine VW.lstore (lo' := [(6, .long (lrm x4 x6)), (4, .long x6), (8, .long (lrm x4 x6))]) d9_common_26 (by decide) rfl ?_
      refine VW.goto 6 d9_common_28 (by decide) ?_
      exact VW.sub [1, 0] rfl (ih x6 (lrm x4 x6) hr)
set_option maxRecDepth 100000 in
set_option maxHeartbeats 4000000 in
theorem c_9_common {γ : Gm} {dd : Nat} {x0 : Int64} {x2 : Int64} {h : Hp} {r : Int64} (hd : 0 ≤ dd) (hr : f_9_common x0 x2 = some r) : MC γ dd yX9_common cX9_common 10 (some .long) [.long x0, .long x2] h (QL r h) := by
  unfold f_9_common at hr
  refine MC.of mi_9_common (Nat.le_of_ble_eq_true rfl) (fun ε hR => ?_)
  show VW γ ε cX9_common RX9 10 dd 0 [(0, .long x0), (2, .long x2)] [] h
  refine VW.lload_n d9_common_0 0 rfl ?_
  refine VW.lstore (lo' := [(4, .long x0), (0, .long x0), (2, .long x2)]) d9_common_1 (by decide) rfl ?_
  refine VW.lload_n d9_common_3 2 rfl ?_
  refine VW.lstore (lo' := [(6, .long x2), (4, .long x0), (0, .long x0), (2, .long x2)]) d9_common_4 (by decide) rfl ?_
  exact VW.sub [1, 0] rfl (s_9_common_6 hd hR FU x0 x2 hr)
set_option maxRecDepth 100000 in
set_option maxHeartbeats 4000000 in
theorem s_9_takes0_12 {γ : Gm} {ε : En} {dd : Nat} (hd : 1 ≤ dd) {hz : Hp} {x1 : Int32} (hR : RT γ ε none (QV hz)) : ∀ (n : Nat) (x2 : Int32) (h : Hp), f_9_takes0_12 x1 n x2 h = some hz → VW γ ε cX9_takes0 RX9 3 dd 12 [(0, .ref (γ.2.2.1 114)), (1, .int x1), (2, .int x2)] [] h := by
  intro n
  induction n with
  | zero =>
    intro x2 h hr
    exact nf hr
  | succ n ih =>
    intro x2 h hr
    rw [f_9_takes0_12] at hr
    refine VW.iload_n d9_takes0_12 2 rfl ?_
    refine VW.iconst (v := 3) d9_takes0_13 ic_3 ?_
    refine VW.icmp_ge 38 d9_takes0_14 (by decide) (fun c5 => ?_) (fun c5 => ?_)
    · replace hr := ip hr c5
      exact VW.vret d9_takes0_38 hR (rV hr)
    · replace hr := im hr c5
      refine VW.aload_n d9_takes0_17 0 rfl ?_
      refine VW.getR (k := 12) (r := 119) d9_takes0_18 (oo_9 o9_114) rfl fl_9_22 ck9 ?_
      refine VW.iload_n d9_takes0_21 2 rfl ?_
      refine VW.aload_n d9_takes0_22 0 rfl ?_
      refine VW.iload_n d9_takes0_23 1 rfl ?_
      refine VW.bipush (v := 6) d9_takes0_24 bp_6 ?_
      refine VW.iload_n d9_takes0_26 2 rfl ?_
      refine VW.iadd d9_takes0_27 ?_
      obtain ⟨r7, e6, hr⟩ := bno hr
      refine VW.callV (As := [.int x1, .int (6 + x2)]) (st := [.int x2, .ref (γ.2.2.1 119)]) d9_takes0_28 mi_9_of cv_9_145 (oo_9 o9_114) ⟨rfl, rfl⟩ (by decide) (dl1 hd) _ rfl (Nat.le_of_ble_eq_true rfl) rfl (c_9_of (dl hd rfl) e6) (kI ?_)
      obtain ⟨g8, hr⟩ := gdt hr
      obtain ⟨h9, e10, hr⟩ := hlt hr
      refine VW.iast (j := (ci x2)) d9_takes0_31 (rf_9_12 o9_114) g8 rfl ?_
      refine VW.heq e10 ?_
      refine VW.iinc (w := 1) (lo' := [(2, .int (x2 + 1)), (0, .ref (γ.2.2.1 114)), (1, .int x1)]) d9_takes0_32 2 rfl ic_1 (by decide) rfl ?_
      refine VW.goto 12 d9_takes0_35 (by decide) ?_
      exact VW.sub [1, 2, 0] rfl (ih (x2 + 1) h9 hr)
set_option maxRecDepth 100000 in
set_option maxHeartbeats 4000000 in
theorem c_9_takes0 {γ : Gm} {dd : Nat} {x1 : Int32} {h : Hp} {hz : Hp} (hd : 1 ≤ dd) (hr : f_9_takes0 x1 h = some hz) : MC γ dd yX9_takes0 cX9_takes0 3 none [.ref (γ.2.2.1 114), .int x1] h (QV hz) := by
  unfold f_9_takes0 at hr
  refine MC.of mi_9_takes0 (Nat.le_of_ble_eq_true rfl) (fun ε hR => ?_)
  show VW γ ε cX9_takes0 RX9 3 dd 0 [(0, .ref (γ.2.2.1 114)), (1, .int x1)] [] h
  refine VW.aload_n d9_takes0_0 0 rfl ?_
  refine VW.aload_n d9_takes0_1 0 rfl ?_
  refine VW.iload_n d9_takes0_2 1 rfl ?_
  refine VW.iconst (v := 5) d9_takes0_3 ic_5 ?_
  obtain ⟨r2, e1, hr⟩ := bno hr
  refine VW.callV (As := [.int x1, .int 5]) (st := [.ref (γ.2.2.1 114)]) d9_takes0_4 mi_9_of cv_9_145 (oo_9 o9_114) ⟨rfl, rfl⟩ (by decide) (dl1 hd) _ rfl (Nat.le_of_ble_eq_true rfl) rfl (c_9_of (dl hd rfl) e1) (kI ?_)
  obtain ⟨h3, e4, hr⟩ := hlt hr
  refine VW.putI (k := 11) d9_takes0_7 (oo_9 o9_114) rfl fl_9_151 ck9 rfl rfl rfl rfl ?_
  refine VW.heq e4 ?_
  refine VW.iconst (v := 0) d9_takes0_10 ic_0 ?_
  refine VW.istore_n (lo' := [(2, .int 0), (0, .ref (γ.2.2.1 114)), (1, .int x1)]) d9_takes0_11 (by decide) rfl ?_
  exact VW.sub [1, 2, 0] rfl (s_9_takes0_12 hd hR FU 0 h3 hr)
set_option maxRecDepth 100000 in
set_option maxHeartbeats 4000000 in
theorem c_9_lossOf {γ : Gm} {dd : Nat} {x1 : Int32} {h : Hp} {r : Int32} {hz : Hp} (hd : 2 ≤ dd) (hr : f_9_lossOf x1 h = some (r, hz)) : MC γ dd yX9_lossOf cX9_lossOf 2 (some .int) [.ref (γ.2.2.1 114), .int x1] h (QI r hz) := by
  unfold f_9_lossOf at hr
  refine MC.of mi_9_lossOf (Nat.le_of_ble_eq_true rfl) (fun ε hR => ?_)
  show VW γ ε cX9_lossOf RX9 2 dd 0 [(0, .ref (γ.2.2.1 114)), (1, .int x1)] [] h
  refine VW.aload_n d9_lossOf_0 0 rfl ?_
  refine VW.iload_n d9_lossOf_1 1 rfl ?_
  obtain ⟨h2, e1, hr⟩ := bno hr
  refine VW.callV (As := [.int x1]) (st := []) d9_lossOf_2 mi_9_takes0 cv_9_160 (oo_9 o9_114) ⟨rfl, rfl⟩ (by decide) (dl1 hd) _ rfl (Nat.le_of_ble_eq_true rfl) rfl (c_9_takes0 (dl hd rfl) e1) (kV ?_)
  refine VW.aload_n d9_lossOf_5 0 rfl ?_
  refine VW.iload_n d9_lossOf_6 1 rfl ?_
  obtain ⟨r4, e3, hr⟩ := bno hr
  refine VW.callV (As := [.int x1]) (st := []) d9_lossOf_7 mi_9_lossNow cv_9_167 (oo_9 o9_114) ⟨rfl, rfl⟩ (by decide) (dl1 hd) _ rfl (Nat.le_of_ble_eq_true rfl) rfl (c_9_lossNow (dl hd rfl) e3) (kI ?_)
  exact VW.iret d9_lossOf_10 hR (rIw hr)
set_option maxRecDepth 100000 in
set_option maxHeartbeats 4000000 in
theorem c_9_offOf {γ : Gm} {dd : Nat} {x1 : Int32} {h : Hp} {r : Int32} {hz : Hp} (hd : 70 ≤ dd) (hr : f_9_offOf x1 h = some (r, hz)) : MC γ dd yX9_offOf cX9_offOf 2 (some .int) [.ref (γ.2.2.1 114), .int x1] h (QI r hz) := by
  unfold f_9_offOf at hr
  refine MC.of mi_9_offOf (Nat.le_of_ble_eq_true rfl) (fun ε hR => ?_)
  show VW γ ε cX9_offOf RX9 2 dd 0 [(0, .ref (γ.2.2.1 114)), (1, .int x1)] [] h
  refine VW.aload_n d9_offOf_0 0 rfl ?_
  refine VW.iload_n d9_offOf_1 1 rfl ?_
  obtain ⟨h2, e1, hr⟩ := bno hr
  refine VW.callV (As := [.int x1]) (st := []) d9_offOf_2 mi_9_takes0 cv_9_160 (oo_9 o9_114) ⟨rfl, rfl⟩ (by decide) (dl1 hd) _ rfl (Nat.le_of_ble_eq_true rfl) rfl (c_9_takes0 (dl hd rfl) e1) (kV ?_)
  refine VW.aload_n d9_offOf_5 0 rfl ?_
  refine VW.iload_n d9_offOf_6 1 rfl ?_
  obtain ⟨r4, h5, e3, hr⟩ := bno2 hr
  refine VW.callV (As := [.int x1]) (st := []) d9_offOf_7 mi_9_offNow cv_9_164 (oo_9 o9_114) ⟨rfl, rfl⟩ (by decide) (dl1 hd) _ rfl (Nat.le_of_ble_eq_true rfl) rfl (c_9_offNow (dl hd rfl) e3) (kI ?_)
  exact VW.iret d9_offOf_10 hR (rIw hr)
set_option maxRecDepth 100000 in
set_option maxHeartbeats 4000000 in
theorem c_9_isNoticed {γ : Gm} {dd : Nat} {x1 : Int32} {x2 : Int32} {h : Hp} {r : Int32} {hz : Hp} (hd : 71 ≤ dd) (hr : f_9_isNoticed x1 x2 h = some (r, hz)) : MC γ dd yX9_isNoticed cX9_isNoticed 3 (some .boolean) [.ref (γ.2.2.1 114), .int x1, .int x2] h (QI r hz) := by
  unfold f_9_isNoticed at hr
  refine MC.of mi_9_isNoticed (Nat.le_of_ble_eq_true rfl) (fun ε hR => ?_)
  show VW γ ε cX9_isNoticed RX9 3 dd 0 [(0, .ref (γ.2.2.1 114)), (1, .int x1), (2, .int x2)] [] h
  refine VW.aload_n d9_isNoticed_0 0 rfl ?_
  refine VW.iconst (v := 1) d9_isNoticed_1 ic_1 ?_
  refine VW.aload_n d9_isNoticed_2 0 rfl ?_
  refine VW.iload_n d9_isNoticed_3 1 rfl ?_
  obtain ⟨r2, h3, e1, hr⟩ := bno2 hr
  refine VW.callV (As := [.int x1]) (st := [.int 1, .ref (γ.2.2.1 114)]) d9_isNoticed_4 mi_9_offOf cv_9_170 (oo_9 o9_114) ⟨rfl, rfl⟩ (by decide) (dl1 hd) _ rfl (Nat.le_of_ble_eq_true rfl) rfl (c_9_offOf (dl hd rfl) e1) (kI ?_)
  refine VW.aload_n d9_isNoticed_7 0 rfl ?_
  refine VW.iload_n d9_isNoticed_8 1 rfl ?_
  obtain ⟨r5, h6, e4, hr⟩ := bno2 hr
  refine VW.callV (As := [.int x1]) (st := [.int r2, .int 1, .ref (γ.2.2.1 114)]) d9_isNoticed_9 mi_9_lossOf cv_9_173 (oo_9 o9_114) ⟨rfl, rfl⟩ (by decide) (dl1 hd) _ rfl (Nat.le_of_ble_eq_true rfl) rfl (c_9_lossOf (dl hd rfl) e4) (kI ?_)
  refine VW.iload_n d9_isNoticed_12 2 rfl ?_
  obtain ⟨r8, h9, e7, hr⟩ := bno2 hr
  refine VW.callV (As := [.int 1, .int r2, .int r5, .int x2]) (st := []) d9_isNoticed_13 mi_9_textGives cv_9_119 (oo_9 o9_114) ⟨rfl, rfl⟩ (by decide) (dl1 hd) _ rfl (Nat.le_of_ble_eq_true rfl) rfl (c_9_textGives (dl hd rfl) e7) (kI ?_)
  refine VW.if_eq 23 d9_isNoticed_16 (by decide) (fun c10 => ?_) (fun c10 => ?_)
  · replace hr := ip hr c10
    refine VW.iconst (v := 0) d9_isNoticed_23 ic_0 ?_
    exact VW.zret d9_isNoticed_24 hR rfl (rIw hr)
  · replace hr := im hr c10
    refine VW.iconst (v := 1) d9_isNoticed_19 ic_1 ?_
    refine VW.goto 24 d9_isNoticed_20 (by decide) ?_
    exact VW.zret d9_isNoticed_24 hR rfl (rIw hr)
set_option maxRecDepth 100000 in
set_option maxHeartbeats 4000000 in
theorem s_9_sumOf_4 {γ : Gm} {ε : En} {dd : Nat} (hd : 72 ≤ dd) {r : Int32} {hz : Hp} {x1 : Int32} (hR : RT γ ε (some .int) (QI r hz)) : ∀ (n : Nat) (x2 : Int32) (x3 : Int32) (h : Hp), f_9_sumOf_4 x1 n x2 x3 h = some (r, hz) → VW γ ε cX9_sumOf RX9 4 dd 4 [(0, .ref (γ.2.2.1 114)), (1, .int x1), (2, .int x2), (3, .int x3)] [] h := by
  intro n
  induction n with
  | zero =>
    intro x2 x3 h hr
    exact nf hr
  | succ n ih =>
    intro x2 x3 h hr
    rw [f_9_sumOf_4] at hr
    refine VW.iload_n d9_sumOf_4 3 rfl ?_
    refine VW.aload_n d9_sumOf_5 0 rfl ?_
    refine VW.getR (k := 0) (r := 115) d9_sumOf_6 (oo_9 o9_114) rfl fl_9_7 ck9 ?_
    refine VW.iconst (v := 1) d9_sumOf_9 ic_1 ?_
    refine VW.iald (j := 1) d9_sumOf_10 (rf_9_0 o9_114) ib_1_380 il_1 ?_
    refine VW.icmp_ge 68 d9_sumOf_11 (by decide) (fun c1 => ?_) (fun c1 => ?_)
    · replace hr := ip hr c1
      refine VW.iload_n d9_sumOf_68 2 rfl ?_
      exact VW.iret d9_sumOf_69 hR (rIw hr)
    · replace hr := im hr c1
      refine VW.iload_n d9_sumOf_14 2 rfl ?_
      refine VW.iload_n d9_sumOf_15 1 rfl ?_
      refine VW.iconst (v := 4) d9_sumOf_16 ic_4 ?_
      refine VW.icmp_ne 28 d9_sumOf_17 (by decide) (fun c2 => ?_) (fun c2 => ?_)
      · replace hr := ip hr c2
        refine VW.aload_n d9_sumOf_20 0 rfl ?_
        refine VW.iload_n d9_sumOf_21 3 rfl ?_
        obtain ⟨r4, h5, e3, hr⟩ := bno2 hr
        refine VW.callV (As := [.int x3]) (st := [.int x2]) d9_sumOf_22 mi_9_offOf cv_9_170 (oo_9 o9_114) ⟨rfl, rfl⟩ (by decide) (dl1 hd) _ rfl (Nat.le_of_ble_eq_true rfl) rfl (c_9_offOf (dl hd rfl) e3) (kI ?_)
        refine VW.goto 60 d9_sumOf_25 (by decide) ?_
        refine VW.iadd d9_sumOf_60 ?_
        refine VW.istore_n (lo' := [(2, .int (x2 + r4)), (0, .ref (γ.2.2.1 114)), (1, .int x1), (3, .int x3)]) d9_sumOf_61 (by decide) rfl ?_
        refine VW.iinc (w := 1) (lo' := [(3, .int (x3 + 1)), (2, .int (x2 + r4)), (0, .ref (γ.2.2.1 114)), (1, .int x1)]) d9_sumOf_62 3 rfl ic_1 (by decide) rfl ?_
        refine VW.goto 4 d9_sumOf_65 (by decide) ?_
        exact VW.sub [2, 3, 1, 0] rfl (ih (x2 + r4) (x3 + 1) h5 hr)
      · replace hr := im hr c2
        refine VW.iload_n d9_sumOf_28 1 rfl ?_
        refine VW.iconst (v := 5) d9_sumOf_29 ic_5 ?_
        refine VW.icmp_ne 41 d9_sumOf_30 (by decide) (fun c6 => ?_) (fun c6 => ?_)
        · replace hr := ip hr c6
          refine VW.aload_n d9_sumOf_33 0 rfl ?_
          refine VW.iload_n d9_sumOf_34 3 rfl ?_
          obtain ⟨r8, h9, e7, hr⟩ := bno2 hr
          refine VW.callV (As := [.int x3]) (st := [.int x2]) d9_sumOf_35 mi_9_lossOf cv_9_173 (oo_9 o9_114) ⟨rfl, rfl⟩ (by decide) (dl1 hd) _ rfl (Nat.le_of_ble_eq_true rfl) rfl (c_9_lossOf (dl hd rfl) e7) (kI ?_)
          refine VW.goto 60 d9_sumOf_38 (by decide) ?_
          refine VW.iadd d9_sumOf_60 ?_
          refine VW.istore_n (lo' := [(2, .int (x2 + r8)), (0, .ref (γ.2.2.1 114)), (1, .int x1), (3, .int x3)]) d9_sumOf_61 (by decide) rfl ?_
          refine VW.iinc (w := 1) (lo' := [(3, .int (x3 + 1)), (2, .int (x2 + r8)), (0, .ref (γ.2.2.1 114)), (1, .int x1)]) d9_sumOf_62 3 rfl ic_1 (by decide) rfl ?_
          refine VW.goto 4 d9_sumOf_65 (by decide) ?_
          exact VW.sub [2, 3, 1, 0] rfl (ih (x2 + r8) (x3 + 1) h9 hr)
        · replace hr := im hr c6
          refine VW.aload_n d9_sumOf_41 0 rfl ?_
          refine VW.iload_n d9_sumOf_42 3 rfl ?_
          refine VW.aload_n d9_sumOf_43 0 rfl ?_
          refine VW.getR (k := 0) (r := 115) d9_sumOf_44 (oo_9 o9_114) rfl fl_9_7 ck9 ?_
          refine VW.iconst (v := 2) d9_sumOf_47 ic_2 ?_
          refine VW.iald (j := 2) d9_sumOf_48 (rf_9_0 o9_114) ib_2_380 il_2 ?_
          obtain ⟨r11, h12, e10, hr⟩ := bno2 hr
          refine VW.callV (As := [.int x3, .int (h 115 2)]) (st := [.int x2]) d9_sumOf_49 mi_9_isNoticed cv_9_189 (oo_9 o9_114) ⟨rfl, rfl⟩ (by decide) (dl1 hd) _ rfl (Nat.le_of_ble_eq_true rfl) rfl (c_9_isNoticed (dl hd rfl) e10) (kI ?_)
          refine VW.if_eq 59 d9_sumOf_52 (by decide) (fun c13 => ?_) (fun c13 => ?_)
          · replace hr := ip hr c13
            refine VW.iconst (v := 0) d9_sumOf_59 ic_0 ?_
            refine VW.iadd d9_sumOf_60 ?_
            refine VW.istore_n (lo' := [(2, .int (x2 + 0)), (0, .ref (γ.2.2.1 114)), (1, .int x1), (3, .int x3)]) d9_sumOf_61 (by decide) rfl ?_
            refine VW.iinc (w := 1) (lo' := [(3, .int (x3 + 1)), (2, .int (x2 + 0)), (0, .ref (γ.2.2.1 114)), (1, .int x1)]) d9_sumOf_62 3 rfl ic_1 (by decide) rfl ?_
            refine VW.goto 4 d9_sumOf_65 (by decide) ?_
            exact VW.sub [2, 3, 1, 0] rfl (ih (x2 + 0) (x3 + 1) h12 hr)
          · replace hr := im hr c13
            refine VW.iconst (v := 1) d9_sumOf_55 ic_1 ?_
            refine VW.goto 60 d9_sumOf_56 (by decide) ?_
            refine VW.iadd d9_sumOf_60 ?_
            refine VW.istore_n (lo' := [(2, .int (x2 + 1)), (0, .ref (γ.2.2.1 114)), (1, .int x1), (3, .int x3)]) d9_sumOf_61 (by decide) rfl ?_
            refine VW.iinc (w := 1) (lo' := [(3, .int (x3 + 1)), (2, .int (x2 + 1)), (0, .ref (γ.2.2.1 114)), (1, .int x1)]) d9_sumOf_62 3 rfl ic_1 (by decide) rfl ?_
            refine VW.goto 4 d9_sumOf_65 (by decide) ?_
            exact VW.sub [2, 3, 1, 0] rfl (ih (x2 + 1) (x3 + 1) h12 hr)
set_option maxRecDepth 100000 in
set_option maxHeartbeats 4000000 in
theorem c_9_sumOf {γ : Gm} {dd : Nat} {x1 : Int32} {h : Hp} {r : Int32} {hz : Hp} (hd : 72 ≤ dd) (hr : f_9_sumOf x1 h = some (r, hz)) : MC γ dd yX9_sumOf cX9_sumOf 4 (some .int) [.ref (γ.2.2.1 114), .int x1] h (QI r hz) := by
  unfold f_9_sumOf at hr
  refine MC.of mi_9_sumOf (Nat.le_of_ble_eq_true rfl) (fun ε hR => ?_)
  show VW γ ε cX9_sumOf RX9 4 dd 0 [(0, .ref (γ.2.2.1 114)), (1, .int x1)] [] h
  refine VW.iconst (v := 0) d9_sumOf_0 ic_0 ?_
  refine VW.istore_n (lo' := [(2, .int 0), (0, .ref (γ.2.2.1 114)), (1, .int x1)]) d9_sumOf_1 (by decide) rfl ?_
  refine VW.iconst (v := 0) d9_sumOf_2 ic_0 ?_
  refine VW.istore_n (lo' := [(3, .int 0), (2, .int 0), (0, .ref (γ.2.2.1 114)), (1, .int x1)]) d9_sumOf_3 (by decide) rfl ?_
  exact VW.sub [2, 3, 1, 0] rfl (s_9_sumOf_4 hd hR FU 0 0 h hr)
set_option maxRecDepth 100000 in
set_option maxHeartbeats 4000000 in
theorem c_9_count {γ : Gm} {dd : Nat} {x1 : Int32} {h : Hp} {r : Int32} {hz : Hp} (hd : 73 ≤ dd) (hr : f_9_count x1 h = some (r, hz)) : MC γ dd yX9_count cX9_count 2 (some .int) [.ref (γ.2.2.1 114), .int x1] h (QI r hz) := by
  unfold f_9_count at hr
  refine MC.of mi_9_count (Nat.le_of_ble_eq_true rfl) (fun ε hR => ?_)
  show VW γ ε cX9_count RX9 2 dd 0 [(0, .ref (γ.2.2.1 114)), (1, .int x1)] [] h
  refine VW.iload_n d9_count_0 1 rfl ?_
  by_cases c1 : x1 = 0
  · replace hr := ip hr c1
    refine VW.tableIn (off := 59) 60 d9_count_1 (by rw [c1]; decide) (by rw [c1]; decide) (by rw [c1]; decide) (by decide) ?_
    refine VW.aload_n d9_count_60 0 rfl ?_
    refine VW.getR (k := 0) (r := 115) d9_count_61 (oo_9 o9_114) rfl fl_9_7 ck9 ?_
    refine VW.iconst (v := 0) d9_count_64 ic_0 ?_
    refine VW.iald (j := 0) d9_count_65 (rf_9_0 o9_114) ib_0_380 il_0 ?_
    exact VW.iret d9_count_66 hR (rIw hr)
  · replace hr := im hr c1
    by_cases c2 : x1 = 1
    · replace hr := ip hr c2
      refine VW.tableIn (off := 66) 67 d9_count_1 (by rw [c2]; decide) (by rw [c2]; decide) (by rw [c2]; decide) (by decide) ?_
      refine VW.aload_n d9_count_67 0 rfl ?_
      refine VW.getR (k := 0) (r := 115) d9_count_68 (oo_9 o9_114) rfl fl_9_7 ck9 ?_
      refine VW.iconst (v := 1) d9_count_71 ic_1 ?_
      refine VW.iald (j := 1) d9_count_72 (rf_9_0 o9_114) ib_1_380 il_1 ?_
      exact VW.iret d9_count_73 hR (rIw hr)
    · replace hr := im hr c2
      by_cases c3 : x1 = 2
      · replace hr := ip hr c3
        refine VW.tableIn (off := 73) 74 d9_count_1 (by rw [c3]; decide) (by rw [c3]; decide) (by rw [c3]; decide) (by decide) ?_
        refine VW.aload_n d9_count_74 0 rfl ?_
        refine VW.getR (k := 0) (r := 115) d9_count_75 (oo_9 o9_114) rfl fl_9_7 ck9 ?_
        refine VW.iconst (v := 2) d9_count_78 ic_2 ?_
        refine VW.iald (j := 2) d9_count_79 (rf_9_0 o9_114) ib_2_380 il_2 ?_
        exact VW.iret d9_count_80 hR (rIw hr)
      · replace hr := im hr c3
        by_cases c4 : x1 = 3
        · replace hr := ip hr c4
          refine VW.tableIn (off := 80) 81 d9_count_1 (by rw [c4]; decide) (by rw [c4]; decide) (by rw [c4]; decide) (by decide) ?_
          refine VW.aload_n d9_count_81 0 rfl ?_
          refine VW.getR (k := 0) (r := 115) d9_count_82 (oo_9 o9_114) rfl fl_9_7 ck9 ?_
          refine VW.iconst (v := 3) d9_count_85 ic_3 ?_
          refine VW.iald (j := 3) d9_count_86 (rf_9_0 o9_114) ib_3_380 il_3 ?_
          exact VW.iret d9_count_87 hR (rIw hr)
        · replace hr := im hr c4
          by_cases c5 : x1 = 4
          · replace hr := ip hr c5
            refine VW.tableIn (off := 87) 88 d9_count_1 (by rw [c5]; decide) (by rw [c5]; decide) (by rw [c5]; decide) (by decide) ?_
            refine VW.aload_n d9_count_88 0 rfl ?_
            refine VW.iload_n d9_count_89 1 rfl ?_
            obtain ⟨r7, h8, e6, hr⟩ := bno2 hr
            refine VW.callV (As := [.int x1]) (st := []) d9_count_90 mi_9_sumOf cv_9_275 (oo_9 o9_114) ⟨rfl, rfl⟩ (by decide) (dl1 hd) _ rfl (Nat.le_of_ble_eq_true rfl) rfl (c_9_sumOf (dl hd rfl) e6) (kI ?_)
            exact VW.iret d9_count_93 hR (rIw hr)
          · replace hr := im hr c5
            by_cases c9 : x1 = 5
            · replace hr := ip hr c9
              refine VW.tableIn (off := 87) 88 d9_count_1 (by rw [c9]; decide) (by rw [c9]; decide) (by rw [c9]; decide) (by decide) ?_
              refine VW.aload_n d9_count_88 0 rfl ?_
              refine VW.iload_n d9_count_89 1 rfl ?_
              obtain ⟨r11, h12, e10, hr⟩ := bno2 hr
              refine VW.callV (As := [.int x1]) (st := []) d9_count_90 mi_9_sumOf cv_9_275 (oo_9 o9_114) ⟨rfl, rfl⟩ (by decide) (dl1 hd) _ rfl (Nat.le_of_ble_eq_true rfl) rfl (c_9_sumOf (dl hd rfl) e10) (kI ?_)
              exact VW.iret d9_count_93 hR (rIw hr)
            · replace hr := im hr c9
              by_cases c13 : x1 = 6
              · replace hr := ip hr c13
                refine VW.tableIn (off := 87) 88 d9_count_1 (by rw [c13]; decide) (by rw [c13]; decide) (by rw [c13]; decide) (by decide) ?_
                refine VW.aload_n d9_count_88 0 rfl ?_
                refine VW.iload_n d9_count_89 1 rfl ?_
                obtain ⟨r15, h16, e14, hr⟩ := bno2 hr
                refine VW.callV (As := [.int x1]) (st := []) d9_count_90 mi_9_sumOf cv_9_275 (oo_9 o9_114) ⟨rfl, rfl⟩ (by decide) (dl1 hd) _ rfl (Nat.le_of_ble_eq_true rfl) rfl (c_9_sumOf (dl hd rfl) e14) (kI ?_)
                exact VW.iret d9_count_93 hR (rIw hr)
              · replace hr := im hr c13
                by_cases c17 : x1 = 7
                · replace hr := ip hr c17
                  refine VW.tableIn (off := 93) 94 d9_count_1 (by rw [c17]; decide) (by rw [c17]; decide) (by rw [c17]; decide) (by decide) ?_
                  refine VW.aload_n d9_count_94 0 rfl ?_
                  refine VW.getR (k := 0) (r := 115) d9_count_95 (oo_9 o9_114) rfl fl_9_7 ck9 ?_
                  refine VW.iconst (v := 5) d9_count_98 ic_5 ?_
                  refine VW.iald (j := 5) d9_count_99 (rf_9_0 o9_114) ib_5_380 il_5 ?_
                  exact VW.iret d9_count_100 hR (rIw hr)
                · replace hr := im hr c17
                  by_cases c18 : x1 = 8
                  · replace hr := ip hr c18
                    refine VW.tableIn (off := 100) 101 d9_count_1 (by rw [c18]; decide) (by rw [c18]; decide) (by rw [c18]; decide) (by decide) ?_
                    refine VW.aload_n d9_count_101 0 rfl ?_
                    refine VW.getR (k := 0) (r := 115) d9_count_102 (oo_9 o9_114) rfl fl_9_7 ck9 ?_
                    refine VW.bipush (v := 6) d9_count_105 bp_6 ?_
                    refine VW.iald (j := 6) d9_count_107 (rf_9_0 o9_114) ib_6_380 il_6 ?_
                    exact VW.iret d9_count_108 hR (rIw hr)
                  · replace hr := im hr c18
                    by_cases c19 : x1 = 9
                    · replace hr := ip hr c19
                      refine VW.tableIn (off := 108) 109 d9_count_1 (by rw [c19]; decide) (by rw [c19]; decide) (by rw [c19]; decide) (by decide) ?_
                      refine VW.aload_n d9_count_109 0 rfl ?_
                      refine VW.getI (k := 19) d9_count_110 (oo_9 o9_114) rfl fl_9_245 ck9 ?_
                      exact VW.iret d9_count_113 hR (rIw hr)
                    · replace hr := im hr c19
                      by_cases c20 : x1 = 10
                      · replace hr := ip hr c20
                        refine VW.tableIn (off := 113) 114 d9_count_1 (by rw [c20]; decide) (by rw [c20]; decide) (by rw [c20]; decide) (by decide) ?_
                        refine VW.aload_n d9_count_114 0 rfl ?_
                        refine VW.getR (k := 0) (r := 115) d9_count_115 (oo_9 o9_114) rfl fl_9_7 ck9 ?_
                        refine VW.iconst (v := 4) d9_count_118 ic_4 ?_
                        refine VW.iald (j := 4) d9_count_119 (rf_9_0 o9_114) ib_4_380 il_4 ?_
                        exact VW.iret d9_count_120 hR (rIw hr)
                      · replace hr := im hr c20
                        have tc1 := lv_neT c1 (by decide : (0 : Int32).toInt = 0)
                        have tc2 := lv_neT c2 (by decide : (1 : Int32).toInt = 1)
                        have tc3 := lv_neT c3 (by decide : (2 : Int32).toInt = 2)
                        have tc4 := lv_neT c4 (by decide : (3 : Int32).toInt = 3)
                        have tc5 := lv_neT c5 (by decide : (4 : Int32).toInt = 4)
                        have tc9 := lv_neT c9 (by decide : (5 : Int32).toInt = 5)
                        have tc13 := lv_neT c13 (by decide : (6 : Int32).toInt = 6)
                        have tc17 := lv_neT c17 (by decide : (7 : Int32).toInt = 7)
                        have tc18 := lv_neT c18 (by decide : (8 : Int32).toInt = 8)
                        have tc19 := lv_neT c19 (by decide : (9 : Int32).toInt = 9)
                        have tc20 := lv_neT c20 (by decide : (10 : Int32).toInt = 10)
                        refine VW.tableOut 121 d9_count_1 (by omega) (by decide) ?_
                        refine VW.aload_n d9_count_121 0 rfl ?_
                        refine VW.iconst (v := 1) d9_count_122 ic_1 ?_
                        obtain ⟨r22, h23, e21, hr⟩ := bno2 hr
                        refine VW.callV (As := [.int 1]) (st := []) d9_count_123 mi_9_finds cv_9_107 (oo_9 o9_114) ⟨rfl, rfl⟩ (by decide) (dl1 hd) _ rfl (Nat.le_of_ble_eq_true rfl) rfl (c_9_finds (dl hd rfl) e21) (kI ?_)
                        exact VW.iret d9_count_126 hR (rIw hr)
set_option maxRecDepth 100000 in
set_option maxHeartbeats 4000000 in
theorem c_9_dearest {γ : Gm} {dd : Nat} {x1 : Int32} {x2 : Int32} {x3 : Int32} {h : Hp} {r : Int32} {hz : Hp} (hd : 73 ≤ dd) (hr : f_9_dearest x1 x2 x3 h = some (r, hz)) : MC γ dd yX9_dearest cX9_dearest 4 (some .int) [.ref (γ.2.2.1 114), .int x1, .int x2, .int x3] h (QI r hz) := by
  unfold f_9_dearest at hr
  refine MC.of mi_9_dearest (Nat.le_of_ble_eq_true rfl) (fun ε hR => ?_)
  show VW γ ε cX9_dearest RX9 4 dd 0 [(0, .ref (γ.2.2.1 114)), (1, .int x1), (2, .int x2), (3, .int x3)] [] h
  refine VW.aload_n d9_dearest_0 0 rfl ?_
  refine VW.iload_n d9_dearest_1 1 rfl ?_
  obtain ⟨r2, e1, hr⟩ := bno hr
  refine VW.callV (As := [.int x1]) (st := []) d9_dearest_2 mi_9_isLine cv_9_184 (oo_9 o9_114) ⟨rfl, rfl⟩ (by decide) (dl1 hd) _ rfl (Nat.le_of_ble_eq_true rfl) rfl (c_9_isLine (dl hd rfl) e1) (kI ?_)
  refine VW.if_eq 34 d9_dearest_5 (by decide) (fun c3 => ?_) (fun c3 => ?_)
  · replace hr := ip hr c3
    refine VW.aload_n d9_dearest_34 0 rfl ?_
    refine VW.iconst (v := 1) d9_dearest_35 ic_1 ?_
    obtain ⟨r5, h6, e4, hr⟩ := bno2 hr
    refine VW.callV (As := [.int 1]) (st := []) d9_dearest_36 mi_9_finds cv_9_107 (oo_9 o9_114) ⟨rfl, rfl⟩ (by decide) (dl1 hd) _ rfl (Nat.le_of_ble_eq_true rfl) rfl (c_9_finds (dl hd rfl) e4) (kI ?_)
    exact VW.iret d9_dearest_39 hR (rIw hr)
  · replace hr := im hr c3
    refine VW.iload_n d9_dearest_8 2 rfl ?_
    refine VW.i2l d9_dearest_9 ?_
    refine VW.lconst (v := 0) d9_dearest_10 (by decide) ?_
    refine VW.ldc2 (v := 99) d9_dearest_11 kc_9_134 ?_
    refine VW.callS (As := [.long (Int32.toInt64 x2), .long 0, .long 99]) (st := []) d9_dearest_14 mi_9_in cs_9_44 (by decide) (dl1 hd) _ rfl (Nat.le_of_ble_eq_true rfl) rfl (c_9_in (dl hd rfl) rfl) (kI ?_)
    refine VW.if_eq 34 d9_dearest_17 (by decide) (fun c7 => ?_) (fun c7 => ?_)
    · replace hr := ip hr c7
      refine VW.aload_n d9_dearest_34 0 rfl ?_
      refine VW.iconst (v := 1) d9_dearest_35 ic_1 ?_
      obtain ⟨r9, h10, e8, hr⟩ := bno2 hr
      refine VW.callV (As := [.int 1]) (st := []) d9_dearest_36 mi_9_finds cv_9_107 (oo_9 o9_114) ⟨rfl, rfl⟩ (by decide) (dl1 hd) _ rfl (Nat.le_of_ble_eq_true rfl) rfl (c_9_finds (dl hd rfl) e8) (kI ?_)
      exact VW.iret d9_dearest_39 hR (rIw hr)
    · replace hr := im hr c7
      refine VW.iload_n d9_dearest_20 3 rfl ?_
      refine VW.i2l d9_dearest_21 ?_
      refine VW.ldc2 (v := (-2)) d9_dearest_22 kc_9_225 ?_
      refine VW.ldc2 (v := 2) d9_dearest_25 kc_9_139 ?_
      refine VW.callS (As := [.long (Int32.toInt64 x3), .long (-2), .long 2]) (st := []) d9_dearest_28 mi_9_in cs_9_44 (by decide) (dl1 hd) _ rfl (Nat.le_of_ble_eq_true rfl) rfl (c_9_in (dl hd rfl) rfl) (kI ?_)
      refine VW.if_ne 40 d9_dearest_31 (by decide) (fun c11 => ?_) (fun c11 => ?_)
      · replace hr := ip hr c11
        refine VW.aload_n d9_dearest_34 0 rfl ?_
        refine VW.iconst (v := 1) d9_dearest_35 ic_1 ?_
        obtain ⟨r13, h14, e12, hr⟩ := bno2 hr
        refine VW.callV (As := [.int 1]) (st := []) d9_dearest_36 mi_9_finds cv_9_107 (oo_9 o9_114) ⟨rfl, rfl⟩ (by decide) (dl1 hd) _ rfl (Nat.le_of_ble_eq_true rfl) rfl (c_9_finds (dl hd rfl) e12) (kI ?_)
        exact VW.iret d9_dearest_39 hR (rIw hr)
      · replace hr := im hr c11
        refine VW.aload_n d9_dearest_40 0 rfl ?_
        refine VW.iload_n d9_dearest_41 1 rfl ?_
        refine VW.iconst (v := 1) d9_dearest_42 ic_1 ?_
        refine VW.iload_n d9_dearest_43 2 rfl ?_
        obtain ⟨h16, e15, hr⟩ := bno hr
        refine VW.callV (As := [.int x1, .int 1, .int x2]) (st := []) d9_dearest_44 mi_9_seeks cv_9_227 (oo_9 o9_114) ⟨rfl, rfl⟩ (by decide) (dl1 hd) _ rfl (Nat.le_of_ble_eq_true rfl) rfl (c_9_seeks (dl hd rfl) e15) (kV ?_)
        refine VW.aload_n d9_dearest_47 0 rfl ?_
        refine VW.iload_n d9_dearest_48 3 rfl ?_
        obtain ⟨r18, h19, e17, hr⟩ := bno2 hr
        refine VW.callV (As := [.int x3]) (st := []) d9_dearest_49 mi_9_foundTold cv_9_230 (oo_9 o9_114) ⟨rfl, rfl⟩ (by decide) (dl1 hd) _ rfl (Nat.le_of_ble_eq_true rfl) rfl (c_9_foundTold (dl hd rfl) e17) (kI ?_)
        exact VW.iret d9_dearest_52 hR (rIw hr)
set_option maxRecDepth 100000 in
set_option maxHeartbeats 4000000 in
theorem c_9_drawn {γ : Gm} {dd : Nat} {h : Hp} {r : Int32} {hz : Hp} (hd : 0 ≤ dd) (hr : f_9_drawn h = some (r, hz)) : MC γ dd yX9_drawn cX9_drawn 1 (some .int) [.ref (γ.2.2.1 114)] h (QI r hz) := by
  unfold f_9_drawn at hr
  refine MC.of mi_9_drawn (Nat.le_of_ble_eq_true rfl) (fun ε hR => ?_)
  show VW γ ε cX9_drawn RX9 1 dd 0 [(0, .ref (γ.2.2.1 114))] [] h
  refine VW.aload_n d9_drawn_0 0 rfl ?_
  refine VW.getR (k := 0) (r := 115) d9_drawn_1 (oo_9 o9_114) rfl fl_9_7 ck9 ?_
  refine VW.iconst (v := 4) d9_drawn_4 ic_4 ?_
  refine VW.aload_n d9_drawn_5 0 rfl ?_
  refine VW.getR (k := 0) (r := 115) d9_drawn_6 (oo_9 o9_114) rfl fl_9_7 ck9 ?_
  refine VW.iconst (v := 4) d9_drawn_9 ic_4 ?_
  refine VW.iald (j := 4) d9_drawn_10 (rf_9_0 o9_114) ib_4_380 il_4 ?_
  refine VW.ldc (v := 1103515245) d9_drawn_11 kc_9_200 ?_
  refine VW.imul d9_drawn_13 ?_
  refine VW.sipush (v := 12345) d9_drawn_14 sp_12345 ?_
  refine VW.iadd d9_drawn_17 ?_
  obtain ⟨h1, e2, hr⟩ := hlt hr
  refine VW.iast (j := 4) d9_drawn_18 (rf_9_0 o9_114) ib_4_380 il_4 ?_
  refine VW.heq e2 ?_
  refine VW.aload_n d9_drawn_19 0 rfl ?_
  refine VW.getR (k := 0) (r := 115) d9_drawn_20 (oo_9 o9_114) rfl fl_9_7 ck9 ?_
  refine VW.iconst (v := 4) d9_drawn_23 ic_4 ?_
  refine VW.iald (j := 4) d9_drawn_24 (rf_9_0 o9_114) ib_4_380 il_4 ?_
  refine VW.bipush (v := 8) d9_drawn_25 bp_8 ?_
  refine VW.iushr d9_drawn_27 ?_
  exact VW.iret d9_drawn_28 hR (rIw hr)
set_option maxRecDepth 100000 in
set_option maxHeartbeats 4000000 in
theorem c_9_ran {γ : Gm} {dd : Nat} {x1 : Int32} {h : Hp} {hz : Hp} (hd : 0 ≤ dd) (hr : f_9_ran x1 h = some hz) : MC γ dd yX9_ran cX9_ran 2 none [.ref (γ.2.2.1 114), .int x1] h (QV hz) := by
  unfold f_9_ran at hr
  refine MC.of mi_9_ran (Nat.le_of_ble_eq_true rfl) (fun ε hR => ?_)
  show VW γ ε cX9_ran RX9 2 dd 0 [(0, .ref (γ.2.2.1 114)), (1, .int x1)] [] h
  refine VW.aload_n d9_ran_0 0 rfl ?_
  refine VW.getI (k := 19) d9_ran_1 (oo_9 o9_114) rfl fl_9_245 ck9 ?_
  refine VW.bipush (v := 40) d9_ran_4 bp_40 ?_
  refine VW.icmp_ge 29 d9_ran_6 (by decide) (fun c1 => ?_) (fun c1 => ?_)
  · replace hr := ip hr c1
    exact VW.vret d9_ran_29 hR (rV hr)
  · replace hr := im hr c1
    refine VW.aload_n d9_ran_9 0 rfl ?_
    refine VW.getR (k := 18) (r := 121) d9_ran_10 (oo_9 o9_114) rfl fl_9_28 ck9 ?_
    refine VW.aload_n d9_ran_13 0 rfl ?_
    refine VW.getI (k := 19) d9_ran_14 (oo_9 o9_114) rfl fl_9_245 ck9 ?_
    refine VW.iload_n d9_ran_17 1 rfl ?_
    obtain ⟨g2, hr⟩ := gdt hr
    obtain ⟨h3, e4, hr⟩ := hlt hr
    refine VW.iast (j := (ci (h 114 19))) d9_ran_18 (rf_9_18 o9_114) g2 rfl ?_
    refine VW.heq e4 ?_
    refine VW.aload_n d9_ran_19 0 rfl ?_
    refine VW.dup d9_ran_20 rfl ?_
    refine VW.getI (k := 19) d9_ran_21 (oo_9 o9_114) rfl fl_9_245 ck9 ?_
    refine VW.iconst (v := 1) d9_ran_24 ic_1 ?_
    refine VW.iadd d9_ran_25 ?_
    obtain ⟨h5, e6, hr⟩ := hlt hr
    refine VW.putI (k := 19) d9_ran_26 (oo_9 o9_114) rfl fl_9_245 ck9 rfl rfl rfl rfl ?_
    refine VW.heq e6 ?_
    exact VW.vret d9_ran_29 hR (rV hr)
set_option maxRecDepth 100000 in
set_option maxHeartbeats 4000000 in
theorem cb_9_endsBy {γ : Gm} {dd : Nat} {NN : Nat} {R_9_endsBy : Int32 → Int32 → Hp → Option (Int32 × Hp)} (hN : 1 ≤ NN) (H_9_endsBy : ∀ (dd : Nat), NN ≤ dd → ∀ (x1 : Int32) (x2 : Int32) (h : Hp) (r : Int32) (hz : Hp), R_9_endsBy x1 x2 h = some (r, hz) → MC γ dd yX9_endsBy cX9_endsBy 3 (some .int) [.ref (γ.2.2.1 114), .int x1, .int x2] h (QI r hz)) {x1 : Int32} {x2 : Int32} {h : Hp} {r : Int32} {hz : Hp} (hd : NN + 1 ≤ dd) (hr : b_9_endsBy R_9_endsBy x1 x2 h = some (r, hz)) : MC γ dd yX9_endsBy cX9_endsBy 3 (some .int) [.ref (γ.2.2.1 114), .int x1, .int x2] h (QI r hz) := by
  unfold b_9_endsBy at hr
  refine MC.of mi_9_endsBy (Nat.le_of_ble_eq_true rfl) (fun ε hR => ?_)
  show VW γ ε cX9_endsBy RX9 3 dd 0 [(0, .ref (γ.2.2.1 114)), (1, .int x1), (2, .int x2)] [] h
  refine VW.iload_n d9_endsBy_0 1 rfl ?_
  by_cases c1 : x1 = 0
  · replace hr := ip hr c1
    refine VW.lookup (off := 35) 36 d9_endsBy_1 (by decide) (by rw [c1]; decide) (by decide) ?_
    refine VW.aload_n d9_endsBy_36 0 rfl ?_
    refine VW.bipush (v := 12) d9_endsBy_37 bp_12 ?_
    obtain ⟨h3, e2, hr⟩ := bno hr
    refine VW.callV (As := [.int 12]) (st := []) d9_endsBy_39 mi_9_ran cv_9_251 (oo_9 o9_114) ⟨rfl, rfl⟩ (by decide) (dl1r hd) _ rfl (Nat.le_of_ble_eq_true rfl) rfl (c_9_ran (dlr hd hN (Nat.le_of_ble_eq_true rfl)) e2) (kV ?_)
    refine VW.iload_n d9_endsBy_42 2 rfl ?_
    refine VW.aload_n d9_endsBy_43 0 rfl ?_
    refine VW.aload_n d9_endsBy_44 0 rfl ?_
    refine VW.getI (k := 20) d9_endsBy_45 (oo_9 o9_114) rfl fl_9_248 ck9 ?_
    refine VW.iconst (v := 1) d9_endsBy_48 ic_1 ?_
    obtain ⟨r5, e4, hr⟩ := bno hr
    refine VW.callV (As := [.int (h3 114 20), .int 1]) (st := [.int x2]) d9_endsBy_49 mi_9_of cv_9_145 (oo_9 o9_114) ⟨rfl, rfl⟩ (by decide) (dl1r hd) _ rfl (Nat.le_of_ble_eq_true rfl) rfl (c_9_of (dlr hd hN (Nat.le_of_ble_eq_true rfl)) e4) (kI ?_)
    refine VW.isub d9_endsBy_52 ?_
    exact VW.iret d9_endsBy_53 hR (rIw hr)
  · replace hr := im hr c1
    by_cases c6 : x1 = 3
    · replace hr := ip hr c6
      refine VW.lookup (off := 53) 54 d9_endsBy_1 (by decide) (by rw [c6]; decide) (by decide) ?_
      refine VW.aload_n d9_endsBy_54 0 rfl ?_
      refine VW.bipush (v := 40) d9_endsBy_55 bp_40 ?_
      obtain ⟨h8, e7, hr⟩ := bno hr
      refine VW.callV (As := [.int 40]) (st := []) d9_endsBy_57 mi_9_ran cv_9_251 (oo_9 o9_114) ⟨rfl, rfl⟩ (by decide) (dl1r hd) _ rfl (Nat.le_of_ble_eq_true rfl) rfl (c_9_ran (dlr hd hN (Nat.le_of_ble_eq_true rfl)) e7) (kV ?_)
      refine VW.aload_n d9_endsBy_60 0 rfl ?_
      refine VW.iconst (v := 3) d9_endsBy_61 ic_3 ?_
      refine VW.callS (As := [.int 3]) (st := [.ref (γ.2.2.1 114)]) d9_endsBy_62 mi_9_above cs_9_195 (by decide) (dl1r hd) _ rfl (Nat.le_of_ble_eq_true rfl) rfl (c_9_above (dlr hd hN (Nat.le_of_ble_eq_true rfl)) rfl) (kI ?_)
      refine VW.iload_n d9_endsBy_65 2 rfl ?_
      obtain ⟨r10, h11, e9, hr⟩ := bno2 hr
      refine VW.callV (As := [.int (f_9_above 3), .int x2]) (st := []) d9_endsBy_66 mi_9_endsBy cv_9_263 (oo_9 o9_114) ⟨rfl, rfl⟩ (by decide) (dl1r hd) _ rfl (Nat.le_of_ble_eq_true rfl) rfl (H_9_endsBy (dd - 1) (dr hd) (f_9_above 3) x2 h8 _ _ e9) (kI ?_)
      refine VW.ineg d9_endsBy_69 ?_
      exact VW.iret d9_endsBy_70 hR (rIw hr)
    · replace hr := im hr c6
      by_cases c12 : x1 = 6
      · replace hr := ip hr c12
        refine VW.lookup (off := 70) 71 d9_endsBy_1 (by decide) (by rw [c12]; decide) (by decide) ?_
        refine VW.aload_n d9_endsBy_71 0 rfl ?_
        refine VW.bipush (v := 70) d9_endsBy_72 bp_70 ?_
        obtain ⟨h14, e13, hr⟩ := bno hr
        refine VW.callV (As := [.int 70]) (st := []) d9_endsBy_74 mi_9_ran cv_9_251 (oo_9 o9_114) ⟨rfl, rfl⟩ (by decide) (dl1r hd) _ rfl (Nat.le_of_ble_eq_true rfl) rfl (c_9_ran (dlr hd hN (Nat.le_of_ble_eq_true rfl)) e13) (kV ?_)
        refine VW.aload_n d9_endsBy_77 0 rfl ?_
        refine VW.bipush (v := 6) d9_endsBy_78 bp_6 ?_
        refine VW.callS (As := [.int 6]) (st := [.ref (γ.2.2.1 114)]) d9_endsBy_80 mi_9_above cs_9_195 (by decide) (dl1r hd) _ rfl (Nat.le_of_ble_eq_true rfl) rfl (c_9_above (dlr hd hN (Nat.le_of_ble_eq_true rfl)) rfl) (kI ?_)
        refine VW.iload_n d9_endsBy_83 2 rfl ?_
        obtain ⟨r16, h17, e15, hr⟩ := bno2 hr
        refine VW.callV (As := [.int (f_9_above 6), .int x2]) (st := []) d9_endsBy_84 mi_9_endsBy cv_9_263 (oo_9 o9_114) ⟨rfl, rfl⟩ (by decide) (dl1r hd) _ rfl (Nat.le_of_ble_eq_true rfl) rfl (H_9_endsBy (dd - 1) (dr hd) (f_9_above 6) x2 h14 _ _ e15) (kI ?_)
        refine VW.aload_n d9_endsBy_87 0 rfl ?_
        refine VW.getI (k := 20) d9_endsBy_88 (oo_9 o9_114) rfl fl_9_248 ck9 ?_
        refine VW.ixor d9_endsBy_91 ?_
        exact VW.iret d9_endsBy_92 hR (rIw hr)
      · replace hr := im hr c12
        refine VW.lookup (off := 92) 93 d9_endsBy_1 (by decide) ((lv_osw c1 (by decide)).trans ((lv_osw c6 (by decide)).trans ((lv_osw c12 (by decide)).trans rfl))) (by decide) ?_
        refine VW.aload_n d9_endsBy_93 0 rfl ?_
        refine VW.iload_n d9_endsBy_94 1 rfl ?_
        refine VW.callS (As := [.int x1]) (st := [.ref (γ.2.2.1 114)]) d9_endsBy_95 mi_9_above cs_9_195 (by decide) (dl1r hd) _ rfl (Nat.le_of_ble_eq_true rfl) rfl (c_9_above (dlr hd hN (Nat.le_of_ble_eq_true rfl)) rfl) (kI ?_)
        refine VW.iload_n d9_endsBy_98 2 rfl ?_
        obtain ⟨r19, h20, e18, hr⟩ := bno2 hr
        refine VW.callV (As := [.int (f_9_above x1), .int x2]) (st := []) d9_endsBy_99 mi_9_endsBy cv_9_263 (oo_9 o9_114) ⟨rfl, rfl⟩ (by decide) (dl1r hd) _ rfl (Nat.le_of_ble_eq_true rfl) rfl (H_9_endsBy (dd - 1) (dr hd) (f_9_above x1) x2 h _ _ e18) (kI ?_)
        exact VW.iret d9_endsBy_102 hR (rIw hr)
set_option maxRecDepth 100000 in
set_option maxHeartbeats 4000000 in
theorem ck_9_endsBy {γ : Gm} : ∀ n : Nat, (∀ (dd : Nat), n + 1 ≤ dd → ∀ (x1 : Int32) (x2 : Int32) (h : Hp) (r : Int32) (hz : Hp), (k_9_endsBy n) x1 x2 h = some (r, hz) → MC γ dd yX9_endsBy cX9_endsBy 3 (some .int) [.ref (γ.2.2.1 114), .int x1, .int x2] h (QI r hz)) := by
  intro n
  induction n with
  | zero =>
    · intro dd hd _ _ _ _ _ hr
      exact nf hr
  | succ n ih =>
    have i0 := ih
    · intro dd hd x1 x2 h r hz hr
      exact cb_9_endsBy (NN := n + 1) (Nat.le_add_left _ _) i0 (by omega) hr

theorem c_9_endsBy {γ : Gm} {dd : Nat} {x1 : Int32} {x2 : Int32} {h : Hp} {r : Int32} {hz : Hp} (hd : 65 ≤ dd) (hr : f_9_endsBy x1 x2 h = some (r, hz)) : MC γ dd yX9_endsBy cX9_endsBy 3 (some .int) [.ref (γ.2.2.1 114), .int x1, .int x2] h (QI r hz) := (ck_9_endsBy RF) dd hd _ _ _ _ _ hr
set_option maxRecDepth 100000 in
set_option maxHeartbeats 4000000 in
theorem s_9_power_5 {γ : Gm} {ε : En} {dd : Nat} (hd : 0 ≤ dd) {r : Int64} {x0 : Int64} {x2 : Int32} {h : Hp} (hR : RT γ ε (some .long) (QL r h)) : ∀ (n : Nat) (x3 : Int64) (x5 : Int32), f_9_power_5 x0 x2 n x3 x5 = some r → VW γ ε cX9_power RX9 6 dd 5 [(0, .long x0), (2, .int x2), (3, .long x3), (5, .int x5)] [] h := by
  intro n
  induction n with
  | zero =>
    intro x3 x5 hr
    exact nf hr
  | succ n ih =>
    intro x3 x5 hr
    rw [f_9_power_5] at hr
    refine VW.iload d9_power_5 3 rfl ?_
    refine VW.iload_n d9_power_7 1 rfl ?_
    refine VW.icmp_ge 21 d9_power_8 (by decide) (fun c1 => ?_) (fun c1 => ?_)
    · replace hr := ip hr c1
      refine VW.lload_n d9_power_21 2 rfl ?_
      exact VW.lret d9_power_22 hR (rLf hr)
    · replace hr := im hr c1
      refine VW.lload_n d9_power_11 2 rfl ?_
      refine VW.lload_n d9_power_12 0 rfl ?_
      refine VW.lmul d9_power_13 ?_
      refine VW.lstore_n (lo' := [(3, .long (x3 * x0)), (0, .long x0), (2, .int x2), (5, .int x5)]) d9_power_14 (by decide) rfl ?_
      refine VW.iinc (w := 1) (lo' := [(5, .int (x5 + 1)), (3, .long (x3 * x0)), (0, .long x0), (2, .int x2)]) d9_power_15 3 rfl ic_1 (by decide) rfl ?_
      refine VW.goto 5 d9_power_18 (by decide) ?_
      exact VW.sub [2, 3, 1, 0] rfl (ih (x3 * x0) (x5 + 1) hr)
set_option maxRecDepth 100000 in
set_option maxHeartbeats 4000000 in
theorem c_9_power {γ : Gm} {dd : Nat} {x0 : Int64} {x2 : Int32} {h : Hp} {r : Int64} (hd : 0 ≤ dd) (hr : f_9_power x0 x2 = some r) : MC γ dd yX9_power cX9_power 6 (some .long) [.long x0, .int x2] h (QL r h) := by
  unfold f_9_power at hr
  refine MC.of mi_9_power (Nat.le_of_ble_eq_true rfl) (fun ε hR => ?_)
  show VW γ ε cX9_power RX9 6 dd 0 [(0, .long x0), (2, .int x2)] [] h
  refine VW.lconst (v := 1) d9_power_0 (by decide) ?_
  refine VW.lstore_n (lo' := [(3, .long 1), (0, .long x0), (2, .int x2)]) d9_power_1 (by decide) rfl ?_
  refine VW.iconst (v := 0) d9_power_2 ic_0 ?_
  refine VW.istore (lo' := [(5, .int 0), (3, .long 1), (0, .long x0), (2, .int x2)]) d9_power_3 (by decide) rfl ?_
  exact VW.sub [2, 3, 1, 0] rfl (s_9_power_5 hd hR FU 1 0 hr)
set_option maxRecDepth 100000 in
set_option maxHeartbeats 4000000 in
theorem s_9_enough_32 {γ : Gm} {ε : En} {dd : Nat} (hd : 1 ≤ dd) {r : Int32} {hz : Hp} {x1 : Int32} {x2 : Int32} (hR : RT γ ε (some .int) (QI r hz)) : ∀ (n : Nat) (x3 : Int32) (h : Hp), f_9_enough_32 x1 x2 n x3 h = some (r, hz) → VW γ ε cX9_enough RX9 6 dd 32 [(0, .ref (γ.2.2.1 114)), (1, .int x1), (2, .int x2), (3, .int x3)] [] h := by
  intro n
  induction n with
  | zero =>
    intro x3 h hr
    exact nf hr
  | succ n ih =>
    intro x3 h hr
    rw [f_9_enough_32] at hr
    refine VW.iload_n d9_enough_32 3 rfl ?_
    refine VW.bipush (v := 6) d9_enough_33 bp_6 ?_
    refine VW.icmp_gt 81 d9_enough_35 (by decide) (fun c9 => ?_) (fun c9 => ?_)
    · replace hr := ip hr c9
      refine VW.aload_n d9_enough_81 0 rfl ?_
      refine VW.iconst (v := 2) d9_enough_82 ic_2 ?_
      obtain ⟨r11, h12, e10, hr⟩ := bno2 hr
      refine VW.callV (As := [.int 2]) (st := []) d9_enough_83 mi_9_finds cv_9_107 (oo_9 o9_114) ⟨rfl, rfl⟩ (by decide) (dl1 hd) _ rfl (Nat.le_of_ble_eq_true rfl) rfl (c_9_finds (dl hd rfl) e10) (kI ?_)
      exact VW.iret d9_enough_86 hR (rIw hr)
    · replace hr := im hr c9
      refine VW.ldc2 (v := 16) d9_enough_38 kc_9_235 ?_
      refine VW.iload_n d9_enough_41 3 rfl ?_
      obtain ⟨r14, e13, hr⟩ := bno hr
      refine VW.callS (As := [.long 16, .int x3]) (st := []) d9_enough_42 mi_9_power cs_9_237 (by decide) (dl1 hd) _ rfl (Nat.le_of_ble_eq_true rfl) rfl (c_9_power (dl hd rfl) e13) (kL ?_)
      refine VW.lstore (lo' := [(4, .long r14), (0, .ref (γ.2.2.1 114)), (1, .int x1), (2, .int x2), (3, .int x3)]) d9_enough_45 (by decide) rfl ?_
      refine VW.lload d9_enough_47 0 rfl ?_
      refine VW.ldc2 (v := 16) d9_enough_49 kc_9_235 ?_
      refine VW.iload_n d9_enough_52 2 rfl ?_
      refine VW.i2l d9_enough_53 ?_
      refine VW.lsub d9_enough_54 ?_
      refine VW.iload_n d9_enough_55 4 rfl ?_
      obtain ⟨r16, e15, hr⟩ := bno hr
      refine VW.callS (As := [.long (16 - (Int32.toInt64 x1)), .int x3]) (st := [.long r14]) d9_enough_56 mi_9_power cs_9_237 (by decide) (dl1 hd) _ rfl (Nat.le_of_ble_eq_true rfl) rfl (c_9_power (dl hd rfl) e15) (kL ?_)
      refine VW.lsub d9_enough_59 ?_
      refine VW.ldc2 (v := 16) d9_enough_60 kc_9_235 ?_
      refine VW.lmul d9_enough_63 ?_
      refine VW.iload_n d9_enough_64 3 rfl ?_
      refine VW.i2l d9_enough_65 ?_
      refine VW.lload d9_enough_66 0 rfl ?_
      refine VW.lmul d9_enough_68 ?_
      refine VW.lcmp d9_enough_69 ?_
      refine VW.if_lt 75 d9_enough_70 (by decide) (fun c17 => ?_) (fun c17 => ?_)
      · replace hr := ip hr c17
        refine VW.iinc (w := 1) (lo' := [(3, .int (x3 + 1)), (4, .long r14), (0, .ref (γ.2.2.1 114)), (1, .int x1), (2, .int x2)]) d9_enough_75 4 rfl ic_1 (by decide) rfl ?_
        refine VW.goto 32 d9_enough_78 (by decide) ?_
        exact VW.sub [2, 3, 4, 0] rfl (ih (x3 + 1) h hr)
      · replace hr := im hr c17
        refine VW.iload_n d9_enough_73 4 rfl ?_
        exact VW.iret d9_enough_74 hR (rIw hr)
set_option maxRecDepth 100000 in
set_option maxHeartbeats 4000000 in
theorem c_9_enough {γ : Gm} {dd : Nat} {x1 : Int32} {x2 : Int32} {h : Hp} {r : Int32} {hz : Hp} (hd : 1 ≤ dd) (hr : f_9_enough x1 x2 h = some (r, hz)) : MC γ dd yX9_enough cX9_enough 6 (some .int) [.ref (γ.2.2.1 114), .int x1, .int x2] h (QI r hz) := by
  unfold f_9_enough at hr
  refine MC.of mi_9_enough (Nat.le_of_ble_eq_true rfl) (fun ε hR => ?_)
  show VW γ ε cX9_enough RX9 6 dd 0 [(0, .ref (γ.2.2.1 114)), (1, .int x1), (2, .int x2)] [] h
  refine VW.iload_n d9_enough_0 1 rfl ?_
  refine VW.i2l d9_enough_1 ?_
  refine VW.lconst (v := 1) d9_enough_2 (by decide) ?_
  refine VW.ldc2 (v := 16) d9_enough_3 kc_9_235 ?_
  refine VW.callS (As := [.long (Int32.toInt64 x1), .long 1, .long 16]) (st := []) d9_enough_6 mi_9_in cs_9_44 (by decide) (dl1 hd) _ rfl (Nat.le_of_ble_eq_true rfl) rfl (c_9_in (dl hd rfl) rfl) (kI ?_)
  refine VW.if_eq 24 d9_enough_9 (by decide) (fun c1 => ?_) (fun c1 => ?_)
  · replace hr := ip hr c1
    refine VW.aload_n d9_enough_24 0 rfl ?_
    refine VW.iconst (v := 1) d9_enough_25 ic_1 ?_
    obtain ⟨r3, h4, e2, hr⟩ := bno2 hr
    refine VW.callV (As := [.int 1]) (st := []) d9_enough_26 mi_9_finds cv_9_107 (oo_9 o9_114) ⟨rfl, rfl⟩ (by decide) (dl1 hd) _ rfl (Nat.le_of_ble_eq_true rfl) rfl (c_9_finds (dl hd rfl) e2) (kI ?_)
    exact VW.iret d9_enough_29 hR (rIw hr)
  · replace hr := im hr c1
    refine VW.iload_n d9_enough_12 2 rfl ?_
    refine VW.i2l d9_enough_13 ?_
    refine VW.lconst (v := 1) d9_enough_14 (by decide) ?_
    refine VW.ldc2 (v := 15) d9_enough_15 kc_9_178 ?_
    refine VW.callS (As := [.long (Int32.toInt64 x2), .long 1, .long 15]) (st := []) d9_enough_18 mi_9_in cs_9_44 (by decide) (dl1 hd) _ rfl (Nat.le_of_ble_eq_true rfl) rfl (c_9_in (dl hd rfl) rfl) (kI ?_)
    refine VW.if_ne 30 d9_enough_21 (by decide) (fun c5 => ?_) (fun c5 => ?_)
    · replace hr := ip hr c5
      refine VW.aload_n d9_enough_24 0 rfl ?_
      refine VW.iconst (v := 1) d9_enough_25 ic_1 ?_
      obtain ⟨r7, h8, e6, hr⟩ := bno2 hr
      refine VW.callV (As := [.int 1]) (st := []) d9_enough_26 mi_9_finds cv_9_107 (oo_9 o9_114) ⟨rfl, rfl⟩ (by decide) (dl1 hd) _ rfl (Nat.le_of_ble_eq_true rfl) rfl (c_9_finds (dl hd rfl) e6) (kI ?_)
      exact VW.iret d9_enough_29 hR (rIw hr)
    · replace hr := im hr c5
      refine VW.iconst (v := 1) d9_enough_30 ic_1 ?_
      refine VW.istore_n (lo' := [(3, .int 1), (0, .ref (γ.2.2.1 114)), (1, .int x1), (2, .int x2)]) d9_enough_31 (by decide) rfl ?_
      exact VW.sub [1, 2, 3, 0] rfl (s_9_enough_32 hd hR FU 1 h hr)
set_option maxRecDepth 100000 in
set_option maxHeartbeats 4000000 in
theorem s_9_feed_40 {γ : Gm} {ε : En} {dd : Nat} (hd : 1 ≤ dd) {r : Int32} {hz : Hp} {x1 : Int64} {x3 : Int32} (hR : RT γ ε (some .int) (QI r hz)) : ∀ (n : Nat) (x4 : Int32) (h : Hp), f_9_feed_40 x1 x3 n x4 h = some (r, hz) → VW γ ε cX9_feed RX9 5 dd 40 [(0, .ref (γ.2.2.1 114)), (1, .long x1), (3, .int x3), (4, .int x4)] [] h := by
  intro n
  induction n with
  | zero =>
    intro x4 h hr
    exact nf hr
  | succ n ih =>
    intro x4 h hr
    rw [f_9_feed_40] at hr
    refine VW.iload d9_feed_40 3 rfl ?_
    refine VW.iload_n d9_feed_42 2 rfl ?_
    refine VW.icmp_ge 89 d9_feed_43 (by decide) (fun c6 => ?_) (fun c6 => ?_)
    · replace hr := ip hr c6
      refine VW.aload_n d9_feed_89 0 rfl ?_
      refine VW.getR (k := 0) (r := 115) d9_feed_90 (oo_9 o9_114) rfl fl_9_7 ck9 ?_
      refine VW.iconst (v := 5) d9_feed_93 ic_5 ?_
      refine VW.iald (j := 5) d9_feed_94 (rf_9_0 o9_114) ib_5_380 il_5 ?_
      exact VW.iret d9_feed_95 hR (rIw hr)
    · replace hr := im hr c6
      refine VW.aload_n d9_feed_46 0 rfl ?_
      refine VW.getR (k := 0) (r := 115) d9_feed_47 (oo_9 o9_114) rfl fl_9_7 ck9 ?_
      refine VW.sipush (v := 330) d9_feed_50 sp_330 ?_
      refine VW.aload_n d9_feed_53 0 rfl ?_
      refine VW.getR (k := 0) (r := 115) d9_feed_54 (oo_9 o9_114) rfl fl_9_7 ck9 ?_
      refine VW.iconst (v := 5) d9_feed_57 ic_5 ?_
      refine VW.iald (j := 5) d9_feed_58 (rf_9_0 o9_114) ib_5_380 il_5 ?_
      refine VW.iadd d9_feed_59 ?_
      refine VW.lload_n d9_feed_60 1 rfl ?_
      refine VW.bipush (v := 8) d9_feed_61 bp_8 ?_
      refine VW.iload d9_feed_63 3 rfl ?_
      refine VW.imul d9_feed_65 ?_
      refine VW.lshr d9_feed_66 ?_
      refine VW.ldc2 (v := 255) d9_feed_67 kc_9_110 ?_
      refine VW.land d9_feed_70 ?_
      refine VW.l2i d9_feed_71 ?_
      obtain ⟨g7, hr⟩ := gdt hr
      obtain ⟨h8, e9, hr⟩ := hlt hr
      refine VW.iast (j := (ci (330 + (h 115 5)))) d9_feed_72 (rf_9_0 o9_114) g7 rfl ?_
      refine VW.heq e9 ?_
      refine VW.aload_n d9_feed_73 0 rfl ?_
      refine VW.getR (k := 0) (r := 115) d9_feed_74 (oo_9 o9_114) rfl fl_9_7 ck9 ?_
      refine VW.iconst (v := 5) d9_feed_77 ic_5 ?_
      refine VW.dup2 d9_feed_78 rfl rfl ?_
      refine VW.iald (j := 5) d9_feed_79 (rf_9_0 o9_114) ib_5_380 il_5 ?_
      refine VW.iconst (v := 1) d9_feed_80 ic_1 ?_
      refine VW.iadd d9_feed_81 ?_
      obtain ⟨h10, e11, hr⟩ := hlt hr
      refine VW.iast (j := 5) d9_feed_82 (rf_9_0 o9_114) ib_5_380 il_5 ?_
      refine VW.heq e11 ?_
      refine VW.iinc (w := 1) (lo' := [(4, .int (x4 + 1)), (0, .ref (γ.2.2.1 114)), (1, .long x1), (3, .int x3)]) d9_feed_83 3 rfl ic_1 (by decide) rfl ?_
      refine VW.goto 40 d9_feed_86 (by decide) ?_
      exact VW.sub [1, 2, 3, 0] rfl (ih (x4 + 1) h10 hr)
set_option maxRecDepth 100000 in
set_option maxHeartbeats 4000000 in
theorem c_9_feed {γ : Gm} {dd : Nat} {x1 : Int64} {x3 : Int32} {h : Hp} {r : Int32} {hz : Hp} (hd : 1 ≤ dd) (hr : f_9_feed x1 x3 h = some (r, hz)) : MC γ dd yX9_feed cX9_feed 5 (some .int) [.ref (γ.2.2.1 114), .long x1, .int x3] h (QI r hz) := by
  unfold f_9_feed at hr
  refine MC.of mi_9_feed (Nat.le_of_ble_eq_true rfl) (fun ε hR => ?_)
  show VW γ ε cX9_feed RX9 5 dd 0 [(0, .ref (γ.2.2.1 114)), (1, .long x1), (3, .int x3)] [] h
  refine VW.iload_n d9_feed_0 2 rfl ?_
  refine VW.i2l d9_feed_1 ?_
  refine VW.lconst (v := 1) d9_feed_2 (by decide) ?_
  refine VW.ldc2 (v := 8) d9_feed_3 kc_9_105 ?_
  refine VW.callS (As := [.long (Int32.toInt64 x3), .long 1, .long 8]) (st := []) d9_feed_6 mi_9_in cs_9_44 (by decide) (dl1 hd) _ rfl (Nat.le_of_ble_eq_true rfl) rfl (c_9_in (dl hd rfl) rfl) (kI ?_)
  refine VW.if_ne 18 d9_feed_9 (by decide) (fun c1 => ?_) (fun c1 => ?_)
  · replace hr := ip hr c1
    refine VW.aload_n d9_feed_12 0 rfl ?_
    refine VW.iconst (v := 1) d9_feed_13 ic_1 ?_
    obtain ⟨r3, h4, e2, hr⟩ := bno2 hr
    refine VW.callV (As := [.int 1]) (st := []) d9_feed_14 mi_9_finds cv_9_107 (oo_9 o9_114) ⟨rfl, rfl⟩ (by decide) (dl1 hd) _ rfl (Nat.le_of_ble_eq_true rfl) rfl (c_9_finds (dl hd rfl) e2) (kI ?_)
    exact VW.iret d9_feed_17 hR (rIw hr)
  · replace hr := im hr c1
    refine VW.aload_n d9_feed_18 0 rfl ?_
    refine VW.getR (k := 0) (r := 115) d9_feed_19 (oo_9 o9_114) rfl fl_9_7 ck9 ?_
    refine VW.iconst (v := 5) d9_feed_22 ic_5 ?_
    refine VW.iald (j := 5) d9_feed_23 (rf_9_0 o9_114) ib_5_380 il_5 ?_
    refine VW.iload_n d9_feed_24 2 rfl ?_
    refine VW.iadd d9_feed_25 ?_
    refine VW.bipush (v := 50) d9_feed_26 bp_50 ?_
    refine VW.icmp_le 37 d9_feed_28 (by decide) (fun c5 => ?_) (fun c5 => ?_)
    · replace hr := ip hr c5
      refine VW.iconst (v := 0) d9_feed_37 ic_0 ?_
      refine VW.istore (lo' := [(4, .int 0), (0, .ref (γ.2.2.1 114)), (1, .long x1), (3, .int x3)]) d9_feed_38 (by decide) rfl ?_
      exact VW.sub [1, 2, 3, 0] rfl (s_9_feed_40 hd hR FU 0 h hr)
    · replace hr := im hr c5
      refine VW.aload_n d9_feed_31 0 rfl ?_
      refine VW.iconst (v := 4) d9_feed_32 ic_4 ?_
      obtain ⟨r13, h14, e12, hr⟩ := bno2 hr
      refine VW.callV (As := [.int 4]) (st := []) d9_feed_33 mi_9_finds cv_9_107 (oo_9 o9_114) ⟨rfl, rfl⟩ (by decide) (dl1 hd) _ rfl (Nat.le_of_ble_eq_true rfl) rfl (c_9_finds (dl hd rfl) e12) (kI ?_)
      exact VW.iret d9_feed_36 hR (rIw hr)
set_option maxRecDepth 100000 in
set_option maxHeartbeats 4000000 in
theorem cb_9_fitsBy {γ : Gm} {dd : Nat} {NN : Nat} {R_9_fitsBy : Int32 → Int32 → Hp → Option (Int32 × Hp)} (hN : 1 ≤ NN) (H_9_fitsBy : ∀ (dd : Nat), NN ≤ dd → ∀ (x1 : Int32) (x2 : Int32) (h : Hp) (r : Int32) (hz : Hp), R_9_fitsBy x1 x2 h = some (r, hz) → MC γ dd yX9_fitsBy cX9_fitsBy 3 (some .int) [.ref (γ.2.2.1 114), .int x1, .int x2] h (QI r hz)) {x1 : Int32} {x2 : Int32} {h : Hp} {r : Int32} {hz : Hp} (hd : NN + 1 ≤ dd) (hr : b_9_fitsBy R_9_fitsBy x1 x2 h = some (r, hz)) : MC γ dd yX9_fitsBy cX9_fitsBy 3 (some .int) [.ref (γ.2.2.1 114), .int x1, .int x2] h (QI r hz) := by
  unfold b_9_fitsBy at hr
  refine MC.of mi_9_fitsBy (Nat.le_of_ble_eq_true rfl) (fun ε hR => ?_)
  show VW γ ε cX9_fitsBy RX9 3 dd 0 [(0, .ref (γ.2.2.1 114)), (1, .int x1), (2, .int x2)] [] h
  refine VW.iload_n d9_fitsBy_0 1 rfl ?_
  by_cases c1 : x1 = 0
  · replace hr := ip hr c1
    refine VW.lookup (off := 27) 28 d9_fitsBy_1 (by decide) (by rw [c1]; decide) (by decide) ?_
    refine VW.aload_n d9_fitsBy_28 0 rfl ?_
    refine VW.bipush (v := 10) d9_fitsBy_29 bp_10 ?_
    obtain ⟨h3, e2, hr⟩ := bno hr
    refine VW.callV (As := [.int 10]) (st := []) d9_fitsBy_31 mi_9_ran cv_9_251 (oo_9 o9_114) ⟨rfl, rfl⟩ (by decide) (dl1r hd) _ rfl (Nat.le_of_ble_eq_true rfl) rfl (c_9_ran (dlr hd hN (Nat.le_of_ble_eq_true rfl)) e2) (kV ?_)
    refine VW.iload_n d9_fitsBy_34 2 rfl ?_
    refine VW.aload_n d9_fitsBy_35 0 rfl ?_
    refine VW.getI (k := 20) d9_fitsBy_36 (oo_9 o9_114) rfl fl_9_248 ck9 ?_
    refine VW.iadd d9_fitsBy_39 ?_
    exact VW.iret d9_fitsBy_40 hR (rIw hr)
  · replace hr := im hr c1
    by_cases c4 : x1 = 1
    · replace hr := ip hr c4
      refine VW.lookup (off := 40) 41 d9_fitsBy_1 (by decide) (by rw [c4]; decide) (by decide) ?_
      refine VW.aload_n d9_fitsBy_41 0 rfl ?_
      refine VW.bipush (v := 20) d9_fitsBy_42 bp_20 ?_
      obtain ⟨h6, e5, hr⟩ := bno hr
      refine VW.callV (As := [.int 20]) (st := []) d9_fitsBy_44 mi_9_ran cv_9_251 (oo_9 o9_114) ⟨rfl, rfl⟩ (by decide) (dl1r hd) _ rfl (Nat.le_of_ble_eq_true rfl) rfl (c_9_ran (dlr hd hN (Nat.le_of_ble_eq_true rfl)) e5) (kV ?_)
      refine VW.aload_n d9_fitsBy_47 0 rfl ?_
      refine VW.iconst (v := 1) d9_fitsBy_48 ic_1 ?_
      refine VW.callS (As := [.int 1]) (st := [.ref (γ.2.2.1 114)]) d9_fitsBy_49 mi_9_above cs_9_195 (by decide) (dl1r hd) _ rfl (Nat.le_of_ble_eq_true rfl) rfl (c_9_above (dlr hd hN (Nat.le_of_ble_eq_true rfl)) rfl) (kI ?_)
      refine VW.iload_n d9_fitsBy_52 2 rfl ?_
      obtain ⟨r8, h9, e7, hr⟩ := bno2 hr
      refine VW.callV (As := [.int (f_9_above 1), .int x2]) (st := []) d9_fitsBy_53 mi_9_fitsBy cv_9_254 (oo_9 o9_114) ⟨rfl, rfl⟩ (by decide) (dl1r hd) _ rfl (Nat.le_of_ble_eq_true rfl) rfl (H_9_fitsBy (dd - 1) (dr hd) (f_9_above 1) x2 h6 _ _ e7) (kI ?_)
      refine VW.iconst (v := 3) d9_fitsBy_56 ic_3 ?_
      refine VW.imul d9_fitsBy_57 ?_
      exact VW.iret d9_fitsBy_58 hR (rIw hr)
    · replace hr := im hr c4
      refine VW.lookup (off := 58) 59 d9_fitsBy_1 (by decide) ((lv_osw c1 (by decide)).trans ((lv_osw c4 (by decide)).trans rfl)) (by decide) ?_
      refine VW.aload_n d9_fitsBy_59 0 rfl ?_
      refine VW.iload_n d9_fitsBy_60 1 rfl ?_
      refine VW.callS (As := [.int x1]) (st := [.ref (γ.2.2.1 114)]) d9_fitsBy_61 mi_9_above cs_9_195 (by decide) (dl1r hd) _ rfl (Nat.le_of_ble_eq_true rfl) rfl (c_9_above (dlr hd hN (Nat.le_of_ble_eq_true rfl)) rfl) (kI ?_)
      refine VW.iload_n d9_fitsBy_64 2 rfl ?_
      obtain ⟨r11, h12, e10, hr⟩ := bno2 hr
      refine VW.callV (As := [.int (f_9_above x1), .int x2]) (st := []) d9_fitsBy_65 mi_9_fitsBy cv_9_254 (oo_9 o9_114) ⟨rfl, rfl⟩ (by decide) (dl1r hd) _ rfl (Nat.le_of_ble_eq_true rfl) rfl (H_9_fitsBy (dd - 1) (dr hd) (f_9_above x1) x2 h _ _ e10) (kI ?_)
      exact VW.iret d9_fitsBy_68 hR (rIw hr)
set_option maxRecDepth 100000 in
set_option maxHeartbeats 4000000 in
theorem ck_9_fitsBy {γ : Gm} : ∀ n : Nat, (∀ (dd : Nat), n + 1 ≤ dd → ∀ (x1 : Int32) (x2 : Int32) (h : Hp) (r : Int32) (hz : Hp), (k_9_fitsBy n) x1 x2 h = some (r, hz) → MC γ dd yX9_fitsBy cX9_fitsBy 3 (some .int) [.ref (γ.2.2.1 114), .int x1, .int x2] h (QI r hz)) := by
  intro n
  induction n with
  | zero =>
    · intro dd hd _ _ _ _ _ hr
      exact nf hr
  | succ n ih =>
    have i0 := ih
    · intro dd hd x1 x2 h r hz hr
      exact cb_9_fitsBy (NN := n + 1) (Nat.le_add_left _ _) i0 (by omega) hr

theorem c_9_fitsBy {γ : Gm} {dd : Nat} {x1 : Int32} {x2 : Int32} {h : Hp} {r : Int32} {hz : Hp} (hd : 65 ≤ dd) (hr : f_9_fitsBy x1 x2 h = some (r, hz)) : MC γ dd yX9_fitsBy cX9_fitsBy 3 (some .int) [.ref (γ.2.2.1 114), .int x1, .int x2] h (QI r hz) := (ck_9_fitsBy RF) dd hd _ _ _ _ _ hr
set_option maxRecDepth 100000 in
set_option maxHeartbeats 4000000 in
theorem s_9_forgotten_16 {γ : Gm} {ε : En} {dd : Nat} (hd : 72 ≤ dd) {r : Int32} {hz : Hp} {x1 : Int32} (hR : RT γ ε (some .int) (QI r hz)) : ∀ (n : Nat) (x2 : Int32) (h : Hp), f_9_forgotten_16 x1 n x2 h = some (r, hz) → VW γ ε cX9_forgotten RX9 3 dd 16 [(0, .ref (γ.2.2.1 114)), (1, .int x1), (2, .int x2)] [] h := by
  intro n
  induction n with
  | zero =>
    intro x2 h hr
    exact nf hr
  | succ n ih =>
    intro x2 h hr
    rw [f_9_forgotten_16] at hr
    refine VW.iload_n d9_forgotten_16 2 rfl ?_
    refine VW.sipush (v := 500) d9_forgotten_17 sp_500 ?_
    refine VW.icmp_gt 47 d9_forgotten_20 (by decide) (fun c7 => ?_) (fun c7 => ?_)
    · replace hr := ip hr c7
      refine VW.aload_n d9_forgotten_47 0 rfl ?_
      refine VW.iconst (v := 2) d9_forgotten_48 ic_2 ?_
      obtain ⟨r9, h10, e8, hr⟩ := bno2 hr
      refine VW.callV (As := [.int 2]) (st := []) d9_forgotten_49 mi_9_finds cv_9_107 (oo_9 o9_114) ⟨rfl, rfl⟩ (by decide) (dl1 hd) _ rfl (Nat.le_of_ble_eq_true rfl) rfl (c_9_finds (dl hd rfl) e8) (kI ?_)
      exact VW.iret d9_forgotten_52 hR (rIw hr)
    · replace hr := im hr c7
      refine VW.aload_n d9_forgotten_23 0 rfl ?_
      refine VW.iload_n d9_forgotten_24 1 rfl ?_
      refine VW.aload_n d9_forgotten_25 0 rfl ?_
      refine VW.getR (k := 0) (r := 115) d9_forgotten_26 (oo_9 o9_114) rfl fl_9_7 ck9 ?_
      refine VW.iconst (v := 2) d9_forgotten_29 ic_2 ?_
      refine VW.iald (j := 2) d9_forgotten_30 (rf_9_0 o9_114) ib_2_380 il_2 ?_
      refine VW.iload_n d9_forgotten_31 2 rfl ?_
      refine VW.iadd d9_forgotten_32 ?_
      obtain ⟨r12, h13, e11, hr⟩ := bno2 hr
      refine VW.callV (As := [.int x1, .int ((h 115 2) + x2)]) (st := []) d9_forgotten_33 mi_9_isNoticed cv_9_189 (oo_9 o9_114) ⟨rfl, rfl⟩ (by decide) (dl1 hd) _ rfl (Nat.le_of_ble_eq_true rfl) rfl (c_9_isNoticed (dl hd rfl) e11) (kI ?_)
      refine VW.if_ne 41 d9_forgotten_36 (by decide) (fun c14 => ?_) (fun c14 => ?_)
      · replace hr := ip hr c14
        refine VW.iload_n d9_forgotten_39 2 rfl ?_
        exact VW.iret d9_forgotten_40 hR (rIw hr)
      · replace hr := im hr c14
        refine VW.iinc (w := 1) (lo' := [(2, .int (x2 + 1)), (0, .ref (γ.2.2.1 114)), (1, .int x1)]) d9_forgotten_41 2 rfl ic_1 (by decide) rfl ?_
        refine VW.goto 16 d9_forgotten_44 (by decide) ?_
        exact VW.sub [1, 2, 0] rfl (ih (x2 + 1) h13 hr)
set_option maxRecDepth 100000 in
set_option maxHeartbeats 4000000 in
theorem c_9_forgotten {γ : Gm} {dd : Nat} {x1 : Int32} {h : Hp} {r : Int32} {hz : Hp} (hd : 72 ≤ dd) (hr : f_9_forgotten x1 h = some (r, hz)) : MC γ dd yX9_forgotten cX9_forgotten 3 (some .int) [.ref (γ.2.2.1 114), .int x1] h (QI r hz) := by
  unfold f_9_forgotten at hr
  refine MC.of mi_9_forgotten (Nat.le_of_ble_eq_true rfl) (fun ε hR => ?_)
  show VW γ ε cX9_forgotten RX9 3 dd 0 [(0, .ref (γ.2.2.1 114)), (1, .int x1)] [] h
  refine VW.aload_n d9_forgotten_0 0 rfl ?_
  refine VW.iload_n d9_forgotten_1 1 rfl ?_
  obtain ⟨r2, e1, hr⟩ := bno hr
  refine VW.callV (As := [.int x1]) (st := []) d9_forgotten_2 mi_9_isLine cv_9_184 (oo_9 o9_114) ⟨rfl, rfl⟩ (by decide) (dl1 hd) _ rfl (Nat.le_of_ble_eq_true rfl) rfl (c_9_isLine (dl hd rfl) e1) (kI ?_)
  refine VW.if_ne 14 d9_forgotten_5 (by decide) (fun c3 => ?_) (fun c3 => ?_)
  · replace hr := ip hr c3
    refine VW.aload_n d9_forgotten_8 0 rfl ?_
    refine VW.iconst (v := 1) d9_forgotten_9 ic_1 ?_
    obtain ⟨r5, h6, e4, hr⟩ := bno2 hr
    refine VW.callV (As := [.int 1]) (st := []) d9_forgotten_10 mi_9_finds cv_9_107 (oo_9 o9_114) ⟨rfl, rfl⟩ (by decide) (dl1 hd) _ rfl (Nat.le_of_ble_eq_true rfl) rfl (c_9_finds (dl hd rfl) e4) (kI ?_)
    exact VW.iret d9_forgotten_13 hR (rIw hr)
  · replace hr := im hr c3
    refine VW.iconst (v := 0) d9_forgotten_14 ic_0 ?_
    refine VW.istore_n (lo' := [(2, .int 0), (0, .ref (γ.2.2.1 114)), (1, .int x1)]) d9_forgotten_15 (by decide) rfl ?_
    exact VW.sub [1, 2, 0] rfl (s_9_forgotten_16 hd hR FU 0 h hr)
set_option maxRecDepth 100000 in
set_option maxHeartbeats 4000000 in
theorem c_9_heard {γ : Gm} {dd : Nat} {x1 : Int32} {x2 : Int32} {h : Hp} {r : Int32} {hz : Hp} (hd : 73 ≤ dd) (hr : f_9_heard x1 x2 h = some (r, hz)) : MC γ dd yX9_heard cX9_heard 3 (some .int) [.ref (γ.2.2.1 114), .int x1, .int x2] h (QI r hz) := by
  unfold f_9_heard at hr
  refine MC.of mi_9_heard (Nat.le_of_ble_eq_true rfl) (fun ε hR => ?_)
  show VW γ ε cX9_heard RX9 3 dd 0 [(0, .ref (γ.2.2.1 114)), (1, .int x1), (2, .int x2)] [] h
  refine VW.aload_n d9_heard_0 0 rfl ?_
  refine VW.iload_n d9_heard_1 1 rfl ?_
  obtain ⟨r2, e1, hr⟩ := bno hr
  refine VW.callV (As := [.int x1]) (st := []) d9_heard_2 mi_9_isLine cv_9_184 (oo_9 o9_114) ⟨rfl, rfl⟩ (by decide) (dl1 hd) _ rfl (Nat.le_of_ble_eq_true rfl) rfl (c_9_isLine (dl hd rfl) e1) (kI ?_)
  refine VW.if_eq 22 d9_heard_5 (by decide) (fun c3 => ?_) (fun c3 => ?_)
  · replace hr := ip hr c3
    refine VW.aload_n d9_heard_22 0 rfl ?_
    refine VW.iconst (v := 1) d9_heard_23 ic_1 ?_
    obtain ⟨r5, h6, e4, hr⟩ := bno2 hr
    refine VW.callV (As := [.int 1]) (st := []) d9_heard_24 mi_9_finds cv_9_107 (oo_9 o9_114) ⟨rfl, rfl⟩ (by decide) (dl1 hd) _ rfl (Nat.le_of_ble_eq_true rfl) rfl (c_9_finds (dl hd rfl) e4) (kI ?_)
    exact VW.iret d9_heard_27 hR (rIw hr)
  · replace hr := im hr c3
    refine VW.iload_n d9_heard_8 2 rfl ?_
    refine VW.i2l d9_heard_9 ?_
    refine VW.ldc2 (v := (-2)) d9_heard_10 kc_9_225 ?_
    refine VW.ldc2 (v := 2) d9_heard_13 kc_9_139 ?_
    refine VW.callS (As := [.long (Int32.toInt64 x2), .long (-2), .long 2]) (st := []) d9_heard_16 mi_9_in cs_9_44 (by decide) (dl1 hd) _ rfl (Nat.le_of_ble_eq_true rfl) rfl (c_9_in (dl hd rfl) rfl) (kI ?_)
    refine VW.if_ne 28 d9_heard_19 (by decide) (fun c7 => ?_) (fun c7 => ?_)
    · replace hr := ip hr c7
      refine VW.aload_n d9_heard_22 0 rfl ?_
      refine VW.iconst (v := 1) d9_heard_23 ic_1 ?_
      obtain ⟨r9, h10, e8, hr⟩ := bno2 hr
      refine VW.callV (As := [.int 1]) (st := []) d9_heard_24 mi_9_finds cv_9_107 (oo_9 o9_114) ⟨rfl, rfl⟩ (by decide) (dl1 hd) _ rfl (Nat.le_of_ble_eq_true rfl) rfl (c_9_finds (dl hd rfl) e8) (kI ?_)
      exact VW.iret d9_heard_27 hR (rIw hr)
    · replace hr := im hr c7
      refine VW.aload_n d9_heard_28 0 rfl ?_
      refine VW.iload_n d9_heard_29 1 rfl ?_
      refine VW.iconst (v := 2) d9_heard_30 ic_2 ?_
      refine VW.iconst (v := 0) d9_heard_31 ic_0 ?_
      obtain ⟨h12, e11, hr⟩ := bno hr
      refine VW.callV (As := [.int x1, .int 2, .int 0]) (st := []) d9_heard_32 mi_9_seeks cv_9_227 (oo_9 o9_114) ⟨rfl, rfl⟩ (by decide) (dl1 hd) _ rfl (Nat.le_of_ble_eq_true rfl) rfl (c_9_seeks (dl hd rfl) e11) (kV ?_)
      refine VW.iload_n d9_heard_35 2 rfl ?_
      refine VW.bipush (v := (-2)) d9_heard_36 bp_m2 ?_
      refine VW.icmp_ne 48 d9_heard_38 (by decide) (fun c13 => ?_) (fun c13 => ?_)
      · replace hr := ip hr c13
        refine VW.aload_n d9_heard_41 0 rfl ?_
        refine VW.getI (k := 17) d9_heard_42 (oo_9 o9_114) rfl fl_9_209 ck9 ?_
        refine VW.goto 53 d9_heard_45 (by decide) ?_
        exact VW.iret d9_heard_53 hR (rIw hr)
      · replace hr := im hr c13
        refine VW.aload_n d9_heard_48 0 rfl ?_
        refine VW.iload_n d9_heard_49 2 rfl ?_
        obtain ⟨r15, h16, e14, hr⟩ := bno2 hr
        refine VW.callV (As := [.int x2]) (st := []) d9_heard_50 mi_9_foundTold cv_9_230 (oo_9 o9_114) ⟨rfl, rfl⟩ (by decide) (dl1 hd) _ rfl (Nat.le_of_ble_eq_true rfl) rfl (c_9_foundTold (dl hd rfl) e14) (kI ?_)
        exact VW.iret d9_heard_53 hR (rIw hr)
set_option maxRecDepth 100000 in
set_option maxHeartbeats 4000000 in
theorem s_9_image_2 {γ : Gm} {ε : En} {dd : Nat} (hd : 0 ≤ dd) {r : Int32} {hz : Hp} (hR : RT γ ε (some .int) (QI r hz)) : ∀ (n : Nat) (x1 : Int32) (h : Hp), f_9_image_2 n x1 h = some (r, hz) → VW γ ε cX9_image RX9 2 dd 2 [(0, .ref (γ.2.2.1 114)), (1, .int x1)] [] h := by
  intro n
  induction n with
  | zero =>
    intro x1 h hr
    exact nf hr
  | succ n ih =>
    intro x1 h hr
    rw [f_9_image_2] at hr
    refine VW.iload_n d9_image_2 1 rfl ?_
    refine VW.sipush (v := 380) d9_image_3 sp_380 ?_
    refine VW.icmp_ge 27 d9_image_6 (by decide) (fun c1 => ?_) (fun c1 => ?_)
    · replace hr := ip hr c1
      refine VW.aload_n d9_image_27 0 rfl ?_
      refine VW.dup d9_image_28 rfl ?_
      refine VW.getI (k := 2) d9_image_29 (oo_9 o9_114) rfl fl_9_272 ck9 ?_
      refine VW.iconst (v := 1) d9_image_32 ic_1 ?_
      refine VW.iadd d9_image_33 ?_
      obtain ⟨h2, e3, hr⟩ := hlt hr
      refine VW.putI (k := 2) d9_image_34 (oo_9 o9_114) rfl fl_9_272 ck9 rfl rfl rfl rfl ?_
      refine VW.heq e3 ?_
      refine VW.aload_n d9_image_37 0 rfl ?_
      refine VW.getI (k := 2) d9_image_38 (oo_9 o9_114) rfl fl_9_272 ck9 ?_
      exact VW.iret d9_image_41 hR (rIw hr)
    · replace hr := im hr c1
      refine VW.aload_n d9_image_9 0 rfl ?_
      refine VW.getR (k := 1) (r := 116) d9_image_10 (oo_9 o9_114) rfl fl_9_13 ck9 ?_
      refine VW.iload_n d9_image_13 1 rfl ?_
      refine VW.aload_n d9_image_14 0 rfl ?_
      refine VW.getR (k := 0) (r := 115) d9_image_15 (oo_9 o9_114) rfl fl_9_7 ck9 ?_
      refine VW.iload_n d9_image_18 1 rfl ?_
      obtain ⟨g4, hr⟩ := gdt hr
      refine VW.iald (j := (ci x1)) d9_image_19 (rf_9_0 o9_114) g4 rfl ?_
      obtain ⟨g5, hr⟩ := gdt hr
      obtain ⟨h6, e7, hr⟩ := hlt hr
      refine VW.iast (j := (ci x1)) d9_image_20 (rf_9_1 o9_114) g5 rfl ?_
      refine VW.heq e7 ?_
      refine VW.iinc (w := 1) (lo' := [(1, .int (x1 + 1)), (0, .ref (γ.2.2.1 114))]) d9_image_21 1 rfl ic_1 (by decide) rfl ?_
      refine VW.goto 2 d9_image_24 (by decide) ?_
      exact VW.sub [1, 0] rfl (ih (x1 + 1) h6 hr)
set_option maxRecDepth 100000 in
set_option maxHeartbeats 4000000 in
theorem c_9_image {γ : Gm} {dd : Nat} {h : Hp} {r : Int32} {hz : Hp} (hd : 0 ≤ dd) (hr : f_9_image h = some (r, hz)) : MC γ dd yX9_image cX9_image 2 (some .int) [.ref (γ.2.2.1 114)] h (QI r hz) := by
  unfold f_9_image at hr
  refine MC.of mi_9_image (Nat.le_of_ble_eq_true rfl) (fun ε hR => ?_)
  show VW γ ε cX9_image RX9 2 dd 0 [(0, .ref (γ.2.2.1 114))] [] h
  refine VW.iconst (v := 0) d9_image_0 ic_0 ?_
  refine VW.istore_n (lo' := [(1, .int 0), (0, .ref (γ.2.2.1 114))]) d9_image_1 (by decide) rfl ?_
  exact VW.sub [1, 0] rfl (s_9_image_2 hd hR FU 0 h hr)
theorem nz_9_isSheet (x0 : Int32) : narrow .boolean (.int (f_9_isSheet x0)) = .int (f_9_isSheet x0) := by
  unfold f_9_isSheet
  (repeat' split) <;> first | rfl | exact nz_9_in _ _ _
set_option maxRecDepth 100000 in
set_option maxHeartbeats 4000000 in
theorem c_9_isSheet {γ : Gm} {dd : Nat} {x0 : Int32} {h : Hp} {r : Int32} (hd : 1 ≤ dd) (hr : f_9_isSheet x0 = r) : MC γ dd yX9_isSheet cX9_isSheet 1 (some .boolean) [.int x0] h (QI r h) := by
  unfold f_9_isSheet at hr
  refine MC.of mi_9_isSheet (Nat.le_of_ble_eq_true rfl) (fun ε hR => ?_)
  show VW γ ε cX9_isSheet RX9 1 dd 0 [(0, .int x0)] [] h
  refine VW.iload_n d9_isSheet_0 0 rfl ?_
  refine VW.i2l d9_isSheet_1 ?_
  refine VW.lconst (v := 0) d9_isSheet_2 (by decide) ?_
  refine VW.ldc2 (v := 3) d9_isSheet_3 kc_9_127 ?_
  refine VW.callS (As := [.long (Int32.toInt64 x0), .long 0, .long 3]) (st := []) d9_isSheet_6 mi_9_in cs_9_44 (by decide) (dl1 hd) _ rfl (Nat.le_of_ble_eq_true rfl) rfl (c_9_in (dl hd rfl) rfl) (kI ?_)
  exact VW.zret d9_isSheet_9 hR (nz_9_in (Int32.toInt64 x0) 0 3) (rIt hr)
set_option maxRecDepth 100000 in
set_option maxHeartbeats 4000000 in
theorem c_9_isWord {γ : Gm} {dd : Nat} {x1 : Int32} {h : Hp} {r : Int32} (hd : 1 ≤ dd) (hr : f_9_isWord x1 h = some r) : MC γ dd yX9_isWord cX9_isWord 2 (some .boolean) [.ref (γ.2.2.1 114), .int x1] h (QI r h) := by
  unfold f_9_isWord at hr
  refine MC.of mi_9_isWord (Nat.le_of_ble_eq_true rfl) (fun ε hR => ?_)
  show VW γ ε cX9_isWord RX9 2 dd 0 [(0, .ref (γ.2.2.1 114)), (1, .int x1)] [] h
  refine VW.iload_n d9_isWord_0 1 rfl ?_
  refine VW.i2l d9_isWord_1 ?_
  refine VW.lconst (v := 0) d9_isWord_2 (by decide) ?_
  refine VW.aload_n d9_isWord_3 0 rfl ?_
  refine VW.getR (k := 0) (r := 115) d9_isWord_4 (oo_9 o9_114) rfl fl_9_7 ck9 ?_
  refine VW.iconst (v := 0) d9_isWord_7 ic_0 ?_
  refine VW.iald (j := 0) d9_isWord_8 (rf_9_0 o9_114) ib_0_380 il_0 ?_
  refine VW.iconst (v := 1) d9_isWord_9 ic_1 ?_
  refine VW.isub d9_isWord_10 ?_
  refine VW.i2l d9_isWord_11 ?_
  refine VW.callS (As := [.long (Int32.toInt64 x1), .long 0, .long (Int32.toInt64 ((h 115 0) - 1))]) (st := []) d9_isWord_12 mi_9_in cs_9_44 (by decide) (dl1 hd) _ rfl (Nat.le_of_ble_eq_true rfl) rfl (c_9_in (dl hd rfl) rfl) (kI ?_)
  exact VW.zret d9_isWord_15 hR (nz_9_in (Int32.toInt64 x1) 0 (Int32.toInt64 ((h 115 0) - 1))) (rIf hr)
set_option maxRecDepth 100000 in
set_option maxHeartbeats 4000000 in
theorem s_9_judge_30 {γ : Gm} {ε : En} {dd : Nat} (hd : 71 ≤ dd) {r : Int32} {hz : Hp} {x1 : Int32} (hR : RT γ ε (some .int) (QI r hz)) : ∀ (n : Nat) (x2 : Int32) (h : Hp), f_9_judge_30 x1 n x2 h = some (r, hz) → VW γ ε cX9_judge RX9 3 dd 30 [(0, .ref (γ.2.2.1 114)), (1, .int x1), (2, .int x2)] [] h := by
  intro n
  induction n with
  | zero =>
    intro x2 h hr
    exact nf hr
  | succ n ih =>
    intro x2 h hr
    rw [f_9_judge_30] at hr
    refine VW.iload_n d9_judge_30 2 rfl ?_
    refine VW.aload_n d9_judge_31 0 rfl ?_
    refine VW.getR (k := 22) (r := 123) d9_judge_32 (oo_9 o9_114) rfl fl_9_34 ck9 ?_
    refine VW.iload_n d9_judge_35 1 rfl ?_
    obtain ⟨g10, hr⟩ := gdt hr
    refine VW.iald (j := (ci x1)) d9_judge_36 (rf_9_22 o9_114) g10 rfl ?_
    refine VW.icmp_ge 75 d9_judge_37 (by decide) (fun c11 => ?_) (fun c11 => ?_)
    · replace hr := ip hr c11
      refine VW.iload_n d9_judge_75 2 rfl ?_
      refine VW.aload_n d9_judge_76 0 rfl ?_
      refine VW.getR (k := 22) (r := 123) d9_judge_77 (oo_9 o9_114) rfl fl_9_34 ck9 ?_
      refine VW.iload_n d9_judge_80 1 rfl ?_
      obtain ⟨g12, hr⟩ := gdt hr
      refine VW.iald (j := (ci x1)) d9_judge_81 (rf_9_22 o9_114) g12 rfl ?_
      refine VW.icmp_ne 99 d9_judge_82 (by decide) (fun c13 => ?_) (fun c13 => ?_)
      · replace hr := ip hr c13
        refine VW.iload_n d9_judge_85 2 rfl ?_
        refine VW.aload_n d9_judge_86 0 rfl ?_
        refine VW.getR (k := 0) (r := 115) d9_judge_87 (oo_9 o9_114) rfl fl_9_7 ck9 ?_
        refine VW.iconst (v := 1) d9_judge_90 ic_1 ?_
        refine VW.iald (j := 1) d9_judge_91 (rf_9_0 o9_114) ib_1_380 il_1 ?_
        refine VW.icmp_ne 99 d9_judge_92 (by decide) (fun c14 => ?_) (fun c14 => ?_)
        · replace hr := ip hr c14
          refine VW.iconst (v := (-1)) d9_judge_95 ic_m1 ?_
          refine VW.goto 100 d9_judge_96 (by decide) ?_
          exact VW.iret d9_judge_100 hR (rIw hr)
        · replace hr := im hr c14
          refine VW.iload_n d9_judge_99 2 rfl ?_
          exact VW.iret d9_judge_100 hR (rIw hr)
      · replace hr := im hr c13
        refine VW.iload_n d9_judge_99 2 rfl ?_
        exact VW.iret d9_judge_100 hR (rIw hr)
    · replace hr := im hr c11
      refine VW.iload_n d9_judge_40 2 rfl ?_
      refine VW.aload_n d9_judge_41 0 rfl ?_
      refine VW.getR (k := 0) (r := 115) d9_judge_42 (oo_9 o9_114) rfl fl_9_7 ck9 ?_
      refine VW.iconst (v := 1) d9_judge_45 ic_1 ?_
      refine VW.iald (j := 1) d9_judge_46 (rf_9_0 o9_114) ib_1_380 il_1 ?_
      refine VW.icmp_ge 75 d9_judge_47 (by decide) (fun c15 => ?_) (fun c15 => ?_)
      · replace hr := ip hr c15
        refine VW.iload_n d9_judge_75 2 rfl ?_
        refine VW.aload_n d9_judge_76 0 rfl ?_
        refine VW.getR (k := 22) (r := 123) d9_judge_77 (oo_9 o9_114) rfl fl_9_34 ck9 ?_
        refine VW.iload_n d9_judge_80 1 rfl ?_
        obtain ⟨g16, hr⟩ := gdt hr
        refine VW.iald (j := (ci x1)) d9_judge_81 (rf_9_22 o9_114) g16 rfl ?_
        refine VW.icmp_ne 99 d9_judge_82 (by decide) (fun c17 => ?_) (fun c17 => ?_)
        · replace hr := ip hr c17
          refine VW.iload_n d9_judge_85 2 rfl ?_
          refine VW.aload_n d9_judge_86 0 rfl ?_
          refine VW.getR (k := 0) (r := 115) d9_judge_87 (oo_9 o9_114) rfl fl_9_7 ck9 ?_
          refine VW.iconst (v := 1) d9_judge_90 ic_1 ?_
          refine VW.iald (j := 1) d9_judge_91 (rf_9_0 o9_114) ib_1_380 il_1 ?_
          refine VW.icmp_ne 99 d9_judge_92 (by decide) (fun c18 => ?_) (fun c18 => ?_)
          · replace hr := ip hr c18
            refine VW.iconst (v := (-1)) d9_judge_95 ic_m1 ?_
            refine VW.goto 100 d9_judge_96 (by decide) ?_
            exact VW.iret d9_judge_100 hR (rIw hr)
          · replace hr := im hr c18
            refine VW.iload_n d9_judge_99 2 rfl ?_
            exact VW.iret d9_judge_100 hR (rIw hr)
        · replace hr := im hr c17
          refine VW.iload_n d9_judge_99 2 rfl ?_
          exact VW.iret d9_judge_100 hR (rIw hr)
      · replace hr := im hr c15
        refine VW.aload_n d9_judge_50 0 rfl ?_
        refine VW.getR (k := 23) (r := 124) d9_judge_51 (oo_9 o9_114) rfl fl_9_37 ck9 ?_
        refine VW.bipush (v := 40) d9_judge_54 bp_40 ?_
        refine VW.iload_n d9_judge_56 1 rfl ?_
        refine VW.imul d9_judge_57 ?_
        refine VW.iload_n d9_judge_58 2 rfl ?_
        refine VW.iadd d9_judge_59 ?_
        obtain ⟨g19, hr⟩ := gdt hr
        refine VW.iald (j := (ci ((40 * x1) + x2))) d9_judge_60 (rf_9_23 o9_114) g19 rfl ?_
        refine VW.aload_n d9_judge_61 0 rfl ?_
        refine VW.iload_n d9_judge_62 2 rfl ?_
        obtain ⟨r21, h22, e20, hr⟩ := bno2 hr
        refine VW.callV (As := [.int x2]) (st := [.int (h 124 (ci ((40 * x1) + x2)))]) d9_judge_63 mi_9_offOf cv_9_170 (oo_9 o9_114) ⟨rfl, rfl⟩ (by decide) (dl1 hd) _ rfl (Nat.le_of_ble_eq_true rfl) rfl (c_9_offOf (dl hd rfl) e20) (kI ?_)
        refine VW.icmp_ne 75 d9_judge_66 (by decide) (fun c23 => ?_) (fun c23 => ?_)
        · replace hr := ip hr c23
          refine VW.iinc (w := 1) (lo' := [(2, .int (x2 + 1)), (0, .ref (γ.2.2.1 114)), (1, .int x1)]) d9_judge_69 2 rfl ic_1 (by decide) rfl ?_
          refine VW.goto 30 d9_judge_72 (by decide) ?_
          exact VW.sub [1, 2, 0] rfl (ih (x2 + 1) h22 hr)
        · replace hr := im hr c23
          refine VW.iload_n d9_judge_75 2 rfl ?_
          refine VW.aload_n d9_judge_76 0 rfl ?_
          refine VW.getR (k := 22) (r := 123) d9_judge_77 (oo_9 o9_114) rfl fl_9_34 ck9 ?_
          refine VW.iload_n d9_judge_80 1 rfl ?_
          obtain ⟨g24, hr⟩ := gdt hr
          refine VW.iald (j := (ci x1)) d9_judge_81 (rf_9_22 o9_114) g24 rfl ?_
          refine VW.icmp_ne 99 d9_judge_82 (by decide) (fun c25 => ?_) (fun c25 => ?_)
          · replace hr := ip hr c25
            refine VW.iload_n d9_judge_85 2 rfl ?_
            refine VW.aload_n d9_judge_86 0 rfl ?_
            refine VW.getR (k := 0) (r := 115) d9_judge_87 (oo_9 o9_114) rfl fl_9_7 ck9 ?_
            refine VW.iconst (v := 1) d9_judge_90 ic_1 ?_
            refine VW.iald (j := 1) d9_judge_91 (rf_9_0 o9_114) ib_1_380 il_1 ?_
            refine VW.icmp_ne 99 d9_judge_92 (by decide) (fun c26 => ?_) (fun c26 => ?_)
            · replace hr := ip hr c26
              refine VW.iconst (v := (-1)) d9_judge_95 ic_m1 ?_
              refine VW.goto 100 d9_judge_96 (by decide) ?_
              exact VW.iret d9_judge_100 hR (rIw hr)
            · replace hr := im hr c26
              refine VW.iload_n d9_judge_99 2 rfl ?_
              exact VW.iret d9_judge_100 hR (rIw hr)
          · replace hr := im hr c25
            refine VW.iload_n d9_judge_99 2 rfl ?_
            exact VW.iret d9_judge_100 hR (rIw hr)
set_option maxRecDepth 100000 in
set_option maxHeartbeats 4000000 in
theorem c_9_judge {γ : Gm} {dd : Nat} {x1 : Int32} {h : Hp} {r : Int32} {hz : Hp} (hd : 71 ≤ dd) (hr : f_9_judge x1 h = some (r, hz)) : MC γ dd yX9_judge cX9_judge 3 (some .int) [.ref (γ.2.2.1 114), .int x1] h (QI r hz) := by
  unfold f_9_judge at hr
  refine MC.of mi_9_judge (Nat.le_of_ble_eq_true rfl) (fun ε hR => ?_)
  show VW γ ε cX9_judge RX9 3 dd 0 [(0, .ref (γ.2.2.1 114)), (1, .int x1)] [] h
  refine VW.iload_n d9_judge_0 1 rfl ?_
  refine VW.callS (As := [.int x1]) (st := []) d9_judge_1 mi_9_isSheet cs_9_269 (by decide) (dl1 hd) _ rfl (Nat.le_of_ble_eq_true rfl) rfl (c_9_isSheet (dl hd rfl) rfl) (kI ?_)
  refine VW.if_ne 13 d9_judge_4 (by decide) (fun c1 => ?_) (fun c1 => ?_)
  · replace hr := ip hr c1
    refine VW.aload_n d9_judge_7 0 rfl ?_
    refine VW.iconst (v := 1) d9_judge_8 ic_1 ?_
    obtain ⟨r3, h4, e2, hr⟩ := bno2 hr
    refine VW.callV (As := [.int 1]) (st := []) d9_judge_9 mi_9_finds cv_9_107 (oo_9 o9_114) ⟨rfl, rfl⟩ (by decide) (dl1 hd) _ rfl (Nat.le_of_ble_eq_true rfl) rfl (c_9_finds (dl hd rfl) e2) (kI ?_)
    exact VW.iret d9_judge_12 hR (rIw hr)
  · replace hr := im hr c1
    refine VW.aload_n d9_judge_13 0 rfl ?_
    refine VW.getR (k := 21) (r := 122) d9_judge_14 (oo_9 o9_114) rfl fl_9_31 ck9 ?_
    refine VW.iload_n d9_judge_17 1 rfl ?_
    obtain ⟨g5, hr⟩ := gdt hr
    refine VW.iald (j := (ci x1)) d9_judge_18 (rf_9_21 o9_114) g5 rfl ?_
    refine VW.if_ne 28 d9_judge_19 (by decide) (fun c6 => ?_) (fun c6 => ?_)
    · replace hr := ip hr c6
      refine VW.aload_n d9_judge_22 0 rfl ?_
      refine VW.iconst (v := 2) d9_judge_23 ic_2 ?_
      obtain ⟨r8, h9, e7, hr⟩ := bno2 hr
      refine VW.callV (As := [.int 2]) (st := []) d9_judge_24 mi_9_finds cv_9_107 (oo_9 o9_114) ⟨rfl, rfl⟩ (by decide) (dl1 hd) _ rfl (Nat.le_of_ble_eq_true rfl) rfl (c_9_finds (dl hd rfl) e7) (kI ?_)
      exact VW.iret d9_judge_27 hR (rIw hr)
    · replace hr := im hr c6
      refine VW.iconst (v := 0) d9_judge_28 ic_0 ?_
      refine VW.istore_n (lo' := [(2, .int 0), (0, .ref (γ.2.2.1 114)), (1, .int x1)]) d9_judge_29 (by decide) rfl ?_
      exact VW.sub [1, 2, 0] rfl (s_9_judge_30 hd hR FU 0 h hr)
set_option maxRecDepth 100000 in
set_option maxHeartbeats 4000000 in
theorem c_9_law {γ : Gm} {dd : Nat} {x1 : Int32} {x2 : Int32} {x3 : Int32} {x4 : Int32} {h : Hp} {r : Int32} {hz : Hp} (hd : 69 ≤ dd) (hr : f_9_law x1 x2 x3 x4 h = some (r, hz)) : MC γ dd yX9_law cX9_law 5 (some .int) [.ref (γ.2.2.1 114), .int x1, .int x2, .int x3, .int x4] h (QI r hz) := by
  unfold f_9_law at hr
  refine MC.of mi_9_law (Nat.le_of_ble_eq_true rfl) (fun ε hR => ?_)
  show VW γ ε cX9_law RX9 5 dd 0 [(0, .ref (γ.2.2.1 114)), (1, .int x1), (2, .int x2), (3, .int x3), (4, .int x4)] [] h
  refine VW.iload_n d9_law_0 1 rfl ?_
  refine VW.i2l d9_law_1 ?_
  refine VW.lconst (v := 0) d9_law_2 (by decide) ?_
  refine VW.lconst (v := 1) d9_law_3 (by decide) ?_
  refine VW.callS (As := [.long (Int32.toInt64 x1), .long 0, .long 1]) (st := []) d9_law_4 mi_9_in cs_9_44 (by decide) (dl1 hd) _ rfl (Nat.le_of_ble_eq_true rfl) rfl (c_9_in (dl hd rfl) rfl) (kI ?_)
  refine VW.if_eq 22 d9_law_7 (by decide) (fun c1 => ?_) (fun c1 => ?_)
  · replace hr := ip hr c1
    refine VW.aload_n d9_law_22 0 rfl ?_
    refine VW.iconst (v := 1) d9_law_23 ic_1 ?_
    obtain ⟨r3, h4, e2, hr⟩ := bno2 hr
    refine VW.callV (As := [.int 1]) (st := []) d9_law_24 mi_9_finds cv_9_107 (oo_9 o9_114) ⟨rfl, rfl⟩ (by decide) (dl1 hd) _ rfl (Nat.le_of_ble_eq_true rfl) rfl (c_9_finds (dl hd rfl) e2) (kI ?_)
    exact VW.iret d9_law_27 hR (rIw hr)
  · replace hr := im hr c1
    refine VW.aload_n d9_law_10 0 rfl ?_
    refine VW.iload_n d9_law_11 1 rfl ?_
    refine VW.iload_n d9_law_12 2 rfl ?_
    refine VW.iload_n d9_law_13 3 rfl ?_
    refine VW.iload d9_law_14 4 rfl ?_
    obtain ⟨r6, h7, e5, hr⟩ := bno2 hr
    refine VW.callV (As := [.int x1, .int x2, .int x3, .int x4]) (st := []) d9_law_16 mi_9_textGives cv_9_119 (oo_9 o9_114) ⟨rfl, rfl⟩ (by decide) (dl1 hd) _ rfl (Nat.le_of_ble_eq_true rfl) rfl (c_9_textGives (dl hd rfl) e5) (kI ?_)
    refine VW.goto 27 d9_law_19 (by decide) ?_
    exact VW.iret d9_law_27 hR (rIw hr)
set_option maxRecDepth 100000 in
set_option maxHeartbeats 4000000 in
theorem c_9_like {γ : Gm} {dd : Nat} {x1 : Int32} {x2 : Int32} {x3 : Int32} {h : Hp} {r : Int32} {hz : Hp} (hd : 1 ≤ dd) (hr : f_9_like x1 x2 x3 h = some (r, hz)) : MC γ dd yX9_like cX9_like 5 (some .int) [.ref (γ.2.2.1 114), .int x1, .int x2, .int x3] h (QI r hz) := by
  unfold f_9_like at hr
  refine MC.of mi_9_like (Nat.le_of_ble_eq_true rfl) (fun ε hR => ?_)
  show VW γ ε cX9_like RX9 5 dd 0 [(0, .ref (γ.2.2.1 114)), (1, .int x1), (2, .int x2), (3, .int x3)] [] h
  refine VW.iload_n d9_like_0 1 rfl ?_
  refine VW.i2l d9_like_1 ?_
  refine VW.lconst (v := 0) d9_like_2 (by decide) ?_
  refine VW.ldc2 (v := 3) d9_like_3 kc_9_127 ?_
  refine VW.callS (As := [.long (Int32.toInt64 x1), .long 0, .long 3]) (st := []) d9_like_6 mi_9_in cs_9_44 (by decide) (dl1 hd) _ rfl (Nat.le_of_ble_eq_true rfl) rfl (c_9_in (dl hd rfl) rfl) (kI ?_)
  refine VW.if_eq 36 d9_like_9 (by decide) (fun c1 => ?_) (fun c1 => ?_)
  · replace hr := ip hr c1
    refine VW.aload_n d9_like_36 0 rfl ?_
    refine VW.iconst (v := 1) d9_like_37 ic_1 ?_
    obtain ⟨r3, h4, e2, hr⟩ := bno2 hr
    refine VW.callV (As := [.int 1]) (st := []) d9_like_38 mi_9_finds cv_9_107 (oo_9 o9_114) ⟨rfl, rfl⟩ (by decide) (dl1 hd) _ rfl (Nat.le_of_ble_eq_true rfl) rfl (c_9_finds (dl hd rfl) e2) (kI ?_)
    exact VW.iret d9_like_41 hR (rIw hr)
  · replace hr := im hr c1
    refine VW.iload_n d9_like_12 2 rfl ?_
    refine VW.i2l d9_like_13 ?_
    refine VW.lconst (v := 0) d9_like_14 (by decide) ?_
    refine VW.ldc2 (v := 3) d9_like_15 kc_9_127 ?_
    refine VW.callS (As := [.long (Int32.toInt64 x2), .long 0, .long 3]) (st := []) d9_like_18 mi_9_in cs_9_44 (by decide) (dl1 hd) _ rfl (Nat.le_of_ble_eq_true rfl) rfl (c_9_in (dl hd rfl) rfl) (kI ?_)
    refine VW.if_eq 36 d9_like_21 (by decide) (fun c5 => ?_) (fun c5 => ?_)
    · replace hr := ip hr c5
      refine VW.aload_n d9_like_36 0 rfl ?_
      refine VW.iconst (v := 1) d9_like_37 ic_1 ?_
      obtain ⟨r7, h8, e6, hr⟩ := bno2 hr
      refine VW.callV (As := [.int 1]) (st := []) d9_like_38 mi_9_finds cv_9_107 (oo_9 o9_114) ⟨rfl, rfl⟩ (by decide) (dl1 hd) _ rfl (Nat.le_of_ble_eq_true rfl) rfl (c_9_finds (dl hd rfl) e6) (kI ?_)
      exact VW.iret d9_like_41 hR (rIw hr)
    · replace hr := im hr c5
      refine VW.iload_n d9_like_24 3 rfl ?_
      refine VW.i2l d9_like_25 ?_
      refine VW.lconst (v := 0) d9_like_26 (by decide) ?_
      refine VW.ldc2 (v := 99) d9_like_27 kc_9_134 ?_
      refine VW.callS (As := [.long (Int32.toInt64 x3), .long 0, .long 99]) (st := []) d9_like_30 mi_9_in cs_9_44 (by decide) (dl1 hd) _ rfl (Nat.le_of_ble_eq_true rfl) rfl (c_9_in (dl hd rfl) rfl) (kI ?_)
      refine VW.if_ne 42 d9_like_33 (by decide) (fun c9 => ?_) (fun c9 => ?_)
      · replace hr := ip hr c9
        refine VW.aload_n d9_like_36 0 rfl ?_
        refine VW.iconst (v := 1) d9_like_37 ic_1 ?_
        obtain ⟨r11, h12, e10, hr⟩ := bno2 hr
        refine VW.callV (As := [.int 1]) (st := []) d9_like_38 mi_9_finds cv_9_107 (oo_9 o9_114) ⟨rfl, rfl⟩ (by decide) (dl1 hd) _ rfl (Nat.le_of_ble_eq_true rfl) rfl (c_9_finds (dl hd rfl) e10) (kI ?_)
        exact VW.iret d9_like_41 hR (rIw hr)
      · replace hr := im hr c9
        refine VW.aload_n d9_like_42 0 rfl ?_
        refine VW.getR (k := 0) (r := 115) d9_like_43 (oo_9 o9_114) rfl fl_9_7 ck9 ?_
        refine VW.bipush (v := 8) d9_like_46 bp_8 ?_
        refine VW.iconst (v := 4) d9_like_48 ic_4 ?_
        refine VW.iload_n d9_like_49 1 rfl ?_
        refine VW.imul d9_like_50 ?_
        refine VW.iadd d9_like_51 ?_
        refine VW.iload_n d9_like_52 2 rfl ?_
        refine VW.iadd d9_like_53 ?_
        obtain ⟨g13, hr⟩ := gdt hr
        refine VW.iald (j := (ci ((8 + (4 * x1)) + x2))) d9_like_54 (rf_9_0 o9_114) g13 rfl ?_
        refine VW.istore (lo' := [(4, .int (h 115 (ci ((8 + (4 * x1)) + x2)))), (0, .ref (γ.2.2.1 114)), (1, .int x1), (2, .int x2), (3, .int x3)]) d9_like_55 (by decide) rfl ?_
        refine VW.aload_n d9_like_57 1 rfl ?_
        refine VW.getR (k := 0) (r := 115) d9_like_58 (oo_9 o9_114) rfl fl_9_7 ck9 ?_
        refine VW.bipush (v := 8) d9_like_61 bp_8 ?_
        refine VW.iconst (v := 4) d9_like_63 ic_4 ?_
        refine VW.iload_n d9_like_64 2 rfl ?_
        refine VW.imul d9_like_65 ?_
        refine VW.iadd d9_like_66 ?_
        refine VW.iload_n d9_like_67 3 rfl ?_
        refine VW.iadd d9_like_68 ?_
        refine VW.iload_n d9_like_69 4 rfl ?_
        obtain ⟨g14, hr⟩ := gdt hr
        obtain ⟨h15, e16, hr⟩ := hlt hr
        refine VW.iast (j := (ci ((8 + (4 * x1)) + x2))) d9_like_70 (rf_9_0 o9_114) g14 rfl ?_
        refine VW.heq e16 ?_
        refine VW.iload d9_like_71 0 rfl ?_
        exact VW.iret d9_like_73 hR (rIw hr)
