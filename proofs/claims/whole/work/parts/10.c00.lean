set_option maxRecDepth 100000 in
set_option maxHeartbeats 4000000 in
theorem c_0_setKind {γ : Gm} {dd : Nat} {p0 : Nat} {x1 : Int32} (q0 : isO 0 p0) {h : Hp} {hz : Hp} (hd : 0 ≤ dd) (hr : f_0_setKind p0 x1 h = some hz) : MC γ dd yX0_setKind cX0_setKind 2 none [.ref (γ.2.2.1 p0), .int x1] h (QV hz) := by
  unfold f_0_setKind at hr
  refine MC.of mi_0_setKind (Nat.le_of_ble_eq_true rfl) (fun ε hR => ?_)
  show VW γ ε cX0_setKind RX0 2 dd 0 [(0, .ref (γ.2.2.1 p0)), (1, .int x1)] [] h
  refine VW.aload_n d0_setKind_0 0 rfl ?_
  refine VW.iload_n d0_setKind_1 1 rfl ?_
  refine VW.bipush (v := 10) d0_setKind_2 bp_10 ?_
  refine VW.idiv d0_setKind_4 (by decide) ?_
  obtain ⟨h1, e2, hr⟩ := hlt hr
  refine VW.putI (k := 2) d0_setKind_5 (oo_0 q0) rfl fl_0_19 ck0 rfl rfl rfl rfl ?_
  refine VW.heq e2 ?_
  refine VW.aload_n d0_setKind_8 0 rfl ?_
  refine VW.iload_n d0_setKind_9 1 rfl ?_
  refine VW.bipush (v := 10) d0_setKind_10 bp_10 ?_
  refine VW.irem d0_setKind_12 (by decide) ?_
  obtain ⟨h3, e4, hr⟩ := hlt hr
  refine VW.putI (k := 3) d0_setKind_13 (oo_0 q0) rfl fl_0_22 ck0 rfl rfl rfl rfl ?_
  refine VW.heq e4 ?_
  exact VW.vret d0_setKind_16 hR (rV hr)
set_option maxRecDepth 100000 in
set_option maxHeartbeats 4000000 in
theorem c_0_begin {γ : Gm} {dd : Nat} {p0 : Nat} {x1 : Int32} {x2 : Int32} {x3 : Int32} (q0 : isO 0 p0) {h : Hp} {hz : Hp} (hd : 1 ≤ dd) (hr : f_0_begin p0 x1 x2 x3 h = some hz) : MC γ dd yX0_begin cX0_begin 4 none [.ref (γ.2.2.1 p0), .int x1, .int x2, .int x3] h (QV hz) := by
  unfold f_0_begin at hr
  refine MC.of mi_0_begin (Nat.le_of_ble_eq_true rfl) (fun ε hR => ?_)
  show VW γ ε cX0_begin RX0 4 dd 0 [(0, .ref (γ.2.2.1 p0)), (1, .int x1), (2, .int x2), (3, .int x3)] [] h
  refine VW.aload_n d0_begin_0 0 rfl ?_
  refine VW.iload_n d0_begin_1 1 rfl ?_
  obtain ⟨h2, e1, hr⟩ := bno hr
  refine VW.callV (As := [.int x1]) (st := []) d0_begin_2 mi_0_setKind cv_0_34 (oo_0 q0) ⟨rfl, rfl⟩ (by decide) (dl1 hd) _ rfl (Nat.le_of_ble_eq_true rfl) rfl (c_0_setKind q0 (dl hd rfl) e1) (kV ?_)
  refine VW.aload_n d0_begin_5 0 rfl ?_
  refine VW.iload_n d0_begin_6 2 rfl ?_
  obtain ⟨h3, e4, hr⟩ := hlt hr
  refine VW.putI (k := 4) d0_begin_7 (oo_0 q0) rfl fl_0_25 ck0 rfl rfl rfl rfl ?_
  refine VW.heq e4 ?_
  refine VW.aload_n d0_begin_10 0 rfl ?_
  refine VW.iload_n d0_begin_11 3 rfl ?_
  obtain ⟨h5, e6, hr⟩ := hlt hr
  refine VW.putI (k := 5) d0_begin_12 (oo_0 q0) rfl fl_0_28 ck0 rfl rfl rfl rfl ?_
  refine VW.heq e6 ?_
  refine VW.aload_n d0_begin_15 0 rfl ?_
  refine VW.iconst (v := 0) d0_begin_16 ic_0 ?_
  obtain ⟨h7, e8, hr⟩ := hlt hr
  refine VW.putI (k := 6) d0_begin_17 (oo_0 q0) rfl fl_0_31 ck0 rfl rfl rfl rfl ?_
  refine VW.heq e8 ?_
  refine VW.aload_n d0_begin_20 0 rfl ?_
  refine VW.iconst (v := 0) d0_begin_21 ic_0 ?_
  obtain ⟨h9, e10, hr⟩ := hlt hr
  refine VW.putI (k := 1) d0_begin_22 (oo_0 q0) rfl fl_0_15 ck0 rfl rfl rfl rfl ?_
  refine VW.heq e10 ?_
  exact VW.vret d0_begin_25 hR (rV hr)
set_option maxRecDepth 100000 in
set_option maxHeartbeats 4000000 in
theorem c_0_setRow {γ : Gm} {dd : Nat} {p0 : Nat} {x1 : Int32} {x2 : Int32} {x3 : Int32} {x4 : Int32} (q0 : isO 0 p0) {h : Hp} {hz : Hp} (hd : 0 ≤ dd) (hr : f_0_setRow p0 x1 x2 x3 x4 h = some hz) : MC γ dd yX0_setRow cX0_setRow 5 none [.ref (γ.2.2.1 p0), .int x1, .int x2, .int x3, .int x4] h (QV hz) := by
  unfold f_0_setRow at hr
  refine MC.of mi_0_setRow (Nat.le_of_ble_eq_true rfl) (fun ε hR => ?_)
  show VW γ ε cX0_setRow RX0 5 dd 0 [(0, .ref (γ.2.2.1 p0)), (1, .int x1), (2, .int x2), (3, .int x3), (4, .int x4)] [] h
  refine VW.aload_n d0_setRow_0 0 rfl ?_
  refine VW.iload_n d0_setRow_1 1 rfl ?_
  obtain ⟨h1, e2, hr⟩ := hlt hr
  refine VW.putI (k := 1) d0_setRow_2 (oo_0 q0) rfl fl_0_15 ck0 rfl rfl rfl rfl ?_
  refine VW.heq e2 ?_
  refine VW.aload_n d0_setRow_5 0 rfl ?_
  refine VW.getR (k := 0) (r := (p0 + 1)) d0_setRow_6 (oo_0 q0) rfl fl_0_9 ck0 ?_
  refine VW.iconst (v := 0) d0_setRow_9 ic_0 ?_
  refine VW.iload_n d0_setRow_10 2 rfl ?_
  obtain ⟨h3, e4, hr⟩ := hlt hr
  refine VW.iast (j := 0) d0_setRow_11 (rf_0_0 q0) ib_0_3 il_0 ?_
  refine VW.heq e4 ?_
  refine VW.aload_n d0_setRow_12 0 rfl ?_
  refine VW.getR (k := 0) (r := (p0 + 1)) d0_setRow_13 (oo_0 q0) rfl fl_0_9 ck0 ?_
  refine VW.iconst (v := 1) d0_setRow_16 ic_1 ?_
  refine VW.iload_n d0_setRow_17 3 rfl ?_
  obtain ⟨h5, e6, hr⟩ := hlt hr
  refine VW.iast (j := 1) d0_setRow_18 (rf_0_0 q0) ib_1_3 il_1 ?_
  refine VW.heq e6 ?_
  refine VW.aload_n d0_setRow_19 0 rfl ?_
  refine VW.getR (k := 0) (r := (p0 + 1)) d0_setRow_20 (oo_0 q0) rfl fl_0_9 ck0 ?_
  refine VW.iconst (v := 2) d0_setRow_23 ic_2 ?_
  refine VW.iload d0_setRow_24 4 rfl ?_
  obtain ⟨h7, e8, hr⟩ := hlt hr
  refine VW.iast (j := 2) d0_setRow_26 (rf_0_0 q0) ib_2_3 il_2 ?_
  refine VW.heq e8 ?_
  exact VW.vret d0_setRow_27 hR (rV hr)
set_option maxRecDepth 100000 in
set_option maxHeartbeats 4000000 in
theorem c_0_copy {γ : Gm} {dd : Nat} {p0 : Nat} {p1 : Nat} (q0 : isO 0 p0) (q1 : isO 0 p1) {h : Hp} {hz : Hp} (hd : 1 ≤ dd) (hr : f_0_copy p0 p1 h = some hz) : MC γ dd yX0_copy cX0_copy 2 none [.ref (γ.2.2.1 p0), .ref (γ.2.2.1 p1)] h (QV hz) := by
  unfold f_0_copy at hr
  refine MC.of mi_0_copy (Nat.le_of_ble_eq_true rfl) (fun ε hR => ?_)
  show VW γ ε cX0_copy RX0 2 dd 0 [(0, .ref (γ.2.2.1 p0)), (1, .ref (γ.2.2.1 p1))] [] h
  refine VW.aload_n d0_copy_0 0 rfl ?_
  refine VW.bipush (v := 10) d0_copy_1 bp_10 ?_
  refine VW.aload_n d0_copy_3 1 rfl ?_
  refine VW.getI (k := 2) d0_copy_4 (oo_0 q1) rfl fl_0_19 ck0 ?_
  refine VW.imul d0_copy_7 ?_
  refine VW.aload_n d0_copy_8 1 rfl ?_
  refine VW.getI (k := 3) d0_copy_9 (oo_0 q1) rfl fl_0_22 ck0 ?_
  refine VW.iadd d0_copy_12 ?_
  obtain ⟨h2, e1, hr⟩ := bno hr
  refine VW.callV (As := [.int ((10 * (h p1 2)) + (h p1 3))]) (st := []) d0_copy_13 mi_0_setKind cv_0_34 (oo_0 q0) ⟨rfl, rfl⟩ (by decide) (dl1 hd) _ rfl (Nat.le_of_ble_eq_true rfl) rfl (c_0_setKind q0 (dl hd rfl) e1) (kV ?_)
  refine VW.aload_n d0_copy_16 0 rfl ?_
  refine VW.aload_n d0_copy_17 1 rfl ?_
  refine VW.getI (k := 4) d0_copy_18 (oo_0 q1) rfl fl_0_25 ck0 ?_
  obtain ⟨h3, e4, hr⟩ := hlt hr
  refine VW.putI (k := 4) d0_copy_21 (oo_0 q0) rfl fl_0_25 ck0 rfl rfl rfl rfl ?_
  refine VW.heq e4 ?_
  refine VW.aload_n d0_copy_24 0 rfl ?_
  refine VW.aload_n d0_copy_25 1 rfl ?_
  refine VW.getI (k := 5) d0_copy_26 (oo_0 q1) rfl fl_0_28 ck0 ?_
  obtain ⟨h5, e6, hr⟩ := hlt hr
  refine VW.putI (k := 5) d0_copy_29 (oo_0 q0) rfl fl_0_28 ck0 rfl rfl rfl rfl ?_
  refine VW.heq e6 ?_
  refine VW.aload_n d0_copy_32 0 rfl ?_
  refine VW.aload_n d0_copy_33 1 rfl ?_
  refine VW.getI (k := 6) d0_copy_34 (oo_0 q1) rfl fl_0_31 ck0 ?_
  obtain ⟨h7, e8, hr⟩ := hlt hr
  refine VW.putI (k := 6) d0_copy_37 (oo_0 q0) rfl fl_0_31 ck0 rfl rfl rfl rfl ?_
  refine VW.heq e8 ?_
  refine VW.aload_n d0_copy_40 0 rfl ?_
  refine VW.aload_n d0_copy_41 1 rfl ?_
  refine VW.getI (k := 1) d0_copy_42 (oo_0 q1) rfl fl_0_15 ck0 ?_
  refine VW.aload_n d0_copy_45 1 rfl ?_
  refine VW.getR (k := 0) (r := (p1 + 1)) d0_copy_46 (oo_0 q1) rfl fl_0_9 ck0 ?_
  refine VW.iconst (v := 0) d0_copy_49 ic_0 ?_
  refine VW.iald (j := 0) d0_copy_50 (rf_0_0 q1) ib_0_3 il_0 ?_
  refine VW.aload_n d0_copy_51 1 rfl ?_
  refine VW.getR (k := 0) (r := (p1 + 1)) d0_copy_52 (oo_0 q1) rfl fl_0_9 ck0 ?_
  refine VW.iconst (v := 1) d0_copy_55 ic_1 ?_
  refine VW.iald (j := 1) d0_copy_56 (rf_0_0 q1) ib_1_3 il_1 ?_
  refine VW.aload_n d0_copy_57 1 rfl ?_
  refine VW.getR (k := 0) (r := (p1 + 1)) d0_copy_58 (oo_0 q1) rfl fl_0_9 ck0 ?_
  refine VW.iconst (v := 2) d0_copy_61 ic_2 ?_
  refine VW.iald (j := 2) d0_copy_62 (rf_0_0 q1) ib_2_3 il_2 ?_
  obtain ⟨h10, e9, hr⟩ := bno hr
  refine VW.callV (As := [.int (h7 p1 1), .int (h7 (p1 + 1) 0), .int (h7 (p1 + 1) 1), .int (h7 (p1 + 1) 2)]) (st := []) d0_copy_63 mi_0_setRow cv_0_38 (oo_0 q0) ⟨rfl, rfl⟩ (by decide) (dl1 hd) _ rfl (Nat.le_of_ble_eq_true rfl) rfl (c_0_setRow q0 (dl hd rfl) e9) (kV ?_)
  exact VW.vret d0_copy_66 hR (rV hr)
set_option maxRecDepth 100000 in
set_option maxHeartbeats 4000000 in
theorem c_1_here {γ : Gm} {dd : Nat} {h : Hp} {r : Int32} (hd : 0 ≤ dd) (hr : f_1_here h = some r) : MC γ dd yX1_here cX1_here 1 (some .int) [.ref (γ.2.2.1 100)] h (QI r h) := by
  unfold f_1_here at hr
  refine MC.of mi_1_here (Nat.le_of_ble_eq_true rfl) (fun ε hR => ?_)
  show VW γ ε cX1_here RX1 1 dd 0 [(0, .ref (γ.2.2.1 100))] [] h
  refine VW.aload_n d1_here_0 0 rfl ?_
  refine VW.getI (k := 6) d1_here_1 (oo_1 o1_100) rfl fl_1_31 ck1 ?_
  refine VW.if_ne 30 d1_here_4 (by decide) (fun c1 => ?_) (fun c1 => ?_)
  · replace hr := ip hr c1
    refine VW.aload_n d1_here_7 0 rfl ?_
    refine VW.getI (k := 5) d1_here_8 (oo_1 o1_100) rfl fl_1_28 ck1 ?_
    refine VW.aload_n d1_here_11 0 rfl ?_
    refine VW.getI (k := 3) d1_here_12 (oo_1 o1_100) rfl fl_1_22 ck1 ?_
    refine VW.icmp_ge 30 d1_here_15 (by decide) (fun c2 => ?_) (fun c2 => ?_)
    · replace hr := ip hr c2
      refine VW.iconst (v := (-1)) d1_here_30 ic_m1 ?_
      exact VW.iret d1_here_31 hR (rIf hr)
    · replace hr := im hr c2
      refine VW.aload_n d1_here_18 0 rfl ?_
      refine VW.getR (k := 2) (r := 102) d1_here_19 (oo_1 o1_100) rfl fl_1_19 ck1 ?_
      refine VW.aload_n d1_here_22 0 rfl ?_
      refine VW.getI (k := 5) d1_here_23 (oo_1 o1_100) rfl fl_1_28 ck1 ?_
      obtain ⟨g3, hr⟩ := gdt hr
      refine VW.iald (j := (ci (h 100 5))) d1_here_26 (rf_1_2 o1_100) g3 rfl ?_
      refine VW.goto 31 d1_here_27 (by decide) ?_
      exact VW.iret d1_here_31 hR (rIf hr)
  · replace hr := im hr c1
    refine VW.iconst (v := (-1)) d1_here_30 ic_m1 ?_
    exact VW.iret d1_here_31 hR (rIf hr)
theorem nz_8_within (x0 : Int32) (x1 : Int32) (x2 : Int32) : narrow .boolean (.int (f_8_within x0 x1 x2)) = .int (f_8_within x0 x1 x2) := by
  unfold f_8_within
  (repeat' split) <;> first | rfl
set_option maxRecDepth 100000 in
set_option maxHeartbeats 4000000 in
theorem c_8_within {γ : Gm} {dd : Nat} {x0 : Int32} {x1 : Int32} {x2 : Int32} {h : Hp} {r : Int32} (hd : 0 ≤ dd) (hr : f_8_within x0 x1 x2 = r) : MC γ dd yX8_within cX8_within 3 (some .boolean) [.int x0, .int x1, .int x2] h (QI r h) := by
  unfold f_8_within at hr
  refine MC.of mi_8_within (Nat.le_of_ble_eq_true rfl) (fun ε hR => ?_)
  show VW γ ε cX8_within RX8 3 dd 0 [(0, .int x0), (1, .int x1), (2, .int x2)] [] h
  refine VW.iload_n d8_within_0 0 rfl ?_
  refine VW.iload_n d8_within_1 1 rfl ?_
  refine VW.icmp_lt 14 d8_within_2 (by decide) (fun c1 => ?_) (fun c1 => ?_)
  · replace hr := ip hr c1
    refine VW.iconst (v := 0) d8_within_14 ic_0 ?_
    exact VW.zret d8_within_15 hR rfl (rIt hr)
  · replace hr := im hr c1
    refine VW.iload_n d8_within_5 0 rfl ?_
    refine VW.iload_n d8_within_6 2 rfl ?_
    refine VW.icmp_gt 14 d8_within_7 (by decide) (fun c2 => ?_) (fun c2 => ?_)
    · replace hr := ip hr c2
      refine VW.iconst (v := 0) d8_within_14 ic_0 ?_
      exact VW.zret d8_within_15 hR rfl (rIt hr)
    · replace hr := im hr c2
      refine VW.iconst (v := 1) d8_within_10 ic_1 ?_
      refine VW.goto 15 d8_within_11 (by decide) ?_
      exact VW.zret d8_within_15 hR rfl (rIt hr)
theorem nz_1_isDigit (x0 : Int32) : narrow .boolean (.int (f_1_isDigit x0)) = .int (f_1_isDigit x0) := by
  unfold f_1_isDigit
  (repeat' split) <;> first | rfl | exact nz_8_within _ _ _
set_option maxRecDepth 100000 in
set_option maxHeartbeats 4000000 in
theorem c_1_isDigit {γ : Gm} {dd : Nat} {x0 : Int32} {h : Hp} {r : Int32} (hd : 1 ≤ dd) (hr : f_1_isDigit x0 = r) : MC γ dd yX1_isDigit cX1_isDigit 1 (some .boolean) [.int x0] h (QI r h) := by
  unfold f_1_isDigit at hr
  refine MC.of mi_1_isDigit (Nat.le_of_ble_eq_true rfl) (fun ε hR => ?_)
  show VW γ ε cX1_isDigit RX1 1 dd 0 [(0, .int x0)] [] h
  refine VW.iload_n d1_isDigit_0 0 rfl ?_
  refine VW.bipush (v := 48) d1_isDigit_1 bp_48 ?_
  refine VW.bipush (v := 57) d1_isDigit_3 bp_57 ?_
  refine VW.callN (As := [.int x0, .int 48, .int 57]) (st := []) d1_isDigit_5 mi_8_within cn_1_88 (by decide) (dl1 hd) _ rfl (Nat.le_of_ble_eq_true rfl) rfl (c_8_within (dl hd rfl) rfl) (kI ?_)
  exact VW.zret d1_isDigit_8 hR (nz_8_within x0 48 57) (rIt hr)
set_option maxRecDepth 100000 in
set_option maxHeartbeats 4000000 in
theorem c_1_levelOf {γ : Gm} {dd : Nat} {x0 : Int32} {h : Hp} {r : Int32} (hd : 0 ≤ dd) (hr : f_1_levelOf x0 = r) : MC γ dd yX1_levelOf cX1_levelOf 1 (some .int) [.int x0] h (QI r h) := by
  unfold f_1_levelOf at hr
  refine MC.of mi_1_levelOf (Nat.le_of_ble_eq_true rfl) (fun ε hR => ?_)
  show VW γ ε cX1_levelOf RX1 1 dd 0 [(0, .int x0)] [] h
  refine VW.iload_n d1_levelOf_0 0 rfl ?_
  by_cases c1 : x0 = 37
  · replace hr := ip hr c1
    refine VW.lookup (off := 99) 100 d1_levelOf_1 (by decide) (by rw [c1]; decide) (by decide) ?_
    refine VW.iconst (v := 4) d1_levelOf_100 ic_4 ?_
    exact VW.iret d1_levelOf_101 hR (rIt hr)
  · replace hr := im hr c1
    by_cases c2 : x0 = 38
    · replace hr := ip hr c2
      refine VW.lookup (off := 93) 94 d1_levelOf_1 (by decide) (by rw [c2]; decide) (by decide) ?_
      refine VW.iconst (v := 1) d1_levelOf_94 ic_1 ?_
      exact VW.iret d1_levelOf_95 hR (rIt hr)
    · replace hr := im hr c2
      by_cases c3 : x0 = 42
      · replace hr := ip hr c3
        refine VW.lookup (off := 99) 100 d1_levelOf_1 (by decide) (by rw [c3]; decide) (by decide) ?_
        refine VW.iconst (v := 4) d1_levelOf_100 ic_4 ?_
        exact VW.iret d1_levelOf_101 hR (rIt hr)
      · replace hr := im hr c3
        by_cases c4 : x0 = 43
        · replace hr := ip hr c4
          refine VW.lookup (off := 97) 98 d1_levelOf_1 (by decide) (by rw [c4]; decide) (by decide) ?_
          refine VW.iconst (v := 3) d1_levelOf_98 ic_3 ?_
          exact VW.iret d1_levelOf_99 hR (rIt hr)
        · replace hr := im hr c4
          by_cases c5 : x0 = 45
          · replace hr := ip hr c5
            refine VW.lookup (off := 97) 98 d1_levelOf_1 (by decide) (by rw [c5]; decide) (by decide) ?_
            refine VW.iconst (v := 3) d1_levelOf_98 ic_3 ?_
            exact VW.iret d1_levelOf_99 hR (rIt hr)
          · replace hr := im hr c5
            by_cases c6 : x0 = 47
            · replace hr := ip hr c6
              refine VW.lookup (off := 99) 100 d1_levelOf_1 (by decide) (by rw [c6]; decide) (by decide) ?_
              refine VW.iconst (v := 4) d1_levelOf_100 ic_4 ?_
              exact VW.iret d1_levelOf_101 hR (rIt hr)
            · replace hr := im hr c6
              by_cases c7 : x0 = 60
              · replace hr := ip hr c7
                refine VW.lookup (off := 95) 96 d1_levelOf_1 (by decide) (by rw [c7]; decide) (by decide) ?_
                refine VW.iconst (v := 2) d1_levelOf_96 ic_2 ?_
                exact VW.iret d1_levelOf_97 hR (rIt hr)
              · replace hr := im hr c7
                by_cases c8 : x0 = 61
                · replace hr := ip hr c8
                  refine VW.lookup (off := 95) 96 d1_levelOf_1 (by decide) (by rw [c8]; decide) (by decide) ?_
                  refine VW.iconst (v := 2) d1_levelOf_96 ic_2 ?_
                  exact VW.iret d1_levelOf_97 hR (rIt hr)
                · replace hr := im hr c8
                  by_cases c9 : x0 = 62
                  · replace hr := ip hr c9
                    refine VW.lookup (off := 95) 96 d1_levelOf_1 (by decide) (by rw [c9]; decide) (by decide) ?_
                    refine VW.iconst (v := 2) d1_levelOf_96 ic_2 ?_
                    exact VW.iret d1_levelOf_97 hR (rIt hr)
                  · replace hr := im hr c9
                    by_cases c10 : x0 = 124
                    · replace hr := ip hr c10
                      refine VW.lookup (off := 91) 92 d1_levelOf_1 (by decide) (by rw [c10]; decide) (by decide) ?_
                      refine VW.iconst (v := 0) d1_levelOf_92 ic_0 ?_
                      exact VW.iret d1_levelOf_93 hR (rIt hr)
                    · replace hr := im hr c10
                      refine VW.lookup (off := 101) 102 d1_levelOf_1 (by decide) ((lv_osw c1 (by decide)).trans ((lv_osw c2 (by decide)).trans ((lv_osw c3 (by decide)).trans ((lv_osw c4 (by decide)).trans ((lv_osw c5 (by decide)).trans ((lv_osw c6 (by decide)).trans ((lv_osw c7 (by decide)).trans ((lv_osw c8 (by decide)).trans ((lv_osw c9 (by decide)).trans ((lv_osw c10 (by decide)).trans rfl)))))))))) (by decide) ?_
                      refine VW.iconst (v := (-1)) d1_levelOf_102 ic_m1 ?_
                      exact VW.iret d1_levelOf_103 hR (rIt hr)
set_option maxRecDepth 100000 in
set_option maxHeartbeats 4000000 in
theorem s_1_nameOf_2 {γ : Gm} {ε : En} {dd : Nat} (hd : 0 ≤ dd) {r : Int32} {x1 : Int32} {h : Hp} (hR : RT γ ε (some .int) (QI r h)) : ∀ (n : Nat) (x2 : Int32), f_1_nameOf_2 x1 h n x2 = some r → VW γ ε cX1_nameOf RX1 3 dd 2 [(0, .ref (γ.2.2.1 100)), (1, .int x1), (2, .int x2)] [] h := by
  intro n
  induction n with
  | zero =>
    intro x2 hr
    exact nf hr
  | succ n ih =>
    intro x2 hr
    rw [f_1_nameOf_2] at hr
    refine VW.iload_n d1_nameOf_2 2 rfl ?_
    refine VW.iconst (v := 3) d1_nameOf_3 ic_3 ?_
    refine VW.icmp_ge 31 d1_nameOf_4 (by decide) (fun c1 => ?_) (fun c1 => ?_)
    · replace hr := ip hr c1
      refine VW.iconst (v := (-1)) d1_nameOf_31 ic_m1 ?_
      exact VW.iret d1_nameOf_32 hR (rIf hr)
    · replace hr := im hr c1
      refine VW.gets d1_nameOf_7 (rfl : stl[1]? = _) sl_1_84 ?_
      refine VW.iconst (v := 3) d1_nameOf_10 ic_3 ?_
      refine VW.aload_n d1_nameOf_11 0 rfl ?_
      refine VW.getI (k := 4) d1_nameOf_12 (oo_1 o1_100) rfl fl_1_25 ck1 ?_
      refine VW.imul d1_nameOf_15 ?_
      refine VW.iload_n d1_nameOf_16 2 rfl ?_
      refine VW.iadd d1_nameOf_17 ?_
      obtain ⟨g2, hr⟩ := gdt hr
      refine VW.tcld d1_nameOf_18 (rfl : stl[1]? = _) g2 ?_
      refine VW.iload_n d1_nameOf_19 1 rfl ?_
      refine VW.icmp_ne 25 d1_nameOf_20 (by decide) (fun c3 => ?_) (fun c3 => ?_)
      · replace hr := ip hr c3
        refine VW.iload_n d1_nameOf_23 2 rfl ?_
        exact VW.iret d1_nameOf_24 hR (rIf hr)
      · replace hr := im hr c3
        refine VW.iinc (w := 1) (lo' := [(2, .int (x2 + 1)), (0, .ref (γ.2.2.1 100)), (1, .int x1)]) d1_nameOf_25 2 rfl ic_1 (by decide) rfl ?_
        refine VW.goto 2 d1_nameOf_28 (by decide) ?_
        exact VW.sub [1, 2, 0] rfl (ih (x2 + 1) hr)
set_option maxRecDepth 100000 in
set_option maxHeartbeats 4000000 in
theorem c_1_nameOf {γ : Gm} {dd : Nat} {x1 : Int32} {h : Hp} {r : Int32} (hd : 0 ≤ dd) (hr : f_1_nameOf x1 h = some r) : MC γ dd yX1_nameOf cX1_nameOf 3 (some .int) [.ref (γ.2.2.1 100), .int x1] h (QI r h) := by
  unfold f_1_nameOf at hr
  refine MC.of mi_1_nameOf (Nat.le_of_ble_eq_true rfl) (fun ε hR => ?_)
  show VW γ ε cX1_nameOf RX1 3 dd 0 [(0, .ref (γ.2.2.1 100)), (1, .int x1)] [] h
  refine VW.iconst (v := 0) d1_nameOf_0 ic_0 ?_
  refine VW.istore_n (lo' := [(2, .int 0), (0, .ref (γ.2.2.1 100)), (1, .int x1)]) d1_nameOf_1 (by decide) rfl ?_
  exact VW.sub [1, 2, 0] rfl (s_1_nameOf_2 hd hR FU 0 hr)
set_option maxRecDepth 100000 in
set_option maxHeartbeats 4000000 in
theorem c_1_pass {γ : Gm} {dd : Nat} {x1 : Int32} {h : Hp} {hz : Hp} (hd : 1 ≤ dd) (hr : f_1_pass x1 h = some hz) : MC γ dd yX1_pass cX1_pass 2 none [.ref (γ.2.2.1 100), .int x1] h (QV hz) := by
  unfold f_1_pass at hr
  refine MC.of mi_1_pass (Nat.le_of_ble_eq_true rfl) (fun ε hR => ?_)
  show VW γ ε cX1_pass RX1 2 dd 0 [(0, .ref (γ.2.2.1 100)), (1, .int x1)] [] h
  refine VW.aload_n d1_pass_0 0 rfl ?_
  obtain ⟨r2, e1, hr⟩ := bno hr
  refine VW.callV (As := []) (st := []) d1_pass_1 mi_1_here cv_1_58 (oo_1 o1_100) ⟨rfl, rfl⟩ (by decide) (dl1 hd) _ rfl (Nat.le_of_ble_eq_true rfl) rfl (c_1_here (dl hd rfl) e1) (kI ?_)
  refine VW.iload_n d1_pass_4 1 rfl ?_
  refine VW.icmp_ne 21 d1_pass_5 (by decide) (fun c3 => ?_) (fun c3 => ?_)
  · replace hr := ip hr c3
    refine VW.aload_n d1_pass_8 0 rfl ?_
    refine VW.dup d1_pass_9 rfl ?_
    refine VW.getI (k := 5) d1_pass_10 (oo_1 o1_100) rfl fl_1_28 ck1 ?_
    refine VW.iconst (v := 1) d1_pass_13 ic_1 ?_
    refine VW.iadd d1_pass_14 ?_
    obtain ⟨h4, e5, hr⟩ := hlt hr
    refine VW.putI (k := 5) d1_pass_15 (oo_1 o1_100) rfl fl_1_28 ck1 rfl rfl rfl rfl ?_
    refine VW.heq e5 ?_
    refine VW.goto 26 d1_pass_18 (by decide) ?_
    exact VW.vret d1_pass_26 hR (rV hr)
  · replace hr := im hr c3
    refine VW.aload_n d1_pass_21 0 rfl ?_
    refine VW.iconst (v := 1) d1_pass_22 ic_1 ?_
    obtain ⟨h6, e7, hr⟩ := hlt hr
    refine VW.putI (k := 6) d1_pass_23 (oo_1 o1_100) rfl fl_1_31 ck1 rfl rfl (by decide) rfl ?_
    refine VW.heq e7 ?_
    exact VW.vret d1_pass_26 hR (rV hr)
set_option maxRecDepth 100000 in
set_option maxHeartbeats 4000000 in
theorem c_1_write {γ : Gm} {dd : Nat} {x1 : Int32} {h : Hp} {hz : Hp} (hd : 0 ≤ dd) (hr : f_1_write x1 h = some hz) : MC γ dd yX1_write cX1_write 2 none [.ref (γ.2.2.1 100), .int x1] h (QV hz) := by
  unfold f_1_write at hr
  refine MC.of mi_1_write (Nat.le_of_ble_eq_true rfl) (fun ε hR => ?_)
  show VW γ ε cX1_write RX1 2 dd 0 [(0, .ref (γ.2.2.1 100)), (1, .int x1)] [] h
  refine VW.aload_n d1_write_0 0 rfl ?_
  refine VW.getI (k := 1) d1_write_1 (oo_1 o1_100) rfl fl_1_15 ck1 ?_
  refine VW.bipush (v := 50) d1_write_4 bp_50 ?_
  refine VW.icmp_ge 29 d1_write_6 (by decide) (fun c1 => ?_) (fun c1 => ?_)
  · replace hr := ip hr c1
    exact VW.vret d1_write_29 hR (rV hr)
  · replace hr := im hr c1
    refine VW.aload_n d1_write_9 0 rfl ?_
    refine VW.getR (k := 0) (r := 101) d1_write_10 (oo_1 o1_100) rfl fl_1_9 ck1 ?_
    refine VW.aload_n d1_write_13 0 rfl ?_
    refine VW.getI (k := 1) d1_write_14 (oo_1 o1_100) rfl fl_1_15 ck1 ?_
    refine VW.iload_n d1_write_17 1 rfl ?_
    obtain ⟨g2, hr⟩ := gdt hr
    obtain ⟨h3, e4, hr⟩ := hlt hr
    refine VW.iast (j := (ci (h 100 1))) d1_write_18 (rf_1_0 o1_100) g2 rfl ?_
    refine VW.heq e4 ?_
    refine VW.aload_n d1_write_19 0 rfl ?_
    refine VW.dup d1_write_20 rfl ?_
    refine VW.getI (k := 1) d1_write_21 (oo_1 o1_100) rfl fl_1_15 ck1 ?_
    refine VW.iconst (v := 1) d1_write_24 ic_1 ?_
    refine VW.iadd d1_write_25 ?_
    obtain ⟨h5, e6, hr⟩ := hlt hr
    refine VW.putI (k := 1) d1_write_26 (oo_1 o1_100) rfl fl_1_15 ck1 rfl rfl rfl rfl ?_
    refine VW.heq e6 ?_
    exact VW.vret d1_write_29 hR (rV hr)
set_option maxRecDepth 100000 in
set_option maxHeartbeats 4000000 in
theorem s_1_readNumber_4 {γ : Gm} {ε : En} {dd : Nat} (hd : 2 ≤ dd) {hz : Hp} (hR : RT γ ε none (QV hz)) : ∀ (n : Nat) (x1 : Int32) (x2 : Int32) (h : Hp), f_1_readNumber_4 n x1 x2 h = some hz → VW γ ε cX1_readNumber RX1 3 dd 4 [(0, .ref (γ.2.2.1 100)), (1, .int x1), (2, .int x2)] [] h := by
  intro n
  induction n with
  | zero =>
    intro x1 x2 h hr
    exact nf hr
  | succ n ih =>
    intro x1 x2 h hr
    rw [f_1_readNumber_4] at hr
    refine VW.iload_n d1_readNumber_4 2 rfl ?_
    refine VW.iconst (v := 4) d1_readNumber_5 ic_4 ?_
    refine VW.icmp_ge 48 d1_readNumber_6 (by decide) (fun c1 => ?_) (fun c1 => ?_)
    · replace hr := ip hr c1
      refine VW.aload_n d1_readNumber_48 0 rfl ?_
      refine VW.iload_n d1_readNumber_49 1 rfl ?_
      obtain ⟨h3, e2, hr⟩ := bno hr
      refine VW.callV (As := [.int x1]) (st := []) d1_readNumber_50 mi_1_write cv_1_66 (oo_1 o1_100) ⟨rfl, rfl⟩ (by decide) (dl1 hd) _ rfl (Nat.le_of_ble_eq_true rfl) rfl (c_1_write (dl hd rfl) e2) (kV ?_)
      exact VW.vret d1_readNumber_53 hR (rV hr)
    · replace hr := im hr c1
      refine VW.aload_n d1_readNumber_9 0 rfl ?_
      obtain ⟨r5, e4, hr⟩ := bno hr
      refine VW.callV (As := []) (st := []) d1_readNumber_10 mi_1_here cv_1_58 (oo_1 o1_100) ⟨rfl, rfl⟩ (by decide) (dl1 hd) _ rfl (Nat.le_of_ble_eq_true rfl) rfl (c_1_here (dl hd rfl) e4) (kI ?_)
      refine VW.callS (As := [.int r5]) (st := []) d1_readNumber_13 mi_1_isDigit cs_1_69 (by decide) (dl1 hd) _ rfl (Nat.le_of_ble_eq_true rfl) rfl (c_1_isDigit (dl hd rfl) rfl) (kI ?_)
      refine VW.if_eq 48 d1_readNumber_16 (by decide) (fun c6 => ?_) (fun c6 => ?_)
      · replace hr := ip hr c6
        refine VW.aload_n d1_readNumber_48 0 rfl ?_
        refine VW.iload_n d1_readNumber_49 1 rfl ?_
        obtain ⟨h8, e7, hr⟩ := bno hr
        refine VW.callV (As := [.int x1]) (st := []) d1_readNumber_50 mi_1_write cv_1_66 (oo_1 o1_100) ⟨rfl, rfl⟩ (by decide) (dl1 hd) _ rfl (Nat.le_of_ble_eq_true rfl) rfl (c_1_write (dl hd rfl) e7) (kV ?_)
        exact VW.vret d1_readNumber_53 hR (rV hr)
      · replace hr := im hr c6
        refine VW.bipush (v := 10) d1_readNumber_19 bp_10 ?_
        refine VW.iload_n d1_readNumber_21 1 rfl ?_
        refine VW.imul d1_readNumber_22 ?_
        refine VW.aload_n d1_readNumber_23 0 rfl ?_
        obtain ⟨r10, e9, hr⟩ := bno hr
        refine VW.callV (As := []) (st := [.int (10 * x1)]) d1_readNumber_24 mi_1_here cv_1_58 (oo_1 o1_100) ⟨rfl, rfl⟩ (by decide) (dl1 hd) _ rfl (Nat.le_of_ble_eq_true rfl) rfl (c_1_here (dl hd rfl) e9) (kI ?_)
        refine VW.iadd d1_readNumber_27 ?_
        refine VW.bipush (v := 48) d1_readNumber_28 bp_48 ?_
        refine VW.isub d1_readNumber_30 ?_
        refine VW.istore_n (lo' := [(1, .int (((10 * x1) + r10) - 48)), (0, .ref (γ.2.2.1 100)), (2, .int x2)]) d1_readNumber_31 (by decide) rfl ?_
        refine VW.aload_n d1_readNumber_32 1 rfl ?_
        refine VW.dup d1_readNumber_33 rfl ?_
        refine VW.getI (k := 5) d1_readNumber_34 (oo_1 o1_100) rfl fl_1_28 ck1 ?_
        refine VW.iconst (v := 1) d1_readNumber_37 ic_1 ?_
        refine VW.iadd d1_readNumber_38 ?_
        obtain ⟨h11, e12, hr⟩ := hlt hr
        refine VW.putI (k := 5) d1_readNumber_39 (oo_1 o1_100) rfl fl_1_28 ck1 rfl rfl rfl rfl ?_
        refine VW.heq e12 ?_
        refine VW.iinc (w := 1) (lo' := [(2, .int (x2 + 1)), (1, .int (((10 * x1) + r10) - 48)), (0, .ref (γ.2.2.1 100))]) d1_readNumber_42 2 rfl ic_1 (by decide) rfl ?_
        refine VW.goto 4 d1_readNumber_45 (by decide) ?_
        exact VW.sub [2, 1, 0] rfl (ih (((10 * x1) + r10) - 48) (x2 + 1) h11 hr)
set_option maxRecDepth 100000 in
set_option maxHeartbeats 4000000 in
theorem c_1_readNumber {γ : Gm} {dd : Nat} {h : Hp} {hz : Hp} (hd : 2 ≤ dd) (hr : f_1_readNumber h = some hz) : MC γ dd yX1_readNumber cX1_readNumber 3 none [.ref (γ.2.2.1 100)] h (QV hz) := by
  unfold f_1_readNumber at hr
  refine MC.of mi_1_readNumber (Nat.le_of_ble_eq_true rfl) (fun ε hR => ?_)
  show VW γ ε cX1_readNumber RX1 3 dd 0 [(0, .ref (γ.2.2.1 100))] [] h
  refine VW.iconst (v := 0) d1_readNumber_0 ic_0 ?_
  refine VW.istore_n (lo' := [(1, .int 0), (0, .ref (γ.2.2.1 100))]) d1_readNumber_1 (by decide) rfl ?_
  refine VW.iconst (v := 0) d1_readNumber_2 ic_0 ?_
  refine VW.istore_n (lo' := [(2, .int 0), (1, .int 0), (0, .ref (γ.2.2.1 100))]) d1_readNumber_3 (by decide) rfl ?_
  exact VW.sub [2, 1, 0] rfl (s_1_readNumber_4 hd hR FU 0 0 h hr)
set_option maxRecDepth 100000 in
set_option maxHeartbeats 4000000 in
theorem s_1_readLevel_21 {γ : Gm} {ε : En} {dd : Nat} {NN : Nat} {R_1_readLevel : Int32 → Int32 → Hp → Option Hp} {R_1_readSingle : Int32 → Hp → Option Hp} (hN : 3 ≤ NN) (H_1_readLevel : ∀ (dd : Nat), NN ≤ dd → ∀ (x1 : Int32) (x2 : Int32) (h : Hp) (hz : Hp), R_1_readLevel x1 x2 h = some hz → MC γ dd yX1_readLevel cX1_readLevel 5 none [.ref (γ.2.2.1 100), .int x1, .int x2] h (QV hz)) (H_1_readSingle : ∀ (dd : Nat), NN ≤ dd → ∀ (x1 : Int32) (h : Hp) (hz : Hp), R_1_readSingle x1 h = some hz → MC γ dd yX1_readSingle cX1_readSingle 3 none [.ref (γ.2.2.1 100), .int x1] h (QV hz)) (hd : NN + 1 ≤ dd) {hz : Hp} {x1 : Int32} {x2 : Int32} (hR : RT γ ε none (QV hz)) : ∀ (n : Nat) (x3 : Int32) (h : Hp), f_1_readLevel_21 R_1_readLevel R_1_readSingle x1 x2 n x3 h = some hz → VW γ ε cX1_readLevel RX1 5 dd 21 [(0, .ref (γ.2.2.1 100)), (1, .int x1), (2, .int x2), (3, .int x3)] [] h := by
  intro n
  induction n with
  | zero =>
    intro x3 h hr
    exact nf hr
  | succ n ih =>
    intro x3 h hr
    rw [f_1_readLevel_21] at hr
    refine VW.iload_n d1_readLevel_21 3 rfl ?_
    refine VW.bipush (v := 50) d1_readLevel_22 bp_50 ?_
    refine VW.icmp_ge 81 d1_readLevel_24 (by decide) (fun c4 => ?_) (fun c4 => ?_)
    · replace hr := ip hr c4
      exact VW.vret d1_readLevel_81 hR (rV hr)
    · replace hr := im hr c4
      refine VW.aload_n d1_readLevel_27 0 rfl ?_
      obtain ⟨r6, e5, hr⟩ := bno hr
      refine VW.callV (As := []) (st := []) d1_readLevel_28 mi_1_here cv_1_58 (oo_1 o1_100) ⟨rfl, rfl⟩ (by decide) (dl1r hd) _ rfl (Nat.le_of_ble_eq_true rfl) rfl (c_1_here (dlr hd hN (Nat.le_of_ble_eq_true rfl)) e5) (kI ?_)
      refine VW.callS (As := [.int r6]) (st := []) d1_readLevel_31 mi_1_levelOf cs_1_62 (by decide) (dl1r hd) _ rfl (Nat.le_of_ble_eq_true rfl) rfl (c_1_levelOf (dlr hd hN (Nat.le_of_ble_eq_true rfl)) rfl) (kI ?_)
      refine VW.iload_n d1_readLevel_34 1 rfl ?_
      refine VW.icmp_ne 81 d1_readLevel_35 (by decide) (fun c7 => ?_) (fun c7 => ?_)
      · replace hr := ip hr c7
        refine VW.aload_n d1_readLevel_38 0 rfl ?_
        obtain ⟨r9, e8, hr⟩ := bno hr
        refine VW.callV (As := []) (st := []) d1_readLevel_39 mi_1_here cv_1_58 (oo_1 o1_100) ⟨rfl, rfl⟩ (by decide) (dl1r hd) _ rfl (Nat.le_of_ble_eq_true rfl) rfl (c_1_here (dlr hd hN (Nat.le_of_ble_eq_true rfl)) e8) (kI ?_)
        refine VW.istore (lo' := [(4, .int r9), (0, .ref (γ.2.2.1 100)), (1, .int x1), (2, .int x2), (3, .int x3)]) d1_readLevel_42 (by decide) rfl ?_
        refine VW.aload_n d1_readLevel_44 1 rfl ?_
        refine VW.dup d1_readLevel_45 rfl ?_
        refine VW.getI (k := 5) d1_readLevel_46 (oo_1 o1_100) rfl fl_1_28 ck1 ?_
        refine VW.iconst (v := 1) d1_readLevel_49 ic_1 ?_
        refine VW.iadd d1_readLevel_50 ?_
        obtain ⟨h10, e11, hr⟩ := hlt hr
        refine VW.putI (k := 5) d1_readLevel_51 (oo_1 o1_100) rfl fl_1_28 ck1 rfl rfl rfl rfl ?_
        refine VW.heq e11 ?_
        refine VW.aload_n d1_readLevel_54 1 rfl ?_
        refine VW.iload_n d1_readLevel_55 2 rfl ?_
        refine VW.iconst (v := 1) d1_readLevel_56 ic_1 ?_
        refine VW.iadd d1_readLevel_57 ?_
        refine VW.iload_n d1_readLevel_58 3 rfl ?_
        obtain ⟨h13, e12, hr⟩ := bno hr
        refine VW.callV (As := [.int (x1 + 1), .int x2]) (st := []) d1_readLevel_59 mi_1_readLevel cv_1_50 (oo_1 o1_100) ⟨rfl, rfl⟩ (by decide) (dl1r hd) _ rfl (Nat.le_of_ble_eq_true rfl) rfl (H_1_readLevel (dd - 1) (dr hd) (x1 + 1) x2 h10 _ e12) (kV ?_)
        refine VW.aload_n d1_readLevel_62 1 rfl ?_
        refine VW.iload d1_readLevel_63 0 rfl ?_
        refine VW.ineg d1_readLevel_65 ?_
        obtain ⟨h15, e14, hr⟩ := bno hr
        refine VW.callV (As := [.int (-r9)]) (st := []) d1_readLevel_66 mi_1_write cv_1_66 (oo_1 o1_100) ⟨rfl, rfl⟩ (by decide) (dl1r hd) _ rfl (Nat.le_of_ble_eq_true rfl) rfl (c_1_write (dlr hd hN (Nat.le_of_ble_eq_true rfl)) e14) (kV ?_)
        refine VW.iload_n d1_readLevel_69 2 rfl ?_
        refine VW.iconst (v := 2) d1_readLevel_70 ic_2 ?_
        refine VW.icmp_ne 75 d1_readLevel_71 (by decide) (fun c16 => ?_) (fun c16 => ?_)
        · replace hr := ip hr c16
          exact VW.vret d1_readLevel_74 hR (rV hr)
        · replace hr := im hr c16
          refine VW.iinc (w := 1) (lo' := [(3, .int (x3 + 1)), (4, .int r9), (0, .ref (γ.2.2.1 100)), (1, .int x1), (2, .int x2)]) d1_readLevel_75 4 rfl ic_1 (by decide) rfl ?_
          refine VW.goto 21 d1_readLevel_78 (by decide) ?_
          exact VW.sub [2, 3, 4, 0] rfl (ih (x3 + 1) h15 hr)
      · replace hr := im hr c7
        exact VW.vret d1_readLevel_81 hR (rV hr)
set_option maxRecDepth 100000 in
set_option maxHeartbeats 4000000 in
theorem cb_1_readLevel {γ : Gm} {dd : Nat} {NN : Nat} {R_1_readLevel : Int32 → Int32 → Hp → Option Hp} {R_1_readSingle : Int32 → Hp → Option Hp} (hN : 3 ≤ NN) (H_1_readLevel : ∀ (dd : Nat), NN ≤ dd → ∀ (x1 : Int32) (x2 : Int32) (h : Hp) (hz : Hp), R_1_readLevel x1 x2 h = some hz → MC γ dd yX1_readLevel cX1_readLevel 5 none [.ref (γ.2.2.1 100), .int x1, .int x2] h (QV hz)) (H_1_readSingle : ∀ (dd : Nat), NN ≤ dd → ∀ (x1 : Int32) (h : Hp) (hz : Hp), R_1_readSingle x1 h = some hz → MC γ dd yX1_readSingle cX1_readSingle 3 none [.ref (γ.2.2.1 100), .int x1] h (QV hz)) {x1 : Int32} {x2 : Int32} {h : Hp} {hz : Hp} (hd : NN + 1 ≤ dd) (hr : b_1_readLevel R_1_readLevel R_1_readSingle x1 x2 h = some hz) : MC γ dd yX1_readLevel cX1_readLevel 5 none [.ref (γ.2.2.1 100), .int x1, .int x2] h (QV hz) := by
  unfold b_1_readLevel at hr
  refine MC.of mi_1_readLevel (Nat.le_of_ble_eq_true rfl) (fun ε hR => ?_)
  show VW γ ε cX1_readLevel RX1 5 dd 0 [(0, .ref (γ.2.2.1 100)), (1, .int x1), (2, .int x2)] [] h
  refine VW.iload_n d1_readLevel_0 1 rfl ?_
  refine VW.iconst (v := 5) d1_readLevel_1 ic_5 ?_
  refine VW.icmp_lt 11 d1_readLevel_2 (by decide) (fun c1 => ?_) (fun c1 => ?_)
  · replace hr := ip hr c1
    refine VW.aload_n d1_readLevel_11 0 rfl ?_
    refine VW.iload_n d1_readLevel_12 1 rfl ?_
    refine VW.iconst (v := 1) d1_readLevel_13 ic_1 ?_
    refine VW.iadd d1_readLevel_14 ?_
    refine VW.iload_n d1_readLevel_15 2 rfl ?_
    obtain ⟨h3, e2, hr⟩ := bno hr
    refine VW.callV (As := [.int (x1 + 1), .int x2]) (st := []) d1_readLevel_16 mi_1_readLevel cv_1_50 (oo_1 o1_100) ⟨rfl, rfl⟩ (by decide) (dl1r hd) _ rfl (Nat.le_of_ble_eq_true rfl) rfl (H_1_readLevel (dd - 1) (dr hd) (x1 + 1) x2 h _ e2) (kV ?_)
    refine VW.iconst (v := 0) d1_readLevel_19 ic_0 ?_
    refine VW.istore_n (lo' := [(3, .int 0), (0, .ref (γ.2.2.1 100)), (1, .int x1), (2, .int x2)]) d1_readLevel_20 (by decide) rfl ?_
    exact VW.sub [1, 2, 3, 0] rfl (s_1_readLevel_21 hN H_1_readLevel H_1_readSingle hd hR FU 0 h3 hr)
  · replace hr := im hr c1
    refine VW.aload_n d1_readLevel_5 0 rfl ?_
    refine VW.iload_n d1_readLevel_6 2 rfl ?_
    obtain ⟨h18, e17, hr⟩ := bno hr
    refine VW.callV (As := [.int x2]) (st := []) d1_readLevel_7 mi_1_readSingle cv_1_54 (oo_1 o1_100) ⟨rfl, rfl⟩ (by decide) (dl1r hd) _ rfl (Nat.le_of_ble_eq_true rfl) rfl (H_1_readSingle (dd - 1) (dr hd) x2 h _ e17) (kV ?_)
    exact VW.vret d1_readLevel_10 hR (rV hr)
set_option maxRecDepth 100000 in
set_option maxHeartbeats 4000000 in
theorem cb_1_readSingle {γ : Gm} {dd : Nat} {NN : Nat} {R_1_readLevel : Int32 → Int32 → Hp → Option Hp} {R_1_readSingle : Int32 → Hp → Option Hp} (hN : 3 ≤ NN) (H_1_readLevel : ∀ (dd : Nat), NN ≤ dd → ∀ (x1 : Int32) (x2 : Int32) (h : Hp) (hz : Hp), R_1_readLevel x1 x2 h = some hz → MC γ dd yX1_readLevel cX1_readLevel 5 none [.ref (γ.2.2.1 100), .int x1, .int x2] h (QV hz)) (H_1_readSingle : ∀ (dd : Nat), NN ≤ dd → ∀ (x1 : Int32) (h : Hp) (hz : Hp), R_1_readSingle x1 h = some hz → MC γ dd yX1_readSingle cX1_readSingle 3 none [.ref (γ.2.2.1 100), .int x1] h (QV hz)) {x1 : Int32} {h : Hp} {hz : Hp} (hd : NN + 1 ≤ dd) (hr : b_1_readSingle R_1_readLevel R_1_readSingle x1 h = some hz) : MC γ dd yX1_readSingle cX1_readSingle 3 none [.ref (γ.2.2.1 100), .int x1] h (QV hz) := by
  unfold b_1_readSingle at hr
  refine MC.of mi_1_readSingle (Nat.le_of_ble_eq_true rfl) (fun ε hR => ?_)
  show VW γ ε cX1_readSingle RX1 3 dd 0 [(0, .ref (γ.2.2.1 100)), (1, .int x1)] [] h
  refine VW.aload_n d1_readSingle_0 0 rfl ?_
  obtain ⟨r2, e1, hr⟩ := bno hr
  refine VW.callV (As := []) (st := []) d1_readSingle_1 mi_1_here cv_1_58 (oo_1 o1_100) ⟨rfl, rfl⟩ (by decide) (dl1r hd) _ rfl (Nat.le_of_ble_eq_true rfl) rfl (c_1_here (dlr hd hN (Nat.le_of_ble_eq_true rfl)) e1) (kI ?_)
  refine VW.istore_n (lo' := [(2, .int r2), (0, .ref (γ.2.2.1 100)), (1, .int x1)]) d1_readSingle_4 (by decide) rfl ?_
  refine VW.iload_n d1_readSingle_5 0 rfl ?_
  refine VW.callS (As := [.int r2]) (st := []) d1_readSingle_6 mi_1_isDigit cs_1_69 (by decide) (dl1r hd) _ rfl (Nat.le_of_ble_eq_true rfl) rfl (c_1_isDigit (dlr hd hN (Nat.le_of_ble_eq_true rfl)) rfl) (kI ?_)
  refine VW.if_eq 19 d1_readSingle_9 (by decide) (fun c3 => ?_) (fun c3 => ?_)
  · replace hr := ip hr c3
    refine VW.aload_n d1_readSingle_19 1 rfl ?_
    refine VW.iload_n d1_readSingle_20 0 rfl ?_
    obtain ⟨r5, e4, hr⟩ := bno hr
    refine VW.callV (As := [.int r2]) (st := []) d1_readSingle_21 mi_1_nameOf cv_1_76 (oo_1 o1_100) ⟨rfl, rfl⟩ (by decide) (dl1r hd) _ rfl (Nat.le_of_ble_eq_true rfl) rfl (c_1_nameOf (dlr hd hN (Nat.le_of_ble_eq_true rfl)) e4) (kI ?_)
    refine VW.if_lt 53 d1_readSingle_24 (by decide) (fun c6 => ?_) (fun c6 => ?_)
    · replace hr := ip hr c6
      refine VW.iload_n d1_readSingle_53 0 rfl ?_
      refine VW.bipush (v := 33) d1_readSingle_54 bp_33 ?_
      refine VW.icmp_ne 90 d1_readSingle_56 (by decide) (fun c7 => ?_) (fun c7 => ?_)
      · replace hr := ip hr c7
        refine VW.iload_n d1_readSingle_59 2 rfl ?_
        refine VW.iconst (v := 5) d1_readSingle_60 ic_5 ?_
        refine VW.icmp_ge 90 d1_readSingle_61 (by decide) (fun c8 => ?_) (fun c8 => ?_)
        · replace hr := ip hr c8
          refine VW.iload_n d1_readSingle_90 0 rfl ?_
          refine VW.bipush (v := 40) d1_readSingle_91 bp_40 ?_
          refine VW.icmp_ne 128 d1_readSingle_93 (by decide) (fun c9 => ?_) (fun c9 => ?_)
          · replace hr := ip hr c9
            refine VW.iload_n d1_readSingle_96 2 rfl ?_
            refine VW.iconst (v := 5) d1_readSingle_97 ic_5 ?_
            refine VW.icmp_ge 128 d1_readSingle_98 (by decide) (fun c10 => ?_) (fun c10 => ?_)
            · replace hr := ip hr c10
              refine VW.aload_n d1_readSingle_128 1 rfl ?_
              refine VW.iconst (v := 1) d1_readSingle_129 ic_1 ?_
              obtain ⟨h11, e12, hr⟩ := hlt hr
              refine VW.putI (k := 6) d1_readSingle_130 (oo_1 o1_100) rfl fl_1_31 ck1 rfl rfl (by decide) rfl ?_
              refine VW.heq e12 ?_
              exact VW.vret d1_readSingle_133 hR (rV hr)
            · replace hr := im hr c10
              refine VW.aload_n d1_readSingle_101 1 rfl ?_
              refine VW.dup d1_readSingle_102 rfl ?_
              refine VW.getI (k := 5) d1_readSingle_103 (oo_1 o1_100) rfl fl_1_28 ck1 ?_
              refine VW.iconst (v := 1) d1_readSingle_106 ic_1 ?_
              refine VW.iadd d1_readSingle_107 ?_
              obtain ⟨h13, e14, hr⟩ := hlt hr
              refine VW.putI (k := 5) d1_readSingle_108 (oo_1 o1_100) rfl fl_1_28 ck1 rfl rfl rfl rfl ?_
              refine VW.heq e14 ?_
              refine VW.aload_n d1_readSingle_111 1 rfl ?_
              refine VW.iconst (v := 0) d1_readSingle_112 ic_0 ?_
              refine VW.iload_n d1_readSingle_113 2 rfl ?_
              refine VW.iconst (v := 1) d1_readSingle_114 ic_1 ?_
              refine VW.iadd d1_readSingle_115 ?_
              obtain ⟨h16, e15, hr⟩ := bno hr
              refine VW.callV (As := [.int 0, .int (x1 + 1)]) (st := []) d1_readSingle_116 mi_1_readLevel cv_1_50 (oo_1 o1_100) ⟨rfl, rfl⟩ (by decide) (dl1r hd) _ rfl (Nat.le_of_ble_eq_true rfl) rfl (H_1_readLevel (dd - 1) (dr hd) 0 (x1 + 1) h13 _ e15) (kV ?_)
              refine VW.aload_n d1_readSingle_119 1 rfl ?_
              refine VW.bipush (v := 41) d1_readSingle_120 bp_41 ?_
              obtain ⟨h18, e17, hr⟩ := bno hr
              refine VW.callV (As := [.int 41]) (st := []) d1_readSingle_122 mi_1_pass cv_1_81 (oo_1 o1_100) ⟨rfl, rfl⟩ (by decide) (dl1r hd) _ rfl (Nat.le_of_ble_eq_true rfl) rfl (c_1_pass (dlr hd hN (Nat.le_of_ble_eq_true rfl)) e17) (kV ?_)
              refine VW.goto 133 d1_readSingle_125 (by decide) ?_
              exact VW.vret d1_readSingle_133 hR (rV hr)
          · replace hr := im hr c9
            refine VW.aload_n d1_readSingle_128 1 rfl ?_
            refine VW.iconst (v := 1) d1_readSingle_129 ic_1 ?_
            obtain ⟨h19, e20, hr⟩ := hlt hr
            refine VW.putI (k := 6) d1_readSingle_130 (oo_1 o1_100) rfl fl_1_31 ck1 rfl rfl (by decide) rfl ?_
            refine VW.heq e20 ?_
            exact VW.vret d1_readSingle_133 hR (rV hr)
        · replace hr := im hr c8
          refine VW.aload_n d1_readSingle_64 1 rfl ?_
          refine VW.dup d1_readSingle_65 rfl ?_
          refine VW.getI (k := 5) d1_readSingle_66 (oo_1 o1_100) rfl fl_1_28 ck1 ?_
          refine VW.iconst (v := 1) d1_readSingle_69 ic_1 ?_
          refine VW.iadd d1_readSingle_70 ?_
          obtain ⟨h21, e22, hr⟩ := hlt hr
          refine VW.putI (k := 5) d1_readSingle_71 (oo_1 o1_100) rfl fl_1_28 ck1 rfl rfl rfl rfl ?_
          refine VW.heq e22 ?_
          refine VW.aload_n d1_readSingle_74 1 rfl ?_
          refine VW.iload_n d1_readSingle_75 2 rfl ?_
          refine VW.iconst (v := 1) d1_readSingle_76 ic_1 ?_
          refine VW.iadd d1_readSingle_77 ?_
          obtain ⟨h24, e23, hr⟩ := bno hr
          refine VW.callV (As := [.int (x1 + 1)]) (st := []) d1_readSingle_78 mi_1_readSingle cv_1_54 (oo_1 o1_100) ⟨rfl, rfl⟩ (by decide) (dl1r hd) _ rfl (Nat.le_of_ble_eq_true rfl) rfl (H_1_readSingle (dd - 1) (dr hd) (x1 + 1) h21 _ e23) (kV ?_)
          refine VW.aload_n d1_readSingle_81 1 rfl ?_
          refine VW.iload_n d1_readSingle_82 0 rfl ?_
          refine VW.ineg d1_readSingle_83 ?_
          obtain ⟨h26, e25, hr⟩ := bno hr
          refine VW.callV (As := [.int (-r2)]) (st := []) d1_readSingle_84 mi_1_write cv_1_66 (oo_1 o1_100) ⟨rfl, rfl⟩ (by decide) (dl1r hd) _ rfl (Nat.le_of_ble_eq_true rfl) rfl (c_1_write (dlr hd hN (Nat.le_of_ble_eq_true rfl)) e25) (kV ?_)
          refine VW.goto 133 d1_readSingle_87 (by decide) ?_
          exact VW.vret d1_readSingle_133 hR (rV hr)
      · replace hr := im hr c7
        refine VW.iload_n d1_readSingle_90 0 rfl ?_
        refine VW.bipush (v := 40) d1_readSingle_91 bp_40 ?_
        refine VW.icmp_ne 128 d1_readSingle_93 (by decide) (fun c27 => ?_) (fun c27 => ?_)
        · replace hr := ip hr c27
          refine VW.iload_n d1_readSingle_96 2 rfl ?_
          refine VW.iconst (v := 5) d1_readSingle_97 ic_5 ?_
          refine VW.icmp_ge 128 d1_readSingle_98 (by decide) (fun c28 => ?_) (fun c28 => ?_)
          · replace hr := ip hr c28
            refine VW.aload_n d1_readSingle_128 1 rfl ?_
            refine VW.iconst (v := 1) d1_readSingle_129 ic_1 ?_
            obtain ⟨h29, e30, hr⟩ := hlt hr
            refine VW.putI (k := 6) d1_readSingle_130 (oo_1 o1_100) rfl fl_1_31 ck1 rfl rfl (by decide) rfl ?_
            refine VW.heq e30 ?_
            exact VW.vret d1_readSingle_133 hR (rV hr)
          · replace hr := im hr c28
            refine VW.aload_n d1_readSingle_101 1 rfl ?_
            refine VW.dup d1_readSingle_102 rfl ?_
            refine VW.getI (k := 5) d1_readSingle_103 (oo_1 o1_100) rfl fl_1_28 ck1 ?_
            refine VW.iconst (v := 1) d1_readSingle_106 ic_1 ?_
            refine VW.iadd d1_readSingle_107 ?_
            obtain ⟨h31, e32, hr⟩ := hlt hr
            refine VW.putI (k := 5) d1_readSingle_108 (oo_1 o1_100) rfl fl_1_28 ck1 rfl rfl rfl rfl ?_
            refine VW.heq e32 ?_
            refine VW.aload_n d1_readSingle_111 1 rfl ?_
            refine VW.iconst (v := 0) d1_readSingle_112 ic_0 ?_
            refine VW.iload_n d1_readSingle_113 2 rfl ?_
            refine VW.iconst (v := 1) d1_readSingle_114 ic_1 ?_
            refine VW.iadd d1_readSingle_115 ?_
            obtain ⟨h34, e33, hr⟩ := bno hr
            refine VW.callV (As := [.int 0, .int (x1 + 1)]) (st := []) d1_readSingle_116 mi_1_readLevel cv_1_50 (oo_1 o1_100) ⟨rfl, rfl⟩ (by decide) (dl1r hd) _ rfl (Nat.le_of_ble_eq_true rfl) rfl (H_1_readLevel (dd - 1) (dr hd) 0 (x1 + 1) h31 _ e33) (kV ?_)
            refine VW.aload_n d1_readSingle_119 1 rfl ?_
            refine VW.bipush (v := 41) d1_readSingle_120 bp_41 ?_
            obtain ⟨h36, e35, hr⟩ := bno hr
            refine VW.callV (As := [.int 41]) (st := []) d1_readSingle_122 mi_1_pass cv_1_81 (oo_1 o1_100) ⟨rfl, rfl⟩ (by decide) (dl1r hd) _ rfl (Nat.le_of_ble_eq_true rfl) rfl (c_1_pass (dlr hd hN (Nat.le_of_ble_eq_true rfl)) e35) (kV ?_)
            refine VW.goto 133 d1_readSingle_125 (by decide) ?_
            exact VW.vret d1_readSingle_133 hR (rV hr)
        · replace hr := im hr c27
          refine VW.aload_n d1_readSingle_128 1 rfl ?_
          refine VW.iconst (v := 1) d1_readSingle_129 ic_1 ?_
          obtain ⟨h37, e38, hr⟩ := hlt hr
          refine VW.putI (k := 6) d1_readSingle_130 (oo_1 o1_100) rfl fl_1_31 ck1 rfl rfl (by decide) rfl ?_
          refine VW.heq e38 ?_
          exact VW.vret d1_readSingle_133 hR (rV hr)
    · replace hr := im hr c6
      refine VW.aload_n d1_readSingle_27 1 rfl ?_
      refine VW.dup d1_readSingle_28 rfl ?_
      refine VW.getI (k := 5) d1_readSingle_29 (oo_1 o1_100) rfl fl_1_28 ck1 ?_
      refine VW.iconst (v := 1) d1_readSingle_32 ic_1 ?_
      refine VW.iadd d1_readSingle_33 ?_
      obtain ⟨h39, e40, hr⟩ := hlt hr
      refine VW.putI (k := 5) d1_readSingle_34 (oo_1 o1_100) rfl fl_1_28 ck1 rfl rfl rfl rfl ?_
      refine VW.heq e40 ?_
      refine VW.aload_n d1_readSingle_37 1 rfl ?_
      refine VW.sipush (v := 10000) d1_readSingle_38 sp_10000 ?_
      refine VW.aload_n d1_readSingle_41 1 rfl ?_
      refine VW.iload_n d1_readSingle_42 0 rfl ?_
      obtain ⟨r42, e41, hr⟩ := bno hr
      refine VW.callV (As := [.int r2]) (st := [.int 10000, .ref (γ.2.2.1 100)]) d1_readSingle_43 mi_1_nameOf cv_1_76 (oo_1 o1_100) ⟨rfl, rfl⟩ (by decide) (dl1r hd) _ rfl (Nat.le_of_ble_eq_true rfl) rfl (c_1_nameOf (dlr hd hN (Nat.le_of_ble_eq_true rfl)) e41) (kI ?_)
      refine VW.iadd d1_readSingle_46 ?_
      obtain ⟨h44, e43, hr⟩ := bno hr
      refine VW.callV (As := [.int (10000 + r42)]) (st := []) d1_readSingle_47 mi_1_write cv_1_66 (oo_1 o1_100) ⟨rfl, rfl⟩ (by decide) (dl1r hd) _ rfl (Nat.le_of_ble_eq_true rfl) rfl (c_1_write (dlr hd hN (Nat.le_of_ble_eq_true rfl)) e43) (kV ?_)
      refine VW.goto 133 d1_readSingle_50 (by decide) ?_
      exact VW.vret d1_readSingle_133 hR (rV hr)
  · replace hr := im hr c3
    refine VW.aload_n d1_readSingle_12 1 rfl ?_
    obtain ⟨h46, e45, hr⟩ := bno hr
    refine VW.callV (As := []) (st := []) d1_readSingle_13 mi_1_readNumber cv_1_73 (oo_1 o1_100) ⟨rfl, rfl⟩ (by decide) (dl1r hd) _ rfl (Nat.le_of_ble_eq_true rfl) rfl (c_1_readNumber (dlr hd hN (Nat.le_of_ble_eq_true rfl)) e45) (kV ?_)
    refine VW.goto 133 d1_readSingle_16 (by decide) ?_
    exact VW.vret d1_readSingle_133 hR (rV hr)
set_option maxRecDepth 100000 in
set_option maxHeartbeats 4000000 in
theorem ck_1_readLevel {γ : Gm} : ∀ n : Nat, (∀ (dd : Nat), n + 3 ≤ dd → ∀ (x1 : Int32) (x2 : Int32) (h : Hp) (hz : Hp), (k_1_readLevel n).1 x1 x2 h = some hz → MC γ dd yX1_readLevel cX1_readLevel 5 none [.ref (γ.2.2.1 100), .int x1, .int x2] h (QV hz)) ∧ (∀ (dd : Nat), n + 3 ≤ dd → ∀ (x1 : Int32) (h : Hp) (hz : Hp), (k_1_readLevel n).2 x1 h = some hz → MC γ dd yX1_readSingle cX1_readSingle 3 none [.ref (γ.2.2.1 100), .int x1] h (QV hz)) := by
  intro n
  induction n with
  | zero =>
    refine ⟨?_, ?_⟩
    · intro dd hd _ _ _ _ hr
      exact nf hr
    · intro dd hd _ _ _ hr
      exact nf hr
  | succ n ih =>
    obtain ⟨i0, i1⟩ := ih
    refine ⟨?_, ?_⟩
    · intro dd hd x1 x2 h hz hr
      exact cb_1_readLevel (NN := n + 3) (Nat.le_add_left _ _) i0 i1 (by omega) hr
    · intro dd hd x1 h hz hr
      exact cb_1_readSingle (NN := n + 3) (Nat.le_add_left _ _) i0 i1 (by omega) hr

theorem c_1_readLevel {γ : Gm} {dd : Nat} {x1 : Int32} {x2 : Int32} {h : Hp} {hz : Hp} (hd : 67 ≤ dd) (hr : f_1_readLevel x1 x2 h = some hz) : MC γ dd yX1_readLevel cX1_readLevel 5 none [.ref (γ.2.2.1 100), .int x1, .int x2] h (QV hz) := (ck_1_readLevel RF).1 dd hd _ _ _ _ hr
theorem c_1_readSingle {γ : Gm} {dd : Nat} {x1 : Int32} {h : Hp} {hz : Hp} (hd : 67 ≤ dd) (hr : f_1_readSingle x1 h = some hz) : MC γ dd yX1_readSingle cX1_readSingle 3 none [.ref (γ.2.2.1 100), .int x1] h (QV hz) := (ck_1_readLevel RF).2 dd hd _ _ _ hr
set_option maxRecDepth 100000 in
set_option maxHeartbeats 4000000 in
theorem c_1_read {γ : Gm} {dd : Nat} {p1 : Nat} {x2 : Int32} {x3 : Int32} (q1 : sh p1 = some (.inl 50)) {h : Hp} {r : Int32} {hz : Hp} (hd : 68 ≤ dd) (hr : f_1_read p1 x2 x3 h = some (r, hz)) : MC γ dd yX1_read cX1_read 4 (some .int) [.ref (γ.2.2.1 100), .ref (γ.2.2.1 p1), .int x2, .int x3] h (QI r hz) := by
  unfold f_1_read at hr
  refine MC.of mi_1_read (Nat.le_of_ble_eq_true rfl) (fun ε hR => ?_)
  show VW γ ε cX1_read RX1 4 dd 0 [(0, .ref (γ.2.2.1 100)), (1, .ref (γ.2.2.1 p1)), (2, .int x2), (3, .int x3)] [] h
  refine VW.aload_n d1_read_0 1 rfl ?_
  refine VW.iconst (v := 0) d1_read_1 ic_0 ?_
  refine VW.aload_n d1_read_2 0 rfl ?_
  refine VW.getR (k := 2) (r := 102) d1_read_3 (oo_1 o1_100) rfl fl_1_19 ck1 ?_
  refine VW.iconst (v := 0) d1_read_6 ic_0 ?_
  refine VW.bipush (v := 50) d1_read_7 bp_50 ?_
  obtain ⟨g1, hr⟩ := gdt hr
  obtain ⟨h2, e3, hr⟩ := hlt hr
  refine VW.copy d1_read_9 al_1_35 (dl1 hd) (Nat.le_of_ble_eq_true rfl) q1 (rf_1_2 o1_100) g1 ?_
  refine VW.heq e3 ?_
  refine VW.aload_n d1_read_12 0 rfl ?_
  refine VW.iconst (v := 0) d1_read_13 ic_0 ?_
  refine VW.bipush (v := 50) d1_read_14 bp_50 ?_
  refine VW.iload_n d1_read_16 2 rfl ?_
  refine VW.mmin d1_read_17 jl_1_41 (dl1 hd) (Nat.le_of_ble_eq_true rfl) ?_
  refine VW.mmax d1_read_20 jl_1_47 (dl1 hd) (Nat.le_of_ble_eq_true rfl) ?_
  obtain ⟨h4, e5, hr⟩ := hlt hr
  refine VW.putI (k := 3) d1_read_23 (oo_1 o1_100) rfl fl_1_22 ck1 rfl rfl rfl rfl ?_
  refine VW.heq e5 ?_
  refine VW.aload_n d1_read_26 0 rfl ?_
  refine VW.iload_n d1_read_27 3 rfl ?_
  obtain ⟨h6, e7, hr⟩ := hlt hr
  refine VW.putI (k := 4) d1_read_28 (oo_1 o1_100) rfl fl_1_25 ck1 rfl rfl rfl rfl ?_
  refine VW.heq e7 ?_
  refine VW.aload_n d1_read_31 0 rfl ?_
  refine VW.iconst (v := 0) d1_read_32 ic_0 ?_
  obtain ⟨h8, e9, hr⟩ := hlt hr
  refine VW.putI (k := 1) d1_read_33 (oo_1 o1_100) rfl fl_1_15 ck1 rfl rfl rfl rfl ?_
  refine VW.heq e9 ?_
  refine VW.aload_n d1_read_36 0 rfl ?_
  refine VW.iconst (v := 0) d1_read_37 ic_0 ?_
  obtain ⟨h10, e11, hr⟩ := hlt hr
  refine VW.putI (k := 5) d1_read_38 (oo_1 o1_100) rfl fl_1_28 ck1 rfl rfl rfl rfl ?_
  refine VW.heq e11 ?_
  refine VW.aload_n d1_read_41 0 rfl ?_
  refine VW.iconst (v := 0) d1_read_42 ic_0 ?_
  obtain ⟨h12, e13, hr⟩ := hlt hr
  refine VW.putI (k := 6) d1_read_43 (oo_1 o1_100) rfl fl_1_31 ck1 rfl rfl (by decide) rfl ?_
  refine VW.heq e13 ?_
  refine VW.aload_n d1_read_46 0 rfl ?_
  refine VW.iconst (v := 0) d1_read_47 ic_0 ?_
  refine VW.iconst (v := 0) d1_read_48 ic_0 ?_
  obtain ⟨h15, e14, hr⟩ := bno hr
  refine VW.callV (As := [.int 0, .int 0]) (st := []) d1_read_49 mi_1_readLevel cv_1_50 (oo_1 o1_100) ⟨rfl, rfl⟩ (by decide) (dl1 hd) _ rfl (Nat.le_of_ble_eq_true rfl) rfl (c_1_readLevel (dl hd rfl) e14) (kV ?_)
  refine VW.aload_n d1_read_52 0 rfl ?_
  refine VW.getI (k := 5) d1_read_53 (oo_1 o1_100) rfl fl_1_28 ck1 ?_
  refine VW.aload_n d1_read_56 0 rfl ?_
  refine VW.getI (k := 3) d1_read_57 (oo_1 o1_100) rfl fl_1_22 ck1 ?_
  refine VW.icmp_ge 68 d1_read_60 (by decide) (fun c16 => ?_) (fun c16 => ?_)
  · replace hr := ip hr c16
    refine VW.aload_n d1_read_68 0 rfl ?_
    refine VW.getI (k := 6) d1_read_69 (oo_1 o1_100) rfl fl_1_31 ck1 ?_
    refine VW.if_eq 82 d1_read_72 (by decide) (fun c17 => ?_) (fun c17 => ?_)
    · replace hr := ip hr c17
      refine VW.iconst (v := (-1)) d1_read_82 ic_m1 ?_
      exact VW.iret d1_read_83 hR (rIw hr)
    · replace hr := im hr c17
      refine VW.aload_n d1_read_75 0 rfl ?_
      refine VW.getI (k := 5) d1_read_76 (oo_1 o1_100) rfl fl_1_28 ck1 ?_
      refine VW.goto 83 d1_read_79 (by decide) ?_
      exact VW.iret d1_read_83 hR (rIw hr)
  · replace hr := im hr c16
    refine VW.aload_n d1_read_63 0 rfl ?_
    refine VW.iconst (v := 1) d1_read_64 ic_1 ?_
    obtain ⟨h18, e19, hr⟩ := hlt hr
    refine VW.putI (k := 6) d1_read_65 (oo_1 o1_100) rfl fl_1_31 ck1 rfl rfl (by decide) rfl ?_
    refine VW.heq e19 ?_
    refine VW.aload_n d1_read_68 0 rfl ?_
    refine VW.getI (k := 6) d1_read_69 (oo_1 o1_100) rfl fl_1_31 ck1 ?_
    refine VW.if_eq 82 d1_read_72 (by decide) (fun c20 => ?_) (fun c20 => ?_)
    · replace hr := ip hr c20
      refine VW.iconst (v := (-1)) d1_read_82 ic_m1 ?_
      exact VW.iret d1_read_83 hR (rIw hr)
    · replace hr := im hr c20
      refine VW.aload_n d1_read_75 0 rfl ?_
      refine VW.getI (k := 5) d1_read_76 (oo_1 o1_100) rfl fl_1_28 ck1 ?_
      refine VW.goto 83 d1_read_79 (by decide) ?_
      exact VW.iret d1_read_83 hR (rIw hr)
set_option maxRecDepth 100000 in
set_option maxHeartbeats 4000000 in
theorem c_7_filmAt {γ : Gm} {dd : Nat} {x1 : Int32} {h : Hp} {r : Int32} (hd : 1 ≤ dd) (hr : f_7_filmAt x1 h = some r) : MC γ dd yX7_filmAt cX7_filmAt 2 (some .int) [.ref (γ.2.2.1 1), .int x1] h (QI r h) := by
  unfold f_7_filmAt at hr
  refine MC.of mi_7_filmAt (Nat.le_of_ble_eq_true rfl) (fun ε hR => ?_)
  show VW γ ε cX7_filmAt RX7 2 dd 0 [(0, .ref (γ.2.2.1 1)), (1, .int x1)] [] h
  refine VW.iload_n d7_filmAt_0 1 rfl ?_
  refine VW.iconst (v := 0) d7_filmAt_1 ic_0 ?_
  refine VW.bipush (v := 59) d7_filmAt_2 bp_59 ?_
  refine VW.callN (As := [.int x1, .int 0, .int 59]) (st := []) d7_filmAt_4 mi_8_within cn_7_99 (by decide) (dl1 hd) _ rfl (Nat.le_of_ble_eq_true rfl) rfl (c_8_within (dl hd rfl) rfl) (kI ?_)
  refine VW.if_eq 19 d7_filmAt_7 (by decide) (fun c1 => ?_) (fun c1 => ?_)
  · replace hr := ip hr c1
    refine VW.iconst (v := 3) d7_filmAt_19 ic_3 ?_
    exact VW.iret d7_filmAt_20 hR (rIf hr)
  · replace hr := im hr c1
    refine VW.aload_n d7_filmAt_10 0 rfl ?_
    refine VW.getR (k := 0) (r := 2) d7_filmAt_11 (oo_7 o7_1) rfl fl_7_9 ck7 ?_
    refine VW.iload_n d7_filmAt_14 1 rfl ?_
    obtain ⟨g2, hr⟩ := gdt hr
    refine VW.iald (j := (ci x1)) d7_filmAt_15 (rf_7_0 o7_1) g2 rfl ?_
    refine VW.goto 20 d7_filmAt_16 (by decide) ?_
    exact VW.iret d7_filmAt_20 hR (rIf hr)
set_option maxRecDepth 100000 in
set_option maxHeartbeats 4000000 in
theorem c_2_misfit {γ : Gm} {dd : Nat} {p1 : Nat} {x2 : Int32} {x3 : Int32} (q1 : isO 0 p1) {h : Hp} {r : Int32} (hd : 2 ≤ dd) (hr : f_2_misfit p1 x2 x3 h = some r) : MC γ dd yX2_misfit cX2_misfit 5 (some .int) [.ref (γ.2.2.1 95), .ref (γ.2.2.1 p1), .int x2, .int x3] h (QI r h) := by
  unfold f_2_misfit at hr
  refine MC.of mi_2_misfit (Nat.le_of_ble_eq_true rfl) (fun ε hR => ?_)
  show VW γ ε cX2_misfit RX2 5 dd 0 [(0, .ref (γ.2.2.1 95)), (1, .ref (γ.2.2.1 p1)), (2, .int x2), (3, .int x3)] [] h
  refine VW.aload_n d2_misfit_0 0 rfl ?_
  refine VW.getR (k := 0) (r := 1) d2_misfit_1 (oo_2 o2_95) rfl fl_2_34 ck2 ?_
  refine VW.aload_n d2_misfit_4 1 rfl ?_
  refine VW.getI (k := 4) d2_misfit_5 (oo_0 q1) rfl fl_2_70 ck0 ?_
  refine VW.iload_n d2_misfit_8 2 rfl ?_
  refine VW.iadd d2_misfit_9 ?_
  obtain ⟨r2, e1, hr⟩ := bno hr
  refine VW.callV (As := [.int ((h p1 4) + x2)]) (st := []) d2_misfit_10 mi_7_filmAt cv_2_75 (oo_7 (rf_2_0 o2_95)) ⟨rfl, rfl⟩ (by decide) (dl1 hd) _ rfl (Nat.le_of_ble_eq_true rfl) rfl (c_7_filmAt (dl hd rfl) e1) (kI ?_)
  refine VW.istore (lo' := [(4, .int r2), (0, .ref (γ.2.2.1 95)), (1, .ref (γ.2.2.1 p1)), (2, .int x2), (3, .int x3)]) d2_misfit_13 (by decide) rfl ?_
  refine VW.iload d2_misfit_15 0 rfl ?_
  refine VW.iconst (v := 3) d2_misfit_17 ic_3 ?_
  refine VW.icmp_eq 27 d2_misfit_18 (by decide) (fun c3 => ?_) (fun c3 => ?_)
  · replace hr := ip hr c3
    refine VW.iconst (v := 0) d2_misfit_27 ic_0 ?_
    refine VW.goto 32 d2_misfit_28 (by decide) ?_
    exact VW.iret d2_misfit_32 hR (rIf hr)
  · replace hr := im hr c3
    refine VW.iload d2_misfit_21 0 rfl ?_
    refine VW.iload_n d2_misfit_23 4 rfl ?_
    refine VW.icmp_ne 31 d2_misfit_24 (by decide) (fun c4 => ?_) (fun c4 => ?_)
    · replace hr := ip hr c4
      refine VW.iconst (v := 0) d2_misfit_27 ic_0 ?_
      refine VW.goto 32 d2_misfit_28 (by decide) ?_
      exact VW.iret d2_misfit_32 hR (rIf hr)
    · replace hr := im hr c4
      refine VW.iconst (v := 1) d2_misfit_31 ic_1 ?_
      exact VW.iret d2_misfit_32 hR (rIf hr)
set_option maxRecDepth 100000 in
set_option maxHeartbeats 4000000 in
theorem c_5_join {γ : Gm} {dd : Nat} {x0 : Int32} {x1 : Int32} {x2 : Int32} {h : Hp} {r : Int32} (hd : 0 ≤ dd) (hr : f_5_join x0 x1 x2 = r) : MC γ dd yX5_join cX5_join 3 (some .int) [.int x0, .int x1, .int x2] h (QI r h) := by
  unfold f_5_join at hr
  refine MC.of mi_5_join (Nat.le_of_ble_eq_true rfl) (fun ε hR => ?_)
  show VW γ ε cX5_join RX5 3 dd 0 [(0, .int x0), (1, .int x1), (2, .int x2)] [] h
  refine VW.iload_n d5_join_0 0 rfl ?_
  by_cases c1 : x0 = 37
  · replace hr := ip hr c1
    refine VW.lookup (off := 176) 177 d5_join_1 (by decide) (by rw [c1]; decide) (by decide) ?_
    refine VW.iload_n d5_join_177 2 rfl ?_
    refine VW.if_ne 185 d5_join_178 (by decide) (fun c2 => ?_) (fun c2 => ?_)
    · replace hr := ip hr c2
      refine VW.iconst (v := 0) d5_join_181 ic_0 ?_
      refine VW.goto 188 d5_join_182 (by decide) ?_
      exact VW.iret d5_join_188 hR (rIt hr)
    · replace hr := im hr c2
      refine VW.iload_n d5_join_185 1 rfl ?_
      refine VW.iload_n d5_join_186 2 rfl ?_
      refine VW.irem d5_join_187 c2 ?_
      exact VW.iret d5_join_188 hR (rIt hr)
  · replace hr := im hr c1
    by_cases c3 : x0 = 38
    · replace hr := ip hr c3
      refine VW.lookup (off := 105) 106 d5_join_1 (by decide) (by rw [c3]; decide) (by decide) ?_
      refine VW.iload_n d5_join_106 1 rfl ?_
      refine VW.if_eq 118 d5_join_107 (by decide) (fun c4 => ?_) (fun c4 => ?_)
      · replace hr := ip hr c4
        refine VW.iconst (v := 0) d5_join_118 ic_0 ?_
        exact VW.iret d5_join_119 hR (rIt hr)
      · replace hr := im hr c4
        refine VW.iload_n d5_join_110 2 rfl ?_
        refine VW.if_eq 118 d5_join_111 (by decide) (fun c5 => ?_) (fun c5 => ?_)
        · replace hr := ip hr c5
          refine VW.iconst (v := 0) d5_join_118 ic_0 ?_
          exact VW.iret d5_join_119 hR (rIt hr)
        · replace hr := im hr c5
          refine VW.iconst (v := 1) d5_join_114 ic_1 ?_
          refine VW.goto 119 d5_join_115 (by decide) ?_
          exact VW.iret d5_join_119 hR (rIt hr)
    · replace hr := im hr c3
      by_cases c6 : x0 = 42
      · replace hr := ip hr c6
        refine VW.lookup (off := 160) 161 d5_join_1 (by decide) (by rw [c6]; decide) (by decide) ?_
        refine VW.iload_n d5_join_161 1 rfl ?_
        refine VW.iload_n d5_join_162 2 rfl ?_
        refine VW.imul d5_join_163 ?_
        exact VW.iret d5_join_164 hR (rIt hr)
      · replace hr := im hr c6
        by_cases c7 : x0 = 43
        · replace hr := ip hr c7
          refine VW.lookup (off := 152) 153 d5_join_1 (by decide) (by rw [c7]; decide) (by decide) ?_
          refine VW.iload_n d5_join_153 1 rfl ?_
          refine VW.iload_n d5_join_154 2 rfl ?_
          refine VW.iadd d5_join_155 ?_
          exact VW.iret d5_join_156 hR (rIt hr)
        · replace hr := im hr c7
          by_cases c8 : x0 = 45
          · replace hr := ip hr c8
            refine VW.lookup (off := 156) 157 d5_join_1 (by decide) (by rw [c8]; decide) (by decide) ?_
            refine VW.iload_n d5_join_157 1 rfl ?_
            refine VW.iload_n d5_join_158 2 rfl ?_
            refine VW.isub d5_join_159 ?_
            exact VW.iret d5_join_160 hR (rIt hr)
          · replace hr := im hr c8
            by_cases c9 : x0 = 47
            · replace hr := ip hr c9
              refine VW.lookup (off := 164) 165 d5_join_1 (by decide) (by rw [c9]; decide) (by decide) ?_
              refine VW.iload_n d5_join_165 2 rfl ?_
              refine VW.if_ne 173 d5_join_166 (by decide) (fun c10 => ?_) (fun c10 => ?_)
              · replace hr := ip hr c10
                refine VW.iconst (v := 0) d5_join_169 ic_0 ?_
                refine VW.goto 176 d5_join_170 (by decide) ?_
                exact VW.iret d5_join_176 hR (rIt hr)
              · replace hr := im hr c10
                refine VW.iload_n d5_join_173 1 rfl ?_
                refine VW.iload_n d5_join_174 2 rfl ?_
                refine VW.idiv d5_join_175 c10 ?_
                exact VW.iret d5_join_176 hR (rIt hr)
            · replace hr := im hr c9
              by_cases c11 : x0 = 60
              · replace hr := ip hr c11
                refine VW.lookup (off := 119) 120 d5_join_1 (by decide) (by rw [c11]; decide) (by decide) ?_
                refine VW.iload_n d5_join_120 1 rfl ?_
                refine VW.iload_n d5_join_121 2 rfl ?_
                refine VW.icmp_ge 129 d5_join_122 (by decide) (fun c12 => ?_) (fun c12 => ?_)
                · replace hr := ip hr c12
                  refine VW.iconst (v := 0) d5_join_129 ic_0 ?_
                  exact VW.iret d5_join_130 hR (rIt hr)
                · replace hr := im hr c12
                  refine VW.iconst (v := 1) d5_join_125 ic_1 ?_
                  refine VW.goto 130 d5_join_126 (by decide) ?_
                  exact VW.iret d5_join_130 hR (rIt hr)
              · replace hr := im hr c11
                by_cases c13 : x0 = 61
                · replace hr := ip hr c13
                  refine VW.lookup (off := 130) 131 d5_join_1 (by decide) (by rw [c13]; decide) (by decide) ?_
                  refine VW.iload_n d5_join_131 1 rfl ?_
                  refine VW.iload_n d5_join_132 2 rfl ?_
                  refine VW.icmp_ne 140 d5_join_133 (by decide) (fun c14 => ?_) (fun c14 => ?_)
                  · replace hr := ip hr c14
                    refine VW.iconst (v := 1) d5_join_136 ic_1 ?_
                    refine VW.goto 141 d5_join_137 (by decide) ?_
                    exact VW.iret d5_join_141 hR (rIt hr)
                  · replace hr := im hr c14
                    refine VW.iconst (v := 0) d5_join_140 ic_0 ?_
                    exact VW.iret d5_join_141 hR (rIt hr)
                · replace hr := im hr c13
                  by_cases c15 : x0 = 62
                  · replace hr := ip hr c15
                    refine VW.lookup (off := 141) 142 d5_join_1 (by decide) (by rw [c15]; decide) (by decide) ?_
                    refine VW.iload_n d5_join_142 1 rfl ?_
                    refine VW.iload_n d5_join_143 2 rfl ?_
                    refine VW.icmp_le 151 d5_join_144 (by decide) (fun c16 => ?_) (fun c16 => ?_)
                    · replace hr := ip hr c16
                      refine VW.iconst (v := 0) d5_join_151 ic_0 ?_
                      exact VW.iret d5_join_152 hR (rIt hr)
                    · replace hr := im hr c16
                      refine VW.iconst (v := 1) d5_join_147 ic_1 ?_
                      refine VW.goto 152 d5_join_148 (by decide) ?_
                      exact VW.iret d5_join_152 hR (rIt hr)
                  · replace hr := im hr c15
                    by_cases c17 : x0 = 124
                    · replace hr := ip hr c17
                      refine VW.lookup (off := 91) 92 d5_join_1 (by decide) (by rw [c17]; decide) (by decide) ?_
                      refine VW.iload_n d5_join_92 1 rfl ?_
                      refine VW.if_ne 100 d5_join_93 (by decide) (fun c18 => ?_) (fun c18 => ?_)
                      · replace hr := ip hr c18
                        refine VW.iload_n d5_join_96 2 rfl ?_
                        refine VW.if_eq 104 d5_join_97 (by decide) (fun c19 => ?_) (fun c19 => ?_)
                        · replace hr := ip hr c19
                          refine VW.iconst (v := 0) d5_join_104 ic_0 ?_
                          exact VW.iret d5_join_105 hR (rIt hr)
                        · replace hr := im hr c19
                          refine VW.iconst (v := 1) d5_join_100 ic_1 ?_
                          refine VW.goto 105 d5_join_101 (by decide) ?_
                          exact VW.iret d5_join_105 hR (rIt hr)
                      · replace hr := im hr c18
                        refine VW.iconst (v := 1) d5_join_100 ic_1 ?_
                        refine VW.goto 105 d5_join_101 (by decide) ?_
                        exact VW.iret d5_join_105 hR (rIt hr)
                    · replace hr := im hr c17
                      refine VW.lookup (off := 188) 189 d5_join_1 (by decide) ((lv_osw c1 (by decide)).trans ((lv_osw c3 (by decide)).trans ((lv_osw c6 (by decide)).trans ((lv_osw c7 (by decide)).trans ((lv_osw c8 (by decide)).trans ((lv_osw c9 (by decide)).trans ((lv_osw c11 (by decide)).trans ((lv_osw c13 (by decide)).trans ((lv_osw c15 (by decide)).trans ((lv_osw c17 (by decide)).trans rfl)))))))))) (by decide) ?_
                      refine VW.iconst (v := 0) d5_join_189 ic_0 ?_
                      exact VW.iret d5_join_190 hR (rIt hr)
set_option maxRecDepth 100000 in
set_option maxHeartbeats 4000000 in
theorem c_5_valueOf {γ : Gm} {dd : Nat} {x0 : Int32} {x1 : Int32} {x2 : Int32} {x3 : Int32} {h : Hp} {r : Int32} (hd : 0 ≤ dd) (hr : f_5_valueOf x0 x1 x2 x3 = r) : MC γ dd yX5_valueOf cX5_valueOf 4 (some .int) [.int x0, .int x1, .int x2, .int x3] h (QI r h) := by
  unfold f_5_valueOf at hr
  refine MC.of mi_5_valueOf (Nat.le_of_ble_eq_true rfl) (fun ε hR => ?_)
  show VW γ ε cX5_valueOf RX5 4 dd 0 [(0, .int x0), (1, .int x1), (2, .int x2), (3, .int x3)] [] h
  refine VW.iload_n d5_valueOf_0 0 rfl ?_
  by_cases c1 : x0 = 10000
  · replace hr := ip hr c1
    refine VW.tableIn (off := 27) 28 d5_valueOf_1 (by rw [c1]; decide) (by rw [c1]; decide) (by rw [c1]; decide) (by decide) ?_
    refine VW.iload_n d5_valueOf_28 1 rfl ?_
    exact VW.iret d5_valueOf_29 hR (rIt hr)
  · replace hr := im hr c1
    by_cases c2 : x0 = 10001
    · replace hr := ip hr c2
      refine VW.tableIn (off := 29) 30 d5_valueOf_1 (by rw [c2]; decide) (by rw [c2]; decide) (by rw [c2]; decide) (by decide) ?_
      refine VW.iload_n d5_valueOf_30 2 rfl ?_
      exact VW.iret d5_valueOf_31 hR (rIt hr)
    · replace hr := im hr c2
      by_cases c3 : x0 = 10002
      · replace hr := ip hr c3
        refine VW.tableIn (off := 31) 32 d5_valueOf_1 (by rw [c3]; decide) (by rw [c3]; decide) (by rw [c3]; decide) (by decide) ?_
        refine VW.iload_n d5_valueOf_32 3 rfl ?_
        exact VW.iret d5_valueOf_33 hR (rIt hr)
      · replace hr := im hr c3
        have tc1 := lv_neT c1 (by decide : (10000 : Int32).toInt = 10000)
        have tc2 := lv_neT c2 (by decide : (10001 : Int32).toInt = 10001)
        have tc3 := lv_neT c3 (by decide : (10002 : Int32).toInt = 10002)
        refine VW.tableOut 34 d5_valueOf_1 (by omega) (by decide) ?_
        refine VW.iload_n d5_valueOf_34 0 rfl ?_
        exact VW.iret d5_valueOf_35 hR (rIt hr)
set_option maxRecDepth 100000 in
set_option maxHeartbeats 4000000 in
theorem s_5_run_6 {γ : Gm} {ε : En} {dd : Nat} (hd : 1 ≤ dd) {r : Int32} {hz : Hp} {p0 : Nat} {x1 : Int32} {x2 : Int32} {x3 : Int32} (q0 : isO 5 p0) (hR : RT γ ε (some .int) (QI r hz)) : ∀ (n : Nat) (x4 : Int32) (x5 : Int32) (h : Hp), f_5_run_6 p0 x1 x2 x3 n x4 x5 h = some (r, hz) → VW γ ε cX5_run RX5 7 dd 6 [(0, .ref (γ.2.2.1 p0)), (1, .int x1), (2, .int x2), (3, .int x3), (4, .int x4), (5, .int x5)] [] h := by
  intro n
  induction n with
  | zero =>
    intro x4 x5 h hr
    exact nf hr
  | succ n ih =>
    intro x4 x5 h hr
    rw [f_5_run_6] at hr
    refine VW.iload d5_run_6 5 rfl ?_
    refine VW.aload_n d5_run_8 0 rfl ?_
    refine VW.getI (k := 2) d5_run_9 (oo_5 q0) rfl fl_5_18 ck5 ?_
    refine VW.icmp_ge 154 d5_run_12 (by decide) (fun c1 => ?_) (fun c1 => ?_)
    · replace hr := ip hr c1
      refine VW.aload_n d5_run_154 0 rfl ?_
      refine VW.getR (k := 1) (r := (p0 + 2)) d5_run_155 (oo_5 q0) rfl fl_5_15 ck5 ?_
      refine VW.iconst (v := 0) d5_run_158 ic_0 ?_
      refine VW.iald (j := 0) d5_run_159 (rf_5_1 q0) ib_0_50 il_0 ?_
      exact VW.iret d5_run_160 hR (rIw hr)
    · replace hr := im hr c1
      refine VW.aload_n d5_run_15 0 rfl ?_
      refine VW.getR (k := 0) (r := (p0 + 1)) d5_run_16 (oo_5 q0) rfl fl_5_9 ck5 ?_
      refine VW.iload d5_run_19 5 rfl ?_
      obtain ⟨g2, hr⟩ := gdt hr
      refine VW.iald (j := (ci x5)) d5_run_21 (rf_5_0 q0) g2 rfl ?_
      refine VW.ineg d5_run_22 ?_
      refine VW.istore (lo' := [(6, .int (-(h (p0 + 1) (ci x5)))), (0, .ref (γ.2.2.1 p0)), (1, .int x1), (2, .int x2), (3, .int x3), (4, .int x4), (5, .int x5)]) d5_run_23 (by decide) rfl ?_
      refine VW.iload d5_run_25 0 rfl ?_
      refine VW.if_gt 63 d5_run_27 (by decide) (fun c3 => ?_) (fun c3 => ?_)
      · replace hr := ip hr c3
        refine VW.iload d5_run_63 0 rfl ?_
        refine VW.bipush (v := 33) d5_run_65 bp_33 ?_
        refine VW.icmp_ne 104 d5_run_67 (by decide) (fun c4 => ?_) (fun c4 => ?_)
        · replace hr := ip hr c4
          refine VW.iload d5_run_70 5 rfl ?_
          refine VW.if_le 104 d5_run_72 (by decide) (fun c5 => ?_) (fun c5 => ?_)
          · replace hr := ip hr c5
            refine VW.iload d5_run_104 0 rfl ?_
            refine VW.if_le 148 d5_run_106 (by decide) (fun c6 => ?_) (fun c6 => ?_)
            · replace hr := ip hr c6
              refine VW.iinc (w := 1) (lo' := [(5, .int (x5 + 1)), (6, .int (-(h (p0 + 1) (ci x5)))), (0, .ref (γ.2.2.1 p0)), (1, .int x1), (2, .int x2), (3, .int x3), (4, .int x4)]) d5_run_148 6 rfl ic_1 (by decide) rfl ?_
              refine VW.goto 6 d5_run_151 (by decide) ?_
              exact VW.sub [2, 3, 4, 5, 6, 0] rfl (ih x4 (x5 + 1) h hr)
            · replace hr := im hr c6
              refine VW.iload d5_run_109 5 rfl ?_
              refine VW.iconst (v := 1) d5_run_111 ic_1 ?_
              refine VW.icmp_le 148 d5_run_112 (by decide) (fun c7 => ?_) (fun c7 => ?_)
              · replace hr := ip hr c7
                refine VW.iinc (w := 1) (lo' := [(5, .int (x5 + 1)), (6, .int (-(h (p0 + 1) (ci x5)))), (0, .ref (γ.2.2.1 p0)), (1, .int x1), (2, .int x2), (3, .int x3), (4, .int x4)]) d5_run_148 6 rfl ic_1 (by decide) rfl ?_
                refine VW.goto 6 d5_run_151 (by decide) ?_
                exact VW.sub [2, 3, 4, 5, 6, 0] rfl (ih x4 (x5 + 1) h hr)
              · replace hr := im hr c7
                refine VW.iinc (w := (-1)) (lo' := [(4, .int (x4 + (-1))), (6, .int (-(h (p0 + 1) (ci x5)))), (0, .ref (γ.2.2.1 p0)), (1, .int x1), (2, .int x2), (3, .int x3), (5, .int x5)]) d5_run_115 5 rfl ic_m1 (by decide) rfl ?_
                refine VW.aload_n d5_run_118 2 rfl ?_
                refine VW.getR (k := 1) (r := (p0 + 2)) d5_run_119 (oo_5 q0) rfl fl_5_15 ck5 ?_
                refine VW.iload d5_run_122 0 rfl ?_
                refine VW.iconst (v := 1) d5_run_124 ic_1 ?_
                refine VW.isub d5_run_125 ?_
                refine VW.iload d5_run_126 1 rfl ?_
                refine VW.aload_n d5_run_128 2 rfl ?_
                refine VW.getR (k := 1) (r := (p0 + 2)) d5_run_129 (oo_5 q0) rfl fl_5_15 ck5 ?_
                refine VW.iload d5_run_132 0 rfl ?_
                refine VW.iconst (v := 1) d5_run_134 ic_1 ?_
                refine VW.isub d5_run_135 ?_
                obtain ⟨g8, hr⟩ := gdt hr
                refine VW.iald (j := (ci ((x4 + (-1)) - 1))) d5_run_136 (rf_5_1 q0) g8 rfl ?_
                refine VW.aload_n d5_run_137 2 rfl ?_
                refine VW.getR (k := 1) (r := (p0 + 2)) d5_run_138 (oo_5 q0) rfl fl_5_15 ck5 ?_
                refine VW.iload d5_run_141 0 rfl ?_
                obtain ⟨g9, hr⟩ := gdt hr
                refine VW.iald (j := (ci (x4 + (-1)))) d5_run_143 (rf_5_1 q0) g9 rfl ?_
                refine VW.callS (As := [.int (-(h (p0 + 1) (ci x5))), .int (h (p0 + 2) (ci ((x4 + (-1)) - 1))), .int (h (p0 + 2) (ci (x4 + (-1))))]) (st := [.int ((x4 + (-1)) - 1), .ref (γ.2.2.1 (p0 + 2))]) d5_run_144 mi_5_join cs_5_41 (by decide) (dl1 hd) _ rfl (Nat.le_of_ble_eq_true rfl) rfl (c_5_join (dl hd rfl) rfl) (kI ?_)
                obtain ⟨g10, hr⟩ := gdt hr
                obtain ⟨h11, e12, hr⟩ := hlt hr
                refine VW.iast (j := (ci ((x4 + (-1)) - 1))) d5_run_147 (rf_5_1 q0) g10 rfl ?_
                refine VW.heq e12 ?_
                refine VW.iinc (w := 1) (lo' := [(5, .int (x5 + 1)), (4, .int (x4 + (-1))), (6, .int (-(h (p0 + 1) (ci x5)))), (0, .ref (γ.2.2.1 p0)), (1, .int x1), (2, .int x2), (3, .int x3)]) d5_run_148 6 rfl ic_1 (by decide) rfl ?_
                refine VW.goto 6 d5_run_151 (by decide) ?_
                exact VW.sub [3, 4, 5, 6, 1, 0] rfl (ih (x4 + (-1)) (x5 + 1) h11 hr)
          · replace hr := im hr c5
            refine VW.aload_n d5_run_75 1 rfl ?_
            refine VW.getR (k := 1) (r := (p0 + 2)) d5_run_76 (oo_5 q0) rfl fl_5_15 ck5 ?_
            refine VW.iload d5_run_79 5 rfl ?_
            refine VW.iconst (v := 1) d5_run_81 ic_1 ?_
            refine VW.isub d5_run_82 ?_
            refine VW.aload_n d5_run_83 1 rfl ?_
            refine VW.getR (k := 1) (r := (p0 + 2)) d5_run_84 (oo_5 q0) rfl fl_5_15 ck5 ?_
            refine VW.iload d5_run_87 5 rfl ?_
            refine VW.iconst (v := 1) d5_run_89 ic_1 ?_
            refine VW.isub d5_run_90 ?_
            obtain ⟨g13, hr⟩ := gdt hr
            refine VW.iald (j := (ci (x4 - 1))) d5_run_91 (rf_5_1 q0) g13 rfl ?_
            refine VW.if_ne 99 d5_run_92 (by decide) (fun c14 => ?_) (fun c14 => ?_)
            · replace hr := ip hr c14
              refine VW.iconst (v := 1) d5_run_95 ic_1 ?_
              refine VW.goto 100 d5_run_96 (by decide) ?_
              obtain ⟨g15, hr⟩ := gdt hr
              obtain ⟨h16, e17, hr⟩ := hlt hr
              refine VW.iast (j := (ci (x4 - 1))) d5_run_100 (rf_5_1 q0) g15 rfl ?_
              refine VW.heq e17 ?_
              refine VW.goto 148 d5_run_101 (by decide) ?_
              refine VW.iinc (w := 1) (lo' := [(5, .int (x5 + 1)), (6, .int (-(h (p0 + 1) (ci x5)))), (0, .ref (γ.2.2.1 p0)), (1, .int x1), (2, .int x2), (3, .int x3), (4, .int x4)]) d5_run_148 6 rfl ic_1 (by decide) rfl ?_
              refine VW.goto 6 d5_run_151 (by decide) ?_
              exact VW.sub [2, 3, 4, 5, 6, 0] rfl (ih x4 (x5 + 1) h16 hr)
            · replace hr := im hr c14
              refine VW.iconst (v := 0) d5_run_99 ic_0 ?_
              obtain ⟨g18, hr⟩ := gdt hr
              obtain ⟨h19, e20, hr⟩ := hlt hr
              refine VW.iast (j := (ci (x4 - 1))) d5_run_100 (rf_5_1 q0) g18 rfl ?_
              refine VW.heq e20 ?_
              refine VW.goto 148 d5_run_101 (by decide) ?_
              refine VW.iinc (w := 1) (lo' := [(5, .int (x5 + 1)), (6, .int (-(h (p0 + 1) (ci x5)))), (0, .ref (γ.2.2.1 p0)), (1, .int x1), (2, .int x2), (3, .int x3), (4, .int x4)]) d5_run_148 6 rfl ic_1 (by decide) rfl ?_
              refine VW.goto 6 d5_run_151 (by decide) ?_
              exact VW.sub [2, 3, 4, 5, 6, 0] rfl (ih x4 (x5 + 1) h19 hr)
        · replace hr := im hr c4
          refine VW.iload d5_run_104 0 rfl ?_
          refine VW.if_le 148 d5_run_106 (by decide) (fun c21 => ?_) (fun c21 => ?_)
          · replace hr := ip hr c21
            refine VW.iinc (w := 1) (lo' := [(5, .int (x5 + 1)), (6, .int (-(h (p0 + 1) (ci x5)))), (0, .ref (γ.2.2.1 p0)), (1, .int x1), (2, .int x2), (3, .int x3), (4, .int x4)]) d5_run_148 6 rfl ic_1 (by decide) rfl ?_
            refine VW.goto 6 d5_run_151 (by decide) ?_
            exact VW.sub [2, 3, 4, 5, 6, 0] rfl (ih x4 (x5 + 1) h hr)
          · replace hr := im hr c21
            refine VW.iload d5_run_109 5 rfl ?_
            refine VW.iconst (v := 1) d5_run_111 ic_1 ?_
            refine VW.icmp_le 148 d5_run_112 (by decide) (fun c22 => ?_) (fun c22 => ?_)
            · replace hr := ip hr c22
              refine VW.iinc (w := 1) (lo' := [(5, .int (x5 + 1)), (6, .int (-(h (p0 + 1) (ci x5)))), (0, .ref (γ.2.2.1 p0)), (1, .int x1), (2, .int x2), (3, .int x3), (4, .int x4)]) d5_run_148 6 rfl ic_1 (by decide) rfl ?_
              refine VW.goto 6 d5_run_151 (by decide) ?_
              exact VW.sub [2, 3, 4, 5, 6, 0] rfl (ih x4 (x5 + 1) h hr)
            · replace hr := im hr c22
              refine VW.iinc (w := (-1)) (lo' := [(4, .int (x4 + (-1))), (6, .int (-(h (p0 + 1) (ci x5)))), (0, .ref (γ.2.2.1 p0)), (1, .int x1), (2, .int x2), (3, .int x3), (5, .int x5)]) d5_run_115 5 rfl ic_m1 (by decide) rfl ?_
              refine VW.aload_n d5_run_118 2 rfl ?_
              refine VW.getR (k := 1) (r := (p0 + 2)) d5_run_119 (oo_5 q0) rfl fl_5_15 ck5 ?_
              refine VW.iload d5_run_122 0 rfl ?_
              refine VW.iconst (v := 1) d5_run_124 ic_1 ?_
              refine VW.isub d5_run_125 ?_
              refine VW.iload d5_run_126 1 rfl ?_
              refine VW.aload_n d5_run_128 2 rfl ?_
              refine VW.getR (k := 1) (r := (p0 + 2)) d5_run_129 (oo_5 q0) rfl fl_5_15 ck5 ?_
              refine VW.iload d5_run_132 0 rfl ?_
              refine VW.iconst (v := 1) d5_run_134 ic_1 ?_
              refine VW.isub d5_run_135 ?_
              obtain ⟨g23, hr⟩ := gdt hr
              refine VW.iald (j := (ci ((x4 + (-1)) - 1))) d5_run_136 (rf_5_1 q0) g23 rfl ?_
              refine VW.aload_n d5_run_137 2 rfl ?_
              refine VW.getR (k := 1) (r := (p0 + 2)) d5_run_138 (oo_5 q0) rfl fl_5_15 ck5 ?_
              refine VW.iload d5_run_141 0 rfl ?_
              obtain ⟨g24, hr⟩ := gdt hr
              refine VW.iald (j := (ci (x4 + (-1)))) d5_run_143 (rf_5_1 q0) g24 rfl ?_
              refine VW.callS (As := [.int (-(h (p0 + 1) (ci x5))), .int (h (p0 + 2) (ci ((x4 + (-1)) - 1))), .int (h (p0 + 2) (ci (x4 + (-1))))]) (st := [.int ((x4 + (-1)) - 1), .ref (γ.2.2.1 (p0 + 2))]) d5_run_144 mi_5_join cs_5_41 (by decide) (dl1 hd) _ rfl (Nat.le_of_ble_eq_true rfl) rfl (c_5_join (dl hd rfl) rfl) (kI ?_)
              obtain ⟨g25, hr⟩ := gdt hr
              obtain ⟨h26, e27, hr⟩ := hlt hr
              refine VW.iast (j := (ci ((x4 + (-1)) - 1))) d5_run_147 (rf_5_1 q0) g25 rfl ?_
              refine VW.heq e27 ?_
              refine VW.iinc (w := 1) (lo' := [(5, .int (x5 + 1)), (4, .int (x4 + (-1))), (6, .int (-(h (p0 + 1) (ci x5)))), (0, .ref (γ.2.2.1 p0)), (1, .int x1), (2, .int x2), (3, .int x3)]) d5_run_148 6 rfl ic_1 (by decide) rfl ?_
              refine VW.goto 6 d5_run_151 (by decide) ?_
              exact VW.sub [3, 4, 5, 6, 1, 0] rfl (ih (x4 + (-1)) (x5 + 1) h26 hr)
      · replace hr := im hr c3
        refine VW.iload d5_run_30 5 rfl ?_
        refine VW.bipush (v := 50) d5_run_32 bp_50 ?_
        refine VW.icmp_ge 63 d5_run_34 (by decide) (fun c28 => ?_) (fun c28 => ?_)
        · replace hr := ip hr c28
          refine VW.iload d5_run_63 0 rfl ?_
          refine VW.bipush (v := 33) d5_run_65 bp_33 ?_
          refine VW.icmp_ne 104 d5_run_67 (by decide) (fun c29 => ?_) (fun c29 => ?_)
          · replace hr := ip hr c29
            refine VW.iload d5_run_70 5 rfl ?_
            refine VW.if_le 104 d5_run_72 (by decide) (fun c30 => ?_) (fun c30 => ?_)
            · replace hr := ip hr c30
              refine VW.iload d5_run_104 0 rfl ?_
              refine VW.if_le 148 d5_run_106 (by decide) (fun c31 => ?_) (fun c31 => ?_)
              · replace hr := ip hr c31
                refine VW.iinc (w := 1) (lo' := [(5, .int (x5 + 1)), (6, .int (-(h (p0 + 1) (ci x5)))), (0, .ref (γ.2.2.1 p0)), (1, .int x1), (2, .int x2), (3, .int x3), (4, .int x4)]) d5_run_148 6 rfl ic_1 (by decide) rfl ?_
                refine VW.goto 6 d5_run_151 (by decide) ?_
                exact VW.sub [2, 3, 4, 5, 6, 0] rfl (ih x4 (x5 + 1) h hr)
              · replace hr := im hr c31
                refine VW.iload d5_run_109 5 rfl ?_
                refine VW.iconst (v := 1) d5_run_111 ic_1 ?_
                refine VW.icmp_le 148 d5_run_112 (by decide) (fun c32 => ?_) (fun c32 => ?_)
                · replace hr := ip hr c32
                  refine VW.iinc (w := 1) (lo' := [(5, .int (x5 + 1)), (6, .int (-(h (p0 + 1) (ci x5)))), (0, .ref (γ.2.2.1 p0)), (1, .int x1), (2, .int x2), (3, .int x3), (4, .int x4)]) d5_run_148 6 rfl ic_1 (by decide) rfl ?_
                  refine VW.goto 6 d5_run_151 (by decide) ?_
                  exact VW.sub [2, 3, 4, 5, 6, 0] rfl (ih x4 (x5 + 1) h hr)
                · replace hr := im hr c32
                  refine VW.iinc (w := (-1)) (lo' := [(4, .int (x4 + (-1))), (6, .int (-(h (p0 + 1) (ci x5)))), (0, .ref (γ.2.2.1 p0)), (1, .int x1), (2, .int x2), (3, .int x3), (5, .int x5)]) d5_run_115 5 rfl ic_m1 (by decide) rfl ?_
                  refine VW.aload_n d5_run_118 2 rfl ?_
                  refine VW.getR (k := 1) (r := (p0 + 2)) d5_run_119 (oo_5 q0) rfl fl_5_15 ck5 ?_
                  refine VW.iload d5_run_122 0 rfl ?_
                  refine VW.iconst (v := 1) d5_run_124 ic_1 ?_
                  refine VW.isub d5_run_125 ?_
                  refine VW.iload d5_run_126 1 rfl ?_
                  refine VW.aload_n d5_run_128 2 rfl ?_
                  refine VW.getR (k := 1) (r := (p0 + 2)) d5_run_129 (oo_5 q0) rfl fl_5_15 ck5 ?_
                  refine VW.iload d5_run_132 0 rfl ?_
                  refine VW.iconst (v := 1) d5_run_134 ic_1 ?_
                  refine VW.isub d5_run_135 ?_
                  obtain ⟨g33, hr⟩ := gdt hr
                  refine VW.iald (j := (ci ((x4 + (-1)) - 1))) d5_run_136 (rf_5_1 q0) g33 rfl ?_
                  refine VW.aload_n d5_run_137 2 rfl ?_
                  refine VW.getR (k := 1) (r := (p0 + 2)) d5_run_138 (oo_5 q0) rfl fl_5_15 ck5 ?_
                  refine VW.iload d5_run_141 0 rfl ?_
                  obtain ⟨g34, hr⟩ := gdt hr
                  refine VW.iald (j := (ci (x4 + (-1)))) d5_run_143 (rf_5_1 q0) g34 rfl ?_
                  refine VW.callS (As := [.int (-(h (p0 + 1) (ci x5))), .int (h (p0 + 2) (ci ((x4 + (-1)) - 1))), .int (h (p0 + 2) (ci (x4 + (-1))))]) (st := [.int ((x4 + (-1)) - 1), .ref (γ.2.2.1 (p0 + 2))]) d5_run_144 mi_5_join cs_5_41 (by decide) (dl1 hd) _ rfl (Nat.le_of_ble_eq_true rfl) rfl (c_5_join (dl hd rfl) rfl) (kI ?_)
                  obtain ⟨g35, hr⟩ := gdt hr
                  obtain ⟨h36, e37, hr⟩ := hlt hr
                  refine VW.iast (j := (ci ((x4 + (-1)) - 1))) d5_run_147 (rf_5_1 q0) g35 rfl ?_
                  refine VW.heq e37 ?_
                  refine VW.iinc (w := 1) (lo' := [(5, .int (x5 + 1)), (4, .int (x4 + (-1))), (6, .int (-(h (p0 + 1) (ci x5)))), (0, .ref (γ.2.2.1 p0)), (1, .int x1), (2, .int x2), (3, .int x3)]) d5_run_148 6 rfl ic_1 (by decide) rfl ?_
                  refine VW.goto 6 d5_run_151 (by decide) ?_
                  exact VW.sub [3, 4, 5, 6, 1, 0] rfl (ih (x4 + (-1)) (x5 + 1) h36 hr)
            · replace hr := im hr c30
              refine VW.aload_n d5_run_75 1 rfl ?_
              refine VW.getR (k := 1) (r := (p0 + 2)) d5_run_76 (oo_5 q0) rfl fl_5_15 ck5 ?_
              refine VW.iload d5_run_79 5 rfl ?_
              refine VW.iconst (v := 1) d5_run_81 ic_1 ?_
              refine VW.isub d5_run_82 ?_
              refine VW.aload_n d5_run_83 1 rfl ?_
              refine VW.getR (k := 1) (r := (p0 + 2)) d5_run_84 (oo_5 q0) rfl fl_5_15 ck5 ?_
              refine VW.iload d5_run_87 5 rfl ?_
              refine VW.iconst (v := 1) d5_run_89 ic_1 ?_
              refine VW.isub d5_run_90 ?_
              obtain ⟨g38, hr⟩ := gdt hr
              refine VW.iald (j := (ci (x4 - 1))) d5_run_91 (rf_5_1 q0) g38 rfl ?_
              refine VW.if_ne 99 d5_run_92 (by decide) (fun c39 => ?_) (fun c39 => ?_)
              · replace hr := ip hr c39
                refine VW.iconst (v := 1) d5_run_95 ic_1 ?_
                refine VW.goto 100 d5_run_96 (by decide) ?_
                obtain ⟨g40, hr⟩ := gdt hr
                obtain ⟨h41, e42, hr⟩ := hlt hr
                refine VW.iast (j := (ci (x4 - 1))) d5_run_100 (rf_5_1 q0) g40 rfl ?_
                refine VW.heq e42 ?_
                refine VW.goto 148 d5_run_101 (by decide) ?_
                refine VW.iinc (w := 1) (lo' := [(5, .int (x5 + 1)), (6, .int (-(h (p0 + 1) (ci x5)))), (0, .ref (γ.2.2.1 p0)), (1, .int x1), (2, .int x2), (3, .int x3), (4, .int x4)]) d5_run_148 6 rfl ic_1 (by decide) rfl ?_
                refine VW.goto 6 d5_run_151 (by decide) ?_
                exact VW.sub [2, 3, 4, 5, 6, 0] rfl (ih x4 (x5 + 1) h41 hr)
              · replace hr := im hr c39
                refine VW.iconst (v := 0) d5_run_99 ic_0 ?_
                obtain ⟨g43, hr⟩ := gdt hr
                obtain ⟨h44, e45, hr⟩ := hlt hr
                refine VW.iast (j := (ci (x4 - 1))) d5_run_100 (rf_5_1 q0) g43 rfl ?_
                refine VW.heq e45 ?_
                refine VW.goto 148 d5_run_101 (by decide) ?_
                refine VW.iinc (w := 1) (lo' := [(5, .int (x5 + 1)), (6, .int (-(h (p0 + 1) (ci x5)))), (0, .ref (γ.2.2.1 p0)), (1, .int x1), (2, .int x2), (3, .int x3), (4, .int x4)]) d5_run_148 6 rfl ic_1 (by decide) rfl ?_
                refine VW.goto 6 d5_run_151 (by decide) ?_
                exact VW.sub [2, 3, 4, 5, 6, 0] rfl (ih x4 (x5 + 1) h44 hr)
          · replace hr := im hr c29
            refine VW.iload d5_run_104 0 rfl ?_
            refine VW.if_le 148 d5_run_106 (by decide) (fun c46 => ?_) (fun c46 => ?_)
            · replace hr := ip hr c46
              refine VW.iinc (w := 1) (lo' := [(5, .int (x5 + 1)), (6, .int (-(h (p0 + 1) (ci x5)))), (0, .ref (γ.2.2.1 p0)), (1, .int x1), (2, .int x2), (3, .int x3), (4, .int x4)]) d5_run_148 6 rfl ic_1 (by decide) rfl ?_
              refine VW.goto 6 d5_run_151 (by decide) ?_
              exact VW.sub [2, 3, 4, 5, 6, 0] rfl (ih x4 (x5 + 1) h hr)
            · replace hr := im hr c46
              refine VW.iload d5_run_109 5 rfl ?_
              refine VW.iconst (v := 1) d5_run_111 ic_1 ?_
              refine VW.icmp_le 148 d5_run_112 (by decide) (fun c47 => ?_) (fun c47 => ?_)
              · replace hr := ip hr c47
                refine VW.iinc (w := 1) (lo' := [(5, .int (x5 + 1)), (6, .int (-(h (p0 + 1) (ci x5)))), (0, .ref (γ.2.2.1 p0)), (1, .int x1), (2, .int x2), (3, .int x3), (4, .int x4)]) d5_run_148 6 rfl ic_1 (by decide) rfl ?_
                refine VW.goto 6 d5_run_151 (by decide) ?_
                exact VW.sub [2, 3, 4, 5, 6, 0] rfl (ih x4 (x5 + 1) h hr)
              · replace hr := im hr c47
                refine VW.iinc (w := (-1)) (lo' := [(4, .int (x4 + (-1))), (6, .int (-(h (p0 + 1) (ci x5)))), (0, .ref (γ.2.2.1 p0)), (1, .int x1), (2, .int x2), (3, .int x3), (5, .int x5)]) d5_run_115 5 rfl ic_m1 (by decide) rfl ?_
                refine VW.aload_n d5_run_118 2 rfl ?_
                refine VW.getR (k := 1) (r := (p0 + 2)) d5_run_119 (oo_5 q0) rfl fl_5_15 ck5 ?_
                refine VW.iload d5_run_122 0 rfl ?_
                refine VW.iconst (v := 1) d5_run_124 ic_1 ?_
                refine VW.isub d5_run_125 ?_
                refine VW.iload d5_run_126 1 rfl ?_
                refine VW.aload_n d5_run_128 2 rfl ?_
                refine VW.getR (k := 1) (r := (p0 + 2)) d5_run_129 (oo_5 q0) rfl fl_5_15 ck5 ?_
                refine VW.iload d5_run_132 0 rfl ?_
                refine VW.iconst (v := 1) d5_run_134 ic_1 ?_
                refine VW.isub d5_run_135 ?_
                obtain ⟨g48, hr⟩ := gdt hr
                refine VW.iald (j := (ci ((x4 + (-1)) - 1))) d5_run_136 (rf_5_1 q0) g48 rfl ?_
                refine VW.aload_n d5_run_137 2 rfl ?_
                refine VW.getR (k := 1) (r := (p0 + 2)) d5_run_138 (oo_5 q0) rfl fl_5_15 ck5 ?_
                refine VW.iload d5_run_141 0 rfl ?_
                obtain ⟨g49, hr⟩ := gdt hr
                refine VW.iald (j := (ci (x4 + (-1)))) d5_run_143 (rf_5_1 q0) g49 rfl ?_
                refine VW.callS (As := [.int (-(h (p0 + 1) (ci x5))), .int (h (p0 + 2) (ci ((x4 + (-1)) - 1))), .int (h (p0 + 2) (ci (x4 + (-1))))]) (st := [.int ((x4 + (-1)) - 1), .ref (γ.2.2.1 (p0 + 2))]) d5_run_144 mi_5_join cs_5_41 (by decide) (dl1 hd) _ rfl (Nat.le_of_ble_eq_true rfl) rfl (c_5_join (dl hd rfl) rfl) (kI ?_)
                obtain ⟨g50, hr⟩ := gdt hr
                obtain ⟨h51, e52, hr⟩ := hlt hr
                refine VW.iast (j := (ci ((x4 + (-1)) - 1))) d5_run_147 (rf_5_1 q0) g50 rfl ?_
                refine VW.heq e52 ?_
                refine VW.iinc (w := 1) (lo' := [(5, .int (x5 + 1)), (4, .int (x4 + (-1))), (6, .int (-(h (p0 + 1) (ci x5)))), (0, .ref (γ.2.2.1 p0)), (1, .int x1), (2, .int x2), (3, .int x3)]) d5_run_148 6 rfl ic_1 (by decide) rfl ?_
                refine VW.goto 6 d5_run_151 (by decide) ?_
                exact VW.sub [3, 4, 5, 6, 1, 0] rfl (ih (x4 + (-1)) (x5 + 1) h51 hr)
        · replace hr := im hr c28
          refine VW.aload_n d5_run_37 1 rfl ?_
          refine VW.getR (k := 1) (r := (p0 + 2)) d5_run_38 (oo_5 q0) rfl fl_5_15 ck5 ?_
          refine VW.iload d5_run_41 5 rfl ?_
          refine VW.aload_n d5_run_43 1 rfl ?_
          refine VW.getR (k := 0) (r := (p0 + 1)) d5_run_44 (oo_5 q0) rfl fl_5_9 ck5 ?_
          refine VW.iload d5_run_47 6 rfl ?_
          obtain ⟨g53, hr⟩ := gdt hr
          refine VW.iald (j := (ci x5)) d5_run_49 (rf_5_0 q0) g53 rfl ?_
          refine VW.iload_n d5_run_50 2 rfl ?_
          refine VW.iload_n d5_run_51 3 rfl ?_
          refine VW.iload_n d5_run_52 4 rfl ?_
          refine VW.callS (As := [.int (h (p0 + 1) (ci x5)), .int x1, .int x2, .int x3]) (st := [.int x4, .ref (γ.2.2.1 (p0 + 2))]) d5_run_53 mi_5_valueOf cs_5_37 (by decide) (dl1 hd) _ rfl (Nat.le_of_ble_eq_true rfl) rfl (c_5_valueOf (dl hd rfl) rfl) (kI ?_)
          obtain ⟨g54, hr⟩ := gdt hr
          obtain ⟨h55, e56, hr⟩ := hlt hr
          refine VW.iast (j := (ci x4)) d5_run_56 (rf_5_1 q0) g54 rfl ?_
          refine VW.heq e56 ?_
          refine VW.iinc (w := 1) (lo' := [(4, .int (x4 + 1)), (6, .int (-(h (p0 + 1) (ci x5)))), (0, .ref (γ.2.2.1 p0)), (1, .int x1), (2, .int x2), (3, .int x3), (5, .int x5)]) d5_run_57 5 rfl ic_1 (by decide) rfl ?_
          refine VW.goto 148 d5_run_60 (by decide) ?_
          refine VW.iinc (w := 1) (lo' := [(5, .int (x5 + 1)), (4, .int (x4 + 1)), (6, .int (-(h (p0 + 1) (ci x5)))), (0, .ref (γ.2.2.1 p0)), (1, .int x1), (2, .int x2), (3, .int x3)]) d5_run_148 6 rfl ic_1 (by decide) rfl ?_
          refine VW.goto 6 d5_run_151 (by decide) ?_
          exact VW.sub [3, 4, 5, 6, 1, 0] rfl (ih (x4 + 1) (x5 + 1) h55 hr)
set_option maxRecDepth 100000 in
set_option maxHeartbeats 4000000 in
theorem c_5_run {γ : Gm} {dd : Nat} {p0 : Nat} {x1 : Int32} {x2 : Int32} {x3 : Int32} (q0 : isO 5 p0) {h : Hp} {r : Int32} {hz : Hp} (hd : 1 ≤ dd) (hr : f_5_run p0 x1 x2 x3 h = some (r, hz)) : MC γ dd yX5_run cX5_run 7 (some .int) [.ref (γ.2.2.1 p0), .int x1, .int x2, .int x3] h (QI r hz) := by
  unfold f_5_run at hr
  refine MC.of mi_5_run (Nat.le_of_ble_eq_true rfl) (fun ε hR => ?_)
  show VW γ ε cX5_run RX5 7 dd 0 [(0, .ref (γ.2.2.1 p0)), (1, .int x1), (2, .int x2), (3, .int x3)] [] h
  refine VW.iconst (v := 0) d5_run_0 ic_0 ?_
  refine VW.istore (lo' := [(4, .int 0), (0, .ref (γ.2.2.1 p0)), (1, .int x1), (2, .int x2), (3, .int x3)]) d5_run_1 (by decide) rfl ?_
  refine VW.iconst (v := 0) d5_run_3 ic_0 ?_
  refine VW.istore (lo' := [(5, .int 0), (4, .int 0), (0, .ref (γ.2.2.1 p0)), (1, .int x1), (2, .int x2), (3, .int x3)]) d5_run_4 (by decide) rfl ?_
  exact VW.sub [2, 3, 4, 5, 1, 0] rfl (s_5_run_6 hd q0 hR FU 0 0 h hr)
set_option maxRecDepth 100000 in
set_option maxHeartbeats 4000000 in
theorem c_7_apartBy {γ : Gm} {dd : Nat} {x1 : Int32} {x2 : Int32} {x3 : Int32} {h : Hp} {r : Int32} {hz : Hp} (hd : 2 ≤ dd) (hr : f_7_apartBy x1 x2 x3 h = some (r, hz)) : MC γ dd yX7_apartBy cX7_apartBy 4 (some .int) [.ref (γ.2.2.1 1), .int x1, .int x2, .int x3] h (QI r hz) := by
  unfold f_7_apartBy at hr
  refine MC.of mi_7_apartBy (Nat.le_of_ble_eq_true rfl) (fun ε hR => ?_)
  show VW γ ε cX7_apartBy RX7 4 dd 0 [(0, .ref (γ.2.2.1 1)), (1, .int x1), (2, .int x2), (3, .int x3)] [] h
  refine VW.aload_n d7_apartBy_0 0 rfl ?_
  refine VW.getR (k := 4) (r := 6) d7_apartBy_1 (oo_7 o7_1) rfl fl_7_33 ck7 ?_
  refine VW.getI (k := 2) d7_apartBy_4 (oo_5 (rf_7_4 o7_1)) rfl fl_7_92 ck5 ?_
  refine VW.if_le 30 d7_apartBy_7 (by decide) (fun c1 => ?_) (fun c1 => ?_)
  · replace hr := ip hr c1
    refine VW.iload_n d7_apartBy_30 1 rfl ?_
    refine VW.iload_n d7_apartBy_31 2 rfl ?_
    refine VW.icmp_ne 39 d7_apartBy_32 (by decide) (fun c2 => ?_) (fun c2 => ?_)
    · replace hr := ip hr c2
      refine VW.iconst (v := 0) d7_apartBy_35 ic_0 ?_
      refine VW.goto 52 d7_apartBy_36 (by decide) ?_
      exact VW.iret d7_apartBy_52 hR (rIw hr)
    · replace hr := im hr c2
      refine VW.iload_n d7_apartBy_39 1 rfl ?_
      refine VW.if_eq 47 d7_apartBy_40 (by decide) (fun c3 => ?_) (fun c3 => ?_)
      · replace hr := ip hr c3
        refine VW.iconst (v := 5) d7_apartBy_47 ic_5 ?_
        refine VW.goto 52 d7_apartBy_48 (by decide) ?_
        exact VW.iret d7_apartBy_52 hR (rIw hr)
      · replace hr := im hr c3
        refine VW.iload_n d7_apartBy_43 2 rfl ?_
        refine VW.if_ne 51 d7_apartBy_44 (by decide) (fun c4 => ?_) (fun c4 => ?_)
        · replace hr := ip hr c4
          refine VW.iconst (v := 5) d7_apartBy_47 ic_5 ?_
          refine VW.goto 52 d7_apartBy_48 (by decide) ?_
          exact VW.iret d7_apartBy_52 hR (rIw hr)
        · replace hr := im hr c4
          refine VW.iconst (v := 1) d7_apartBy_51 ic_1 ?_
          exact VW.iret d7_apartBy_52 hR (rIw hr)
  · replace hr := im hr c1
    refine VW.iconst (v := 0) d7_apartBy_10 ic_0 ?_
    refine VW.bipush (v := 99) d7_apartBy_11 bp_99 ?_
    refine VW.aload_n d7_apartBy_13 0 rfl ?_
    refine VW.getR (k := 4) (r := 6) d7_apartBy_14 (oo_7 o7_1) rfl fl_7_33 ck7 ?_
    refine VW.iload_n d7_apartBy_17 1 rfl ?_
    refine VW.iload_n d7_apartBy_18 2 rfl ?_
    refine VW.iload_n d7_apartBy_19 3 rfl ?_
    obtain ⟨r6, h7, e5, hr⟩ := bno2 hr
    refine VW.callV (As := [.int x1, .int x2, .int x3]) (st := [.int 99, .int 0]) d7_apartBy_20 mi_5_run cv_7_103 (oo_5 (rf_7_4 o7_1)) ⟨rfl, rfl⟩ (by decide) (dl1 hd) _ rfl (Nat.le_of_ble_eq_true rfl) rfl (c_5_run (rf_7_4 o7_1) (dl hd rfl) e5) (kI ?_)
    refine VW.mmin d7_apartBy_23 jl_7_107 (dl1 hd) (Nat.le_of_ble_eq_true rfl) ?_
    refine VW.mmax d7_apartBy_26 jl_7_113 (dl1 hd) (Nat.le_of_ble_eq_true rfl) ?_
    exact VW.iret d7_apartBy_29 hR (rIw hr)
set_option maxRecDepth 100000 in
set_option maxHeartbeats 4000000 in
theorem c_8_seenOf {γ : Gm} {dd : Nat} {x0 : Int32} {x1 : Int32} {x2 : Int32} {h : Hp} {r : Int32} (hd : 0 ≤ dd) (hr : f_8_seenOf x0 x1 x2 = r) : MC γ dd yX8_seenOf cX8_seenOf 3 (some .int) [.int x0, .int x1, .int x2] h (QI r h) := by
  unfold f_8_seenOf at hr
  refine MC.of mi_8_seenOf (Nat.le_of_ble_eq_true rfl) (fun ε hR => ?_)
  show VW γ ε cX8_seenOf RX8 3 dd 0 [(0, .int x0), (1, .int x1), (2, .int x2)] [] h
  refine VW.iload_n d8_seenOf_0 0 rfl ?_
  by_cases c1 : x0 = 1
  · replace hr := ip hr c1
    refine VW.tableIn (off := 39) 40 d8_seenOf_1 (by rw [c1]; decide) (by rw [c1]; decide) (by rw [c1]; decide) (by decide) ?_
    refine VW.iconst (v := 2) d8_seenOf_40 ic_2 ?_
    refine VW.iload_n d8_seenOf_41 2 rfl ?_
    refine VW.imul d8_seenOf_42 ?_
    exact VW.iret d8_seenOf_43 hR (rIt hr)
  · replace hr := im hr c1
    by_cases c2 : x0 = 2
    · replace hr := ip hr c2
      refine VW.tableIn (off := 43) 44 d8_seenOf_1 (by rw [c2]; decide) (by rw [c2]; decide) (by rw [c2]; decide) (by decide) ?_
      refine VW.iload_n d8_seenOf_44 2 rfl ?_
      refine VW.iconst (v := 2) d8_seenOf_45 ic_2 ?_
      refine VW.idiv d8_seenOf_46 (by decide) ?_
      exact VW.iret d8_seenOf_47 hR (rIt hr)
    · replace hr := im hr c2
      by_cases c3 : x0 = 3
      · replace hr := ip hr c3
        refine VW.tableIn (off := 47) 48 d8_seenOf_1 (by rw [c3]; decide) (by rw [c3]; decide) (by rw [c3]; decide) (by decide) ?_
        refine VW.iconst (v := 0) d8_seenOf_48 ic_0 ?_
        exact VW.iret d8_seenOf_49 hR (rIt hr)
      · replace hr := im hr c3
        by_cases c4 : x0 = 4
        · replace hr := ip hr c4
          refine VW.tableIn (off := 49) 50 d8_seenOf_1 (by rw [c4]; decide) (by rw [c4]; decide) (by rw [c4]; decide) (by decide) ?_
          refine VW.iconst (v := 2) d8_seenOf_50 ic_2 ?_
          refine VW.iload_n d8_seenOf_51 2 rfl ?_
          refine VW.imul d8_seenOf_52 ?_
          refine VW.iload_n d8_seenOf_53 1 rfl ?_
          refine VW.iadd d8_seenOf_54 ?_
          exact VW.iret d8_seenOf_55 hR (rIt hr)
        · replace hr := im hr c4
          by_cases c5 : x0 = 5
          · replace hr := ip hr c5
            refine VW.tableIn (off := 55) 56 d8_seenOf_1 (by rw [c5]; decide) (by rw [c5]; decide) (by rw [c5]; decide) (by decide) ?_
            refine VW.iload_n d8_seenOf_56 2 rfl ?_
            refine VW.iconst (v := 2) d8_seenOf_57 ic_2 ?_
            refine VW.idiv d8_seenOf_58 (by decide) ?_
            refine VW.iload_n d8_seenOf_59 1 rfl ?_
            refine VW.icmp_ge 67 d8_seenOf_60 (by decide) (fun c6 => ?_) (fun c6 => ?_)
            · replace hr := ip hr c6
              refine VW.iload_n d8_seenOf_67 2 rfl ?_
              refine VW.iconst (v := 2) d8_seenOf_68 ic_2 ?_
              refine VW.idiv d8_seenOf_69 (by decide) ?_
              exact VW.iret d8_seenOf_70 hR (rIt hr)
            · replace hr := im hr c6
              refine VW.iconst (v := 0) d8_seenOf_63 ic_0 ?_
              refine VW.goto 70 d8_seenOf_64 (by decide) ?_
              exact VW.iret d8_seenOf_70 hR (rIt hr)
          · replace hr := im hr c5
            by_cases c7 : x0 = 6
            · replace hr := ip hr c7
              refine VW.tableIn (off := 70) 71 d8_seenOf_1 (by rw [c7]; decide) (by rw [c7]; decide) (by rw [c7]; decide) (by decide) ?_
              refine VW.iload_n d8_seenOf_71 2 rfl ?_
              refine VW.if_eq 79 d8_seenOf_72 (by decide) (fun c8 => ?_) (fun c8 => ?_)
              · replace hr := ip hr c8
                refine VW.iconst (v := 0) d8_seenOf_79 ic_0 ?_
                exact VW.iret d8_seenOf_80 hR (rIt hr)
              · replace hr := im hr c8
                refine VW.iconst (v := 1) d8_seenOf_75 ic_1 ?_
                refine VW.goto 80 d8_seenOf_76 (by decide) ?_
                exact VW.iret d8_seenOf_80 hR (rIt hr)
            · replace hr := im hr c7
              have tc1 := lv_neT c1 (by decide : (1 : Int32).toInt = 1)
              have tc2 := lv_neT c2 (by decide : (2 : Int32).toInt = 2)
              have tc3 := lv_neT c3 (by decide : (3 : Int32).toInt = 3)
              have tc4 := lv_neT c4 (by decide : (4 : Int32).toInt = 4)
              have tc5 := lv_neT c5 (by decide : (5 : Int32).toInt = 5)
              have tc7 := lv_neT c7 (by decide : (6 : Int32).toInt = 6)
              refine VW.tableOut 81 d8_seenOf_1 (by omega) (by decide) ?_
              refine VW.iload_n d8_seenOf_81 2 rfl ?_
              exact VW.iret d8_seenOf_82 hR (rIt hr)
set_option maxRecDepth 100000 in
set_option maxHeartbeats 4000000 in
theorem c_7_seenAt {γ : Gm} {dd : Nat} {p1 : Nat} {x2 : Int32} {x3 : Int32} (q1 : isO 0 p1) {h : Hp} {r : Int32} {hz : Hp} (hd : 3 ≤ dd) (hr : f_7_seenAt p1 x2 x3 h = some (r, hz)) : MC γ dd yX7_seenAt cX7_seenAt 5 (some .int) [.ref (γ.2.2.1 1), .ref (γ.2.2.1 p1), .int x2, .int x3] h (QI r hz) := by
  unfold f_7_seenAt at hr
  refine MC.of mi_7_seenAt (Nat.le_of_ble_eq_true rfl) (fun ε hR => ?_)
  show VW γ ε cX7_seenAt RX7 5 dd 0 [(0, .ref (γ.2.2.1 1)), (1, .ref (γ.2.2.1 p1)), (2, .int x2), (3, .int x3)] [] h
  refine VW.aload_n d7_seenAt_0 0 rfl ?_
  refine VW.aload_n d7_seenAt_1 1 rfl ?_
  refine VW.getI (k := 4) d7_seenAt_2 (oo_0 q1) rfl fl_7_116 ck0 ?_
  refine VW.iload_n d7_seenAt_5 2 rfl ?_
  refine VW.iadd d7_seenAt_6 ?_
  obtain ⟨r2, e1, hr⟩ := bno hr
  refine VW.callV (As := [.int ((h p1 4) + x2)]) (st := []) d7_seenAt_7 mi_7_filmAt cv_7_119 (oo_7 o7_1) ⟨rfl, rfl⟩ (by decide) (dl1 hd) _ rfl (Nat.le_of_ble_eq_true rfl) rfl (c_7_filmAt (dl hd rfl) e1) (kI ?_)
  refine VW.istore (lo' := [(4, .int r2), (0, .ref (γ.2.2.1 1)), (1, .ref (γ.2.2.1 p1)), (2, .int x2), (3, .int x3)]) d7_seenAt_10 (by decide) rfl ?_
  refine VW.iload_n d7_seenAt_12 3 rfl ?_
  refine VW.aload_n d7_seenAt_13 2 rfl ?_
  refine VW.getI (k := 5) d7_seenAt_14 (oo_0 q1) rfl fl_7_123 ck0 ?_
  refine VW.icmp_ge 26 d7_seenAt_17 (by decide) (fun c3 => ?_) (fun c3 => ?_)
  · replace hr := ip hr c3
    refine VW.iconst (v := 0) d7_seenAt_26 ic_0 ?_
    exact VW.iret d7_seenAt_27 hR (rIw hr)
  · replace hr := im hr c3
    refine VW.iload d7_seenAt_20 0 rfl ?_
    refine VW.iconst (v := 3) d7_seenAt_22 ic_3 ?_
    refine VW.icmp_ne 28 d7_seenAt_23 (by decide) (fun c4 => ?_) (fun c4 => ?_)
    · replace hr := ip hr c4
      refine VW.iconst (v := 0) d7_seenAt_26 ic_0 ?_
      exact VW.iret d7_seenAt_27 hR (rIw hr)
    · replace hr := im hr c4
      refine VW.aload_n d7_seenAt_28 2 rfl ?_
      refine VW.getI (k := 2) d7_seenAt_29 (oo_0 q1) rfl fl_7_126 ck0 ?_
      refine VW.aload_n d7_seenAt_32 2 rfl ?_
      refine VW.getI (k := 3) d7_seenAt_33 (oo_0 q1) rfl fl_7_129 ck0 ?_
      refine VW.aload_n d7_seenAt_36 1 rfl ?_
      refine VW.iload d7_seenAt_37 0 rfl ?_
      refine VW.iload_n d7_seenAt_39 4 rfl ?_
      refine VW.iload_n d7_seenAt_40 3 rfl ?_
      obtain ⟨r6, h7, e5, hr⟩ := bno2 hr
      refine VW.callV (As := [.int r2, .int x3, .int x2]) (st := [.int (h p1 3), .int (h p1 2)]) d7_seenAt_41 mi_7_apartBy cv_7_132 (oo_7 o7_1) ⟨rfl, rfl⟩ (by decide) (dl1 hd) _ rfl (Nat.le_of_ble_eq_true rfl) rfl (c_7_apartBy (dl hd rfl) e5) (kI ?_)
      refine VW.callN (As := [.int (h p1 2), .int (h p1 3), .int r6]) (st := []) d7_seenAt_44 mi_8_seenOf cn_7_135 (by decide) (dl1 hd) _ rfl (Nat.le_of_ble_eq_true rfl) rfl (c_8_seenOf (dl hd rfl) rfl) (kI ?_)
      exact VW.iret d7_seenAt_47 hR (rIw hr)
set_option maxRecDepth 100000 in
set_option maxHeartbeats 4000000 in
theorem s_2_priceMouths_11 {γ : Gm} {ε : En} {dd : Nat} (hd : 4 ≤ dd) {hz : Hp} {K2 : Int32 → Hp → Option Hp} {p1 : Nat} {x2 : Int32} {x3 : Int32} (q1 : isO 0 p1) (HK2 : ∀ (x3 : Int32) (h : Hp), K2 x3 h = some hz → VW γ ε cX2_priceMouths RX2 5 dd 2 [(0, .ref (γ.2.2.1 95)), (1, .ref (γ.2.2.1 p1)), (2, .int x2), (3, .int x3)] [] h) (hR : RT γ ε none (QV hz)) : ∀ (n : Nat) (x4 : Int32) (h : Hp), f_2_priceMouths_11 K2 p1 x2 x3 n x4 h = some hz → VW γ ε cX2_priceMouths RX2 5 dd 11 [(0, .ref (γ.2.2.1 95)), (1, .ref (γ.2.2.1 p1)), (2, .int x2), (3, .int x3), (4, .int x4)] [] h := by
  intro n
  induction n with
  | zero =>
    intro x4 h hr
    exact nf hr
  | succ n ih =>
    intro x4 h hr
    rw [f_2_priceMouths_11] at hr
    refine VW.iload d2_priceMouths_11 4 rfl ?_
    refine VW.iconst (v := 3) d2_priceMouths_13 ic_3 ?_
    refine VW.icmp_ge 61 d2_priceMouths_14 (by decide) (fun c2 => ?_) (fun c2 => ?_)
    · replace hr := ip hr c2
      refine VW.iinc (w := 1) (lo' := [(3, .int (x3 + 1)), (0, .ref (γ.2.2.1 95)), (1, .ref (γ.2.2.1 p1)), (2, .int x2), (4, .int x4)]) d2_priceMouths_61 3 rfl ic_1 (by decide) rfl ?_
      refine VW.goto 2 d2_priceMouths_64 (by decide) ?_
      exact VW.sub [1, 2, 3, 0] rfl (HK2 (x3 + 1) h hr)
    · replace hr := im hr c2
      refine VW.aload_n d2_priceMouths_17 0 rfl ?_
      refine VW.getR (k := 1) (r := 96) d2_priceMouths_18 (oo_2 o2_95) rfl fl_2_9 ck2 ?_
      refine VW.iconst (v := 3) d2_priceMouths_21 ic_3 ?_
      refine VW.iload_n d2_priceMouths_22 3 rfl ?_
      refine VW.imul d2_priceMouths_23 ?_
      refine VW.iload d2_priceMouths_24 4 rfl ?_
      refine VW.iadd d2_priceMouths_26 ?_
      refine VW.iload_n d2_priceMouths_27 2 rfl ?_
      refine VW.iconst (v := 2) d2_priceMouths_28 ic_2 ?_
      refine VW.icmp_ne 43 d2_priceMouths_29 (by decide) (fun c3 => ?_) (fun c3 => ?_)
      · replace hr := ip hr c3
        refine VW.aload_n d2_priceMouths_32 0 rfl ?_
        refine VW.aload_n d2_priceMouths_33 1 rfl ?_
        refine VW.iload_n d2_priceMouths_34 3 rfl ?_
        refine VW.iload d2_priceMouths_35 4 rfl ?_
        obtain ⟨r5, e4, hr⟩ := bno hr
        refine VW.callV (As := [.ref (γ.2.2.1 p1), .int x3, .int x4]) (st := [.int ((3 * x3) + x4), .ref (γ.2.2.1 96)]) d2_priceMouths_37 mi_2_misfit cv_2_63 (oo_2 o2_95) ⟨rfl, rfl⟩ (by decide) (dl1 hd) _ rfl (Nat.le_of_ble_eq_true rfl) rfl (c_2_misfit q1 (dl hd rfl) e4) (kI ?_)
        refine VW.goto 54 d2_priceMouths_40 (by decide) ?_
        obtain ⟨g6, hr⟩ := gdt hr
        obtain ⟨h7, e8, hr⟩ := hlt hr
        refine VW.iast (j := (ci ((3 * x3) + x4))) d2_priceMouths_54 (rf_2_1 o2_95) g6 rfl ?_
        refine VW.heq e8 ?_
        refine VW.iinc (w := 1) (lo' := [(4, .int (x4 + 1)), (0, .ref (γ.2.2.1 95)), (1, .ref (γ.2.2.1 p1)), (2, .int x2), (3, .int x3)]) d2_priceMouths_55 4 rfl ic_1 (by decide) rfl ?_
        refine VW.goto 11 d2_priceMouths_58 (by decide) ?_
        exact VW.sub [1, 2, 3, 4, 0] rfl (ih (x4 + 1) h7 hr)
      · replace hr := im hr c3
        refine VW.aload_n d2_priceMouths_43 0 rfl ?_
        refine VW.getR (k := 0) (r := 1) d2_priceMouths_44 (oo_2 o2_95) rfl fl_2_34 ck2 ?_
        refine VW.aload_n d2_priceMouths_47 1 rfl ?_
        refine VW.iload_n d2_priceMouths_48 3 rfl ?_
        refine VW.iload d2_priceMouths_49 4 rfl ?_
        obtain ⟨r10, h11, e9, hr⟩ := bno2 hr
        refine VW.callV (As := [.ref (γ.2.2.1 p1), .int x3, .int x4]) (st := [.int ((3 * x3) + x4), .ref (γ.2.2.1 96)]) d2_priceMouths_51 mi_7_seenAt cv_2_67 (oo_7 (rf_2_0 o2_95)) ⟨rfl, rfl⟩ (by decide) (dl1 hd) _ rfl (Nat.le_of_ble_eq_true rfl) rfl (c_7_seenAt q1 (dl hd rfl) e9) (kI ?_)
        obtain ⟨g12, hr⟩ := gdt hr
        obtain ⟨h13, e14, hr⟩ := hlt hr
        refine VW.iast (j := (ci ((3 * x3) + x4))) d2_priceMouths_54 (rf_2_1 o2_95) g12 rfl ?_
        refine VW.heq e14 ?_
        refine VW.iinc (w := 1) (lo' := [(4, .int (x4 + 1)), (0, .ref (γ.2.2.1 95)), (1, .ref (γ.2.2.1 p1)), (2, .int x2), (3, .int x3)]) d2_priceMouths_55 4 rfl ic_1 (by decide) rfl ?_
        refine VW.goto 11 d2_priceMouths_58 (by decide) ?_
        exact VW.sub [1, 2, 3, 4, 0] rfl (ih (x4 + 1) h13 hr)
set_option maxRecDepth 100000 in
set_option maxHeartbeats 4000000 in
theorem s_2_priceMouths_2 {γ : Gm} {ε : En} {dd : Nat} (hd : 4 ≤ dd) {hz : Hp} {p1 : Nat} {x2 : Int32} (q1 : isO 0 p1) (hR : RT γ ε none (QV hz)) : ∀ (n : Nat) (x3 : Int32) (h : Hp), f_2_priceMouths_2 p1 x2 n x3 h = some hz → VW γ ε cX2_priceMouths RX2 5 dd 2 [(0, .ref (γ.2.2.1 95)), (1, .ref (γ.2.2.1 p1)), (2, .int x2), (3, .int x3)] [] h := by
  intro n
  induction n with
  | zero =>
    intro x3 h hr
    exact nf hr
  | succ n ih =>
    intro x3 h hr
    rw [f_2_priceMouths_2] at hr
    refine VW.iload_n d2_priceMouths_2 3 rfl ?_
    refine VW.bipush (v := 15) d2_priceMouths_3 bp_15 ?_
    refine VW.icmp_ge 67 d2_priceMouths_5 (by decide) (fun c1 => ?_) (fun c1 => ?_)
    · replace hr := ip hr c1
      exact VW.vret d2_priceMouths_67 hR (rV hr)
    · replace hr := im hr c1
      refine VW.iconst (v := 0) d2_priceMouths_8 ic_0 ?_
      refine VW.istore (lo' := [(4, .int 0), (0, .ref (γ.2.2.1 95)), (1, .ref (γ.2.2.1 p1)), (2, .int x2), (3, .int x3)]) d2_priceMouths_9 (by decide) rfl ?_
      exact VW.sub [1, 2, 3, 4, 0] rfl (s_2_priceMouths_11 hd q1 ih hR FU 0 h hr)
set_option maxRecDepth 100000 in
set_option maxHeartbeats 4000000 in
theorem c_2_priceMouths {γ : Gm} {dd : Nat} {p1 : Nat} {x2 : Int32} (q1 : isO 0 p1) {h : Hp} {hz : Hp} (hd : 4 ≤ dd) (hr : f_2_priceMouths p1 x2 h = some hz) : MC γ dd yX2_priceMouths cX2_priceMouths 5 none [.ref (γ.2.2.1 95), .ref (γ.2.2.1 p1), .int x2] h (QV hz) := by
  unfold f_2_priceMouths at hr
  refine MC.of mi_2_priceMouths (Nat.le_of_ble_eq_true rfl) (fun ε hR => ?_)
  show VW γ ε cX2_priceMouths RX2 5 dd 0 [(0, .ref (γ.2.2.1 95)), (1, .ref (γ.2.2.1 p1)), (2, .int x2)] [] h
  refine VW.iconst (v := 0) d2_priceMouths_0 ic_0 ?_
  refine VW.istore_n (lo' := [(3, .int 0), (0, .ref (γ.2.2.1 95)), (1, .ref (γ.2.2.1 p1)), (2, .int x2)]) d2_priceMouths_1 (by decide) rfl ?_
  exact VW.sub [1, 2, 3, 0] rfl (s_2_priceMouths_2 hd q1 hR FU 0 h hr)
set_option maxRecDepth 100000 in
set_option maxHeartbeats 4000000 in
theorem s_2_priceOf_5 {γ : Gm} {ε : En} {dd : Nat} (hd : 0 ≤ dd) {r : Int32} {p1 : Nat} {x2 : Int32} (q1 : isO 6 p1) {h : Hp} (hR : RT γ ε (some .int) (QI r h)) : ∀ (n : Nat) (x3 : Int32) (x4 : Int32), f_2_priceOf_5 p1 x2 h n x3 x4 = some r → VW γ ε cX2_priceOf RX2 5 dd 5 [(0, .ref (γ.2.2.1 95)), (1, .ref (γ.2.2.1 p1)), (2, .int x2), (3, .int x3), (4, .int x4)] [] h := by
  intro n
  induction n with
  | zero =>
    intro x3 x4 hr
    exact nf hr
  | succ n ih =>
    intro x3 x4 hr
    rw [f_2_priceOf_5] at hr
    refine VW.iload d2_priceOf_5 4 rfl ?_
    refine VW.aload_n d2_priceOf_7 1 rfl ?_
    refine VW.getI (k := 2) d2_priceOf_8 (oo_6 q1) rfl fl_2_90 ck6 ?_
    refine VW.icmp_ge 51 d2_priceOf_11 (by decide) (fun c1 => ?_) (fun c1 => ?_)
    · replace hr := ip hr c1
      refine VW.iload_n d2_priceOf_51 3 rfl ?_
      exact VW.iret d2_priceOf_52 hR (rIf hr)
    · replace hr := im hr c1
      refine VW.iload_n d2_priceOf_14 2 rfl ?_
      refine VW.iload d2_priceOf_15 4 rfl ?_
      refine VW.iadd d2_priceOf_17 ?_
      refine VW.bipush (v := 15) d2_priceOf_18 bp_15 ?_
      refine VW.icmp_ge 51 d2_priceOf_20 (by decide) (fun c2 => ?_) (fun c2 => ?_)
      · replace hr := ip hr c2
        refine VW.iload_n d2_priceOf_51 3 rfl ?_
        exact VW.iret d2_priceOf_52 hR (rIf hr)
      · replace hr := im hr c2
        refine VW.iload_n d2_priceOf_23 3 rfl ?_
        refine VW.aload_n d2_priceOf_24 0 rfl ?_
        refine VW.getR (k := 1) (r := 96) d2_priceOf_25 (oo_2 o2_95) rfl fl_2_9 ck2 ?_
        refine VW.iconst (v := 3) d2_priceOf_28 ic_3 ?_
        refine VW.iload_n d2_priceOf_29 2 rfl ?_
        refine VW.iload d2_priceOf_30 4 rfl ?_
        refine VW.iadd d2_priceOf_32 ?_
        refine VW.imul d2_priceOf_33 ?_
        refine VW.aload_n d2_priceOf_34 1 rfl ?_
        refine VW.getR (k := 0) (r := (p1 + 1)) d2_priceOf_35 (oo_6 q1) rfl fl_2_95 ck6 ?_
        refine VW.iload d2_priceOf_38 4 rfl ?_
        obtain ⟨g3, hr⟩ := gdt hr
        refine VW.iald (j := (ci x4)) d2_priceOf_40 (rf_6_0 q1) g3 rfl ?_
        refine VW.iadd d2_priceOf_41 ?_
        obtain ⟨g4, hr⟩ := gdt hr
        refine VW.iald (j := (ci ((3 * (x2 + x4)) + (h (p1 + 1) (ci x4))))) d2_priceOf_42 (rf_2_1 o2_95) g4 rfl ?_
        refine VW.iadd d2_priceOf_43 ?_
        refine VW.istore_n (lo' := [(3, .int (x3 + (h 96 (ci ((3 * (x2 + x4)) + (h (p1 + 1) (ci x4))))))), (0, .ref (γ.2.2.1 95)), (1, .ref (γ.2.2.1 p1)), (2, .int x2), (4, .int x4)]) d2_priceOf_44 (by decide) rfl ?_
        refine VW.iinc (w := 1) (lo' := [(4, .int (x4 + 1)), (3, .int (x3 + (h 96 (ci ((3 * (x2 + x4)) + (h (p1 + 1) (ci x4))))))), (0, .ref (γ.2.2.1 95)), (1, .ref (γ.2.2.1 p1)), (2, .int x2)]) d2_priceOf_45 4 rfl ic_1 (by decide) rfl ?_
        refine VW.goto 5 d2_priceOf_48 (by decide) ?_
        exact VW.sub [2, 3, 4, 1, 0] rfl (ih (x3 + (h 96 (ci ((3 * (x2 + x4)) + (h (p1 + 1) (ci x4)))))) (x4 + 1) hr)
set_option maxRecDepth 100000 in
set_option maxHeartbeats 4000000 in
theorem c_2_priceOf {γ : Gm} {dd : Nat} {p1 : Nat} {x2 : Int32} (q1 : isO 6 p1) {h : Hp} {r : Int32} (hd : 0 ≤ dd) (hr : f_2_priceOf p1 x2 h = some r) : MC γ dd yX2_priceOf cX2_priceOf 5 (some .int) [.ref (γ.2.2.1 95), .ref (γ.2.2.1 p1), .int x2] h (QI r h) := by
  unfold f_2_priceOf at hr
  refine MC.of mi_2_priceOf (Nat.le_of_ble_eq_true rfl) (fun ε hR => ?_)
  show VW γ ε cX2_priceOf RX2 5 dd 0 [(0, .ref (γ.2.2.1 95)), (1, .ref (γ.2.2.1 p1)), (2, .int x2)] [] h
  refine VW.iconst (v := 0) d2_priceOf_0 ic_0 ?_
  refine VW.istore_n (lo' := [(3, .int 0), (0, .ref (γ.2.2.1 95)), (1, .ref (γ.2.2.1 p1)), (2, .int x2)]) d2_priceOf_1 (by decide) rfl ?_
  refine VW.iconst (v := 0) d2_priceOf_2 ic_0 ?_
  refine VW.istore (lo' := [(4, .int 0), (3, .int 0), (0, .ref (γ.2.2.1 95)), (1, .ref (γ.2.2.1 p1)), (2, .int x2)]) d2_priceOf_3 (by decide) rfl ?_
  exact VW.sub [2, 3, 4, 1, 0] rfl (s_2_priceOf_5 hd q1 hR FU 0 0 hr)
set_option maxRecDepth 100000 in
set_option maxHeartbeats 4000000 in
theorem c_7_wordAt {γ : Gm} {dd : Nat} {x1 : Int32} {h : Hp} {r : Nat} (hd : 1 ≤ dd) (hr : f_7_wordAt x1 = some r) : MC γ dd yX7_wordAt cX7_wordAt 2 (some (.object "LipsThatFit$Word")) [.ref (γ.2.2.1 1), .int x1] h (QR γ r h) := by
  unfold f_7_wordAt at hr
  refine MC.of mi_7_wordAt (Nat.le_of_ble_eq_true rfl) (fun ε hR => ?_)
  show VW γ ε cX7_wordAt RX7 2 dd 0 [(0, .ref (γ.2.2.1 1)), (1, .int x1)] [] h
  refine VW.aload_n d7_wordAt_0 0 rfl ?_
  refine VW.getR (k := 1) (r := 3) d7_wordAt_1 (oo_7 o7_1) rfl fl_7_17 ck7 ?_
  refine VW.iload_n d7_wordAt_4 1 rfl ?_
  refine VW.iconst (v := 0) d7_wordAt_5 ic_0 ?_
  refine VW.bipush (v := 9) d7_wordAt_6 bp_9 ?_
  refine VW.callN (As := [.int x1, .int 0, .int 9]) (st := [.ref (γ.2.2.1 3)]) d7_wordAt_8 mi_8_within cn_7_99 (by decide) (dl1 hd) _ rfl (Nat.le_of_ble_eq_true rfl) rfl (c_8_within (dl hd rfl) rfl) (kI ?_)
  refine VW.if_eq 18 d7_wordAt_11 (by decide) (fun c1 => ?_) (fun c1 => ?_)
  · replace hr := ip hr c1
    refine VW.iconst (v := 0) d7_wordAt_18 ic_0 ?_
    refine VW.aald (z := 16 + 2 * 0) d7_wordAt_19 (rf_7_1 o7_1) (by decide) (by decide) ib_0_10 rfl ?_
    exact VW.aret d7_wordAt_20 hR (rRf hr)
  · replace hr := im hr c1
    refine VW.iload_n d7_wordAt_14 1 rfl ?_
    refine VW.goto 19 d7_wordAt_15 (by decide) ?_
    obtain ⟨g2, hr⟩ := gdt hr
    refine VW.aald (z := 16 + 2 * (ci x1)) d7_wordAt_19 (rf_7_1 o7_1) (by decide) (by decide) g2 rfl ?_
    exact VW.aret d7_wordAt_20 hR (rRf hr)
theorem co_7_wordAt (x1 : Int32) {r : Nat} (e : f_7_wordAt x1 = some r) : isO 6 r := by
  unfold f_7_wordAt at e
  split at e
  · cases e
    exact re_7_1 (j := 0) o7_1 (by decide)
  · obtain ⟨g, e⟩ := gdt e
    cases e
    exact re_7_1 o7_1 (inb_lt g)
set_option maxRecDepth 100000 in
set_option maxHeartbeats 4000000 in
theorem s_2_priceWords_15 {γ : Gm} {ε : En} {dd : Nat} (hd : 2 ≤ dd) {hz : Hp} {K2 : Int32 → Hp → Option Hp} {p1 : Nat} {x2 : Int32} (q1 : isO 0 p1) (HK2 : ∀ (x2 : Int32) (h : Hp), K2 x2 h = some hz → VW γ ε cX2_priceWords RX2 4 dd 2 [(0, .ref (γ.2.2.1 95)), (1, .ref (γ.2.2.1 p1)), (2, .int x2)] [] h) (hR : RT γ ε none (QV hz)) : ∀ (n : Nat) (x3 : Int32) (h : Hp), f_2_priceWords_15 K2 p1 x2 n x3 h = some hz → VW γ ε cX2_priceWords RX2 4 dd 15 [(0, .ref (γ.2.2.1 95)), (1, .ref (γ.2.2.1 p1)), (2, .int x2), (3, .int x3)] [] h := by
  intro n
  induction n with
  | zero =>
    intro x3 h hr
    exact nf hr
  | succ n ih =>
    intro x3 h hr
    rw [f_2_priceWords_15] at hr
    refine VW.iload_n d2_priceWords_15 3 rfl ?_
    refine VW.aload_n d2_priceWords_16 1 rfl ?_
    refine VW.getI (k := 5) d2_priceWords_17 (oo_0 q1) rfl fl_2_79 ck0 ?_
    refine VW.icmp_ge 53 d2_priceWords_20 (by decide) (fun c2 => ?_) (fun c2 => ?_)
    · replace hr := ip hr c2
      refine VW.iinc (w := 1) (lo' := [(2, .int (x2 + 1)), (0, .ref (γ.2.2.1 95)), (1, .ref (γ.2.2.1 p1)), (3, .int x3)]) d2_priceWords_53 2 rfl ic_1 (by decide) rfl ?_
      refine VW.goto 2 d2_priceWords_56 (by decide) ?_
      exact VW.sub [1, 2, 0] rfl (HK2 (x2 + 1) h hr)
    · replace hr := im hr c2
      refine VW.aload_n d2_priceWords_23 0 rfl ?_
      refine VW.getR (k := 2) (r := 97) d2_priceWords_24 (oo_2 o2_95) rfl fl_2_15 ck2 ?_
      refine VW.bipush (v := 15) d2_priceWords_27 bp_15 ?_
      refine VW.iload_n d2_priceWords_29 2 rfl ?_
      refine VW.imul d2_priceWords_30 ?_
      refine VW.iload_n d2_priceWords_31 3 rfl ?_
      refine VW.iadd d2_priceWords_32 ?_
      refine VW.aload_n d2_priceWords_33 0 rfl ?_
      refine VW.aload_n d2_priceWords_34 0 rfl ?_
      refine VW.getR (k := 0) (r := 1) d2_priceWords_35 (oo_2 o2_95) rfl fl_2_34 ck2 ?_
      refine VW.iload_n d2_priceWords_38 2 rfl ?_
      obtain ⟨r4, e3, hr⟩ := bno hr
      refine VW.callV (As := [.int x2]) (st := [.ref (γ.2.2.1 95), .int ((15 * x2) + x3), .ref (γ.2.2.1 97)]) d2_priceWords_39 mi_7_wordAt cv_2_82 (oo_7 (rf_2_0 o2_95)) ⟨rfl, rfl⟩ (by decide) (dl1 hd) _ rfl (Nat.le_of_ble_eq_true rfl) rfl (c_7_wordAt (dl hd rfl) e3) (kR ?_)
      refine VW.iload_n d2_priceWords_42 3 rfl ?_
      obtain ⟨r6, e5, hr⟩ := bno hr
      refine VW.callV (As := [.ref (γ.2.2.1 r4), .int x3]) (st := [.int ((15 * x2) + x3), .ref (γ.2.2.1 97)]) d2_priceWords_43 mi_2_priceOf cv_2_86 (oo_2 o2_95) ⟨rfl, rfl⟩ (by decide) (dl1 hd) _ rfl (Nat.le_of_ble_eq_true rfl) rfl (c_2_priceOf (co_7_wordAt x2 e3) (dl hd rfl) e5) (kI ?_)
      obtain ⟨g7, hr⟩ := gdt hr
      obtain ⟨h8, e9, hr⟩ := hlt hr
      refine VW.iast (j := (ci ((15 * x2) + x3))) d2_priceWords_46 (rf_2_2 o2_95) g7 rfl ?_
      refine VW.heq e9 ?_
      refine VW.iinc (w := 1) (lo' := [(3, .int (x3 + 1)), (0, .ref (γ.2.2.1 95)), (1, .ref (γ.2.2.1 p1)), (2, .int x2)]) d2_priceWords_47 3 rfl ic_1 (by decide) rfl ?_
      refine VW.goto 15 d2_priceWords_50 (by decide) ?_
      exact VW.sub [1, 2, 3, 0] rfl (ih (x3 + 1) h8 hr)
set_option maxRecDepth 100000 in
set_option maxHeartbeats 4000000 in
theorem s_2_priceWords_2 {γ : Gm} {ε : En} {dd : Nat} (hd : 2 ≤ dd) {hz : Hp} {p1 : Nat} (q1 : isO 0 p1) (hR : RT γ ε none (QV hz)) : ∀ (n : Nat) (x2 : Int32) (h : Hp), f_2_priceWords_2 p1 n x2 h = some hz → VW γ ε cX2_priceWords RX2 4 dd 2 [(0, .ref (γ.2.2.1 95)), (1, .ref (γ.2.2.1 p1)), (2, .int x2)] [] h := by
  intro n
  induction n with
  | zero =>
    intro x2 h hr
    exact nf hr
  | succ n ih =>
    intro x2 h hr
    rw [f_2_priceWords_2] at hr
    refine VW.iload_n d2_priceWords_2 2 rfl ?_
    refine VW.aload_n d2_priceWords_3 0 rfl ?_
    refine VW.getR (k := 0) (r := 1) d2_priceWords_4 (oo_2 o2_95) rfl fl_2_34 ck2 ?_
    refine VW.getI (k := 10) d2_priceWords_7 (oo_7 (rf_2_0 o2_95)) rfl fl_2_50 ck7 ?_
    refine VW.icmp_ge 59 d2_priceWords_10 (by decide) (fun c1 => ?_) (fun c1 => ?_)
    · replace hr := ip hr c1
      exact VW.vret d2_priceWords_59 hR (rV hr)
    · replace hr := im hr c1
      refine VW.iconst (v := 0) d2_priceWords_13 ic_0 ?_
      refine VW.istore_n (lo' := [(3, .int 0), (0, .ref (γ.2.2.1 95)), (1, .ref (γ.2.2.1 p1)), (2, .int x2)]) d2_priceWords_14 (by decide) rfl ?_
      exact VW.sub [1, 2, 3, 0] rfl (s_2_priceWords_15 hd q1 ih hR FU 0 h hr)
set_option maxRecDepth 100000 in
set_option maxHeartbeats 4000000 in
theorem c_2_priceWords {γ : Gm} {dd : Nat} {p1 : Nat} (q1 : isO 0 p1) {h : Hp} {hz : Hp} (hd : 2 ≤ dd) (hr : f_2_priceWords p1 h = some hz) : MC γ dd yX2_priceWords cX2_priceWords 4 none [.ref (γ.2.2.1 95), .ref (γ.2.2.1 p1)] h (QV hz) := by
  unfold f_2_priceWords at hr
  refine MC.of mi_2_priceWords (Nat.le_of_ble_eq_true rfl) (fun ε hR => ?_)
  show VW γ ε cX2_priceWords RX2 4 dd 0 [(0, .ref (γ.2.2.1 95)), (1, .ref (γ.2.2.1 p1))] [] h
  refine VW.iconst (v := 0) d2_priceWords_0 ic_0 ?_
  refine VW.istore_n (lo' := [(2, .int 0), (0, .ref (γ.2.2.1 95)), (1, .ref (γ.2.2.1 p1))]) d2_priceWords_1 (by decide) rfl ?_
  exact VW.sub [1, 2, 0] rfl (s_2_priceWords_2 hd q1 hR FU 0 h hr)
