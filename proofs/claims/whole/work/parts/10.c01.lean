set_option maxRecDepth 100000 in
set_option maxHeartbeats 4000000 in
theorem s_2_tryRow_7 {γ : Gm} {ε : En} {dd : Nat} (hd : 0 ≤ dd) {hz : Hp} (hR : RT γ ε none (QV hz)) : ∀ (n : Nat) (x3 : Int32) (x4 : Int32) (h : Hp), f_2_tryRow_7 n x3 x4 h = some hz → VW γ ε cX2_tryRow RX2 5 dd 7 [(0, .ref (γ.2.2.1 95)), (3, .int x3), (4, .int x4)] [] h := by
  intro n
  induction n with
  | zero =>
    intro x3 x4 h hr
    exact nf hr
  | succ n ih =>
    intro x3 x4 h hr
    rw [f_2_tryRow_7] at hr
    refine VW.iload d2_tryRow_7 2 rfl ?_
    refine VW.if_lt 54 d2_tryRow_9 (by decide) (fun c1 => ?_) (fun c1 => ?_)
    · replace hr := ip hr c1
      exact VW.vret d2_tryRow_54 hR (rV hr)
    · replace hr := im hr c1
      refine VW.aload_n d2_tryRow_12 0 rfl ?_
      refine VW.getR (k := 0) (r := 1) d2_tryRow_13 (oo_2 o2_95) rfl fl_2_34 ck2 ?_
      refine VW.getI (k := 10) d2_tryRow_16 (oo_7 (rf_2_0 o2_95)) rfl fl_2_50 ck7 ?_
      refine VW.if_le 54 d2_tryRow_19 (by decide) (fun c2 => ?_) (fun c2 => ?_)
      · replace hr := ip hr c2
        exact VW.vret d2_tryRow_54 hR (rV hr)
      · replace hr := im hr c2
        refine VW.aload_n d2_tryRow_22 0 rfl ?_
        refine VW.getR (k := 3) (r := 98) d2_tryRow_23 (oo_2 o2_95) rfl fl_2_18 ck2 ?_
        refine VW.iload d2_tryRow_26 2 rfl ?_
        refine VW.iload_n d2_tryRow_28 1 rfl ?_
        refine VW.aload_n d2_tryRow_29 0 rfl ?_
        refine VW.getR (k := 0) (r := 1) d2_tryRow_30 (oo_2 o2_95) rfl fl_2_34 ck2 ?_
        refine VW.getI (k := 10) d2_tryRow_33 (oo_7 (rf_2_0 o2_95)) rfl fl_2_50 ck7 ?_
        obtain ⟨g3, hr⟩ := gdt hr
        refine VW.irem d2_tryRow_36 (of_decide_eq_true g3) ?_
        obtain ⟨g4, hr⟩ := gdt hr
        obtain ⟨h5, e6, hr⟩ := hlt hr
        refine VW.iast (j := (ci x4)) d2_tryRow_37 (rf_2_3 o2_95) g4 rfl ?_
        refine VW.heq e6 ?_
        refine VW.iload_n d2_tryRow_38 1 rfl ?_
        refine VW.aload_n d2_tryRow_39 0 rfl ?_
        refine VW.getR (k := 0) (r := 1) d2_tryRow_40 (oo_2 o2_95) rfl fl_2_34 ck2 ?_
        refine VW.getI (k := 10) d2_tryRow_43 (oo_7 (rf_2_0 o2_95)) rfl fl_2_50 ck7 ?_
        obtain ⟨g7, hr⟩ := gdt hr
        refine VW.idiv d2_tryRow_46 (of_decide_eq_true g7) ?_
        refine VW.istore_n (lo' := [(3, .int (x3 / (h5 1 10))), (0, .ref (γ.2.2.1 95)), (4, .int x4)]) d2_tryRow_47 (by decide) rfl ?_
        refine VW.iinc (w := (-1)) (lo' := [(4, .int (x4 + (-1))), (3, .int (x3 / (h5 1 10))), (0, .ref (γ.2.2.1 95))]) d2_tryRow_48 2 rfl ic_m1 (by decide) rfl ?_
        refine VW.goto 7 d2_tryRow_51 (by decide) ?_
        exact VW.sub [2, 1, 0] rfl (ih (x3 / (h5 1 10)) (x4 + (-1)) h5 hr)
set_option maxRecDepth 100000 in
set_option maxHeartbeats 4000000 in
theorem c_2_tryRow {γ : Gm} {dd : Nat} {x1 : Int32} {x2 : Int32} {h : Hp} {hz : Hp} (hd : 0 ≤ dd) (hr : f_2_tryRow x1 x2 h = some hz) : MC γ dd yX2_tryRow cX2_tryRow 5 none [.ref (γ.2.2.1 95), .int x1, .int x2] h (QV hz) := by
  unfold f_2_tryRow at hr
  refine MC.of mi_2_tryRow (Nat.le_of_ble_eq_true rfl) (fun ε hR => ?_)
  show VW γ ε cX2_tryRow RX2 5 dd 0 [(0, .ref (γ.2.2.1 95)), (1, .int x1), (2, .int x2)] [] h
  refine VW.iload_n d2_tryRow_0 1 rfl ?_
  refine VW.istore_n (lo' := [(3, .int x1), (0, .ref (γ.2.2.1 95)), (1, .int x1), (2, .int x2)]) d2_tryRow_1 (by decide) rfl ?_
  refine VW.iload_n d2_tryRow_2 3 rfl ?_
  refine VW.iconst (v := 1) d2_tryRow_3 ic_1 ?_
  refine VW.isub d2_tryRow_4 ?_
  refine VW.istore (lo' := [(4, .int (x2 - 1)), (3, .int x1), (0, .ref (γ.2.2.1 95)), (1, .int x1), (2, .int x2)]) d2_tryRow_5 (by decide) rfl ?_
  exact VW.sub [2, 1, 0] rfl (s_2_tryRow_7 hd hR FU x1 (x2 - 1) h hr)
set_option maxRecDepth 100000 in
set_option maxHeartbeats 4000000 in
theorem c_2_offer {γ : Gm} {dd : Nat} {x1 : Int32} {x2 : Int32} {h : Hp} {hz : Hp} (hd : 1 ≤ dd) (hr : f_2_offer x1 x2 h = some hz) : MC γ dd yX2_offer cX2_offer 3 none [.ref (γ.2.2.1 95), .int x1, .int x2] h (QV hz) := by
  unfold f_2_offer at hr
  refine MC.of mi_2_offer (Nat.le_of_ble_eq_true rfl) (fun ε hR => ?_)
  show VW γ ε cX2_offer RX2 3 dd 0 [(0, .ref (γ.2.2.1 95)), (1, .int x1), (2, .int x2)] [] h
  refine VW.aload_n d2_offer_0 0 rfl ?_
  refine VW.dup d2_offer_1 rfl ?_
  refine VW.getI (k := 7) d2_offer_2 (oo_2 o2_95) rfl fl_2_31 ck2 ?_
  refine VW.iconst (v := 1) d2_offer_5 ic_1 ?_
  refine VW.iadd d2_offer_6 ?_
  obtain ⟨h1, e2, hr⟩ := hlt hr
  refine VW.putI (k := 7) d2_offer_7 (oo_2 o2_95) rfl fl_2_31 ck2 rfl rfl rfl rfl ?_
  refine VW.heq e2 ?_
  refine VW.aload_n d2_offer_10 0 rfl ?_
  refine VW.getI (k := 7) d2_offer_11 (oo_2 o2_95) rfl fl_2_31 ck2 ?_
  refine VW.iconst (v := 1) d2_offer_14 ic_1 ?_
  refine VW.icmp_eq 26 d2_offer_15 (by decide) (fun c3 => ?_) (fun c3 => ?_)
  · replace hr := ip hr c3
    refine VW.aload_n d2_offer_26 0 rfl ?_
    refine VW.iload_n d2_offer_27 1 rfl ?_
    obtain ⟨h4, e5, hr⟩ := hlt hr
    refine VW.putI (k := 6) d2_offer_28 (oo_2 o2_95) rfl fl_2_28 ck2 rfl rfl rfl rfl ?_
    refine VW.heq e5 ?_
    refine VW.aload_n d2_offer_31 0 rfl ?_
    refine VW.iload_n d2_offer_32 2 rfl ?_
    obtain ⟨h6, e7, hr⟩ := hlt hr
    refine VW.putI (k := 5) d2_offer_33 (oo_2 o2_95) rfl fl_2_24 ck2 rfl rfl rfl rfl ?_
    refine VW.heq e7 ?_
    refine VW.aload_n d2_offer_36 0 rfl ?_
    refine VW.getR (k := 3) (r := 98) d2_offer_37 (oo_2 o2_95) rfl fl_2_18 ck2 ?_
    refine VW.iconst (v := 0) d2_offer_40 ic_0 ?_
    refine VW.aload_n d2_offer_41 0 rfl ?_
    refine VW.getR (k := 4) (r := 99) d2_offer_42 (oo_2 o2_95) rfl fl_2_21 ck2 ?_
    refine VW.iconst (v := 0) d2_offer_45 ic_0 ?_
    refine VW.iconst (v := 3) d2_offer_46 ic_3 ?_
    obtain ⟨g8, hr⟩ := gdt hr
    obtain ⟨h9, e10, hr⟩ := hlt hr
    refine VW.copy d2_offer_47 al_2_126 (dl1 hd) (Nat.le_of_ble_eq_true rfl) (rf_2_3 o2_95) (rf_2_4 o2_95) g8 ?_
    refine VW.heq e10 ?_
    exact VW.vret d2_offer_50 hR (rV hr)
  · replace hr := im hr c3
    refine VW.iload_n d2_offer_18 1 rfl ?_
    refine VW.aload_n d2_offer_19 0 rfl ?_
    refine VW.getI (k := 6) d2_offer_20 (oo_2 o2_95) rfl fl_2_28 ck2 ?_
    refine VW.icmp_ge 50 d2_offer_23 (by decide) (fun c11 => ?_) (fun c11 => ?_)
    · replace hr := ip hr c11
      exact VW.vret d2_offer_50 hR (rV hr)
    · replace hr := im hr c11
      refine VW.aload_n d2_offer_26 0 rfl ?_
      refine VW.iload_n d2_offer_27 1 rfl ?_
      obtain ⟨h12, e13, hr⟩ := hlt hr
      refine VW.putI (k := 6) d2_offer_28 (oo_2 o2_95) rfl fl_2_28 ck2 rfl rfl rfl rfl ?_
      refine VW.heq e13 ?_
      refine VW.aload_n d2_offer_31 0 rfl ?_
      refine VW.iload_n d2_offer_32 2 rfl ?_
      obtain ⟨h14, e15, hr⟩ := hlt hr
      refine VW.putI (k := 5) d2_offer_33 (oo_2 o2_95) rfl fl_2_24 ck2 rfl rfl rfl rfl ?_
      refine VW.heq e15 ?_
      refine VW.aload_n d2_offer_36 0 rfl ?_
      refine VW.getR (k := 3) (r := 98) d2_offer_37 (oo_2 o2_95) rfl fl_2_18 ck2 ?_
      refine VW.iconst (v := 0) d2_offer_40 ic_0 ?_
      refine VW.aload_n d2_offer_41 0 rfl ?_
      refine VW.getR (k := 4) (r := 99) d2_offer_42 (oo_2 o2_95) rfl fl_2_21 ck2 ?_
      refine VW.iconst (v := 0) d2_offer_45 ic_0 ?_
      refine VW.iconst (v := 3) d2_offer_46 ic_3 ?_
      obtain ⟨g16, hr⟩ := gdt hr
      obtain ⟨h17, e18, hr⟩ := hlt hr
      refine VW.copy d2_offer_47 al_2_126 (dl1 hd) (Nat.le_of_ble_eq_true rfl) (rf_2_3 o2_95) (rf_2_4 o2_95) g16 ?_
      refine VW.heq e18 ?_
      exact VW.vret d2_offer_50 hR (rV hr)
set_option maxRecDepth 100000 in
set_option maxHeartbeats 4000000 in
theorem c_8_endsOf {γ : Gm} {dd : Nat} {x0 : Int32} {x1 : Int32} {x2 : Int32} {h : Hp} {r : Int32} (hd : 1 ≤ dd) (hr : f_8_endsOf x0 x1 x2 = r) : MC γ dd yX8_endsOf cX8_endsOf 3 (some .int) [.int x0, .int x1, .int x2] h (QI r h) := by
  unfold f_8_endsOf at hr
  refine MC.of mi_8_endsOf (Nat.le_of_ble_eq_true rfl) (fun ε hR => ?_)
  show VW γ ε cX8_endsOf RX8 3 dd 0 [(0, .int x0), (1, .int x1), (2, .int x2)] [] h
  refine VW.iload_n d8_endsOf_0 0 rfl ?_
  by_cases c1 : x0 = 1
  · replace hr := ip hr c1
    refine VW.tableIn (off := 39) 40 d8_endsOf_1 (by rw [c1]; decide) (by rw [c1]; decide) (by rw [c1]; decide) (by decide) ?_
    refine VW.iconst (v := 3) d8_endsOf_40 ic_3 ?_
    refine VW.iload_n d8_endsOf_41 2 rfl ?_
    refine VW.imul d8_endsOf_42 ?_
    exact VW.iret d8_endsOf_43 hR (rIt hr)
  · replace hr := im hr c1
    by_cases c2 : x0 = 2
    · replace hr := ip hr c2
      refine VW.tableIn (off := 78) 79 d8_endsOf_1 (by rw [c2]; decide) (by rw [c2]; decide) (by rw [c2]; decide) (by decide) ?_
      refine VW.iload_n d8_endsOf_79 2 rfl ?_
      exact VW.iret d8_endsOf_80 hR (rIt hr)
    · replace hr := im hr c2
      by_cases c3 : x0 = 3
      · replace hr := ip hr c3
        refine VW.tableIn (off := 43) 44 d8_endsOf_1 (by rw [c3]; decide) (by rw [c3]; decide) (by rw [c3]; decide) (by decide) ?_
        refine VW.iload_n d8_endsOf_44 2 rfl ?_
        refine VW.iconst (v := 1) d8_endsOf_45 ic_1 ?_
        refine VW.isub d8_endsOf_46 ?_
        refine VW.iconst (v := 0) d8_endsOf_47 ic_0 ?_
        refine VW.mmax d8_endsOf_48 jl_8_319 (dl1 hd) (Nat.le_of_ble_eq_true rfl) ?_
        exact VW.iret d8_endsOf_51 hR (rIt hr)
      · replace hr := im hr c3
        by_cases c4 : x0 = 4
        · replace hr := ip hr c4
          refine VW.tableIn (off := 51) 52 d8_endsOf_1 (by rw [c4]; decide) (by rw [c4]; decide) (by rw [c4]; decide) (by decide) ?_
          refine VW.iload_n d8_endsOf_52 2 rfl ?_
          refine VW.iconst (v := 1) d8_endsOf_53 ic_1 ?_
          refine VW.icmp_le 63 d8_endsOf_54 (by decide) (fun c5 => ?_) (fun c5 => ?_)
          · replace hr := ip hr c5
            refine VW.iconst (v := 0) d8_endsOf_63 ic_0 ?_
            exact VW.iret d8_endsOf_64 hR (rIt hr)
          · replace hr := im hr c5
            refine VW.iconst (v := 3) d8_endsOf_57 ic_3 ?_
            refine VW.iload_n d8_endsOf_58 2 rfl ?_
            refine VW.imul d8_endsOf_59 ?_
            refine VW.goto 64 d8_endsOf_60 (by decide) ?_
            exact VW.iret d8_endsOf_64 hR (rIt hr)
        · replace hr := im hr c4
          by_cases c6 : x0 = 5
          · replace hr := ip hr c6
            refine VW.tableIn (off := 64) 65 d8_endsOf_1 (by rw [c6]; decide) (by rw [c6]; decide) (by rw [c6]; decide) (by decide) ?_
            refine VW.iload_n d8_endsOf_65 2 rfl ?_
            refine VW.iload_n d8_endsOf_66 1 rfl ?_
            refine VW.iadd d8_endsOf_67 ?_
            exact VW.iret d8_endsOf_68 hR (rIt hr)
          · replace hr := im hr c6
            by_cases c7 : x0 = 6
            · replace hr := ip hr c7
              refine VW.tableIn (off := 68) 69 d8_endsOf_1 (by rw [c7]; decide) (by rw [c7]; decide) (by rw [c7]; decide) (by decide) ?_
              refine VW.iload_n d8_endsOf_69 2 rfl ?_
              refine VW.iconst (v := 1) d8_endsOf_70 ic_1 ?_
              refine VW.isub d8_endsOf_71 ?_
              refine VW.iconst (v := 0) d8_endsOf_72 ic_0 ?_
              refine VW.mmax d8_endsOf_73 jl_8_319 (dl1 hd) (Nat.le_of_ble_eq_true rfl) ?_
              refine VW.iconst (v := 2) d8_endsOf_76 ic_2 ?_
              refine VW.idiv d8_endsOf_77 (by decide) ?_
              exact VW.iret d8_endsOf_78 hR (rIt hr)
            · replace hr := im hr c7
              have tc1 := lv_neT c1 (by decide : (1 : Int32).toInt = 1)
              have tc2 := lv_neT c2 (by decide : (2 : Int32).toInt = 2)
              have tc3 := lv_neT c3 (by decide : (3 : Int32).toInt = 3)
              have tc4 := lv_neT c4 (by decide : (4 : Int32).toInt = 4)
              have tc6 := lv_neT c6 (by decide : (5 : Int32).toInt = 5)
              have tc7 := lv_neT c7 (by decide : (6 : Int32).toInt = 6)
              refine VW.tableOut 79 d8_endsOf_1 (by omega) (by decide) ?_
              refine VW.iload_n d8_endsOf_79 2 rfl ?_
              exact VW.iret d8_endsOf_80 hR (rIt hr)
set_option maxRecDepth 100000 in
set_option maxHeartbeats 4000000 in
theorem s_2_weigh_12 {γ : Gm} {ε : En} {dd : Nat} (hd : 2 ≤ dd) {hz : Hp} {p1 : Nat} {x2 : Int32} {x3 : Int32} {x4 : Int32} (q1 : isO 0 p1) (hR : RT γ ε none (QV hz)) : ∀ (n : Nat) (x5 : Int32) (x6 : Int32) (x7 : Int32) (x8 : Int32) (h : Hp), f_2_weigh_12 p1 x2 x3 x4 n x5 x6 x7 x8 h = some hz → VW γ ε cX2_weigh RX2 10 dd 12 [(0, .ref (γ.2.2.1 95)), (1, .ref (γ.2.2.1 p1)), (2, .int x2), (3, .int x3), (4, .int x4), (5, .int x5), (6, .int x6), (7, .int x7), (8, .int x8)] [] h := by
  intro n
  induction n with
  | zero =>
    intro x5 x6 x7 x8 h hr
    exact nf hr
  | succ n ih =>
    intro x5 x6 x7 x8 h hr
    rw [f_2_weigh_12] at hr
    refine VW.iload d2_weigh_12 8 rfl ?_
    refine VW.iload d2_weigh_14 4 rfl ?_
    refine VW.icmp_ge 97 d2_weigh_16 (by decide) (fun c1 => ?_) (fun c1 => ?_)
    · replace hr := ip hr c1
      refine VW.iload d2_weigh_97 5 rfl ?_
      refine VW.aload_n d2_weigh_99 1 rfl ?_
      refine VW.getI (k := 2) d2_weigh_100 (oo_0 q1) rfl fl_2_101 ck0 ?_
      refine VW.aload_n d2_weigh_103 1 rfl ?_
      refine VW.getI (k := 3) d2_weigh_104 (oo_0 q1) rfl fl_2_104 ck0 ?_
      refine VW.iload d2_weigh_107 6 rfl ?_
      refine VW.aload_n d2_weigh_109 1 rfl ?_
      refine VW.getI (k := 5) d2_weigh_110 (oo_0 q1) rfl fl_2_79 ck0 ?_
      refine VW.isub d2_weigh_113 ?_
      refine VW.mabs d2_weigh_114 jl_2_107 (dl1 hd) (Nat.le_of_ble_eq_true rfl) ?_
      refine VW.callN (As := [.int (h p1 2), .int (h p1 3), .int (iabs (x6 - (h p1 5)))]) (st := [.int x5]) d2_weigh_117 mi_8_endsOf cn_2_112 (by decide) (dl1 hd) _ rfl (Nat.le_of_ble_eq_true rfl) rfl (c_8_endsOf (dl hd rfl) rfl) (kI ?_)
      refine VW.iadd d2_weigh_120 ?_
      refine VW.istore (lo' := [(8, .int (x5 + (f_8_endsOf (h p1 2) (h p1 3) (iabs (x6 - (h p1 5)))))), (0, .ref (γ.2.2.1 95)), (1, .ref (γ.2.2.1 p1)), (2, .int x2), (3, .int x3), (4, .int x4), (5, .int x5), (6, .int x6), (7, .int x7)]) d2_weigh_121 (by decide) rfl ?_
      refine VW.iconst (v := 0) d2_weigh_123 ic_0 ?_
      refine VW.aload_n d2_weigh_124 2 rfl ?_
      refine VW.getI (k := 6) d2_weigh_125 (oo_0 q1) rfl fl_2_116 ck0 ?_
      refine VW.iload d2_weigh_128 8 rfl ?_
      refine VW.isub d2_weigh_130 ?_
      refine VW.mmax d2_weigh_131 jl_2_119 (dl1 hd) (Nat.le_of_ble_eq_true rfl) ?_
      refine VW.istore (lo' := [(9, .int (imax 0 ((h p1 6) - x7))), (8, .int (x5 + (f_8_endsOf (h p1 2) (h p1 3) (iabs (x6 - (h p1 5)))))), (0, .ref (γ.2.2.1 95)), (1, .ref (γ.2.2.1 p1)), (2, .int x2), (3, .int x3), (4, .int x4), (5, .int x5), (6, .int x6), (7, .int x7)]) d2_weigh_134 (by decide) rfl ?_
      refine VW.iload_n d2_weigh_136 4 rfl ?_
      refine VW.if_ne 157 d2_weigh_137 (by decide) (fun c2 => ?_) (fun c2 => ?_)
      · replace hr := ip hr c2
        refine VW.iload d2_weigh_140 0 rfl ?_
        refine VW.iload_n d2_weigh_142 5 rfl ?_
        refine VW.icmp_gt 157 d2_weigh_143 (by decide) (fun c3 => ?_) (fun c3 => ?_)
        · replace hr := ip hr c3
          refine VW.iload_n d2_weigh_157 4 rfl ?_
          refine VW.iconst (v := 1) d2_weigh_158 ic_1 ?_
          refine VW.icmp_ne 179 d2_weigh_159 (by decide) (fun c4 => ?_) (fun c4 => ?_)
          · replace hr := ip hr c4
            refine VW.iload d2_weigh_162 1 rfl ?_
            refine VW.iload_n d2_weigh_164 5 rfl ?_
            refine VW.icmp_gt 179 d2_weigh_165 (by decide) (fun c5 => ?_) (fun c5 => ?_)
            · replace hr := ip hr c5
              refine VW.iload_n d2_weigh_179 4 rfl ?_
              refine VW.iconst (v := 2) d2_weigh_180 ic_2 ?_
              refine VW.icmp_ne 205 d2_weigh_181 (by decide) (fun c6 => ?_) (fun c6 => ?_)
              · replace hr := ip hr c6
                refine VW.iload d2_weigh_184 8 rfl ?_
                refine VW.aload_n d2_weigh_186 3 rfl ?_
                refine VW.getI (k := 5) d2_weigh_187 (oo_0 q1) rfl fl_2_79 ck0 ?_
                refine VW.icmp_ne 205 d2_weigh_190 (by decide) (fun c7 => ?_) (fun c7 => ?_)
                · replace hr := ip hr c7
                  refine VW.iload d2_weigh_193 7 rfl ?_
                  refine VW.if_ne 205 d2_weigh_195 (by decide) (fun c8 => ?_) (fun c8 => ?_)
                  · replace hr := ip hr c8
                    refine VW.aload_n d2_weigh_198 2 rfl ?_
                    refine VW.iconst (v := 0) d2_weigh_199 ic_0 ?_
                    refine VW.iload d2_weigh_200 6 rfl ?_
                    obtain ⟨h10, e9, hr⟩ := bno hr
                    refine VW.callV (As := [.int 0, .int x4]) (st := []) d2_weigh_202 mi_2_offer cv_2_123 (oo_2 o2_95) ⟨rfl, rfl⟩ (by decide) (dl1 hd) _ rfl (Nat.le_of_ble_eq_true rfl) rfl (c_2_offer (dl hd rfl) e9) (kV ?_)
                    exact VW.vret d2_weigh_205 hR (rV hr)
                  · replace hr := im hr c8
                    exact VW.vret d2_weigh_205 hR (rV hr)
                · replace hr := im hr c7
                  exact VW.vret d2_weigh_205 hR (rV hr)
              · replace hr := im hr c6
                exact VW.vret d2_weigh_205 hR (rV hr)
            · replace hr := im hr c5
              refine VW.aload_n d2_weigh_168 2 rfl ?_
              refine VW.iload d2_weigh_169 0 rfl ?_
              refine VW.iload d2_weigh_171 6 rfl ?_
              obtain ⟨h12, e11, hr⟩ := bno hr
              refine VW.callV (As := [.int (imax 0 ((h p1 6) - x7)), .int x4]) (st := []) d2_weigh_173 mi_2_offer cv_2_123 (oo_2 o2_95) ⟨rfl, rfl⟩ (by decide) (dl1 hd) _ rfl (Nat.le_of_ble_eq_true rfl) rfl (c_2_offer (dl hd rfl) e11) (kV ?_)
              refine VW.goto 205 d2_weigh_176 (by decide) ?_
              exact VW.vret d2_weigh_205 hR (rV hr)
          · replace hr := im hr c4
            refine VW.iload_n d2_weigh_179 4 rfl ?_
            refine VW.iconst (v := 2) d2_weigh_180 ic_2 ?_
            refine VW.icmp_ne 205 d2_weigh_181 (by decide) (fun c13 => ?_) (fun c13 => ?_)
            · replace hr := ip hr c13
              refine VW.iload d2_weigh_184 8 rfl ?_
              refine VW.aload_n d2_weigh_186 3 rfl ?_
              refine VW.getI (k := 5) d2_weigh_187 (oo_0 q1) rfl fl_2_79 ck0 ?_
              refine VW.icmp_ne 205 d2_weigh_190 (by decide) (fun c14 => ?_) (fun c14 => ?_)
              · replace hr := ip hr c14
                refine VW.iload d2_weigh_193 7 rfl ?_
                refine VW.if_ne 205 d2_weigh_195 (by decide) (fun c15 => ?_) (fun c15 => ?_)
                · replace hr := ip hr c15
                  refine VW.aload_n d2_weigh_198 2 rfl ?_
                  refine VW.iconst (v := 0) d2_weigh_199 ic_0 ?_
                  refine VW.iload d2_weigh_200 6 rfl ?_
                  obtain ⟨h17, e16, hr⟩ := bno hr
                  refine VW.callV (As := [.int 0, .int x4]) (st := []) d2_weigh_202 mi_2_offer cv_2_123 (oo_2 o2_95) ⟨rfl, rfl⟩ (by decide) (dl1 hd) _ rfl (Nat.le_of_ble_eq_true rfl) rfl (c_2_offer (dl hd rfl) e16) (kV ?_)
                  exact VW.vret d2_weigh_205 hR (rV hr)
                · replace hr := im hr c15
                  exact VW.vret d2_weigh_205 hR (rV hr)
              · replace hr := im hr c14
                exact VW.vret d2_weigh_205 hR (rV hr)
            · replace hr := im hr c13
              exact VW.vret d2_weigh_205 hR (rV hr)
        · replace hr := im hr c3
          refine VW.aload_n d2_weigh_146 2 rfl ?_
          refine VW.iload d2_weigh_147 1 rfl ?_
          refine VW.iload d2_weigh_149 6 rfl ?_
          obtain ⟨h19, e18, hr⟩ := bno hr
          refine VW.callV (As := [.int (x5 + (f_8_endsOf (h p1 2) (h p1 3) (iabs (x6 - (h p1 5))))), .int x4]) (st := []) d2_weigh_151 mi_2_offer cv_2_123 (oo_2 o2_95) ⟨rfl, rfl⟩ (by decide) (dl1 hd) _ rfl (Nat.le_of_ble_eq_true rfl) rfl (c_2_offer (dl hd rfl) e18) (kV ?_)
          refine VW.goto 205 d2_weigh_154 (by decide) ?_
          exact VW.vret d2_weigh_205 hR (rV hr)
      · replace hr := im hr c2
        refine VW.iload_n d2_weigh_157 4 rfl ?_
        refine VW.iconst (v := 1) d2_weigh_158 ic_1 ?_
        refine VW.icmp_ne 179 d2_weigh_159 (by decide) (fun c20 => ?_) (fun c20 => ?_)
        · replace hr := ip hr c20
          refine VW.iload d2_weigh_162 1 rfl ?_
          refine VW.iload_n d2_weigh_164 5 rfl ?_
          refine VW.icmp_gt 179 d2_weigh_165 (by decide) (fun c21 => ?_) (fun c21 => ?_)
          · replace hr := ip hr c21
            refine VW.iload_n d2_weigh_179 4 rfl ?_
            refine VW.iconst (v := 2) d2_weigh_180 ic_2 ?_
            refine VW.icmp_ne 205 d2_weigh_181 (by decide) (fun c22 => ?_) (fun c22 => ?_)
            · replace hr := ip hr c22
              refine VW.iload d2_weigh_184 8 rfl ?_
              refine VW.aload_n d2_weigh_186 3 rfl ?_
              refine VW.getI (k := 5) d2_weigh_187 (oo_0 q1) rfl fl_2_79 ck0 ?_
              refine VW.icmp_ne 205 d2_weigh_190 (by decide) (fun c23 => ?_) (fun c23 => ?_)
              · replace hr := ip hr c23
                refine VW.iload d2_weigh_193 7 rfl ?_
                refine VW.if_ne 205 d2_weigh_195 (by decide) (fun c24 => ?_) (fun c24 => ?_)
                · replace hr := ip hr c24
                  refine VW.aload_n d2_weigh_198 2 rfl ?_
                  refine VW.iconst (v := 0) d2_weigh_199 ic_0 ?_
                  refine VW.iload d2_weigh_200 6 rfl ?_
                  obtain ⟨h26, e25, hr⟩ := bno hr
                  refine VW.callV (As := [.int 0, .int x4]) (st := []) d2_weigh_202 mi_2_offer cv_2_123 (oo_2 o2_95) ⟨rfl, rfl⟩ (by decide) (dl1 hd) _ rfl (Nat.le_of_ble_eq_true rfl) rfl (c_2_offer (dl hd rfl) e25) (kV ?_)
                  exact VW.vret d2_weigh_205 hR (rV hr)
                · replace hr := im hr c24
                  exact VW.vret d2_weigh_205 hR (rV hr)
              · replace hr := im hr c23
                exact VW.vret d2_weigh_205 hR (rV hr)
            · replace hr := im hr c22
              exact VW.vret d2_weigh_205 hR (rV hr)
          · replace hr := im hr c21
            refine VW.aload_n d2_weigh_168 2 rfl ?_
            refine VW.iload d2_weigh_169 0 rfl ?_
            refine VW.iload d2_weigh_171 6 rfl ?_
            obtain ⟨h28, e27, hr⟩ := bno hr
            refine VW.callV (As := [.int (imax 0 ((h p1 6) - x7)), .int x4]) (st := []) d2_weigh_173 mi_2_offer cv_2_123 (oo_2 o2_95) ⟨rfl, rfl⟩ (by decide) (dl1 hd) _ rfl (Nat.le_of_ble_eq_true rfl) rfl (c_2_offer (dl hd rfl) e27) (kV ?_)
            refine VW.goto 205 d2_weigh_176 (by decide) ?_
            exact VW.vret d2_weigh_205 hR (rV hr)
        · replace hr := im hr c20
          refine VW.iload_n d2_weigh_179 4 rfl ?_
          refine VW.iconst (v := 2) d2_weigh_180 ic_2 ?_
          refine VW.icmp_ne 205 d2_weigh_181 (by decide) (fun c29 => ?_) (fun c29 => ?_)
          · replace hr := ip hr c29
            refine VW.iload d2_weigh_184 8 rfl ?_
            refine VW.aload_n d2_weigh_186 3 rfl ?_
            refine VW.getI (k := 5) d2_weigh_187 (oo_0 q1) rfl fl_2_79 ck0 ?_
            refine VW.icmp_ne 205 d2_weigh_190 (by decide) (fun c30 => ?_) (fun c30 => ?_)
            · replace hr := ip hr c30
              refine VW.iload d2_weigh_193 7 rfl ?_
              refine VW.if_ne 205 d2_weigh_195 (by decide) (fun c31 => ?_) (fun c31 => ?_)
              · replace hr := ip hr c31
                refine VW.aload_n d2_weigh_198 2 rfl ?_
                refine VW.iconst (v := 0) d2_weigh_199 ic_0 ?_
                refine VW.iload d2_weigh_200 6 rfl ?_
                obtain ⟨h33, e32, hr⟩ := bno hr
                refine VW.callV (As := [.int 0, .int x4]) (st := []) d2_weigh_202 mi_2_offer cv_2_123 (oo_2 o2_95) ⟨rfl, rfl⟩ (by decide) (dl1 hd) _ rfl (Nat.le_of_ble_eq_true rfl) rfl (c_2_offer (dl hd rfl) e32) (kV ?_)
                exact VW.vret d2_weigh_205 hR (rV hr)
              · replace hr := im hr c31
                exact VW.vret d2_weigh_205 hR (rV hr)
            · replace hr := im hr c30
              exact VW.vret d2_weigh_205 hR (rV hr)
          · replace hr := im hr c29
            exact VW.vret d2_weigh_205 hR (rV hr)
    · replace hr := im hr c1
      refine VW.aload_n d2_weigh_19 0 rfl ?_
      refine VW.getR (k := 0) (r := 1) d2_weigh_20 (oo_2 o2_95) rfl fl_2_34 ck2 ?_
      refine VW.aload_n d2_weigh_23 0 rfl ?_
      refine VW.getR (k := 3) (r := 98) d2_weigh_24 (oo_2 o2_95) rfl fl_2_18 ck2 ?_
      refine VW.iload d2_weigh_27 8 rfl ?_
      obtain ⟨g34, hr⟩ := gdt hr
      refine VW.iald (j := (ci x8)) d2_weigh_29 (rf_2_3 o2_95) g34 rfl ?_
      obtain ⟨r36, e35, hr⟩ := bno hr
      refine VW.callV (As := [.int (h 98 (ci x8))]) (st := []) d2_weigh_30 mi_7_wordAt cv_2_82 (oo_7 (rf_2_0 o2_95)) ⟨rfl, rfl⟩ (by decide) (dl1 hd) _ rfl (Nat.le_of_ble_eq_true rfl) rfl (c_7_wordAt (dl hd rfl) e35) (kR ?_)
      refine VW.astore (lo' := [(9, .ref (γ.2.2.1 r36)), (0, .ref (γ.2.2.1 95)), (1, .ref (γ.2.2.1 p1)), (2, .int x2), (3, .int x3), (4, .int x4), (5, .int x5), (6, .int x6), (7, .int x7), (8, .int x8)]) d2_weigh_33 (by decide) rfl ?_
      refine VW.iload d2_weigh_35 6 rfl ?_
      refine VW.iload d2_weigh_37 7 rfl ?_
      refine VW.aload_n d2_weigh_39 2 rfl ?_
      refine VW.getI (k := 5) d2_weigh_40 (oo_0 q1) rfl fl_2_79 ck0 ?_
      refine VW.icmp_ge 67 d2_weigh_43 (by decide) (fun c37 => ?_) (fun c37 => ?_)
      · replace hr := ip hr c37
        refine VW.iconst (v := 0) d2_weigh_67 ic_0 ?_
        refine VW.iadd d2_weigh_68 ?_
        refine VW.istore (lo' := [(5, .int (x5 + 0)), (9, .ref (γ.2.2.1 r36)), (0, .ref (γ.2.2.1 95)), (1, .ref (γ.2.2.1 p1)), (2, .int x2), (3, .int x3), (4, .int x4), (6, .int x6), (7, .int x7), (8, .int x8)]) d2_weigh_69 (by decide) rfl ?_
        refine VW.iload d2_weigh_71 7 rfl ?_
        refine VW.aload d2_weigh_73 1 rfl ?_
        refine VW.getI (k := 2) d2_weigh_75 (oo_6 (co_7_wordAt (h 98 (ci x8)) e35)) rfl fl_2_90 ck6 ?_
        refine VW.iadd d2_weigh_78 ?_
        refine VW.istore (lo' := [(6, .int (x6 + (h r36 2))), (5, .int (x5 + 0)), (9, .ref (γ.2.2.1 r36)), (0, .ref (γ.2.2.1 95)), (1, .ref (γ.2.2.1 p1)), (2, .int x2), (3, .int x3), (4, .int x4), (7, .int x7), (8, .int x8)]) d2_weigh_79 (by decide) rfl ?_
        refine VW.iload d2_weigh_81 8 rfl ?_
        refine VW.aload d2_weigh_83 2 rfl ?_
        refine VW.getI (k := 3) d2_weigh_85 (oo_6 (co_7_wordAt (h 98 (ci x8)) e35)) rfl fl_2_98 ck6 ?_
        refine VW.iadd d2_weigh_88 ?_
        refine VW.istore (lo' := [(7, .int (x7 + (h r36 3))), (6, .int (x6 + (h r36 2))), (5, .int (x5 + 0)), (9, .ref (γ.2.2.1 r36)), (0, .ref (γ.2.2.1 95)), (1, .ref (γ.2.2.1 p1)), (2, .int x2), (3, .int x3), (4, .int x4), (8, .int x8)]) d2_weigh_89 (by decide) rfl ?_
        refine VW.iinc (w := 1) (lo' := [(8, .int (x8 + 1)), (7, .int (x7 + (h r36 3))), (6, .int (x6 + (h r36 2))), (5, .int (x5 + 0)), (9, .ref (γ.2.2.1 r36)), (0, .ref (γ.2.2.1 95)), (1, .ref (γ.2.2.1 p1)), (2, .int x2), (3, .int x3), (4, .int x4)]) d2_weigh_91 9 rfl ic_1 (by decide) rfl ?_
        refine VW.goto 12 d2_weigh_94 (by decide) ?_
        exact VW.sub [5, 6, 7, 8, 9, 3, 2, 1, 0] rfl (ih (x5 + 0) (x6 + (h r36 2)) (x7 + (h r36 3)) (x8 + 1) h hr)
      · replace hr := im hr c37
        refine VW.aload_n d2_weigh_46 1 rfl ?_
        refine VW.getR (k := 2) (r := 97) d2_weigh_47 (oo_2 o2_95) rfl fl_2_15 ck2 ?_
        refine VW.bipush (v := 15) d2_weigh_50 bp_15 ?_
        refine VW.aload_n d2_weigh_52 1 rfl ?_
        refine VW.getR (k := 3) (r := 98) d2_weigh_53 (oo_2 o2_95) rfl fl_2_18 ck2 ?_
        refine VW.iload d2_weigh_56 9 rfl ?_
        obtain ⟨g38, hr⟩ := gdt hr
        refine VW.iald (j := (ci x8)) d2_weigh_58 (rf_2_3 o2_95) g38 rfl ?_
        refine VW.imul d2_weigh_59 ?_
        refine VW.iload d2_weigh_60 7 rfl ?_
        refine VW.iadd d2_weigh_62 ?_
        obtain ⟨g39, hr⟩ := gdt hr
        refine VW.iald (j := (ci ((15 * (h 98 (ci x8))) + x6))) d2_weigh_63 (rf_2_2 o2_95) g39 rfl ?_
        refine VW.goto 68 d2_weigh_64 (by decide) ?_
        refine VW.iadd d2_weigh_68 ?_
        refine VW.istore (lo' := [(5, .int (x5 + (h 97 (ci ((15 * (h 98 (ci x8))) + x6))))), (9, .ref (γ.2.2.1 r36)), (0, .ref (γ.2.2.1 95)), (1, .ref (γ.2.2.1 p1)), (2, .int x2), (3, .int x3), (4, .int x4), (6, .int x6), (7, .int x7), (8, .int x8)]) d2_weigh_69 (by decide) rfl ?_
        refine VW.iload d2_weigh_71 7 rfl ?_
        refine VW.aload d2_weigh_73 1 rfl ?_
        refine VW.getI (k := 2) d2_weigh_75 (oo_6 (co_7_wordAt (h 98 (ci x8)) e35)) rfl fl_2_90 ck6 ?_
        refine VW.iadd d2_weigh_78 ?_
        refine VW.istore (lo' := [(6, .int (x6 + (h r36 2))), (5, .int (x5 + (h 97 (ci ((15 * (h 98 (ci x8))) + x6))))), (9, .ref (γ.2.2.1 r36)), (0, .ref (γ.2.2.1 95)), (1, .ref (γ.2.2.1 p1)), (2, .int x2), (3, .int x3), (4, .int x4), (7, .int x7), (8, .int x8)]) d2_weigh_79 (by decide) rfl ?_
        refine VW.iload d2_weigh_81 8 rfl ?_
        refine VW.aload d2_weigh_83 2 rfl ?_
        refine VW.getI (k := 3) d2_weigh_85 (oo_6 (co_7_wordAt (h 98 (ci x8)) e35)) rfl fl_2_98 ck6 ?_
        refine VW.iadd d2_weigh_88 ?_
        refine VW.istore (lo' := [(7, .int (x7 + (h r36 3))), (6, .int (x6 + (h r36 2))), (5, .int (x5 + (h 97 (ci ((15 * (h 98 (ci x8))) + x6))))), (9, .ref (γ.2.2.1 r36)), (0, .ref (γ.2.2.1 95)), (1, .ref (γ.2.2.1 p1)), (2, .int x2), (3, .int x3), (4, .int x4), (8, .int x8)]) d2_weigh_89 (by decide) rfl ?_
        refine VW.iinc (w := 1) (lo' := [(8, .int (x8 + 1)), (7, .int (x7 + (h r36 3))), (6, .int (x6 + (h r36 2))), (5, .int (x5 + (h 97 (ci ((15 * (h 98 (ci x8))) + x6))))), (9, .ref (γ.2.2.1 r36)), (0, .ref (γ.2.2.1 95)), (1, .ref (γ.2.2.1 p1)), (2, .int x2), (3, .int x3), (4, .int x4)]) d2_weigh_91 9 rfl ic_1 (by decide) rfl ?_
        refine VW.goto 12 d2_weigh_94 (by decide) ?_
        exact VW.sub [5, 6, 7, 8, 9, 3, 2, 1, 0] rfl (ih (x5 + (h 97 (ci ((15 * (h 98 (ci x8))) + x6)))) (x6 + (h r36 2)) (x7 + (h r36 3)) (x8 + 1) h hr)
set_option maxRecDepth 100000 in
set_option maxHeartbeats 4000000 in
theorem c_2_weigh {γ : Gm} {dd : Nat} {p1 : Nat} {x2 : Int32} {x3 : Int32} {x4 : Int32} (q1 : isO 0 p1) {h : Hp} {hz : Hp} (hd : 2 ≤ dd) (hr : f_2_weigh p1 x2 x3 x4 h = some hz) : MC γ dd yX2_weigh cX2_weigh 10 none [.ref (γ.2.2.1 95), .ref (γ.2.2.1 p1), .int x2, .int x3, .int x4] h (QV hz) := by
  unfold f_2_weigh at hr
  refine MC.of mi_2_weigh (Nat.le_of_ble_eq_true rfl) (fun ε hR => ?_)
  show VW γ ε cX2_weigh RX2 10 dd 0 [(0, .ref (γ.2.2.1 95)), (1, .ref (γ.2.2.1 p1)), (2, .int x2), (3, .int x3), (4, .int x4)] [] h
  refine VW.iconst (v := 0) d2_weigh_0 ic_0 ?_
  refine VW.istore (lo' := [(5, .int 0), (0, .ref (γ.2.2.1 95)), (1, .ref (γ.2.2.1 p1)), (2, .int x2), (3, .int x3), (4, .int x4)]) d2_weigh_1 (by decide) rfl ?_
  refine VW.iconst (v := 0) d2_weigh_3 ic_0 ?_
  refine VW.istore (lo' := [(6, .int 0), (5, .int 0), (0, .ref (γ.2.2.1 95)), (1, .ref (γ.2.2.1 p1)), (2, .int x2), (3, .int x3), (4, .int x4)]) d2_weigh_4 (by decide) rfl ?_
  refine VW.iconst (v := 0) d2_weigh_6 ic_0 ?_
  refine VW.istore (lo' := [(7, .int 0), (6, .int 0), (5, .int 0), (0, .ref (γ.2.2.1 95)), (1, .ref (γ.2.2.1 p1)), (2, .int x2), (3, .int x3), (4, .int x4)]) d2_weigh_7 (by decide) rfl ?_
  refine VW.iconst (v := 0) d2_weigh_9 ic_0 ?_
  refine VW.istore (lo' := [(8, .int 0), (7, .int 0), (6, .int 0), (5, .int 0), (0, .ref (γ.2.2.1 95)), (1, .ref (γ.2.2.1 p1)), (2, .int x2), (3, .int x3), (4, .int x4)]) d2_weigh_10 (by decide) rfl ?_
  exact VW.sub [4, 5, 6, 7, 8, 3, 2, 1, 0] rfl (s_2_weigh_12 hd q1 hR FU 0 0 0 0 h hr)
set_option maxRecDepth 100000 in
set_option maxHeartbeats 4000000 in
theorem s_2_find_53 {γ : Gm} {ε : En} {dd : Nat} (hd : 5 ≤ dd) {hz : Hp} {K32 : Int32 → Int32 → Hp → Option Hp} {p1 : Nat} {x2 : Int32} {x3 : Int32} {x4 : Int32} {x5 : Int32} (q1 : isO 0 p1) (HK32 : ∀ (x4 : Int32) (x5 : Int32) (h : Hp), K32 x4 x5 h = some hz → VW γ ε cX2_find RX2 7 dd 32 [(0, .ref (γ.2.2.1 95)), (1, .ref (γ.2.2.1 p1)), (2, .int x2), (3, .int x3), (4, .int x4), (5, .int x5)] [] h) (hR : RT γ ε none (QV hz)) : ∀ (n : Nat) (x6 : Int32) (h : Hp), f_2_find_53 K32 p1 x2 x3 x4 x5 n x6 h = some hz → VW γ ε cX2_find RX2 7 dd 53 [(0, .ref (γ.2.2.1 95)), (1, .ref (γ.2.2.1 p1)), (2, .int x2), (3, .int x3), (4, .int x4), (5, .int x5), (6, .int x6)] [] h := by
  intro n
  induction n with
  | zero =>
    intro x6 h hr
    exact nf hr
  | succ n ih =>
    intro x6 h hr
    rw [f_2_find_53] at hr
    refine VW.iload d2_find_53 6 rfl ?_
    refine VW.iload d2_find_55 4 rfl ?_
    refine VW.icmp_ge 83 d2_find_57 (by decide) (fun c12 => ?_) (fun c12 => ?_)
    · replace hr := ip hr c12
      refine VW.iinc (w := 1) (lo' := [(5, .int (x5 + 1)), (0, .ref (γ.2.2.1 95)), (1, .ref (γ.2.2.1 p1)), (2, .int x2), (3, .int x3), (4, .int x4), (6, .int x6)]) d2_find_83 5 rfl ic_1 (by decide) rfl ?_
      refine VW.goto 32 d2_find_86 (by decide) ?_
      exact VW.sub [1, 2, 3, 4, 5, 0] rfl (HK32 x4 (x5 + 1) h hr)
    · replace hr := im hr c12
      refine VW.aload_n d2_find_60 0 rfl ?_
      refine VW.iload d2_find_61 6 rfl ?_
      refine VW.iload d2_find_63 5 rfl ?_
      obtain ⟨h14, e13, hr⟩ := bno hr
      refine VW.callV (As := [.int x6, .int x5]) (st := []) d2_find_65 mi_2_tryRow cv_2_55 (oo_2 o2_95) ⟨rfl, rfl⟩ (by decide) (dl1 hd) _ rfl (Nat.le_of_ble_eq_true rfl) rfl (c_2_tryRow (dl hd rfl) e13) (kV ?_)
      refine VW.aload_n d2_find_68 0 rfl ?_
      refine VW.aload_n d2_find_69 1 rfl ?_
      refine VW.iload_n d2_find_70 2 rfl ?_
      refine VW.iload_n d2_find_71 3 rfl ?_
      refine VW.iload d2_find_72 5 rfl ?_
      obtain ⟨h16, e15, hr⟩ := bno hr
      refine VW.callV (As := [.ref (γ.2.2.1 p1), .int x2, .int x3, .int x5]) (st := []) d2_find_74 mi_2_weigh cv_2_59 (oo_2 o2_95) ⟨rfl, rfl⟩ (by decide) (dl1 hd) _ rfl (Nat.le_of_ble_eq_true rfl) rfl (c_2_weigh q1 (dl hd rfl) e15) (kV ?_)
      refine VW.iinc (w := 1) (lo' := [(6, .int (x6 + 1)), (0, .ref (γ.2.2.1 95)), (1, .ref (γ.2.2.1 p1)), (2, .int x2), (3, .int x3), (4, .int x4), (5, .int x5)]) d2_find_77 6 rfl ic_1 (by decide) rfl ?_
      refine VW.goto 53 d2_find_80 (by decide) ?_
      exact VW.sub [1, 2, 3, 4, 5, 6, 0] rfl (ih (x6 + 1) h16 hr)
set_option maxRecDepth 100000 in
set_option maxHeartbeats 4000000 in
theorem s_2_find_32 {γ : Gm} {ε : En} {dd : Nat} (hd : 5 ≤ dd) {hz : Hp} {p1 : Nat} {x2 : Int32} {x3 : Int32} (q1 : isO 0 p1) (hR : RT γ ε none (QV hz)) : ∀ (n : Nat) (x4 : Int32) (x5 : Int32) (h : Hp), f_2_find_32 p1 x2 x3 n x4 x5 h = some hz → VW γ ε cX2_find RX2 7 dd 32 [(0, .ref (γ.2.2.1 95)), (1, .ref (γ.2.2.1 p1)), (2, .int x2), (3, .int x3), (4, .int x4), (5, .int x5)] [] h := by
  intro n
  induction n with
  | zero =>
    intro x4 x5 h hr
    exact nf hr
  | succ n ih =>
    intro x4 x5 h hr
    rw [f_2_find_32] at hr
    refine VW.iload d2_find_32 5 rfl ?_
    refine VW.iconst (v := 3) d2_find_34 ic_3 ?_
    refine VW.icmp_gt 89 d2_find_35 (by decide) (fun c11 => ?_) (fun c11 => ?_)
    · replace hr := ip hr c11
      exact VW.vret d2_find_89 hR (rV hr)
    · replace hr := im hr c11
      refine VW.iload d2_find_38 4 rfl ?_
      refine VW.aload_n d2_find_40 0 rfl ?_
      refine VW.getR (k := 0) (r := 1) d2_find_41 (oo_2 o2_95) rfl fl_2_34 ck2 ?_
      refine VW.getI (k := 10) d2_find_44 (oo_7 (rf_2_0 o2_95)) rfl fl_2_50 ck7 ?_
      refine VW.imul d2_find_47 ?_
      refine VW.istore (lo' := [(4, .int (x4 * (h 1 10))), (0, .ref (γ.2.2.1 95)), (1, .ref (γ.2.2.1 p1)), (2, .int x2), (3, .int x3), (5, .int x5)]) d2_find_48 (by decide) rfl ?_
      refine VW.iconst (v := 0) d2_find_50 ic_0 ?_
      refine VW.istore (lo' := [(6, .int 0), (4, .int (x4 * (h 1 10))), (0, .ref (γ.2.2.1 95)), (1, .ref (γ.2.2.1 p1)), (2, .int x2), (3, .int x3), (5, .int x5)]) d2_find_51 (by decide) rfl ?_
      exact VW.sub [2, 3, 4, 5, 1, 6, 0] rfl (s_2_find_53 hd q1 ih hR FU 0 h hr)
set_option maxRecDepth 100000 in
set_option maxHeartbeats 4000000 in
theorem c_2_find {γ : Gm} {dd : Nat} {p1 : Nat} {x2 : Int32} {x3 : Int32} (q1 : isO 0 p1) {h : Hp} {hz : Hp} (hd : 5 ≤ dd) (hr : f_2_find p1 x2 x3 h = some hz) : MC γ dd yX2_find cX2_find 7 none [.ref (γ.2.2.1 95), .ref (γ.2.2.1 p1), .int x2, .int x3] h (QV hz) := by
  unfold f_2_find at hr
  refine MC.of mi_2_find (Nat.le_of_ble_eq_true rfl) (fun ε hR => ?_)
  show VW γ ε cX2_find RX2 7 dd 0 [(0, .ref (γ.2.2.1 95)), (1, .ref (γ.2.2.1 p1)), (2, .int x2), (3, .int x3)] [] h
  refine VW.aload_n d2_find_0 0 rfl ?_
  refine VW.iconst (v := 0) d2_find_1 ic_0 ?_
  obtain ⟨h1, e2, hr⟩ := hlt hr
  refine VW.putI (k := 7) d2_find_2 (oo_2 o2_95) rfl fl_2_31 ck2 rfl rfl rfl rfl ?_
  refine VW.heq e2 ?_
  refine VW.aload_n d2_find_5 0 rfl ?_
  refine VW.iconst (v := 0) d2_find_6 ic_0 ?_
  obtain ⟨h3, e4, hr⟩ := hlt hr
  refine VW.putI (k := 5) d2_find_7 (oo_2 o2_95) rfl fl_2_24 ck2 rfl rfl rfl rfl ?_
  refine VW.heq e4 ?_
  refine VW.aload_n d2_find_10 0 rfl ?_
  refine VW.iconst (v := 0) d2_find_11 ic_0 ?_
  obtain ⟨h5, e6, hr⟩ := hlt hr
  refine VW.putI (k := 6) d2_find_12 (oo_2 o2_95) rfl fl_2_28 ck2 rfl rfl rfl rfl ?_
  refine VW.heq e6 ?_
  refine VW.aload_n d2_find_15 0 rfl ?_
  refine VW.aload_n d2_find_16 1 rfl ?_
  refine VW.iload_n d2_find_17 2 rfl ?_
  obtain ⟨h8, e7, hr⟩ := bno hr
  refine VW.callV (As := [.ref (γ.2.2.1 p1), .int x2]) (st := []) d2_find_18 mi_2_priceMouths cv_2_42 (oo_2 o2_95) ⟨rfl, rfl⟩ (by decide) (dl1 hd) _ rfl (Nat.le_of_ble_eq_true rfl) rfl (c_2_priceMouths q1 (dl hd rfl) e7) (kV ?_)
  refine VW.aload_n d2_find_21 0 rfl ?_
  refine VW.aload_n d2_find_22 1 rfl ?_
  obtain ⟨h10, e9, hr⟩ := bno hr
  refine VW.callV (As := [.ref (γ.2.2.1 p1)]) (st := []) d2_find_23 mi_2_priceWords cv_2_46 (oo_2 o2_95) ⟨rfl, rfl⟩ (by decide) (dl1 hd) _ rfl (Nat.le_of_ble_eq_true rfl) rfl (c_2_priceWords q1 (dl hd rfl) e9) (kV ?_)
  refine VW.iconst (v := 1) d2_find_26 ic_1 ?_
  refine VW.istore (lo' := [(4, .int 1), (0, .ref (γ.2.2.1 95)), (1, .ref (γ.2.2.1 p1)), (2, .int x2), (3, .int x3)]) d2_find_27 (by decide) rfl ?_
  refine VW.iconst (v := 1) d2_find_29 ic_1 ?_
  refine VW.istore (lo' := [(5, .int 1), (4, .int 1), (0, .ref (γ.2.2.1 95)), (1, .ref (γ.2.2.1 p1)), (2, .int x2), (3, .int x3)]) d2_find_30 (by decide) rfl ?_
  exact VW.sub [2, 3, 4, 5, 1, 0] rfl (s_2_find_32 hd q1 hR FU 1 1 h10 hr)
set_option maxRecDepth 100000 in
set_option maxHeartbeats 4000000 in
theorem c_2_wordAt {γ : Gm} {dd : Nat} {x1 : Int32} {h : Hp} {r : Int32} (hd : 1 ≤ dd) (hr : f_2_wordAt x1 h = some r) : MC γ dd yX2_wordAt cX2_wordAt 2 (some .int) [.ref (γ.2.2.1 95), .int x1] h (QI r h) := by
  unfold f_2_wordAt at hr
  refine MC.of mi_2_wordAt (Nat.le_of_ble_eq_true rfl) (fun ε hR => ?_)
  show VW γ ε cX2_wordAt RX2 2 dd 0 [(0, .ref (γ.2.2.1 95)), (1, .int x1)] [] h
  refine VW.iload_n d2_wordAt_0 1 rfl ?_
  refine VW.iconst (v := 0) d2_wordAt_1 ic_0 ?_
  refine VW.iconst (v := 2) d2_wordAt_2 ic_2 ?_
  refine VW.callN (As := [.int x1, .int 0, .int 2]) (st := []) d2_wordAt_3 mi_8_within cn_2_38 (by decide) (dl1 hd) _ rfl (Nat.le_of_ble_eq_true rfl) rfl (c_8_within (dl hd rfl) rfl) (kI ?_)
  refine VW.if_eq 18 d2_wordAt_6 (by decide) (fun c1 => ?_) (fun c1 => ?_)
  · replace hr := ip hr c1
    refine VW.iconst (v := 0) d2_wordAt_18 ic_0 ?_
    exact VW.iret d2_wordAt_19 hR (rIf hr)
  · replace hr := im hr c1
    refine VW.aload_n d2_wordAt_9 0 rfl ?_
    refine VW.getR (k := 4) (r := 99) d2_wordAt_10 (oo_2 o2_95) rfl fl_2_21 ck2 ?_
    refine VW.iload_n d2_wordAt_13 1 rfl ?_
    obtain ⟨g2, hr⟩ := gdt hr
    refine VW.iald (j := (ci x1)) d2_wordAt_14 (rf_2_4 o2_95) g2 rfl ?_
    refine VW.goto 19 d2_wordAt_15 (by decide) ?_
    exact VW.iret d2_wordAt_19 hR (rIf hr)
set_option maxRecDepth 100000 in
set_option maxHeartbeats 4000000 in
theorem c_3_at {γ : Gm} {dd : Nat} {x1 : Int32} {x2 : Int32} {h : Hp} {r : Int32} (hd : 0 ≤ dd) (hr : f_3_at x1 x2 h = some r) : MC γ dd yX3_at cX3_at 3 (some .int) [.ref (γ.2.2.1 105), .int x1, .int x2] h (QI r h) := by
  unfold f_3_at at hr
  refine MC.of mi_3_at (Nat.le_of_ble_eq_true rfl) (fun ε hR => ?_)
  show VW γ ε cX3_at RX3 3 dd 0 [(0, .ref (γ.2.2.1 105)), (1, .int x1), (2, .int x2)] [] h
  refine VW.aload_n d3_at_0 0 rfl ?_
  refine VW.getR (k := 2) (r := 108) d3_at_1 (oo_3 o3_105) rfl fl_3_20 ck3 ?_
  refine VW.iload_n d3_at_4 1 rfl ?_
  obtain ⟨g1, hr⟩ := gdt hr
  refine VW.aald (z := 109 + (ci x1)) d3_at_5 (rf_3_2 o3_105) (by decide) (by decide) g1 rfl ?_
  refine VW.iload_n d3_at_6 2 rfl ?_
  obtain ⟨g2, hr⟩ := gdt hr
  refine VW.iald (j := (ci x2)) d3_at_7 (re_3_2 o3_105 (inb_lt g1)) g2 rfl ?_
  exact VW.iret d3_at_8 hR (rIf hr)
set_option maxRecDepth 100000 in
set_option maxHeartbeats 4000000 in
theorem s_3_begin_17 {γ : Gm} {ε : En} {dd : Nat} (hd : 0 ≤ dd) {hz : Hp} {x1 : Int32} (hR : RT γ ε none (QV hz)) : ∀ (n : Nat) (x4 : Int32) (h : Hp), f_3_begin_17 x1 n x4 h = some hz → VW γ ε cX3_begin RX3 5 dd 17 [(0, .ref (γ.2.2.1 105)), (1, .int x1), (4, .int x4)] [] h := by
  intro n
  induction n with
  | zero =>
    intro x4 h hr
    exact nf hr
  | succ n ih =>
    intro x4 h hr
    rw [f_3_begin_17] at hr
    refine VW.iload d3_begin_17 2 rfl ?_
    refine VW.bipush (v := 40) d3_begin_19 bp_40 ?_
    refine VW.icmp_ge 40 d3_begin_21 (by decide) (fun c7 => ?_) (fun c7 => ?_)
    · replace hr := ip hr c7
      exact VW.vret d3_begin_40 hR (rV hr)
    · replace hr := im hr c7
      refine VW.aload_n d3_begin_24 0 rfl ?_
      refine VW.getR (k := 2) (r := 108) d3_begin_25 (oo_3 o3_105) rfl fl_3_20 ck3 ?_
      refine VW.iload_n d3_begin_28 1 rfl ?_
      obtain ⟨g8, hr⟩ := gdt hr
      refine VW.aald (z := 109 + (ci x1)) d3_begin_29 (rf_3_2 o3_105) (by decide) (by decide) g8 rfl ?_
      refine VW.iload d3_begin_30 2 rfl ?_
      refine VW.iconst (v := 0) d3_begin_32 ic_0 ?_
      obtain ⟨g9, hr⟩ := gdt hr
      obtain ⟨h10, e11, hr⟩ := hlt hr
      refine VW.iast (j := (ci x4)) d3_begin_33 (re_3_2 o3_105 (inb_lt g8)) g9 rfl ?_
      refine VW.heq e11 ?_
      refine VW.iinc (w := 1) (lo' := [(4, .int (x4 + 1)), (0, .ref (γ.2.2.1 105)), (1, .int x1)]) d3_begin_34 2 rfl ic_1 (by decide) rfl ?_
      refine VW.goto 17 d3_begin_37 (by decide) ?_
      exact VW.sub [1, 2, 0] rfl (ih (x4 + 1) h10 hr)
set_option maxRecDepth 100000 in
set_option maxHeartbeats 4000000 in
theorem c_3_begin {γ : Gm} {dd : Nat} {x1 : Int32} {x2 : Int32} {x3 : Int32} {h : Hp} {hz : Hp} (hd : 0 ≤ dd) (hr : f_3_begin x1 x2 x3 h = some hz) : MC γ dd yX3_begin cX3_begin 5 none [.ref (γ.2.2.1 105), .int x1, .int x2, .int x3] h (QV hz) := by
  unfold f_3_begin at hr
  refine MC.of mi_3_begin (Nat.le_of_ble_eq_true rfl) (fun ε hR => ?_)
  show VW γ ε cX3_begin RX3 5 dd 0 [(0, .ref (γ.2.2.1 105)), (1, .int x1), (2, .int x2), (3, .int x3)] [] h
  refine VW.aload_n d3_begin_0 0 rfl ?_
  refine VW.getR (k := 0) (r := 106) d3_begin_1 (oo_3 o3_105) rfl fl_3_9 ck3 ?_
  refine VW.iload_n d3_begin_4 1 rfl ?_
  refine VW.iload_n d3_begin_5 2 rfl ?_
  obtain ⟨g1, hr⟩ := gdt hr
  obtain ⟨h2, e3, hr⟩ := hlt hr
  refine VW.iast (j := (ci x1)) d3_begin_6 (rf_3_0 o3_105) g1 rfl ?_
  refine VW.heq e3 ?_
  refine VW.aload_n d3_begin_7 0 rfl ?_
  refine VW.getR (k := 1) (r := 107) d3_begin_8 (oo_3 o3_105) rfl fl_3_15 ck3 ?_
  refine VW.iload_n d3_begin_11 1 rfl ?_
  refine VW.iload_n d3_begin_12 3 rfl ?_
  obtain ⟨g4, hr⟩ := gdt hr
  obtain ⟨h5, e6, hr⟩ := hlt hr
  refine VW.iast (j := (ci x1)) d3_begin_13 (rf_3_1 o3_105) g4 rfl ?_
  refine VW.heq e6 ?_
  refine VW.iconst (v := 0) d3_begin_14 ic_0 ?_
  refine VW.istore (lo' := [(4, .int 0), (0, .ref (γ.2.2.1 105)), (1, .int x1), (2, .int x2), (3, .int x3)]) d3_begin_15 (by decide) rfl ?_
  exact VW.sub [1, 2, 0] rfl (s_3_begin_17 hd hR FU 0 h5 hr)
set_option maxRecDepth 100000 in
set_option maxHeartbeats 4000000 in
theorem c_3_set {γ : Gm} {dd : Nat} {x1 : Int32} {x2 : Int32} {x3 : Int32} {h : Hp} {hz : Hp} (hd : 0 ≤ dd) (hr : f_3_set x1 x2 x3 h = some hz) : MC γ dd yX3_set cX3_set 4 none [.ref (γ.2.2.1 105), .int x1, .int x2, .int x3] h (QV hz) := by
  unfold f_3_set at hr
  refine MC.of mi_3_set (Nat.le_of_ble_eq_true rfl) (fun ε hR => ?_)
  show VW γ ε cX3_set RX3 4 dd 0 [(0, .ref (γ.2.2.1 105)), (1, .int x1), (2, .int x2), (3, .int x3)] [] h
  refine VW.aload_n d3_set_0 0 rfl ?_
  refine VW.getR (k := 2) (r := 108) d3_set_1 (oo_3 o3_105) rfl fl_3_20 ck3 ?_
  refine VW.iload_n d3_set_4 1 rfl ?_
  obtain ⟨g1, hr⟩ := gdt hr
  refine VW.aald (z := 109 + (ci x1)) d3_set_5 (rf_3_2 o3_105) (by decide) (by decide) g1 rfl ?_
  refine VW.iload_n d3_set_6 2 rfl ?_
  refine VW.aload_n d3_set_7 0 rfl ?_
  refine VW.getR (k := 0) (r := 106) d3_set_8 (oo_3 o3_105) rfl fl_3_9 ck3 ?_
  refine VW.iload_n d3_set_11 1 rfl ?_
  obtain ⟨g2, hr⟩ := gdt hr
  refine VW.iald (j := (ci x1)) d3_set_12 (rf_3_0 o3_105) g2 rfl ?_
  refine VW.bipush (v := 8) d3_set_13 bp_8 ?_
  refine VW.icmp_ne 23 d3_set_15 (by decide) (fun c3 => ?_) (fun c3 => ?_)
  · replace hr := ip hr c3
    refine VW.iload_n d3_set_18 3 rfl ?_
    refine VW.i2b d3_set_19 ?_
    refine VW.goto 40 d3_set_20 (by decide) ?_
    obtain ⟨g4, hr⟩ := gdt hr
    obtain ⟨h5, e6, hr⟩ := hlt hr
    refine VW.iast (j := (ci x2)) d3_set_40 (re_3_2 o3_105 (inb_lt g1)) g4 rfl ?_
    refine VW.heq e6 ?_
    exact VW.vret d3_set_41 hR (rV hr)
  · replace hr := im hr c3
    refine VW.aload_n d3_set_23 0 rfl ?_
    refine VW.getR (k := 0) (r := 106) d3_set_24 (oo_3 o3_105) rfl fl_3_9 ck3 ?_
    refine VW.iload_n d3_set_27 1 rfl ?_
    obtain ⟨g7, hr⟩ := gdt hr
    refine VW.iald (j := (ci x1)) d3_set_28 (rf_3_0 o3_105) g7 rfl ?_
    refine VW.bipush (v := 16) d3_set_29 bp_16 ?_
    refine VW.icmp_ne 39 d3_set_31 (by decide) (fun c8 => ?_) (fun c8 => ?_)
    · replace hr := ip hr c8
      refine VW.iload_n d3_set_34 3 rfl ?_
      refine VW.i2s d3_set_35 ?_
      refine VW.goto 40 d3_set_36 (by decide) ?_
      obtain ⟨g9, hr⟩ := gdt hr
      obtain ⟨h10, e11, hr⟩ := hlt hr
      refine VW.iast (j := (ci x2)) d3_set_40 (re_3_2 o3_105 (inb_lt g1)) g9 rfl ?_
      refine VW.heq e11 ?_
      exact VW.vret d3_set_41 hR (rV hr)
    · replace hr := im hr c8
      refine VW.iload_n d3_set_39 3 rfl ?_
      obtain ⟨g12, hr⟩ := gdt hr
      obtain ⟨h13, e14, hr⟩ := hlt hr
      refine VW.iast (j := (ci x2)) d3_set_40 (re_3_2 o3_105 (inb_lt g1)) g12 rfl ?_
      refine VW.heq e14 ?_
      exact VW.vret d3_set_41 hR (rV hr)
set_option maxRecDepth 100000 in
set_option maxHeartbeats 4000000 in
theorem c_3_stand {γ : Gm} {dd : Nat} {x1 : Int32} {x2 : Int32} {x3 : Int32} {h : Hp} {r : Int32} (hd : 0 ≤ dd) (hr : f_3_stand x1 x2 x3 h = some r) : MC γ dd yX3_stand cX3_stand 4 (some .boolean) [.ref (γ.2.2.1 105), .int x1, .int x2, .int x3] h (QI r h) := by
  unfold f_3_stand at hr
  refine MC.of mi_3_stand (Nat.le_of_ble_eq_true rfl) (fun ε hR => ?_)
  show VW γ ε cX3_stand RX3 4 dd 0 [(0, .ref (γ.2.2.1 105)), (1, .int x1), (2, .int x2), (3, .int x3)] [] h
  refine VW.iload_n d3_stand_0 2 rfl ?_
  refine VW.if_lt 34 d3_stand_1 (by decide) (fun c1 => ?_) (fun c1 => ?_)
  · replace hr := ip hr c1
    refine VW.iconst (v := 0) d3_stand_34 ic_0 ?_
    exact VW.zret d3_stand_35 hR rfl (rIf hr)
  · replace hr := im hr c1
    refine VW.iload_n d3_stand_4 3 rfl ?_
    refine VW.if_lt 34 d3_stand_5 (by decide) (fun c2 => ?_) (fun c2 => ?_)
    · replace hr := ip hr c2
      refine VW.iconst (v := 0) d3_stand_34 ic_0 ?_
      exact VW.zret d3_stand_35 hR rfl (rIf hr)
    · replace hr := im hr c2
      refine VW.iload_n d3_stand_8 3 rfl ?_
      refine VW.aload_n d3_stand_9 0 rfl ?_
      refine VW.getR (k := 1) (r := 107) d3_stand_10 (oo_3 o3_105) rfl fl_3_15 ck3 ?_
      refine VW.iload_n d3_stand_13 1 rfl ?_
      obtain ⟨g3, hr⟩ := gdt hr
      refine VW.iald (j := (ci x1)) d3_stand_14 (rf_3_1 o3_105) g3 rfl ?_
      refine VW.icmp_gt 34 d3_stand_15 (by decide) (fun c4 => ?_) (fun c4 => ?_)
      · replace hr := ip hr c4
        refine VW.iconst (v := 0) d3_stand_34 ic_0 ?_
        exact VW.zret d3_stand_35 hR rfl (rIf hr)
      · replace hr := im hr c4
        refine VW.iload_n d3_stand_18 2 rfl ?_
        refine VW.aload_n d3_stand_19 0 rfl ?_
        refine VW.getR (k := 1) (r := 107) d3_stand_20 (oo_3 o3_105) rfl fl_3_15 ck3 ?_
        refine VW.iload_n d3_stand_23 1 rfl ?_
        obtain ⟨g5, hr⟩ := gdt hr
        refine VW.iald (j := (ci x1)) d3_stand_24 (rf_3_1 o3_105) g5 rfl ?_
        refine VW.iload_n d3_stand_25 3 rfl ?_
        refine VW.isub d3_stand_26 ?_
        refine VW.icmp_gt 34 d3_stand_27 (by decide) (fun c6 => ?_) (fun c6 => ?_)
        · replace hr := ip hr c6
          refine VW.iconst (v := 0) d3_stand_34 ic_0 ?_
          exact VW.zret d3_stand_35 hR rfl (rIf hr)
        · replace hr := im hr c6
          refine VW.iconst (v := 1) d3_stand_30 ic_1 ?_
          refine VW.goto 35 d3_stand_31 (by decide) ?_
          exact VW.zret d3_stand_35 hR rfl (rIf hr)
set_option maxRecDepth 100000 in
set_option maxHeartbeats 4000000 in
theorem c_8_kindAbove {γ : Gm} {dd : Nat} {x0 : Int32} {h : Hp} {r : Int32} (hd : 1 ≤ dd) (hr : f_8_kindAbove x0 h = some r) : MC γ dd yX8_kindAbove cX8_kindAbove 1 (some .int) [.int x0] h (QI r h) := by
  unfold f_8_kindAbove at hr
  refine MC.of mi_8_kindAbove (Nat.le_of_ble_eq_true rfl) (fun ε hR => ?_)
  show VW γ ε cX8_kindAbove RX8 1 dd 0 [(0, .int x0)] [] h
  refine VW.iload_n d8_kindAbove_0 0 rfl ?_
  refine VW.iconst (v := 0) d8_kindAbove_1 ic_0 ?_
  refine VW.bipush (v := 6) d8_kindAbove_2 bp_6 ?_
  refine VW.callS (As := [.int x0, .int 0, .int 6]) (st := []) d8_kindAbove_4 mi_8_within cs_8_57 (by decide) (dl1 hd) _ rfl (Nat.le_of_ble_eq_true rfl) rfl (c_8_within (dl hd rfl) rfl) (kI ?_)
  refine VW.if_eq 18 d8_kindAbove_7 (by decide) (fun c1 => ?_) (fun c1 => ?_)
  · replace hr := ip hr c1
    refine VW.iconst (v := (-1)) d8_kindAbove_18 ic_m1 ?_
    exact VW.iret d8_kindAbove_19 hR (rIf hr)
  · replace hr := im hr c1
    refine VW.gets d8_kindAbove_10 (rfl : stl[0]? = _) sl_8_313 ?_
    refine VW.iload_n d8_kindAbove_13 0 rfl ?_
    obtain ⟨g2, hr⟩ := gdt hr
    refine VW.tild d8_kindAbove_14 (rfl : stl[0]? = _) g2 ?_
    refine VW.goto 19 d8_kindAbove_15 (by decide) ?_
    exact VW.iret d8_kindAbove_19 hR (rIf hr)
set_option maxRecDepth 100000 in
set_option maxHeartbeats 4000000 in
theorem s_4_bodyOf_4 {γ : Gm} {ε : En} {dd : Nat} (hd : 2 ≤ dd) {r : Int32} {x1 : Int32} {h : Hp} (hR : RT γ ε (some .int) (QI r h)) : ∀ (n : Nat) (x2 : Int32) (x3 : Int32), f_4_bodyOf_4 x1 h n x2 x3 = some r → VW γ ε cX4_bodyOf RX4 5 dd 4 [(1, .int x1), (2, .int x2), (3, .int x3)] [] h := by
  intro n
  induction n with
  | zero =>
    intro x2 x3 hr
    exact nf hr
  | succ n ih =>
    intro x2 x3 hr
    rw [f_4_bodyOf_4] at hr
    refine VW.iload_n d4_bodyOf_4 2 rfl ?_
    refine VW.bipush (v := 6) d4_bodyOf_5 bp_6 ?_
    refine VW.icmp_gt 50 d4_bodyOf_7 (by decide) (fun c1 => ?_) (fun c1 => ?_)
    · replace hr := ip hr c1
      refine VW.iconst (v := 0) d4_bodyOf_50 ic_0 ?_
      exact VW.iret d4_bodyOf_51 hR (rIf hr)
    · replace hr := im hr c1
      refine VW.iload_n d4_bodyOf_10 1 rfl ?_
      refine VW.iconst (v := 0) d4_bodyOf_11 ic_0 ?_
      refine VW.bipush (v := 6) d4_bodyOf_12 bp_6 ?_
      refine VW.callN (As := [.int x2, .int 0, .int 6]) (st := []) d4_bodyOf_14 mi_8_within cn_4_44 (by decide) (dl1 hd) _ rfl (Nat.le_of_ble_eq_true rfl) rfl (c_8_within (dl hd rfl) rfl) (kI ?_)
      refine VW.if_eq 50 d4_bodyOf_17 (by decide) (fun c2 => ?_) (fun c2 => ?_)
      · replace hr := ip hr c2
        refine VW.iconst (v := 0) d4_bodyOf_50 ic_0 ?_
        exact VW.iret d4_bodyOf_51 hR (rIf hr)
      · replace hr := im hr c2
        refine VW.gets d4_bodyOf_20 (rfl : stl[2]? = _) sl_4_48 ?_
        refine VW.iconst (v := 4) d4_bodyOf_23 ic_4 ?_
        refine VW.iload_n d4_bodyOf_24 1 rfl ?_
        refine VW.imul d4_bodyOf_25 ?_
        refine VW.iload_n d4_bodyOf_26 0 rfl ?_
        refine VW.iadd d4_bodyOf_27 ?_
        obtain ⟨g3, hr⟩ := gdt hr
        refine VW.tild d4_bodyOf_28 (rfl : stl[2]? = _) g3 ?_
        refine VW.istore (lo' := [(4, .int (stv 2 (ci ((4 * x2) + x1)))), (1, .int x1), (2, .int x2), (3, .int x3)]) d4_bodyOf_29 (by decide) rfl ?_
        refine VW.iload d4_bodyOf_31 0 rfl ?_
        refine VW.if_eq 39 d4_bodyOf_33 (by decide) (fun c4 => ?_) (fun c4 => ?_)
        · replace hr := ip hr c4
          refine VW.iload_n d4_bodyOf_39 2 rfl ?_
          obtain ⟨r6, e5, hr⟩ := bno hr
          refine VW.callN (As := [.int x2]) (st := []) d4_bodyOf_40 mi_8_kindAbove cn_4_51 (by decide) (dl1 hd) _ rfl (Nat.le_of_ble_eq_true rfl) rfl (c_8_kindAbove (dl hd rfl) e5) (kI ?_)
          refine VW.istore_n (lo' := [(2, .int r6), (4, .int (stv 2 (ci ((4 * x2) + x1)))), (1, .int x1), (3, .int x3)]) d4_bodyOf_43 (by decide) rfl ?_
          refine VW.iinc (w := 1) (lo' := [(3, .int (x3 + 1)), (2, .int r6), (4, .int (stv 2 (ci ((4 * x2) + x1)))), (1, .int x1)]) d4_bodyOf_44 3 rfl ic_1 (by decide) rfl ?_
          refine VW.goto 4 d4_bodyOf_47 (by decide) ?_
          exact VW.sub [3, 1, 0] rfl (ih r6 (x3 + 1) hr)
        · replace hr := im hr c4
          refine VW.iload d4_bodyOf_36 0 rfl ?_
          exact VW.iret d4_bodyOf_38 hR (rIf hr)
set_option maxRecDepth 100000 in
set_option maxHeartbeats 4000000 in
theorem c_4_bodyOf {γ : Gm} {dd : Nat} {x0 : Int32} {x1 : Int32} {h : Hp} {r : Int32} (hd : 2 ≤ dd) (hr : f_4_bodyOf x0 x1 h = some r) : MC γ dd yX4_bodyOf cX4_bodyOf 5 (some .int) [.int x0, .int x1] h (QI r h) := by
  unfold f_4_bodyOf at hr
  refine MC.of mi_4_bodyOf (Nat.le_of_ble_eq_true rfl) (fun ε hR => ?_)
  show VW γ ε cX4_bodyOf RX4 5 dd 0 [(0, .int x0), (1, .int x1)] [] h
  refine VW.iload_n d4_bodyOf_0 0 rfl ?_
  refine VW.istore_n (lo' := [(2, .int x0), (0, .int x0), (1, .int x1)]) d4_bodyOf_1 (by decide) rfl ?_
  refine VW.iconst (v := 0) d4_bodyOf_2 ic_0 ?_
  refine VW.istore_n (lo' := [(3, .int 0), (2, .int x0), (0, .int x0), (1, .int x1)]) d4_bodyOf_3 (by decide) rfl ?_
  exact VW.sub [3, 1, 0] rfl (s_4_bodyOf_4 hd hR FU x0 0 hr)
set_option maxRecDepth 100000 in
set_option maxHeartbeats 4000000 in
theorem c_4_note {γ : Gm} {dd : Nat} {x1 : Int32} {h : Hp} {hz : Hp} (hd : 0 ≤ dd) (hr : f_4_note x1 h = some hz) : MC γ dd yX4_note cX4_note 2 none [.ref (γ.2.2.1 103), .int x1] h (QV hz) := by
  unfold f_4_note at hr
  refine MC.of mi_4_note (Nat.le_of_ble_eq_true rfl) (fun ε hR => ?_)
  show VW γ ε cX4_note RX4 2 dd 0 [(0, .ref (γ.2.2.1 103)), (1, .int x1)] [] h
  refine VW.aload_n d4_note_0 0 rfl ?_
  refine VW.getI (k := 1) d4_note_1 (oo_4 o4_103) rfl fl_4_15 ck4 ?_
  refine VW.bipush (v := 40) d4_note_4 bp_40 ?_
  refine VW.icmp_ge 29 d4_note_6 (by decide) (fun c1 => ?_) (fun c1 => ?_)
  · replace hr := ip hr c1
    exact VW.vret d4_note_29 hR (rV hr)
  · replace hr := im hr c1
    refine VW.aload_n d4_note_9 0 rfl ?_
    refine VW.getR (k := 0) (r := 104) d4_note_10 (oo_4 o4_103) rfl fl_4_9 ck4 ?_
    refine VW.aload_n d4_note_13 0 rfl ?_
    refine VW.getI (k := 1) d4_note_14 (oo_4 o4_103) rfl fl_4_15 ck4 ?_
    refine VW.iload_n d4_note_17 1 rfl ?_
    obtain ⟨g2, hr⟩ := gdt hr
    obtain ⟨h3, e4, hr⟩ := hlt hr
    refine VW.iast (j := (ci (h 103 1))) d4_note_18 (rf_4_0 o4_103) g2 rfl ?_
    refine VW.heq e4 ?_
    refine VW.aload_n d4_note_19 0 rfl ?_
    refine VW.dup d4_note_20 rfl ?_
    refine VW.getI (k := 1) d4_note_21 (oo_4 o4_103) rfl fl_4_15 ck4 ?_
    refine VW.iconst (v := 1) d4_note_24 ic_1 ?_
    refine VW.iadd d4_note_25 ?_
    obtain ⟨h5, e6, hr⟩ := hlt hr
    refine VW.putI (k := 1) d4_note_26 (oo_4 o4_103) rfl fl_4_15 ck4 rfl rfl rfl rfl ?_
    refine VW.heq e6 ?_
    exact VW.vret d4_note_29 hR (rV hr)
set_option maxRecDepth 100000 in
set_option maxHeartbeats 4000000 in
theorem cb_4_from {γ : Gm} {dd : Nat} {NN : Nat} {R_4_from : Int32 → Int32 → Int32 → Int32 → Hp → Option (Int32 × Hp)} (hN : 3 ≤ NN) (H_4_from : ∀ (dd : Nat), NN ≤ dd → ∀ (x1 : Int32) (x2 : Int32) (x3 : Int32) (x4 : Int32) (h : Hp) (r : Int32) (hz : Hp), R_4_from x1 x2 x3 x4 h = some (r, hz) → MC γ dd yX4_from cX4_from 7 (some .int) [.ref (γ.2.2.1 103), .int x1, .int x2, .int x3, .int x4] h (QI r hz)) {x1 : Int32} {x2 : Int32} {x3 : Int32} {x4 : Int32} {h : Hp} {r : Int32} {hz : Hp} (hd : NN + 1 ≤ dd) (hr : b_4_from R_4_from x1 x2 x3 x4 h = some (r, hz)) : MC γ dd yX4_from cX4_from 7 (some .int) [.ref (γ.2.2.1 103), .int x1, .int x2, .int x3, .int x4] h (QI r hz) := by
  unfold b_4_from at hr
  refine MC.of mi_4_from (Nat.le_of_ble_eq_true rfl) (fun ε hR => ?_)
  show VW γ ε cX4_from RX4 7 dd 0 [(0, .ref (γ.2.2.1 103)), (1, .int x1), (2, .int x2), (3, .int x3), (4, .int x4)] [] h
  refine VW.iload d4_from_0 4 rfl ?_
  refine VW.bipush (v := 20) d4_from_2 bp_20 ?_
  refine VW.icmp_le 9 d4_from_4 (by decide) (fun c1 => ?_) (fun c1 => ?_)
  · replace hr := ip hr c1
    refine VW.iload_n d4_from_9 1 rfl ?_
    refine VW.iload_n d4_from_10 2 rfl ?_
    obtain ⟨r3, e2, hr⟩ := bno hr
    refine VW.callS (As := [.int x1, .int x2]) (st := []) d4_from_11 mi_4_bodyOf cs_4_36 (by decide) (dl1r hd) _ rfl (Nat.le_of_ble_eq_true rfl) rfl (c_4_bodyOf (dlr hd hN (Nat.le_of_ble_eq_true rfl)) e2) (kI ?_)
    refine VW.istore (lo' := [(5, .int r3), (0, .ref (γ.2.2.1 103)), (1, .int x1), (2, .int x2), (3, .int x3), (4, .int x4)]) d4_from_14 (by decide) rfl ?_
    refine VW.aload_n d4_from_16 1 rfl ?_
    refine VW.iload d4_from_17 0 rfl ?_
    obtain ⟨h5, e4, hr⟩ := bno hr
    refine VW.callV (As := [.int r3]) (st := []) d4_from_19 mi_4_note cv_4_40 (oo_4 o4_103) ⟨rfl, rfl⟩ (by decide) (dl1r hd) _ rfl (Nat.le_of_ble_eq_true rfl) rfl (c_4_note (dlr hd hN (Nat.le_of_ble_eq_true rfl)) e4) (kV ?_)
    refine VW.iload d4_from_22 5 rfl ?_
    refine VW.iconst (v := 1) d4_from_24 ic_1 ?_
    refine VW.iadd d4_from_25 ?_
    refine VW.istore (lo' := [(6, .int (x4 + 1)), (5, .int r3), (0, .ref (γ.2.2.1 103)), (1, .int x1), (2, .int x2), (3, .int x3), (4, .int x4)]) d4_from_26 (by decide) rfl ?_
    refine VW.iload d4_from_28 1 rfl ?_
    by_cases c6 : r3 = 10
    · replace hr := ip hr c6
      refine VW.lookup (off := 98) 128 d4_from_30 (by decide) (by rw [c6]; decide) (by decide) ?_
      refine VW.iload_n d4_from_128 5 rfl ?_
      refine VW.aload_n d4_from_129 2 rfl ?_
      refine VW.getI (k := 4) d4_from_130 (oo_4 o4_103) rfl fl_4_25 ck4 ?_
      refine VW.iadd d4_from_133 ?_
      exact VW.iret d4_from_134 hR (rIw hr)
    · replace hr := im hr c6
      by_cases c7 : r3 = 11
      · replace hr := ip hr c7
        refine VW.lookup (off := 105) 135 d4_from_30 (by decide) (by rw [c7]; decide) (by decide) ?_
        refine VW.aload_n d4_from_135 2 rfl ?_
        refine VW.aload_n d4_from_136 2 rfl ?_
        refine VW.getI (k := 2) d4_from_137 (oo_4 o4_103) rfl fl_4_19 ck4 ?_
        refine VW.iconst (v := 0) d4_from_140 ic_0 ?_
        refine VW.iload_n d4_from_141 5 rfl ?_
        refine VW.iload d4_from_142 0 rfl ?_
        obtain ⟨r9, h10, e8, hr⟩ := bno2 hr
        refine VW.callV (As := [.int (h5 103 2), .int 0, .int x3, .int (x4 + 1)]) (st := []) d4_from_144 mi_4_from cv_4_32 (oo_4 o4_103) ⟨rfl, rfl⟩ (by decide) (dl1r hd) _ rfl (Nat.le_of_ble_eq_true rfl) rfl (H_4_from (dd - 1) (dr hd) (h5 103 2) 0 x3 (x4 + 1) h5 _ _ e8) (kI ?_)
        refine VW.iconst (v := 2) d4_from_147 ic_2 ?_
        refine VW.imul d4_from_148 ?_
        exact VW.iret d4_from_149 hR (rIw hr)
      · replace hr := im hr c7
        by_cases c11 : r3 = 12
        · replace hr := ip hr c11
          refine VW.lookup (off := 120) 150 d4_from_30 (by decide) (by rw [c11]; decide) (by decide) ?_
          refine VW.iload_n d4_from_150 5 rfl ?_
          refine VW.aload_n d4_from_151 2 rfl ?_
          refine VW.getI (k := 3) d4_from_152 (oo_4 o4_103) rfl fl_4_22 ck4 ?_
          refine VW.isub d4_from_155 ?_
          exact VW.iret d4_from_156 hR (rIw hr)
        · replace hr := im hr c11
          by_cases c12 : r3 = 13
          · replace hr := ip hr c12
            refine VW.lookup (off := 127) 157 d4_from_30 (by decide) (by rw [c12]; decide) (by decide) ?_
            refine VW.aload_n d4_from_157 2 rfl ?_
            refine VW.aload_n d4_from_158 2 rfl ?_
            refine VW.getI (k := 2) d4_from_159 (oo_4 o4_103) rfl fl_4_19 ck4 ?_
            refine VW.iconst (v := 1) d4_from_162 ic_1 ?_
            refine VW.iload_n d4_from_163 5 rfl ?_
            refine VW.iload d4_from_164 0 rfl ?_
            obtain ⟨r14, h15, e13, hr⟩ := bno2 hr
            refine VW.callV (As := [.int (h5 103 2), .int 1, .int x3, .int (x4 + 1)]) (st := []) d4_from_166 mi_4_from cv_4_32 (oo_4 o4_103) ⟨rfl, rfl⟩ (by decide) (dl1r hd) _ rfl (Nat.le_of_ble_eq_true rfl) rfl (H_4_from (dd - 1) (dr hd) (h5 103 2) 1 x3 (x4 + 1) h5 _ _ e13) (kI ?_)
            refine VW.aload_n d4_from_169 2 rfl ?_
            refine VW.aload_n d4_from_170 2 rfl ?_
            refine VW.getI (k := 2) d4_from_171 (oo_4 o4_103) rfl fl_4_19 ck4 ?_
            refine VW.iconst (v := 2) d4_from_174 ic_2 ?_
            refine VW.iload_n d4_from_175 5 rfl ?_
            refine VW.iload d4_from_176 0 rfl ?_
            obtain ⟨r17, h18, e16, hr⟩ := bno2 hr
            refine VW.callV (As := [.int (h15 103 2), .int 2, .int x3, .int (x4 + 1)]) (st := [.int r14]) d4_from_178 mi_4_from cv_4_32 (oo_4 o4_103) ⟨rfl, rfl⟩ (by decide) (dl1r hd) _ rfl (Nat.le_of_ble_eq_true rfl) rfl (H_4_from (dd - 1) (dr hd) (h15 103 2) 2 x3 (x4 + 1) h15 _ _ e16) (kI ?_)
            refine VW.ixor d4_from_181 ?_
            exact VW.iret d4_from_182 hR (rIw hr)
          · replace hr := im hr c12
            by_cases c19 : r3 = 20
            · replace hr := ip hr c19
              refine VW.lookup (off := 153) 183 d4_from_30 (by decide) (by rw [c19]; decide) (by decide) ?_
              refine VW.aload_n d4_from_183 2 rfl ?_
              refine VW.iconst (v := 0) d4_from_184 ic_0 ?_
              refine VW.iconst (v := 0) d4_from_185 ic_0 ?_
              refine VW.iload_n d4_from_186 5 rfl ?_
              refine VW.iload d4_from_187 0 rfl ?_
              obtain ⟨r21, h22, e20, hr⟩ := bno2 hr
              refine VW.callV (As := [.int 0, .int 0, .int x3, .int (x4 + 1)]) (st := []) d4_from_189 mi_4_from cv_4_32 (oo_4 o4_103) ⟨rfl, rfl⟩ (by decide) (dl1r hd) _ rfl (Nat.le_of_ble_eq_true rfl) rfl (H_4_from (dd - 1) (dr hd) 0 0 x3 (x4 + 1) h5 _ _ e20) (kI ?_)
              refine VW.iconst (v := 3) d4_from_192 ic_3 ?_
              refine VW.imul d4_from_193 ?_
              exact VW.iret d4_from_194 hR (rIw hr)
            · replace hr := im hr c19
              by_cases c23 : r3 = 30
              · replace hr := ip hr c23
                refine VW.lookup (off := 165) 195 d4_from_30 (by decide) (by rw [c23]; decide) (by decide) ?_
                refine VW.aload_n d4_from_195 2 rfl ?_
                refine VW.iconst (v := 0) d4_from_196 ic_0 ?_
                refine VW.iconst (v := 1) d4_from_197 ic_1 ?_
                refine VW.iload_n d4_from_198 5 rfl ?_
                refine VW.iload d4_from_199 0 rfl ?_
                obtain ⟨r25, h26, e24, hr⟩ := bno2 hr
                refine VW.callV (As := [.int 0, .int 1, .int x3, .int (x4 + 1)]) (st := []) d4_from_201 mi_4_from cv_4_32 (oo_4 o4_103) ⟨rfl, rfl⟩ (by decide) (dl1r hd) _ rfl (Nat.le_of_ble_eq_true rfl) rfl (H_4_from (dd - 1) (dr hd) 0 1 x3 (x4 + 1) h5 _ _ e24) (kI ?_)
                refine VW.aload_n d4_from_204 2 rfl ?_
                refine VW.aload_n d4_from_205 2 rfl ?_
                refine VW.getI (k := 2) d4_from_206 (oo_4 o4_103) rfl fl_4_19 ck4 ?_
                refine VW.iconst (v := 2) d4_from_209 ic_2 ?_
                refine VW.iconst (v := 1) d4_from_210 ic_1 ?_
                refine VW.iload d4_from_211 0 rfl ?_
                obtain ⟨r28, h29, e27, hr⟩ := bno2 hr
                refine VW.callV (As := [.int (h26 103 2), .int 2, .int 1, .int (x4 + 1)]) (st := [.int r25]) d4_from_213 mi_4_from cv_4_32 (oo_4 o4_103) ⟨rfl, rfl⟩ (by decide) (dl1r hd) _ rfl (Nat.le_of_ble_eq_true rfl) rfl (H_4_from (dd - 1) (dr hd) (h26 103 2) 2 1 (x4 + 1) h26 _ _ e27) (kI ?_)
                refine VW.isub d4_from_216 ?_
                exact VW.iret d4_from_217 hR (rIw hr)
              · replace hr := im hr c23
                by_cases c30 : r3 = 40
                · replace hr := ip hr c30
                  refine VW.lookup (off := 188) 218 d4_from_30 (by decide) (by rw [c30]; decide) (by decide) ?_
                  refine VW.aload_n d4_from_218 2 rfl ?_
                  refine VW.iconst (v := 0) d4_from_219 ic_0 ?_
                  refine VW.iconst (v := 2) d4_from_220 ic_2 ?_
                  refine VW.iload_n d4_from_221 5 rfl ?_
                  refine VW.iload d4_from_222 0 rfl ?_
                  obtain ⟨r32, h33, e31, hr⟩ := bno2 hr
                  refine VW.callV (As := [.int 0, .int 2, .int x3, .int (x4 + 1)]) (st := []) d4_from_224 mi_4_from cv_4_32 (oo_4 o4_103) ⟨rfl, rfl⟩ (by decide) (dl1r hd) _ rfl (Nat.le_of_ble_eq_true rfl) rfl (H_4_from (dd - 1) (dr hd) 0 2 x3 (x4 + 1) h5 _ _ e31) (kI ?_)
                  refine VW.ineg d4_from_227 ?_
                  exact VW.iret d4_from_228 hR (rIw hr)
                · replace hr := im hr c30
                  by_cases c34 : r3 = 50
                  · replace hr := ip hr c34
                    refine VW.lookup (off := 199) 229 d4_from_30 (by decide) (by rw [c34]; decide) (by decide) ?_
                    refine VW.aload_n d4_from_229 2 rfl ?_
                    refine VW.iconst (v := 1) d4_from_230 ic_1 ?_
                    refine VW.iconst (v := 3) d4_from_231 ic_3 ?_
                    refine VW.iload_n d4_from_232 5 rfl ?_
                    refine VW.iload d4_from_233 0 rfl ?_
                    obtain ⟨r36, h37, e35, hr⟩ := bno2 hr
                    refine VW.callV (As := [.int 1, .int 3, .int x3, .int (x4 + 1)]) (st := []) d4_from_235 mi_4_from cv_4_32 (oo_4 o4_103) ⟨rfl, rfl⟩ (by decide) (dl1r hd) _ rfl (Nat.le_of_ble_eq_true rfl) rfl (H_4_from (dd - 1) (dr hd) 1 3 x3 (x4 + 1) h5 _ _ e35) (kI ?_)
                    refine VW.aload_n d4_from_238 2 rfl ?_
                    refine VW.aload_n d4_from_239 2 rfl ?_
                    refine VW.getI (k := 2) d4_from_240 (oo_4 o4_103) rfl fl_4_19 ck4 ?_
                    refine VW.iconst (v := 0) d4_from_243 ic_0 ?_
                    refine VW.iconst (v := 2) d4_from_244 ic_2 ?_
                    refine VW.iload d4_from_245 0 rfl ?_
                    obtain ⟨r39, h40, e38, hr⟩ := bno2 hr
                    refine VW.callV (As := [.int (h37 103 2), .int 0, .int 2, .int (x4 + 1)]) (st := [.int r36]) d4_from_247 mi_4_from cv_4_32 (oo_4 o4_103) ⟨rfl, rfl⟩ (by decide) (dl1r hd) _ rfl (Nat.le_of_ble_eq_true rfl) rfl (H_4_from (dd - 1) (dr hd) (h37 103 2) 0 2 (x4 + 1) h37 _ _ e38) (kI ?_)
                    refine VW.isub d4_from_250 ?_
                    exact VW.iret d4_from_251 hR (rIw hr)
                  · replace hr := im hr c34
                    by_cases c41 : r3 = 60
                    · replace hr := ip hr c41
                      refine VW.lookup (off := 222) 252 d4_from_30 (by decide) (by rw [c41]; decide) (by decide) ?_
                      refine VW.aload_n d4_from_252 2 rfl ?_
                      refine VW.iconst (v := 2) d4_from_253 ic_2 ?_
                      refine VW.iconst (v := 1) d4_from_254 ic_1 ?_
                      refine VW.iload_n d4_from_255 5 rfl ?_
                      refine VW.iconst (v := 1) d4_from_256 ic_1 ?_
                      refine VW.iadd d4_from_257 ?_
                      refine VW.iload d4_from_258 0 rfl ?_
                      obtain ⟨r43, h44, e42, hr⟩ := bno2 hr
                      refine VW.callV (As := [.int 2, .int 1, .int (x3 + 1), .int (x4 + 1)]) (st := []) d4_from_260 mi_4_from cv_4_32 (oo_4 o4_103) ⟨rfl, rfl⟩ (by decide) (dl1r hd) _ rfl (Nat.le_of_ble_eq_true rfl) rfl (H_4_from (dd - 1) (dr hd) 2 1 (x3 + 1) (x4 + 1) h5 _ _ e42) (kI ?_)
                      exact VW.iret d4_from_263 hR (rIw hr)
                    · replace hr := im hr c41
                      by_cases c45 : r3 = 70
                      · replace hr := ip hr c45
                        refine VW.lookup (off := 234) 264 d4_from_30 (by decide) (by rw [c45]; decide) (by decide) ?_
                        refine VW.aload_n d4_from_264 2 rfl ?_
                        refine VW.iconst (v := 3) d4_from_265 ic_3 ?_
                        refine VW.iconst (v := 2) d4_from_266 ic_2 ?_
                        refine VW.iload_n d4_from_267 5 rfl ?_
                        refine VW.iload d4_from_268 0 rfl ?_
                        obtain ⟨r47, h48, e46, hr⟩ := bno2 hr
                        refine VW.callV (As := [.int 3, .int 2, .int x3, .int (x4 + 1)]) (st := []) d4_from_270 mi_4_from cv_4_32 (oo_4 o4_103) ⟨rfl, rfl⟩ (by decide) (dl1r hd) _ rfl (Nat.le_of_ble_eq_true rfl) rfl (H_4_from (dd - 1) (dr hd) 3 2 x3 (x4 + 1) h5 _ _ e46) (kI ?_)
                        refine VW.aload_n d4_from_273 2 rfl ?_
                        refine VW.getI (k := 4) d4_from_274 (oo_4 o4_103) rfl fl_4_25 ck4 ?_
                        refine VW.ixor d4_from_277 ?_
                        exact VW.iret d4_from_278 hR (rIw hr)
                      · replace hr := im hr c45
                        by_cases c49 : r3 = 71
                        · replace hr := ip hr c49
                          refine VW.lookup (off := 249) 279 d4_from_30 (by decide) (by rw [c49]; decide) (by decide) ?_
                          refine VW.aload_n d4_from_279 2 rfl ?_
                          refine VW.aload_n d4_from_280 2 rfl ?_
                          refine VW.getI (k := 2) d4_from_281 (oo_4 o4_103) rfl fl_4_19 ck4 ?_
                          refine VW.iconst (v := 1) d4_from_284 ic_1 ?_
                          refine VW.iload_n d4_from_285 5 rfl ?_
                          refine VW.iload d4_from_286 0 rfl ?_
                          obtain ⟨r51, h52, e50, hr⟩ := bno2 hr
                          refine VW.callV (As := [.int (h5 103 2), .int 1, .int x3, .int (x4 + 1)]) (st := []) d4_from_288 mi_4_from cv_4_32 (oo_4 o4_103) ⟨rfl, rfl⟩ (by decide) (dl1r hd) _ rfl (Nat.le_of_ble_eq_true rfl) rfl (H_4_from (dd - 1) (dr hd) (h5 103 2) 1 x3 (x4 + 1) h5 _ _ e50) (kI ?_)
                          refine VW.aload_n d4_from_291 2 rfl ?_
                          refine VW.iconst (v := 3) d4_from_292 ic_3 ?_
                          refine VW.iconst (v := 3) d4_from_293 ic_3 ?_
                          refine VW.iload_n d4_from_294 5 rfl ?_
                          refine VW.iload d4_from_295 0 rfl ?_
                          obtain ⟨r54, h55, e53, hr⟩ := bno2 hr
                          refine VW.callV (As := [.int 3, .int 3, .int x3, .int (x4 + 1)]) (st := [.int r51]) d4_from_297 mi_4_from cv_4_32 (oo_4 o4_103) ⟨rfl, rfl⟩ (by decide) (dl1r hd) _ rfl (Nat.le_of_ble_eq_true rfl) rfl (H_4_from (dd - 1) (dr hd) 3 3 x3 (x4 + 1) h52 _ _ e53) (kI ?_)
                          refine VW.isub d4_from_300 ?_
                          exact VW.iret d4_from_301 hR (rIw hr)
                        · replace hr := im hr c49
                          refine VW.lookup (off := 272) 302 d4_from_30 (by decide) ((lv_osw c6 (by decide)).trans ((lv_osw c7 (by decide)).trans ((lv_osw c11 (by decide)).trans ((lv_osw c12 (by decide)).trans ((lv_osw c19 (by decide)).trans ((lv_osw c23 (by decide)).trans ((lv_osw c30 (by decide)).trans ((lv_osw c34 (by decide)).trans ((lv_osw c41 (by decide)).trans ((lv_osw c45 (by decide)).trans ((lv_osw c49 (by decide)).trans rfl))))))))))) (by decide) ?_
                          refine VW.iconst (v := 0) d4_from_302 ic_0 ?_
                          exact VW.iret d4_from_303 hR (rIw hr)
  · replace hr := im hr c1
    refine VW.iconst (v := 0) d4_from_7 ic_0 ?_
    exact VW.iret d4_from_8 hR (rIw hr)
set_option maxRecDepth 100000 in
set_option maxHeartbeats 4000000 in
theorem ck_4_from {γ : Gm} : ∀ n : Nat, (∀ (dd : Nat), n + 3 ≤ dd → ∀ (x1 : Int32) (x2 : Int32) (x3 : Int32) (x4 : Int32) (h : Hp) (r : Int32) (hz : Hp), (k_4_from n) x1 x2 x3 x4 h = some (r, hz) → MC γ dd yX4_from cX4_from 7 (some .int) [.ref (γ.2.2.1 103), .int x1, .int x2, .int x3, .int x4] h (QI r hz)) := by
  intro n
  induction n with
  | zero =>
    · intro dd hd _ _ _ _ _ _ _ hr
      exact nf hr
  | succ n ih =>
    have i0 := ih
    · intro dd hd x1 x2 x3 x4 h r hz hr
      exact cb_4_from (NN := n + 3) (Nat.le_add_left _ _) i0 (by omega) hr

theorem c_4_from {γ : Gm} {dd : Nat} {x1 : Int32} {x2 : Int32} {x3 : Int32} {x4 : Int32} {h : Hp} {r : Int32} {hz : Hp} (hd : 67 ≤ dd) (hr : f_4_from x1 x2 x3 x4 h = some (r, hz)) : MC γ dd yX4_from cX4_from 7 (some .int) [.ref (γ.2.2.1 103), .int x1, .int x2, .int x3, .int x4] h (QI r hz) := (ck_4_from RF) dd hd _ _ _ _ _ _ _ hr
set_option maxRecDepth 100000 in
set_option maxHeartbeats 4000000 in
theorem c_4_play {γ : Gm} {dd : Nat} {p1 : Nat} {x2 : Int32} {x3 : Int32} {x4 : Int32} (q1 : isO 0 p1) {h : Hp} {r : Int32} {hz : Hp} (hd : 68 ≤ dd) (hr : f_4_play p1 x2 x3 x4 h = some (r, hz)) : MC γ dd yX4_play cX4_play 5 (some .int) [.ref (γ.2.2.1 103), .ref (γ.2.2.1 p1), .int x2, .int x3, .int x4] h (QI r hz) := by
  unfold f_4_play at hr
  refine MC.of mi_4_play (Nat.le_of_ble_eq_true rfl) (fun ε hR => ?_)
  show VW γ ε cX4_play RX4 5 dd 0 [(0, .ref (γ.2.2.1 103)), (1, .ref (γ.2.2.1 p1)), (2, .int x2), (3, .int x3), (4, .int x4)] [] h
  refine VW.aload_n d4_play_0 0 rfl ?_
  refine VW.aload_n d4_play_1 1 rfl ?_
  refine VW.getI (k := 2) d4_play_2 (oo_0 q1) rfl fl_4_28 ck0 ?_
  obtain ⟨h1, e2, hr⟩ := hlt hr
  refine VW.putI (k := 2) d4_play_5 (oo_4 o4_103) rfl fl_4_19 ck4 rfl rfl rfl rfl ?_
  refine VW.heq e2 ?_
  refine VW.aload_n d4_play_8 0 rfl ?_
  refine VW.aload_n d4_play_9 1 rfl ?_
  refine VW.getI (k := 3) d4_play_10 (oo_0 q1) rfl fl_4_31 ck0 ?_
  obtain ⟨h3, e4, hr⟩ := hlt hr
  refine VW.putI (k := 3) d4_play_13 (oo_4 o4_103) rfl fl_4_22 ck4 rfl rfl rfl rfl ?_
  refine VW.heq e4 ?_
  refine VW.aload_n d4_play_16 0 rfl ?_
  refine VW.iload_n d4_play_17 2 rfl ?_
  obtain ⟨h5, e6, hr⟩ := hlt hr
  refine VW.putI (k := 4) d4_play_18 (oo_4 o4_103) rfl fl_4_25 ck4 rfl rfl rfl rfl ?_
  refine VW.heq e6 ?_
  refine VW.aload_n d4_play_21 0 rfl ?_
  refine VW.iconst (v := 0) d4_play_22 ic_0 ?_
  obtain ⟨h7, e8, hr⟩ := hlt hr
  refine VW.putI (k := 1) d4_play_23 (oo_4 o4_103) rfl fl_4_15 ck4 rfl rfl rfl rfl ?_
  refine VW.heq e8 ?_
  refine VW.aload_n d4_play_26 0 rfl ?_
  refine VW.aload_n d4_play_27 0 rfl ?_
  refine VW.getI (k := 2) d4_play_28 (oo_4 o4_103) rfl fl_4_19 ck4 ?_
  refine VW.iload_n d4_play_31 3 rfl ?_
  refine VW.iload d4_play_32 4 rfl ?_
  refine VW.iconst (v := 0) d4_play_34 ic_0 ?_
  obtain ⟨r10, h11, e9, hr⟩ := bno2 hr
  refine VW.callV (As := [.int (h7 103 2), .int x3, .int x4, .int 0]) (st := []) d4_play_35 mi_4_from cv_4_32 (oo_4 o4_103) ⟨rfl, rfl⟩ (by decide) (dl1 hd) _ rfl (Nat.le_of_ble_eq_true rfl) rfl (c_4_from (dl hd rfl) e9) (kI ?_)
  exact VW.iret d4_play_38 hR (rIw hr)
set_option maxRecDepth 100000 in
set_option maxHeartbeats 4000000 in
theorem c_5_hold {γ : Gm} {dd : Nat} {p0 : Nat} {p1 : Nat} {x2 : Int32} (q0 : isO 5 p0) (q1 : sh p1 = some (.inl 50)) {h : Hp} {hz : Hp} (hd : 1 ≤ dd) (hr : f_5_hold p0 p1 x2 h = some hz) : MC γ dd yX5_hold cX5_hold 3 none [.ref (γ.2.2.1 p0), .ref (γ.2.2.1 p1), .int x2] h (QV hz) := by
  unfold f_5_hold at hr
  refine MC.of mi_5_hold (Nat.le_of_ble_eq_true rfl) (fun ε hR => ?_)
  show VW γ ε cX5_hold RX5 3 dd 0 [(0, .ref (γ.2.2.1 p0)), (1, .ref (γ.2.2.1 p1)), (2, .int x2)] [] h
  refine VW.aload_n d5_hold_0 0 rfl ?_
  refine VW.iconst (v := 0) d5_hold_1 ic_0 ?_
  refine VW.bipush (v := 50) d5_hold_2 bp_50 ?_
  refine VW.iload_n d5_hold_4 2 rfl ?_
  refine VW.mmin d5_hold_5 jl_5_22 (dl1 hd) (Nat.le_of_ble_eq_true rfl) ?_
  refine VW.mmax d5_hold_8 jl_5_28 (dl1 hd) (Nat.le_of_ble_eq_true rfl) ?_
  obtain ⟨h1, e2, hr⟩ := hlt hr
  refine VW.putI (k := 2) d5_hold_11 (oo_5 q0) rfl fl_5_18 ck5 rfl rfl rfl rfl ?_
  refine VW.heq e2 ?_
  refine VW.aload_n d5_hold_14 1 rfl ?_
  refine VW.iconst (v := 0) d5_hold_15 ic_0 ?_
  refine VW.aload_n d5_hold_16 0 rfl ?_
  refine VW.getR (k := 0) (r := (p0 + 1)) d5_hold_17 (oo_5 q0) rfl fl_5_9 ck5 ?_
  refine VW.iconst (v := 0) d5_hold_20 ic_0 ?_
  refine VW.bipush (v := 50) d5_hold_21 bp_50 ?_
  obtain ⟨g3, hr⟩ := gdt hr
  obtain ⟨h4, e5, hr⟩ := hlt hr
  refine VW.copy d5_hold_23 al_5_31 (dl1 hd) (Nat.le_of_ble_eq_true rfl) q1 (rf_5_0 q0) g3 ?_
  refine VW.heq e5 ?_
  exact VW.vret d5_hold_26 hR (rV hr)
set_option maxRecDepth 100000 in
set_option maxHeartbeats 4000000 in
theorem c_6_copy {γ : Gm} {dd : Nat} {p0 : Nat} {p1 : Nat} (q0 : isO 6 p0) (q1 : isO 6 p1) {h : Hp} {hz : Hp} (hd : 1 ≤ dd) (hr : f_6_copy p0 p1 h = some hz) : MC γ dd yX6_copy cX6_copy 2 none [.ref (γ.2.2.1 p0), .ref (γ.2.2.1 p1)] h (QV hz) := by
  unfold f_6_copy at hr
  refine MC.of mi_6_copy (Nat.le_of_ble_eq_true rfl) (fun ε hR => ?_)
  show VW γ ε cX6_copy RX6 2 dd 0 [(0, .ref (γ.2.2.1 p0)), (1, .ref (γ.2.2.1 p1))] [] h
  refine VW.aload_n d6_copy_0 0 rfl ?_
  refine VW.aload_n d6_copy_1 1 rfl ?_
  refine VW.getI (k := 1) d6_copy_2 (oo_6 q1) rfl fl_6_15 ck6 ?_
  obtain ⟨h1, e2, hr⟩ := hlt hr
  refine VW.putI (k := 1) d6_copy_5 (oo_6 q0) rfl fl_6_15 ck6 rfl rfl rfl rfl ?_
  refine VW.heq e2 ?_
  refine VW.aload_n d6_copy_8 0 rfl ?_
  refine VW.aload_n d6_copy_9 1 rfl ?_
  refine VW.getI (k := 2) d6_copy_10 (oo_6 q1) rfl fl_6_19 ck6 ?_
  obtain ⟨h3, e4, hr⟩ := hlt hr
  refine VW.putI (k := 2) d6_copy_13 (oo_6 q0) rfl fl_6_19 ck6 rfl rfl rfl rfl ?_
  refine VW.heq e4 ?_
  refine VW.aload_n d6_copy_16 0 rfl ?_
  refine VW.aload_n d6_copy_17 1 rfl ?_
  refine VW.getI (k := 3) d6_copy_18 (oo_6 q1) rfl fl_6_22 ck6 ?_
  obtain ⟨h5, e6, hr⟩ := hlt hr
  refine VW.putI (k := 3) d6_copy_21 (oo_6 q0) rfl fl_6_22 ck6 rfl rfl rfl rfl ?_
  refine VW.heq e6 ?_
  refine VW.aload_n d6_copy_24 1 rfl ?_
  refine VW.getR (k := 0) (r := (p1 + 1)) d6_copy_25 (oo_6 q1) rfl fl_6_9 ck6 ?_
  refine VW.iconst (v := 0) d6_copy_28 ic_0 ?_
  refine VW.aload_n d6_copy_29 0 rfl ?_
  refine VW.getR (k := 0) (r := (p0 + 1)) d6_copy_30 (oo_6 q0) rfl fl_6_9 ck6 ?_
  refine VW.iconst (v := 0) d6_copy_33 ic_0 ?_
  refine VW.iconst (v := 5) d6_copy_34 ic_5 ?_
  obtain ⟨g7, hr⟩ := gdt hr
  obtain ⟨h8, e9, hr⟩ := hlt hr
  refine VW.copy d6_copy_35 al_6_25 (dl1 hd) (Nat.le_of_ble_eq_true rfl) (rf_6_0 q1) (rf_6_0 q0) g7 ?_
  refine VW.heq e9 ?_
  exact VW.vret d6_copy_38 hR (rV hr)
set_option maxRecDepth 100000 in
set_option maxHeartbeats 4000000 in
theorem s_6_spell_57 {γ : Gm} {ε : En} {dd : Nat} (hd : 0 ≤ dd) {hz : Hp} {p0 : Nat} (q0 : isO 6 p0) (hR : RT γ ε none (QV hz)) : ∀ (n : Nat) (x3 : Int32) (x4 : Int32) (h : Hp), f_6_spell_57 p0 n x3 x4 h = some hz → VW γ ε cX6_spell RX6 5 dd 57 [(0, .ref (γ.2.2.1 p0)), (3, .int x3), (4, .int x4)] [] h := by
  intro n
  induction n with
  | zero =>
    intro x3 x4 h hr
    exact nf hr
  | succ n ih =>
    intro x3 x4 h hr
    rw [f_6_spell_57] at hr
    refine VW.iload d6_spell_57 2 rfl ?_
    refine VW.if_lt 86 d6_spell_59 (by decide) (fun c8 => ?_) (fun c8 => ?_)
    · replace hr := ip hr c8
      exact VW.vret d6_spell_86 hR (rV hr)
    · replace hr := im hr c8
      refine VW.aload_n d6_spell_62 0 rfl ?_
      refine VW.getR (k := 0) (r := (p0 + 1)) d6_spell_63 (oo_6 q0) rfl fl_6_9 ck6 ?_
      refine VW.iload d6_spell_66 2 rfl ?_
      refine VW.iload_n d6_spell_68 1 rfl ?_
      refine VW.bipush (v := 10) d6_spell_69 bp_10 ?_
      refine VW.irem d6_spell_71 (by decide) ?_
      refine VW.iconst (v := 1) d6_spell_72 ic_1 ?_
      refine VW.isub d6_spell_73 ?_
      obtain ⟨g9, hr⟩ := gdt hr
      obtain ⟨h10, e11, hr⟩ := hlt hr
      refine VW.iast (j := (ci x4)) d6_spell_74 (rf_6_0 q0) g9 rfl ?_
      refine VW.heq e11 ?_
      refine VW.iload_n d6_spell_75 1 rfl ?_
      refine VW.bipush (v := 10) d6_spell_76 bp_10 ?_
      refine VW.idiv d6_spell_78 (by decide) ?_
      refine VW.istore_n (lo' := [(3, .int (x3 / 10)), (0, .ref (γ.2.2.1 p0)), (4, .int x4)]) d6_spell_79 (by decide) rfl ?_
      refine VW.iinc (w := (-1)) (lo' := [(4, .int (x4 + (-1))), (3, .int (x3 / 10)), (0, .ref (γ.2.2.1 p0))]) d6_spell_80 2 rfl ic_m1 (by decide) rfl ?_
      refine VW.goto 57 d6_spell_83 (by decide) ?_
      exact VW.sub [2, 1, 0] rfl (ih (x3 / 10) (x4 + (-1)) h10 hr)
set_option maxRecDepth 100000 in
set_option maxHeartbeats 4000000 in
theorem s_6_spell_17 {γ : Gm} {ε : En} {dd : Nat} (hd : 0 ≤ dd) {hz : Hp} {p0 : Nat} {x1 : Int32} (q0 : isO 6 p0) (hR : RT γ ε none (QV hz)) : ∀ (n : Nat) (x3 : Int32) (h : Hp), f_6_spell_17 p0 x1 n x3 h = some hz → VW γ ε cX6_spell RX6 5 dd 17 [(0, .ref (γ.2.2.1 p0)), (1, .int x1), (3, .int x3)] [] h := by
  intro n
  induction n with
  | zero =>
    intro x3 h hr
    exact nf hr
  | succ n ih =>
    intro x3 h hr
    rw [f_6_spell_17] at hr
    refine VW.iload_n d6_spell_17 2 rfl ?_
    refine VW.if_le 47 d6_spell_18 (by decide) (fun c7 => ?_) (fun c7 => ?_)
    · replace hr := ip hr c7
      refine VW.iload_n d6_spell_47 1 rfl ?_
      refine VW.istore_n (lo' := [(3, .int x1), (0, .ref (γ.2.2.1 p0)), (1, .int x1)]) d6_spell_48 (by decide) rfl ?_
      refine VW.aload_n d6_spell_49 1 rfl ?_
      refine VW.getI (k := 2) d6_spell_50 (oo_6 q0) rfl fl_6_19 ck6 ?_
      refine VW.iconst (v := 1) d6_spell_53 ic_1 ?_
      refine VW.isub d6_spell_54 ?_
      refine VW.istore (lo' := [(4, .int ((h p0 2) - 1)), (3, .int x1), (0, .ref (γ.2.2.1 p0)), (1, .int x1)]) d6_spell_55 (by decide) rfl ?_
      exact VW.sub [2, 1, 0] rfl (s_6_spell_57 hd q0 hR FU x1 ((h p0 2) - 1) h hr)
    · replace hr := im hr c7
      refine VW.aload_n d6_spell_21 0 rfl ?_
      refine VW.getI (k := 2) d6_spell_22 (oo_6 q0) rfl fl_6_19 ck6 ?_
      refine VW.iconst (v := 5) d6_spell_25 ic_5 ?_
      refine VW.icmp_ge 47 d6_spell_26 (by decide) (fun c12 => ?_) (fun c12 => ?_)
      · replace hr := ip hr c12
        refine VW.iload_n d6_spell_47 1 rfl ?_
        refine VW.istore_n (lo' := [(3, .int x1), (0, .ref (γ.2.2.1 p0)), (1, .int x1)]) d6_spell_48 (by decide) rfl ?_
        refine VW.aload_n d6_spell_49 1 rfl ?_
        refine VW.getI (k := 2) d6_spell_50 (oo_6 q0) rfl fl_6_19 ck6 ?_
        refine VW.iconst (v := 1) d6_spell_53 ic_1 ?_
        refine VW.isub d6_spell_54 ?_
        refine VW.istore (lo' := [(4, .int ((h p0 2) - 1)), (3, .int x1), (0, .ref (γ.2.2.1 p0)), (1, .int x1)]) d6_spell_55 (by decide) rfl ?_
        exact VW.sub [2, 1, 0] rfl (s_6_spell_57 hd q0 hR FU x1 ((h p0 2) - 1) h hr)
      · replace hr := im hr c12
        refine VW.aload_n d6_spell_29 0 rfl ?_
        refine VW.dup d6_spell_30 rfl ?_
        refine VW.getI (k := 2) d6_spell_31 (oo_6 q0) rfl fl_6_19 ck6 ?_
        refine VW.iconst (v := 1) d6_spell_34 ic_1 ?_
        refine VW.iadd d6_spell_35 ?_
        obtain ⟨h13, e14, hr⟩ := hlt hr
        refine VW.putI (k := 2) d6_spell_36 (oo_6 q0) rfl fl_6_19 ck6 rfl rfl rfl rfl ?_
        refine VW.heq e14 ?_
        refine VW.iload_n d6_spell_39 2 rfl ?_
        refine VW.bipush (v := 10) d6_spell_40 bp_10 ?_
        refine VW.idiv d6_spell_42 (by decide) ?_
        refine VW.istore_n (lo' := [(3, .int (x3 / 10)), (0, .ref (γ.2.2.1 p0)), (1, .int x1)]) d6_spell_43 (by decide) rfl ?_
        refine VW.goto 17 d6_spell_44 (by decide) ?_
        exact VW.sub [1, 2, 0] rfl (ih (x3 / 10) h13 hr)
set_option maxRecDepth 100000 in
set_option maxHeartbeats 4000000 in
theorem c_6_spell {γ : Gm} {dd : Nat} {p0 : Nat} {x1 : Int32} {x2 : Int32} (q0 : isO 6 p0) {h : Hp} {hz : Hp} (hd : 0 ≤ dd) (hr : f_6_spell p0 x1 x2 h = some hz) : MC γ dd yX6_spell cX6_spell 5 none [.ref (γ.2.2.1 p0), .int x1, .int x2] h (QV hz) := by
  unfold f_6_spell at hr
  refine MC.of mi_6_spell (Nat.le_of_ble_eq_true rfl) (fun ε hR => ?_)
  show VW γ ε cX6_spell RX6 5 dd 0 [(0, .ref (γ.2.2.1 p0)), (1, .int x1), (2, .int x2)] [] h
  refine VW.aload_n d6_spell_0 0 rfl ?_
  refine VW.iload_n d6_spell_1 1 rfl ?_
  obtain ⟨h1, e2, hr⟩ := hlt hr
  refine VW.putI (k := 1) d6_spell_2 (oo_6 q0) rfl fl_6_15 ck6 rfl rfl rfl rfl ?_
  refine VW.heq e2 ?_
  refine VW.aload_n d6_spell_5 0 rfl ?_
  refine VW.iload_n d6_spell_6 2 rfl ?_
  obtain ⟨h3, e4, hr⟩ := hlt hr
  refine VW.putI (k := 3) d6_spell_7 (oo_6 q0) rfl fl_6_22 ck6 rfl rfl rfl rfl ?_
  refine VW.heq e4 ?_
  refine VW.aload_n d6_spell_10 0 rfl ?_
  refine VW.iconst (v := 0) d6_spell_11 ic_0 ?_
  obtain ⟨h5, e6, hr⟩ := hlt hr
  refine VW.putI (k := 2) d6_spell_12 (oo_6 q0) rfl fl_6_19 ck6 rfl rfl rfl rfl ?_
  refine VW.heq e6 ?_
  refine VW.iload_n d6_spell_15 1 rfl ?_
  refine VW.istore_n (lo' := [(3, .int x1), (0, .ref (γ.2.2.1 p0)), (1, .int x1), (2, .int x2)]) d6_spell_16 (by decide) rfl ?_
  exact VW.sub [1, 2, 0] rfl (s_6_spell_17 hd q0 hR FU x1 h5 hr)
set_option maxRecDepth 100000 in
set_option maxHeartbeats 4000000 in
theorem c_7_addByte {γ : Gm} {dd : Nat} {x1 : Int32} {h : Hp} {hz : Hp} (hd : 1 ≤ dd) (hr : f_7_addByte x1 h = some hz) : MC γ dd yX7_addByte cX7_addByte 2 none [.ref (γ.2.2.1 1), .int x1] h (QV hz) := by
  unfold f_7_addByte at hr
  refine MC.of mi_7_addByte (Nat.le_of_ble_eq_true rfl) (fun ε hR => ?_)
  show VW γ ε cX7_addByte RX7 2 dd 0 [(0, .ref (γ.2.2.1 1)), (1, .int x1)] [] h
  refine VW.aload_n d7_addByte_0 0 rfl ?_
  refine VW.getI (k := 12) d7_addByte_1 (oo_7 o7_1) rfl fl_7_59 ck7 ?_
  refine VW.iconst (v := 0) d7_addByte_4 ic_0 ?_
  refine VW.bipush (v := 49) d7_addByte_5 bp_49 ?_
  refine VW.callN (As := [.int (h 1 12), .int 0, .int 49]) (st := []) d7_addByte_7 mi_8_within cn_7_99 (by decide) (dl1 hd) _ rfl (Nat.le_of_ble_eq_true rfl) rfl (c_8_within (dl hd rfl) rfl) (kI ?_)
  refine VW.if_eq 33 d7_addByte_10 (by decide) (fun c1 => ?_) (fun c1 => ?_)
  · replace hr := ip hr c1
    exact VW.vret d7_addByte_33 hR (rV hr)
  · replace hr := im hr c1
    refine VW.aload_n d7_addByte_13 0 rfl ?_
    refine VW.getR (k := 3) (r := 5) d7_addByte_14 (oo_7 o7_1) rfl fl_7_27 ck7 ?_
    refine VW.aload_n d7_addByte_17 0 rfl ?_
    refine VW.getI (k := 12) d7_addByte_18 (oo_7 o7_1) rfl fl_7_59 ck7 ?_
    refine VW.iload_n d7_addByte_21 1 rfl ?_
    obtain ⟨g2, hr⟩ := gdt hr
    obtain ⟨h3, e4, hr⟩ := hlt hr
    refine VW.iast (j := (ci (h 1 12))) d7_addByte_22 (rf_7_3 o7_1) g2 rfl ?_
    refine VW.heq e4 ?_
    refine VW.aload_n d7_addByte_23 0 rfl ?_
    refine VW.dup d7_addByte_24 rfl ?_
    refine VW.getI (k := 12) d7_addByte_25 (oo_7 o7_1) rfl fl_7_59 ck7 ?_
    refine VW.iconst (v := 1) d7_addByte_28 ic_1 ?_
    refine VW.iadd d7_addByte_29 ?_
    obtain ⟨h5, e6, hr⟩ := hlt hr
    refine VW.putI (k := 12) d7_addByte_30 (oo_7 o7_1) rfl fl_7_59 ck7 rfl rfl rfl rfl ?_
    refine VW.heq e6 ?_
    exact VW.vret d7_addByte_33 hR (rV hr)
set_option maxRecDepth 100000 in
set_option maxHeartbeats 4000000 in
theorem s_7_copy_91 {γ : Gm} {ε : En} {dd : Nat} (hd : 2 ≤ dd) {hz : Hp} {p0 : Nat} {p1 : Nat} (q0 : isO 7 p0) (q1 : isO 7 p1) (hR : RT γ ε none (QV hz)) : ∀ (n : Nat) (x2 : Int32) (h : Hp), f_7_copy_91 p0 p1 n x2 h = some hz → VW γ ε cX7_copy RX7 3 dd 91 [(0, .ref (γ.2.2.1 p0)), (1, .ref (γ.2.2.1 p1)), (2, .int x2)] [] h := by
  intro n
  induction n with
  | zero =>
    intro x2 h hr
    exact nf hr
  | succ n ih =>
    intro x2 h hr
    rw [f_7_copy_91] at hr
    refine VW.iload_n d7_copy_91 2 rfl ?_
    refine VW.bipush (v := 6) d7_copy_92 bp_6 ?_
    refine VW.icmp_ge 118 d7_copy_94 (by decide) (fun c14 => ?_) (fun c14 => ?_)
    · replace hr := ip hr c14
      refine VW.aload_n d7_copy_118 0 rfl ?_
      refine VW.getR (k := 4) (r := (p0 + 5)) d7_copy_119 (oo_7 q0) rfl fl_7_33 ck7 ?_
      refine VW.aload_n d7_copy_122 1 rfl ?_
      refine VW.getR (k := 4) (r := (p1 + 5)) d7_copy_123 (oo_7 q1) rfl fl_7_33 ck7 ?_
      refine VW.getR (k := 0) (r := ((p1 + 5) + 1)) d7_copy_126 (oo_5 (rf_7_4 q1)) rfl fl_7_89 ck5 ?_
      refine VW.aload_n d7_copy_129 1 rfl ?_
      refine VW.getR (k := 4) (r := (p1 + 5)) d7_copy_130 (oo_7 q1) rfl fl_7_33 ck7 ?_
      refine VW.getI (k := 2) d7_copy_133 (oo_5 (rf_7_4 q1)) rfl fl_7_92 ck5 ?_
      obtain ⟨h16, e15, hr⟩ := bno hr
      refine VW.callV (As := [.ref (γ.2.2.1 ((p1 + 5) + 1)), .int (h (p1 + 5) 2)]) (st := []) d7_copy_136 mi_5_hold cv_7_95 (oo_5 (rf_7_4 q0)) ⟨rfl, rfl⟩ (by decide) (dl1 hd) _ rfl (Nat.le_of_ble_eq_true rfl) rfl (c_5_hold (rf_7_4 q0) (rf_5_0 (rf_7_4 q1)) (dl hd rfl) e15) (kV ?_)
      refine VW.aload_n d7_copy_139 0 rfl ?_
      refine VW.getR (k := 5) (r := (p0 + 8)) d7_copy_140 (oo_7 q0) rfl fl_7_37 ck7 ?_
      refine VW.aload_n d7_copy_143 1 rfl ?_
      refine VW.getR (k := 5) (r := (p1 + 8)) d7_copy_144 (oo_7 q1) rfl fl_7_37 ck7 ?_
      refine VW.getR (k := 0) (r := ((p1 + 8) + 1)) d7_copy_147 (oo_5 (rf_7_5 q1)) rfl fl_7_89 ck5 ?_
      refine VW.aload_n d7_copy_150 1 rfl ?_
      refine VW.getR (k := 5) (r := (p1 + 8)) d7_copy_151 (oo_7 q1) rfl fl_7_37 ck7 ?_
      refine VW.getI (k := 2) d7_copy_154 (oo_5 (rf_7_5 q1)) rfl fl_7_92 ck5 ?_
      obtain ⟨h18, e17, hr⟩ := bno hr
      refine VW.callV (As := [.ref (γ.2.2.1 ((p1 + 8) + 1)), .int (h16 (p1 + 8) 2)]) (st := []) d7_copy_157 mi_5_hold cv_7_95 (oo_5 (rf_7_5 q0)) ⟨rfl, rfl⟩ (by decide) (dl1 hd) _ rfl (Nat.le_of_ble_eq_true rfl) rfl (c_5_hold (rf_7_5 q0) (rf_5_0 (rf_7_5 q1)) (dl hd rfl) e17) (kV ?_)
      refine VW.aload_n d7_copy_160 0 rfl ?_
      refine VW.aload_n d7_copy_161 1 rfl ?_
      refine VW.getI (k := 10) d7_copy_162 (oo_7 q1) rfl fl_7_52 ck7 ?_
      obtain ⟨h19, e20, hr⟩ := hlt hr
      refine VW.putI (k := 10) d7_copy_165 (oo_7 q0) rfl fl_7_52 ck7 rfl rfl rfl rfl ?_
      refine VW.heq e20 ?_
      refine VW.aload_n d7_copy_168 0 rfl ?_
      refine VW.aload_n d7_copy_169 1 rfl ?_
      refine VW.getI (k := 11) d7_copy_170 (oo_7 q1) rfl fl_7_56 ck7 ?_
      obtain ⟨h21, e22, hr⟩ := hlt hr
      refine VW.putI (k := 11) d7_copy_173 (oo_7 q0) rfl fl_7_56 ck7 rfl rfl rfl rfl ?_
      refine VW.heq e22 ?_
      refine VW.aload_n d7_copy_176 0 rfl ?_
      refine VW.aload_n d7_copy_177 1 rfl ?_
      refine VW.getI (k := 12) d7_copy_178 (oo_7 q1) rfl fl_7_59 ck7 ?_
      obtain ⟨h23, e24, hr⟩ := hlt hr
      refine VW.putI (k := 12) d7_copy_181 (oo_7 q0) rfl fl_7_59 ck7 rfl rfl rfl rfl ?_
      refine VW.heq e24 ?_
      refine VW.aload_n d7_copy_184 0 rfl ?_
      refine VW.aload_n d7_copy_185 1 rfl ?_
      refine VW.getI (k := 13) d7_copy_186 (oo_7 q1) rfl fl_7_62 ck7 ?_
      obtain ⟨h25, e26, hr⟩ := hlt hr
      refine VW.putI (k := 13) d7_copy_189 (oo_7 q0) rfl fl_7_62 ck7 rfl rfl rfl rfl ?_
      refine VW.heq e26 ?_
      refine VW.aload_n d7_copy_192 0 rfl ?_
      refine VW.aload_n d7_copy_193 1 rfl ?_
      refine VW.getI (k := 14) d7_copy_194 (oo_7 q1) rfl fl_7_65 ck7 ?_
      obtain ⟨h27, e28, hr⟩ := hlt hr
      refine VW.putI (k := 14) d7_copy_197 (oo_7 q0) rfl fl_7_65 ck7 rfl rfl rfl rfl ?_
      refine VW.heq e28 ?_
      refine VW.aload_n d7_copy_200 0 rfl ?_
      refine VW.aload_n d7_copy_201 1 rfl ?_
      refine VW.getI (k := 15) d7_copy_202 (oo_7 q1) rfl fl_7_68 ck7 ?_
      obtain ⟨h29, e30, hr⟩ := hlt hr
      refine VW.putI (k := 15) d7_copy_205 (oo_7 q0) rfl fl_7_68 ck7 rfl rfl rfl rfl ?_
      refine VW.heq e30 ?_
      refine VW.aload_n d7_copy_208 0 rfl ?_
      refine VW.aload_n d7_copy_209 1 rfl ?_
      refine VW.getI (k := 16) d7_copy_210 (oo_7 q1) rfl fl_7_71 ck7 ?_
      obtain ⟨h31, e32, hr⟩ := hlt hr
      refine VW.putI (k := 16) d7_copy_213 (oo_7 q0) rfl fl_7_71 ck7 rfl rfl rfl rfl ?_
      refine VW.heq e32 ?_
      exact VW.vret d7_copy_216 hR (rV hr)
    · replace hr := im hr c14
      refine VW.aload_n d7_copy_97 0 rfl ?_
      refine VW.getR (k := 2) (r := (p0 + 3)) d7_copy_98 (oo_7 q0) rfl fl_7_23 ck7 ?_
      refine VW.iload_n d7_copy_101 2 rfl ?_
      obtain ⟨g33, hr⟩ := gdt hr
      refine VW.aald (z := p0 + 35 + 2 * (ci x2)) d7_copy_102 (rf_7_2 q0) (by decide) (by decide) g33 rfl ?_
      refine VW.aload_n d7_copy_103 1 rfl ?_
      refine VW.getR (k := 2) (r := (p1 + 3)) d7_copy_104 (oo_7 q1) rfl fl_7_23 ck7 ?_
      refine VW.iload_n d7_copy_107 2 rfl ?_
      obtain ⟨g34, hr⟩ := gdt hr
      refine VW.aald (z := p1 + 35 + 2 * (ci x2)) d7_copy_108 (rf_7_2 q1) (by decide) (by decide) g34 rfl ?_
      obtain ⟨h36, e35, hr⟩ := bno hr
      refine VW.callV (As := [.ref (γ.2.2.1 (p1 + 35 + 2 * (ci x2)))]) (st := []) d7_copy_109 mi_0_copy cv_7_86 (oo_0 (re_7_2 q0 (inb_lt g33))) ⟨rfl, rfl⟩ (by decide) (dl1 hd) _ rfl (Nat.le_of_ble_eq_true rfl) rfl (c_0_copy (re_7_2 q0 (inb_lt g33)) (re_7_2 q1 (inb_lt g34)) (dl hd rfl) e35) (kV ?_)
      refine VW.iinc (w := 1) (lo' := [(2, .int (x2 + 1)), (0, .ref (γ.2.2.1 p0)), (1, .ref (γ.2.2.1 p1))]) d7_copy_112 2 rfl ic_1 (by decide) rfl ?_
      refine VW.goto 91 d7_copy_115 (by decide) ?_
      exact VW.sub [1, 2, 0] rfl (ih (x2 + 1) h36 hr)
set_option maxRecDepth 100000 in
set_option maxHeartbeats 4000000 in
theorem s_7_copy_62 {γ : Gm} {ε : En} {dd : Nat} (hd : 2 ≤ dd) {hz : Hp} {p0 : Nat} {p1 : Nat} (q0 : isO 7 p0) (q1 : isO 7 p1) (hR : RT γ ε none (QV hz)) : ∀ (n : Nat) (x2 : Int32) (h : Hp), f_7_copy_62 p0 p1 n x2 h = some hz → VW γ ε cX7_copy RX7 3 dd 62 [(0, .ref (γ.2.2.1 p0)), (1, .ref (γ.2.2.1 p1)), (2, .int x2)] [] h := by
  intro n
  induction n with
  | zero =>
    intro x2 h hr
    exact nf hr
  | succ n ih =>
    intro x2 h hr
    rw [f_7_copy_62] at hr
    refine VW.iload_n d7_copy_62 2 rfl ?_
    refine VW.bipush (v := 10) d7_copy_63 bp_10 ?_
    refine VW.icmp_ge 89 d7_copy_65 (by decide) (fun c13 => ?_) (fun c13 => ?_)
    · replace hr := ip hr c13
      refine VW.iconst (v := 0) d7_copy_89 ic_0 ?_
      refine VW.istore_n (lo' := [(2, .int 0), (0, .ref (γ.2.2.1 p0)), (1, .ref (γ.2.2.1 p1))]) d7_copy_90 (by decide) rfl ?_
      exact VW.sub [1, 2, 0] rfl (s_7_copy_91 hd q0 q1 hR FU 0 h hr)
    · replace hr := im hr c13
      refine VW.aload_n d7_copy_68 0 rfl ?_
      refine VW.getR (k := 1) (r := (p0 + 2)) d7_copy_69 (oo_7 q0) rfl fl_7_17 ck7 ?_
      refine VW.iload_n d7_copy_72 2 rfl ?_
      obtain ⟨g37, hr⟩ := gdt hr
      refine VW.aald (z := p0 + 15 + 2 * (ci x2)) d7_copy_73 (rf_7_1 q0) (by decide) (by decide) g37 rfl ?_
      refine VW.aload_n d7_copy_74 1 rfl ?_
      refine VW.getR (k := 1) (r := (p1 + 2)) d7_copy_75 (oo_7 q1) rfl fl_7_17 ck7 ?_
      refine VW.iload_n d7_copy_78 2 rfl ?_
      obtain ⟨g38, hr⟩ := gdt hr
      refine VW.aald (z := p1 + 15 + 2 * (ci x2)) d7_copy_79 (rf_7_1 q1) (by decide) (by decide) g38 rfl ?_
      obtain ⟨h40, e39, hr⟩ := bno hr
      refine VW.callV (As := [.ref (γ.2.2.1 (p1 + 15 + 2 * (ci x2)))]) (st := []) d7_copy_80 mi_6_copy cv_7_82 (oo_6 (re_7_1 q0 (inb_lt g37))) ⟨rfl, rfl⟩ (by decide) (dl1 hd) _ rfl (Nat.le_of_ble_eq_true rfl) rfl (c_6_copy (re_7_1 q0 (inb_lt g37)) (re_7_1 q1 (inb_lt g38)) (dl hd rfl) e39) (kV ?_)
      refine VW.iinc (w := 1) (lo' := [(2, .int (x2 + 1)), (0, .ref (γ.2.2.1 p0)), (1, .ref (γ.2.2.1 p1))]) d7_copy_83 2 rfl ic_1 (by decide) rfl ?_
      refine VW.goto 62 d7_copy_86 (by decide) ?_
      exact VW.sub [1, 2, 0] rfl (ih (x2 + 1) h40 hr)
set_option maxRecDepth 100000 in
set_option maxHeartbeats 4000000 in
theorem c_7_copy {γ : Gm} {dd : Nat} {p0 : Nat} {p1 : Nat} (q0 : isO 7 p0) (q1 : isO 7 p1) {h : Hp} {hz : Hp} (hd : 2 ≤ dd) (hr : f_7_copy p0 p1 h = some hz) : MC γ dd yX7_copy cX7_copy 3 none [.ref (γ.2.2.1 p0), .ref (γ.2.2.1 p1)] h (QV hz) := by
  unfold f_7_copy at hr
  refine MC.of mi_7_copy (Nat.le_of_ble_eq_true rfl) (fun ε hR => ?_)
  show VW γ ε cX7_copy RX7 3 dd 0 [(0, .ref (γ.2.2.1 p0)), (1, .ref (γ.2.2.1 p1))] [] h
  refine VW.aload_n d7_copy_0 1 rfl ?_
  refine VW.getR (k := 0) (r := (p1 + 1)) d7_copy_1 (oo_7 q1) rfl fl_7_9 ck7 ?_
  refine VW.iconst (v := 0) d7_copy_4 ic_0 ?_
  refine VW.aload_n d7_copy_5 0 rfl ?_
  refine VW.getR (k := 0) (r := (p0 + 1)) d7_copy_6 (oo_7 q0) rfl fl_7_9 ck7 ?_
  refine VW.iconst (v := 0) d7_copy_9 ic_0 ?_
  refine VW.bipush (v := 60) d7_copy_10 bp_60 ?_
  obtain ⟨g1, hr⟩ := gdt hr
  obtain ⟨h2, e3, hr⟩ := hlt hr
  refine VW.copy d7_copy_12 al_7_76 (dl1 hd) (Nat.le_of_ble_eq_true rfl) (rf_7_0 q1) (rf_7_0 q0) g1 ?_
  refine VW.heq e3 ?_
  refine VW.aload_n d7_copy_15 1 rfl ?_
  refine VW.getR (k := 3) (r := (p1 + 4)) d7_copy_16 (oo_7 q1) rfl fl_7_27 ck7 ?_
  refine VW.iconst (v := 0) d7_copy_19 ic_0 ?_
  refine VW.aload_n d7_copy_20 0 rfl ?_
  refine VW.getR (k := 3) (r := (p0 + 4)) d7_copy_21 (oo_7 q0) rfl fl_7_27 ck7 ?_
  refine VW.iconst (v := 0) d7_copy_24 ic_0 ?_
  refine VW.bipush (v := 50) d7_copy_25 bp_50 ?_
  obtain ⟨g4, hr⟩ := gdt hr
  obtain ⟨h5, e6, hr⟩ := hlt hr
  refine VW.copy d7_copy_27 al_7_76 (dl1 hd) (Nat.le_of_ble_eq_true rfl) (rf_7_3 q1) (rf_7_3 q0) g4 ?_
  refine VW.heq e6 ?_
  refine VW.aload_n d7_copy_30 1 rfl ?_
  refine VW.getR (k := 6) (r := (p1 + 11)) d7_copy_31 (oo_7 q1) rfl fl_7_40 ck7 ?_
  refine VW.iconst (v := 0) d7_copy_34 ic_0 ?_
  refine VW.aload_n d7_copy_35 0 rfl ?_
  refine VW.getR (k := 6) (r := (p0 + 11)) d7_copy_36 (oo_7 q0) rfl fl_7_40 ck7 ?_
  refine VW.iconst (v := 0) d7_copy_39 ic_0 ?_
  refine VW.bipush (v := 16) d7_copy_40 bp_16 ?_
  obtain ⟨g7, hr⟩ := gdt hr
  obtain ⟨h8, e9, hr⟩ := hlt hr
  refine VW.copy d7_copy_42 al_7_76 (dl1 hd) (Nat.le_of_ble_eq_true rfl) (rf_7_6 q1) (rf_7_6 q0) g7 ?_
  refine VW.heq e9 ?_
  refine VW.aload_n d7_copy_45 1 rfl ?_
  refine VW.getR (k := 7) (r := (p1 + 12)) d7_copy_46 (oo_7 q1) rfl fl_7_43 ck7 ?_
  refine VW.iconst (v := 0) d7_copy_49 ic_0 ?_
  refine VW.aload_n d7_copy_50 0 rfl ?_
  refine VW.getR (k := 7) (r := (p0 + 12)) d7_copy_51 (oo_7 q0) rfl fl_7_43 ck7 ?_
  refine VW.iconst (v := 0) d7_copy_54 ic_0 ?_
  refine VW.bipush (v := 20) d7_copy_55 bp_20 ?_
  obtain ⟨g10, hr⟩ := gdt hr
  obtain ⟨h11, e12, hr⟩ := hlt hr
  refine VW.copy d7_copy_57 al_7_76 (dl1 hd) (Nat.le_of_ble_eq_true rfl) (rf_7_7 q1) (rf_7_7 q0) g10 ?_
  refine VW.heq e12 ?_
  refine VW.iconst (v := 0) d7_copy_60 ic_0 ?_
  refine VW.istore_n (lo' := [(2, .int 0), (0, .ref (γ.2.2.1 p0)), (1, .ref (γ.2.2.1 p1))]) d7_copy_61 (by decide) rfl ?_
  exact VW.sub [1, 2, 0] rfl (s_7_copy_62 hd q0 q1 hR FU 0 h11 hr)
set_option maxRecDepth 100000 in
set_option maxHeartbeats 4000000 in
theorem c_7_draw {γ : Gm} {dd : Nat} {h : Hp} {r : Int32} {hz : Hp} (hd : 0 ≤ dd) (hr : f_7_draw h = some (r, hz)) : MC γ dd yX7_draw cX7_draw 1 (some .int) [.ref (γ.2.2.1 1)] h (QI r hz) := by
  unfold f_7_draw at hr
  refine MC.of mi_7_draw (Nat.le_of_ble_eq_true rfl) (fun ε hR => ?_)
  show VW γ ε cX7_draw RX7 1 dd 0 [(0, .ref (γ.2.2.1 1))] [] h
  refine VW.aload_n d7_draw_0 0 rfl ?_
  refine VW.aload_n d7_draw_1 0 rfl ?_
  refine VW.getI (k := 16) d7_draw_2 (oo_7 o7_1) rfl fl_7_71 ck7 ?_
  refine VW.ldc (v := 1103515245) d7_draw_5 kc_7_182 ?_
  refine VW.imul d7_draw_7 ?_
  refine VW.sipush (v := 12345) d7_draw_8 sp_12345 ?_
  refine VW.iadd d7_draw_11 ?_
  obtain ⟨h1, e2, hr⟩ := hlt hr
  refine VW.putI (k := 16) d7_draw_12 (oo_7 o7_1) rfl fl_7_71 ck7 rfl rfl rfl rfl ?_
  refine VW.heq e2 ?_
  refine VW.aload_n d7_draw_15 0 rfl ?_
  refine VW.getI (k := 16) d7_draw_16 (oo_7 o7_1) rfl fl_7_71 ck7 ?_
  refine VW.bipush (v := 8) d7_draw_19 bp_8 ?_
  refine VW.iushr d7_draw_21 ?_
  exact VW.iret d7_draw_22 hR (rIw hr)
set_option maxRecDepth 100000 in
set_option maxHeartbeats 4000000 in
theorem c_8_voiceOf {γ : Gm} {dd : Nat} {x0 : Int32} {x1 : Int32} {h : Hp} {r : Int32} (hd : 0 ≤ dd) (hr : f_8_voiceOf x0 x1 = r) : MC γ dd yX8_voiceOf cX8_voiceOf 2 (some .int) [.int x0, .int x1] h (QI r h) := by
  unfold f_8_voiceOf at hr
  refine MC.of mi_8_voiceOf (Nat.le_of_ble_eq_true rfl) (fun ε hR => ?_)
  show VW γ ε cX8_voiceOf RX8 2 dd 0 [(0, .int x0), (1, .int x1)] [] h
  refine VW.iload_n d8_voiceOf_0 0 rfl ?_
  refine VW.iconst (v := 2) d8_voiceOf_1 ic_2 ?_
  refine VW.iconst (v := 3) d8_voiceOf_2 ic_3 ?_
  refine VW.iload_n d8_voiceOf_3 1 rfl ?_
  refine VW.isub d8_voiceOf_4 ?_
  refine VW.imul d8_voiceOf_5 ?_
  refine VW.ishr d8_voiceOf_6 ?_
  refine VW.iconst (v := 3) d8_voiceOf_7 ic_3 ?_
  refine VW.iand d8_voiceOf_8 ?_
  exact VW.iret d8_voiceOf_9 hR (rIt hr)
set_option maxRecDepth 100000 in
set_option maxHeartbeats 4000000 in
theorem s_7_likesOf_7 {γ : Gm} {ε : En} {dd : Nat} (hd : 1 ≤ dd) {r : Int32} {x1 : Int32} {h : Hp} (hR : RT γ ε (some .int) (QI r h)) : ∀ (n : Nat) (x2 : Int32) (x3 : Int32) (x4 : Int32), f_7_likesOf_7 x1 h n x2 x3 x4 = some r → VW γ ε cX7_likesOf RX7 6 dd 7 [(0, .ref (γ.2.2.1 1)), (1, .int x1), (2, .int x2), (3, .int x3), (4, .int x4)] [] h := by
  intro n
  induction n with
  | zero =>
    intro x2 x3 x4 hr
    exact nf hr
  | succ n ih =>
    intro x2 x3 x4 hr
    rw [f_7_likesOf_7] at hr
    refine VW.iload d7_likesOf_7 4 rfl ?_
    refine VW.iconst (v := 4) d7_likesOf_9 ic_4 ?_
    refine VW.icmp_ge 49 d7_likesOf_10 (by decide) (fun c1 => ?_) (fun c1 => ?_)
    · replace hr := ip hr c1
      refine VW.iload_n d7_likesOf_49 3 rfl ?_
      refine VW.bipush (v := 15) d7_likesOf_50 bp_15 ?_
      refine VW.icmp_ne 59 d7_likesOf_52 (by decide) (fun c2 => ?_) (fun c2 => ?_)
      · replace hr := ip hr c2
        refine VW.iload_n d7_likesOf_55 2 rfl ?_
        refine VW.goto 60 d7_likesOf_56 (by decide) ?_
        exact VW.iret d7_likesOf_60 hR (rIf hr)
      · replace hr := im hr c2
        refine VW.iconst (v := (-1)) d7_likesOf_59 ic_m1 ?_
        exact VW.iret d7_likesOf_60 hR (rIf hr)
    · replace hr := im hr c1
      refine VW.iload_n d7_likesOf_13 1 rfl ?_
      refine VW.iload d7_likesOf_14 4 rfl ?_
      refine VW.callN (As := [.int x1, .int x4]) (st := []) d7_likesOf_16 mi_8_voiceOf cn_7_183 (by decide) (dl1 hd) _ rfl (Nat.le_of_ble_eq_true rfl) rfl (c_8_voiceOf (dl hd rfl) rfl) (kI ?_)
      refine VW.istore (lo' := [(5, .int (f_8_voiceOf x1 x4)), (0, .ref (γ.2.2.1 1)), (1, .int x1), (2, .int x2), (3, .int x3), (4, .int x4)]) d7_likesOf_19 (by decide) rfl ?_
      refine VW.iload_n d7_likesOf_21 3 rfl ?_
      refine VW.aload_n d7_likesOf_22 1 rfl ?_
      refine VW.getR (k := 6) (r := 12) d7_likesOf_23 (oo_7 o7_1) rfl fl_7_40 ck7 ?_
      refine VW.iconst (v := 4) d7_likesOf_26 ic_4 ?_
      refine VW.iload d7_likesOf_27 5 rfl ?_
      refine VW.imul d7_likesOf_29 ?_
      refine VW.iload d7_likesOf_30 0 rfl ?_
      refine VW.iadd d7_likesOf_32 ?_
      obtain ⟨g3, hr⟩ := gdt hr
      refine VW.iald (j := (ci ((4 * x4) + (f_8_voiceOf x1 x4)))) d7_likesOf_33 (rf_7_6 o7_1) g3 rfl ?_
      refine VW.iadd d7_likesOf_34 ?_
      refine VW.istore_n (lo' := [(2, .int (x2 + (h 12 (ci ((4 * x4) + (f_8_voiceOf x1 x4)))))), (5, .int (f_8_voiceOf x1 x4)), (0, .ref (γ.2.2.1 1)), (1, .int x1), (3, .int x3), (4, .int x4)]) d7_likesOf_35 (by decide) rfl ?_
      refine VW.iload_n d7_likesOf_36 4 rfl ?_
      refine VW.iconst (v := 1) d7_likesOf_37 ic_1 ?_
      refine VW.iload d7_likesOf_38 1 rfl ?_
      refine VW.ishl d7_likesOf_40 ?_
      refine VW.ior d7_likesOf_41 ?_
      refine VW.istore_n (lo' := [(3, .int (x3 ||| (1 <<< ((f_8_voiceOf x1 x4) &&& 31)))), (2, .int (x2 + (h 12 (ci ((4 * x4) + (f_8_voiceOf x1 x4)))))), (5, .int (f_8_voiceOf x1 x4)), (0, .ref (γ.2.2.1 1)), (1, .int x1), (4, .int x4)]) d7_likesOf_42 (by decide) rfl ?_
      refine VW.iinc (w := 1) (lo' := [(4, .int (x4 + 1)), (3, .int (x3 ||| (1 <<< ((f_8_voiceOf x1 x4) &&& 31)))), (2, .int (x2 + (h 12 (ci ((4 * x4) + (f_8_voiceOf x1 x4)))))), (5, .int (f_8_voiceOf x1 x4)), (0, .ref (γ.2.2.1 1)), (1, .int x1)]) d7_likesOf_43 5 rfl ic_1 (by decide) rfl ?_
      refine VW.goto 7 d7_likesOf_46 (by decide) ?_
      exact VW.sub [4, 5, 2, 1, 0] rfl (ih (x2 + (h 12 (ci ((4 * x4) + (f_8_voiceOf x1 x4))))) (x3 ||| (1 <<< ((f_8_voiceOf x1 x4) &&& 31))) (x4 + 1) hr)
set_option maxRecDepth 100000 in
set_option maxHeartbeats 4000000 in
theorem c_7_likesOf {γ : Gm} {dd : Nat} {x1 : Int32} {h : Hp} {r : Int32} (hd : 1 ≤ dd) (hr : f_7_likesOf x1 h = some r) : MC γ dd yX7_likesOf cX7_likesOf 6 (some .int) [.ref (γ.2.2.1 1), .int x1] h (QI r h) := by
  unfold f_7_likesOf at hr
  refine MC.of mi_7_likesOf (Nat.le_of_ble_eq_true rfl) (fun ε hR => ?_)
  show VW γ ε cX7_likesOf RX7 6 dd 0 [(0, .ref (γ.2.2.1 1)), (1, .int x1)] [] h
  refine VW.iconst (v := 0) d7_likesOf_0 ic_0 ?_
  refine VW.istore_n (lo' := [(2, .int 0), (0, .ref (γ.2.2.1 1)), (1, .int x1)]) d7_likesOf_1 (by decide) rfl ?_
  refine VW.iconst (v := 0) d7_likesOf_2 ic_0 ?_
  refine VW.istore_n (lo' := [(3, .int 0), (2, .int 0), (0, .ref (γ.2.2.1 1)), (1, .int x1)]) d7_likesOf_3 (by decide) rfl ?_
  refine VW.iconst (v := 0) d7_likesOf_4 ic_0 ?_
  refine VW.istore (lo' := [(4, .int 0), (3, .int 0), (2, .int 0), (0, .ref (γ.2.2.1 1)), (1, .int x1)]) d7_likesOf_5 (by decide) rfl ?_
  exact VW.sub [3, 4, 2, 1, 0] rfl (s_7_likesOf_7 hd hR FU 0 0 0 hr)
set_option maxRecDepth 100000 in
set_option maxHeartbeats 4000000 in
theorem s_7_loss_4 {γ : Gm} {ε : En} {dd : Nat} (hd : 2 ≤ dd) {r : Int32} {p1 : Nat} (q1 : isO 0 p1) {h : Hp} (hR : RT γ ε (some .int) (QI r h)) : ∀ (n : Nat) (x2 : Int32) (x3 : Int32), f_7_loss_4 p1 h n x2 x3 = some r → VW γ ε cX7_loss RX7 4 dd 4 [(0, .ref (γ.2.2.1 1)), (1, .ref (γ.2.2.1 p1)), (2, .int x2), (3, .int x3)] [] h := by
  intro n
  induction n with
  | zero =>
    intro x2 x3 hr
    exact nf hr
  | succ n ih =>
    intro x2 x3 hr
    rw [f_7_loss_4] at hr
    refine VW.iload_n d7_loss_4 3 rfl ?_
    refine VW.aload_n d7_loss_5 1 rfl ?_
    refine VW.getI (k := 1) d7_loss_6 (oo_0 q1) rfl fl_7_138 ck0 ?_
    refine VW.icmp_ge 34 d7_loss_9 (by decide) (fun c1 => ?_) (fun c1 => ?_)
    · replace hr := ip hr c1
      refine VW.iconst (v := 0) d7_loss_34 ic_0 ?_
      refine VW.aload_n d7_loss_35 1 rfl ?_
      refine VW.getI (k := 6) d7_loss_36 (oo_0 q1) rfl fl_7_165 ck0 ?_
      refine VW.iload_n d7_loss_39 2 rfl ?_
      refine VW.isub d7_loss_40 ?_
      refine VW.mmax d7_loss_41 jl_7_113 (dl1 hd) (Nat.le_of_ble_eq_true rfl) ?_
      exact VW.iret d7_loss_44 hR (rIf hr)
    · replace hr := im hr c1
      refine VW.iload_n d7_loss_12 2 rfl ?_
      refine VW.aload_n d7_loss_13 0 rfl ?_
      refine VW.aload_n d7_loss_14 1 rfl ?_
      refine VW.getR (k := 0) (r := (p1 + 1)) d7_loss_15 (oo_0 q1) rfl fl_7_139 ck0 ?_
      refine VW.iload_n d7_loss_18 3 rfl ?_
      obtain ⟨g2, hr⟩ := gdt hr
      refine VW.iald (j := (ci x3)) d7_loss_19 (rf_0_0 q1) g2 rfl ?_
      obtain ⟨r4, e3, hr⟩ := bno hr
      refine VW.callV (As := [.int (h (p1 + 1) (ci x3))]) (st := [.int x2]) d7_loss_20 mi_7_wordAt cv_7_142 (oo_7 o7_1) ⟨rfl, rfl⟩ (by decide) (dl1 hd) _ rfl (Nat.le_of_ble_eq_true rfl) rfl (c_7_wordAt (dl hd rfl) e3) (kR ?_)
      refine VW.getI (k := 3) d7_loss_23 (oo_6 (co_7_wordAt (h (p1 + 1) (ci x3)) e3)) rfl fl_7_162 ck6 ?_
      refine VW.iadd d7_loss_26 ?_
      refine VW.istore_n (lo' := [(2, .int (x2 + (h r4 3))), (0, .ref (γ.2.2.1 1)), (1, .ref (γ.2.2.1 p1)), (3, .int x3)]) d7_loss_27 (by decide) rfl ?_
      refine VW.iinc (w := 1) (lo' := [(3, .int (x3 + 1)), (2, .int (x2 + (h r4 3))), (0, .ref (γ.2.2.1 1)), (1, .ref (γ.2.2.1 p1))]) d7_loss_28 3 rfl ic_1 (by decide) rfl ?_
      refine VW.goto 4 d7_loss_31 (by decide) ?_
      exact VW.sub [2, 3, 1, 0] rfl (ih (x2 + (h r4 3)) (x3 + 1) hr)
set_option maxRecDepth 100000 in
set_option maxHeartbeats 4000000 in
theorem c_7_loss {γ : Gm} {dd : Nat} {p1 : Nat} (q1 : isO 0 p1) {h : Hp} {r : Int32} (hd : 2 ≤ dd) (hr : f_7_loss p1 h = some r) : MC γ dd yX7_loss cX7_loss 4 (some .int) [.ref (γ.2.2.1 1), .ref (γ.2.2.1 p1)] h (QI r h) := by
  unfold f_7_loss at hr
  refine MC.of mi_7_loss (Nat.le_of_ble_eq_true rfl) (fun ε hR => ?_)
  show VW γ ε cX7_loss RX7 4 dd 0 [(0, .ref (γ.2.2.1 1)), (1, .ref (γ.2.2.1 p1))] [] h
  refine VW.iconst (v := 0) d7_loss_0 ic_0 ?_
  refine VW.istore_n (lo' := [(2, .int 0), (0, .ref (γ.2.2.1 1)), (1, .ref (γ.2.2.1 p1))]) d7_loss_1 (by decide) rfl ?_
  refine VW.iconst (v := 0) d7_loss_2 ic_0 ?_
  refine VW.istore_n (lo' := [(3, .int 0), (2, .int 0), (0, .ref (γ.2.2.1 1)), (1, .ref (γ.2.2.1 p1))]) d7_loss_3 (by decide) rfl ?_
  exact VW.sub [2, 3, 1, 0] rfl (s_7_loss_4 hd q1 hR FU 0 0 hr)
set_option maxRecDepth 100000 in
set_option maxHeartbeats 4000000 in
theorem s_7_lossOfAll_4 {γ : Gm} {ε : En} {dd : Nat} (hd : 3 ≤ dd) {r : Int32} {h : Hp} (hR : RT γ ε (some .int) (QI r h)) : ∀ (n : Nat) (x1 : Int32) (x2 : Int32), f_7_lossOfAll_4 h n x1 x2 = some r → VW γ ε cX7_lossOfAll RX7 3 dd 4 [(0, .ref (γ.2.2.1 1)), (1, .int x1), (2, .int x2)] [] h := by
  intro n
  induction n with
  | zero =>
    intro x1 x2 hr
    exact nf hr
  | succ n ih =>
    intro x1 x2 hr
    rw [f_7_lossOfAll_4] at hr
    refine VW.iload_n d7_lossOfAll_4 2 rfl ?_
    refine VW.aload_n d7_lossOfAll_5 0 rfl ?_
    refine VW.getI (k := 11) d7_lossOfAll_6 (oo_7 o7_1) rfl fl_7_56 ck7 ?_
    refine VW.icmp_ge 31 d7_lossOfAll_9 (by decide) (fun c1 => ?_) (fun c1 => ?_)
    · replace hr := ip hr c1
      refine VW.iload_n d7_lossOfAll_31 1 rfl ?_
      exact VW.iret d7_lossOfAll_32 hR (rIf hr)
    · replace hr := im hr c1
      refine VW.iload_n d7_lossOfAll_12 1 rfl ?_
      refine VW.aload_n d7_lossOfAll_13 0 rfl ?_
      refine VW.aload_n d7_lossOfAll_14 0 rfl ?_
      refine VW.getR (k := 2) (r := 4) d7_lossOfAll_15 (oo_7 o7_1) rfl fl_7_23 ck7 ?_
      refine VW.iload_n d7_lossOfAll_18 2 rfl ?_
      obtain ⟨g2, hr⟩ := gdt hr
      refine VW.aald (z := 36 + 2 * (ci x2)) d7_lossOfAll_19 (rf_7_2 o7_1) (by decide) (by decide) g2 rfl ?_
      obtain ⟨r4, e3, hr⟩ := bno hr
      refine VW.callV (As := [.ref (γ.2.2.1 (36 + 2 * (ci x2)))]) (st := [.int x1]) d7_lossOfAll_20 mi_7_loss cv_7_172 (oo_7 o7_1) ⟨rfl, rfl⟩ (by decide) (dl1 hd) _ rfl (Nat.le_of_ble_eq_true rfl) rfl (c_7_loss (re_7_2 o7_1 (inb_lt g2)) (dl hd rfl) e3) (kI ?_)
      refine VW.iadd d7_lossOfAll_23 ?_
      refine VW.istore_n (lo' := [(1, .int (x1 + r4)), (0, .ref (γ.2.2.1 1)), (2, .int x2)]) d7_lossOfAll_24 (by decide) rfl ?_
      refine VW.iinc (w := 1) (lo' := [(2, .int (x2 + 1)), (1, .int (x1 + r4)), (0, .ref (γ.2.2.1 1))]) d7_lossOfAll_25 2 rfl ic_1 (by decide) rfl ?_
      refine VW.goto 4 d7_lossOfAll_28 (by decide) ?_
      exact VW.sub [2, 1, 0] rfl (ih (x1 + r4) (x2 + 1) hr)
set_option maxRecDepth 100000 in
set_option maxHeartbeats 4000000 in
theorem c_7_lossOfAll {γ : Gm} {dd : Nat} {h : Hp} {r : Int32} (hd : 3 ≤ dd) (hr : f_7_lossOfAll h = some r) : MC γ dd yX7_lossOfAll cX7_lossOfAll 3 (some .int) [.ref (γ.2.2.1 1)] h (QI r h) := by
  unfold f_7_lossOfAll at hr
  refine MC.of mi_7_lossOfAll (Nat.le_of_ble_eq_true rfl) (fun ε hR => ?_)
  show VW γ ε cX7_lossOfAll RX7 3 dd 0 [(0, .ref (γ.2.2.1 1))] [] h
  refine VW.iconst (v := 0) d7_lossOfAll_0 ic_0 ?_
  refine VW.istore_n (lo' := [(1, .int 0), (0, .ref (γ.2.2.1 1))]) d7_lossOfAll_1 (by decide) rfl ?_
  refine VW.iconst (v := 0) d7_lossOfAll_2 ic_0 ?_
  refine VW.istore_n (lo' := [(2, .int 0), (1, .int 0), (0, .ref (γ.2.2.1 1))]) d7_lossOfAll_3 (by decide) rfl ?_
  exact VW.sub [2, 1, 0] rfl (s_7_lossOfAll_4 hd hR FU 0 0 hr)
set_option maxRecDepth 100000 in
set_option maxHeartbeats 4000000 in
theorem c_7_noticeBy {γ : Gm} {dd : Nat} {x1 : Int32} {x2 : Int32} {x3 : Int32} {h : Hp} {r : Int32} {hz : Hp} (hd : 2 ≤ dd) (hr : f_7_noticeBy x1 x2 x3 h = some (r, hz)) : MC γ dd yX7_noticeBy cX7_noticeBy 4 (some .int) [.ref (γ.2.2.1 1), .int x1, .int x2, .int x3] h (QI r hz) := by
  unfold f_7_noticeBy at hr
  refine MC.of mi_7_noticeBy (Nat.le_of_ble_eq_true rfl) (fun ε hR => ?_)
  show VW γ ε cX7_noticeBy RX7 4 dd 0 [(0, .ref (γ.2.2.1 1)), (1, .int x1), (2, .int x2), (3, .int x3)] [] h
  refine VW.aload_n d7_noticeBy_0 0 rfl ?_
  refine VW.getR (k := 5) (r := 9) d7_noticeBy_1 (oo_7 o7_1) rfl fl_7_37 ck7 ?_
  refine VW.getI (k := 2) d7_noticeBy_4 (oo_5 (rf_7_5 o7_1)) rfl fl_7_92 ck5 ?_
  refine VW.if_le 21 d7_noticeBy_7 (by decide) (fun c1 => ?_) (fun c1 => ?_)
  · replace hr := ip hr c1
    refine VW.iload_n d7_noticeBy_21 1 rfl ?_
    refine VW.iconst (v := 3) d7_noticeBy_22 ic_3 ?_
    refine VW.iload_n d7_noticeBy_23 3 rfl ?_
    refine VW.bipush (v := 10) d7_noticeBy_24 bp_10 ?_
    refine VW.idiv d7_noticeBy_26 (by decide) ?_
    refine VW.iadd d7_noticeBy_27 ?_
    refine VW.icmp_le 35 d7_noticeBy_28 (by decide) (fun c2 => ?_) (fun c2 => ?_)
    · replace hr := ip hr c2
      refine VW.iconst (v := 0) d7_noticeBy_35 ic_0 ?_
      exact VW.iret d7_noticeBy_36 hR (rIw hr)
    · replace hr := im hr c2
      refine VW.iconst (v := 1) d7_noticeBy_31 ic_1 ?_
      refine VW.goto 36 d7_noticeBy_32 (by decide) ?_
      exact VW.iret d7_noticeBy_36 hR (rIw hr)
  · replace hr := im hr c1
    refine VW.aload_n d7_noticeBy_10 0 rfl ?_
    refine VW.getR (k := 5) (r := 9) d7_noticeBy_11 (oo_7 o7_1) rfl fl_7_37 ck7 ?_
    refine VW.iload_n d7_noticeBy_14 1 rfl ?_
    refine VW.iload_n d7_noticeBy_15 2 rfl ?_
    refine VW.iload_n d7_noticeBy_16 3 rfl ?_
    obtain ⟨r4, h5, e3, hr⟩ := bno2 hr
    refine VW.callV (As := [.int x1, .int x2, .int x3]) (st := []) d7_noticeBy_17 mi_5_run cv_7_103 (oo_5 (rf_7_5 o7_1)) ⟨rfl, rfl⟩ (by decide) (dl1 hd) _ rfl (Nat.le_of_ble_eq_true rfl) rfl (c_5_run (rf_7_5 o7_1) (dl hd rfl) e3) (kI ?_)
    exact VW.iret d7_noticeBy_20 hR (rIw hr)
set_option maxRecDepth 100000 in
set_option maxHeartbeats 4000000 in
theorem s_7_matinee_2 {γ : Gm} {ε : En} {dd : Nat} (hd : 3 ≤ dd) {hz : Hp} (hR : RT γ ε none (QV hz)) : ∀ (n : Nat) (x1 : Int32) (h : Hp), f_7_matinee_2 n x1 h = some hz → VW γ ε cX7_matinee RX7 3 dd 2 [(0, .ref (γ.2.2.1 1)), (1, .int x1)] [] h := by
  intro n
  induction n with
  | zero =>
    intro x1 h hr
    exact nf hr
  | succ n ih =>
    intro x1 h hr
    rw [f_7_matinee_2] at hr
    refine VW.iload_n d7_matinee_2 1 rfl ?_
    refine VW.aload_n d7_matinee_3 0 rfl ?_
    refine VW.getI (k := 11) d7_matinee_4 (oo_7 o7_1) rfl fl_7_56 ck7 ?_
    refine VW.icmp_ge 78 d7_matinee_7 (by decide) (fun c1 => ?_) (fun c1 => ?_)
    · replace hr := ip hr c1
      refine VW.aload_n d7_matinee_78 0 rfl ?_
      refine VW.dup d7_matinee_79 rfl ?_
      refine VW.getI (k := 14) d7_matinee_80 (oo_7 o7_1) rfl fl_7_65 ck7 ?_
      refine VW.iconst (v := 1) d7_matinee_83 ic_1 ?_
      refine VW.iadd d7_matinee_84 ?_
      obtain ⟨h2, e3, hr⟩ := hlt hr
      refine VW.putI (k := 14) d7_matinee_85 (oo_7 o7_1) rfl fl_7_65 ck7 rfl rfl rfl rfl ?_
      refine VW.heq e3 ?_
      exact VW.vret d7_matinee_88 hR (rV hr)
    · replace hr := im hr c1
      refine VW.aload_n d7_matinee_10 0 rfl ?_
      obtain ⟨r5, h6, e4, hr⟩ := bno2 hr
      refine VW.callV (As := []) (st := []) d7_matinee_11 mi_7_draw cv_7_178 (oo_7 o7_1) ⟨rfl, rfl⟩ (by decide) (dl1 hd) _ rfl (Nat.le_of_ble_eq_true rfl) rfl (c_7_draw (dl hd rfl) e4) (kI ?_)
      refine VW.iconst (v := 4) d7_matinee_14 ic_4 ?_
      refine VW.irem d7_matinee_15 (by decide) ?_
      refine VW.if_eq 23 d7_matinee_16 (by decide) (fun c7 => ?_) (fun c7 => ?_)
      · replace hr := ip hr c7
        refine VW.iconst (v := 0) d7_matinee_23 ic_0 ?_
        refine VW.istore_n (lo' := [(2, .int 0), (0, .ref (γ.2.2.1 1)), (1, .int x1)]) d7_matinee_24 (by decide) rfl ?_
        refine VW.iload_n d7_matinee_25 0 rfl ?_
        refine VW.if_eq 72 d7_matinee_26 (by decide) (fun c8 => ?_) (fun c8 => ?_)
        · skip
          refine VW.iinc (w := 1) (lo' := [(1, .int (x1 + 1)), (2, .int 0), (0, .ref (γ.2.2.1 1))]) d7_matinee_72 2 rfl ic_1 (by decide) rfl ?_
          refine VW.goto 2 d7_matinee_75 (by decide) ?_
          exact VW.sub [2, 0] rfl (ih (x1 + 1) h6 hr)
        · exact (c8 (by decide)).elim
      · replace hr := im hr c7
        refine VW.iconst (v := 1) d7_matinee_19 ic_1 ?_
        refine VW.goto 24 d7_matinee_20 (by decide) ?_
        refine VW.istore_n (lo' := [(2, .int 1), (0, .ref (γ.2.2.1 1)), (1, .int x1)]) d7_matinee_24 (by decide) rfl ?_
        refine VW.iload_n d7_matinee_25 0 rfl ?_
        refine VW.if_eq 72 d7_matinee_26 (by decide) (fun c9 => ?_) (fun c9 => ?_)
        · exact absurd c9 (by decide)
        · skip
          refine VW.aload_n d7_matinee_29 1 rfl ?_
          refine VW.getI (k := 15) d7_matinee_30 (oo_7 o7_1) rfl fl_7_68 ck7 ?_
          refine VW.sipush (v := 9999) d7_matinee_33 sp_9999 ?_
          refine VW.icmp_ge 72 d7_matinee_36 (by decide) (fun c10 => ?_) (fun c10 => ?_)
          · replace hr := ip hr c10
            refine VW.iinc (w := 1) (lo' := [(1, .int (x1 + 1)), (2, .int 1), (0, .ref (γ.2.2.1 1))]) d7_matinee_72 2 rfl ic_1 (by decide) rfl ?_
            refine VW.goto 2 d7_matinee_75 (by decide) ?_
            exact VW.sub [2, 0] rfl (ih (x1 + 1) h6 hr)
          · replace hr := im hr c10
            refine VW.aload_n d7_matinee_39 1 rfl ?_
            refine VW.aload_n d7_matinee_40 1 rfl ?_
            refine VW.getR (k := 8) (r := 14) d7_matinee_41 (oo_7 o7_1) rfl fl_7_46 ck7 ?_
            refine VW.iload_n d7_matinee_44 2 rfl ?_
            obtain ⟨g11, hr⟩ := gdt hr
            refine VW.iald (j := (ci x1)) d7_matinee_45 (rf_7_8 o7_1) g11 rfl ?_
            refine VW.aload_n d7_matinee_46 1 rfl ?_
            refine VW.getR (k := 9) (r := 15) d7_matinee_47 (oo_7 o7_1) rfl fl_7_49 ck7 ?_
            refine VW.iload_n d7_matinee_50 2 rfl ?_
            obtain ⟨g12, hr⟩ := gdt hr
            refine VW.iald (j := (ci x1)) d7_matinee_51 (rf_7_9 o7_1) g12 rfl ?_
            refine VW.aload_n d7_matinee_52 1 rfl ?_
            refine VW.getI (k := 14) d7_matinee_53 (oo_7 o7_1) rfl fl_7_65 ck7 ?_
            obtain ⟨r14, h15, e13, hr⟩ := bno2 hr
            refine VW.callV (As := [.int (h6 14 (ci x1)), .int (h6 15 (ci x1)), .int (h6 1 14)]) (st := []) d7_matinee_56 mi_7_noticeBy cv_7_175 (oo_7 o7_1) ⟨rfl, rfl⟩ (by decide) (dl1 hd) _ rfl (Nat.le_of_ble_eq_true rfl) rfl (c_7_noticeBy (dl hd rfl) e13) (kI ?_)
            refine VW.if_eq 72 d7_matinee_59 (by decide) (fun c16 => ?_) (fun c16 => ?_)
            · replace hr := ip hr c16
              refine VW.iinc (w := 1) (lo' := [(1, .int (x1 + 1)), (2, .int 1), (0, .ref (γ.2.2.1 1))]) d7_matinee_72 2 rfl ic_1 (by decide) rfl ?_
              refine VW.goto 2 d7_matinee_75 (by decide) ?_
              exact VW.sub [2, 0] rfl (ih (x1 + 1) h15 hr)
            · replace hr := im hr c16
              refine VW.aload_n d7_matinee_62 1 rfl ?_
              refine VW.dup d7_matinee_63 rfl ?_
              refine VW.getI (k := 15) d7_matinee_64 (oo_7 o7_1) rfl fl_7_68 ck7 ?_
              refine VW.iconst (v := 1) d7_matinee_67 ic_1 ?_
              refine VW.iadd d7_matinee_68 ?_
              obtain ⟨h17, e18, hr⟩ := hlt hr
              refine VW.putI (k := 15) d7_matinee_69 (oo_7 o7_1) rfl fl_7_68 ck7 rfl rfl rfl rfl ?_
              refine VW.heq e18 ?_
              refine VW.iinc (w := 1) (lo' := [(1, .int (x1 + 1)), (2, .int 1), (0, .ref (γ.2.2.1 1))]) d7_matinee_72 2 rfl ic_1 (by decide) rfl ?_
              refine VW.goto 2 d7_matinee_75 (by decide) ?_
              exact VW.sub [2, 0] rfl (ih (x1 + 1) h17 hr)
set_option maxRecDepth 100000 in
set_option maxHeartbeats 4000000 in
theorem c_7_matinee {γ : Gm} {dd : Nat} {h : Hp} {hz : Hp} (hd : 3 ≤ dd) (hr : f_7_matinee h = some hz) : MC γ dd yX7_matinee cX7_matinee 3 none [.ref (γ.2.2.1 1)] h (QV hz) := by
  unfold f_7_matinee at hr
  refine MC.of mi_7_matinee (Nat.le_of_ble_eq_true rfl) (fun ε hR => ?_)
  show VW γ ε cX7_matinee RX7 3 dd 0 [(0, .ref (γ.2.2.1 1))] [] h
  refine VW.iconst (v := 0) d7_matinee_0 ic_0 ?_
  refine VW.istore_n (lo' := [(1, .int 0), (0, .ref (γ.2.2.1 1))]) d7_matinee_1 (by decide) rfl ?_
  exact VW.sub [1, 0] rfl (s_7_matinee_2 hd hR FU 0 h hr)
