set_option maxRecDepth 100000 in
set_option maxHeartbeats 4000000 in
theorem c_9_line {γ : Gm} {dd : Nat} {x1 : Int32} {x2 : Int32} {x3 : Int32} {h : Hp} {r : Int32} {hz : Hp} (hd : 1 ≤ dd) (hr : f_9_line x1 x2 x3 h = some (r, hz)) : MC γ dd yX9_line cX9_line 5 (some .int) [.ref (γ.2.2.1 114), .int x1, .int x2, .int x3] h (QI r hz) := by
  unfold f_9_line at hr
  refine MC.of mi_9_line (Nat.le_of_ble_eq_true rfl) (fun ε hR => ?_)
  show VW γ ε cX9_line RX9 5 dd 0 [(0, .ref (γ.2.2.1 114)), (1, .int x1), (2, .int x2), (3, .int x3)] [] h
  refine VW.iload_n d9_line_0 1 rfl ?_
  refine VW.i2l d9_line_1 ?_
  refine VW.lconst (v := 0) d9_line_2 (by decide) ?_
  refine VW.ldc2 (v := 69) d9_line_3 kc_9_176 ?_
  refine VW.callS (As := [.long (Int32.toInt64 x1), .long 0, .long 69]) (st := []) d9_line_6 mi_9_in cs_9_44 (by decide) (dl1 hd) _ rfl (Nat.le_of_ble_eq_true rfl) rfl (c_9_in (dl hd rfl) rfl) (kI ?_)
  refine VW.if_eq 44 d9_line_9 (by decide) (fun c1 => ?_) (fun c1 => ?_)
  · replace hr := ip hr c1
    refine VW.aload_n d9_line_44 0 rfl ?_
    refine VW.iconst (v := 1) d9_line_45 ic_1 ?_
    obtain ⟨r3, h4, e2, hr⟩ := bno2 hr
    refine VW.callV (As := [.int 1]) (st := []) d9_line_46 mi_9_finds cv_9_107 (oo_9 o9_114) ⟨rfl, rfl⟩ (by decide) (dl1 hd) _ rfl (Nat.le_of_ble_eq_true rfl) rfl (c_9_finds (dl hd rfl) e2) (kI ?_)
    exact VW.iret d9_line_49 hR (rIw hr)
  · replace hr := im hr c1
    refine VW.iload_n d9_line_12 2 rfl ?_
    refine VW.i2l d9_line_13 ?_
    refine VW.lconst (v := 0) d9_line_14 (by decide) ?_
    refine VW.ldc2 (v := 59) d9_line_15 kc_9_123 ?_
    refine VW.callS (As := [.long (Int32.toInt64 x2), .long 0, .long 59]) (st := []) d9_line_18 mi_9_in cs_9_44 (by decide) (dl1 hd) _ rfl (Nat.le_of_ble_eq_true rfl) rfl (c_9_in (dl hd rfl) rfl) (kI ?_)
    refine VW.if_eq 44 d9_line_21 (by decide) (fun c5 => ?_) (fun c5 => ?_)
    · replace hr := ip hr c5
      refine VW.aload_n d9_line_44 0 rfl ?_
      refine VW.iconst (v := 1) d9_line_45 ic_1 ?_
      obtain ⟨r7, h8, e6, hr⟩ := bno2 hr
      refine VW.callV (As := [.int 1]) (st := []) d9_line_46 mi_9_finds cv_9_107 (oo_9 o9_114) ⟨rfl, rfl⟩ (by decide) (dl1 hd) _ rfl (Nat.le_of_ble_eq_true rfl) rfl (c_9_finds (dl hd rfl) e6) (kI ?_)
      exact VW.iret d9_line_49 hR (rIw hr)
    · replace hr := im hr c5
      refine VW.iload_n d9_line_24 3 rfl ?_
      refine VW.i2l d9_line_25 ?_
      refine VW.lconst (v := 1) d9_line_26 (by decide) ?_
      refine VW.ldc2 (v := 15) d9_line_27 kc_9_178 ?_
      refine VW.callS (As := [.long (Int32.toInt64 x3), .long 1, .long 15]) (st := []) d9_line_30 mi_9_in cs_9_44 (by decide) (dl1 hd) _ rfl (Nat.le_of_ble_eq_true rfl) rfl (c_9_in (dl hd rfl) rfl) (kI ?_)
      refine VW.if_eq 44 d9_line_33 (by decide) (fun c9 => ?_) (fun c9 => ?_)
      · replace hr := ip hr c9
        refine VW.aload_n d9_line_44 0 rfl ?_
        refine VW.iconst (v := 1) d9_line_45 ic_1 ?_
        obtain ⟨r11, h12, e10, hr⟩ := bno2 hr
        refine VW.callV (As := [.int 1]) (st := []) d9_line_46 mi_9_finds cv_9_107 (oo_9 o9_114) ⟨rfl, rfl⟩ (by decide) (dl1 hd) _ rfl (Nat.le_of_ble_eq_true rfl) rfl (c_9_finds (dl hd rfl) e10) (kI ?_)
        exact VW.iret d9_line_49 hR (rIw hr)
      · replace hr := im hr c9
        refine VW.iload_n d9_line_36 2 rfl ?_
        refine VW.iload_n d9_line_37 3 rfl ?_
        refine VW.iadd d9_line_38 ?_
        refine VW.bipush (v := 60) d9_line_39 bp_60 ?_
        refine VW.icmp_le 50 d9_line_41 (by decide) (fun c13 => ?_) (fun c13 => ?_)
        · replace hr := ip hr c13
          refine VW.aload_n d9_line_50 0 rfl ?_
          refine VW.getR (k := 0) (r := 115) d9_line_51 (oo_9 o9_114) rfl fl_9_7 ck9 ?_
          refine VW.iconst (v := 1) d9_line_54 ic_1 ?_
          refine VW.iald (j := 1) d9_line_55 (rf_9_0 o9_114) ib_1_380 il_1 ?_
          refine VW.bipush (v := 6) d9_line_56 bp_6 ?_
          refine VW.icmp_ne 67 d9_line_58 (by decide) (fun c14 => ?_) (fun c14 => ?_)
          · replace hr := ip hr c14
            refine VW.aload_n d9_line_61 0 rfl ?_
            refine VW.iconst (v := 4) d9_line_62 ic_4 ?_
            obtain ⟨r16, h17, e15, hr⟩ := bno2 hr
            refine VW.callV (As := [.int 4]) (st := []) d9_line_63 mi_9_finds cv_9_107 (oo_9 o9_114) ⟨rfl, rfl⟩ (by decide) (dl1 hd) _ rfl (Nat.le_of_ble_eq_true rfl) rfl (c_9_finds (dl hd rfl) e15) (kI ?_)
            exact VW.iret d9_line_66 hR (rIw hr)
          · replace hr := im hr c14
            refine VW.aload_n d9_line_67 0 rfl ?_
            refine VW.getR (k := 0) (r := 115) d9_line_68 (oo_9 o9_114) rfl fl_9_7 ck9 ?_
            refine VW.iconst (v := 1) d9_line_71 ic_1 ?_
            refine VW.iald (j := 1) d9_line_72 (rf_9_0 o9_114) ib_1_380 il_1 ?_
            refine VW.istore (lo' := [(4, .int (h 115 1)), (0, .ref (γ.2.2.1 114)), (1, .int x1), (2, .int x2), (3, .int x3)]) d9_line_73 (by decide) rfl ?_
            refine VW.aload_n d9_line_75 1 rfl ?_
            refine VW.getR (k := 0) (r := 115) d9_line_76 (oo_9 o9_114) rfl fl_9_7 ck9 ?_
            refine VW.iconst (v := 1) d9_line_79 ic_1 ?_
            refine VW.dup2 d9_line_80 rfl rfl ?_
            refine VW.iald (j := 1) d9_line_81 (rf_9_0 o9_114) ib_1_380 il_1 ?_
            refine VW.iconst (v := 1) d9_line_82 ic_1 ?_
            refine VW.iadd d9_line_83 ?_
            obtain ⟨h18, e19, hr⟩ := hlt hr
            refine VW.iast (j := 1) d9_line_84 (rf_9_0 o9_114) ib_1_380 il_1 ?_
            refine VW.heq e19 ?_
            refine VW.aload_n d9_line_85 1 rfl ?_
            refine VW.iload d9_line_86 0 rfl ?_
            refine VW.iconst (v := 0) d9_line_88 ic_0 ?_
            refine VW.iload_n d9_line_89 2 rfl ?_
            refine VW.bipush (v := 10) d9_line_90 bp_10 ?_
            refine VW.idiv d9_line_92 (by decide) ?_
            obtain ⟨h21, e20, hr⟩ := bno hr
            refine VW.callV (As := [.int (h 115 1), .int 0, .int (x1 / 10)]) (st := []) d9_line_93 mi_9_sets cv_9_180 (oo_9 o9_114) ⟨rfl, rfl⟩ (by decide) (dl1 hd) _ rfl (Nat.le_of_ble_eq_true rfl) rfl (c_9_sets (dl hd rfl) e20) (kV ?_)
            refine VW.aload_n d9_line_96 1 rfl ?_
            refine VW.iload d9_line_97 0 rfl ?_
            refine VW.iconst (v := 1) d9_line_99 ic_1 ?_
            refine VW.iload_n d9_line_100 2 rfl ?_
            refine VW.bipush (v := 10) d9_line_101 bp_10 ?_
            refine VW.irem d9_line_103 (by decide) ?_
            obtain ⟨h23, e22, hr⟩ := bno hr
            refine VW.callV (As := [.int (h 115 1), .int 1, .int (irm x1 10)]) (st := []) d9_line_104 mi_9_sets cv_9_180 (oo_9 o9_114) ⟨rfl, rfl⟩ (by decide) (dl1 hd) _ rfl (Nat.le_of_ble_eq_true rfl) rfl (c_9_sets (dl hd rfl) e22) (kV ?_)
            refine VW.aload_n d9_line_107 1 rfl ?_
            refine VW.iload d9_line_108 0 rfl ?_
            refine VW.iconst (v := 2) d9_line_110 ic_2 ?_
            refine VW.iload_n d9_line_111 3 rfl ?_
            obtain ⟨h25, e24, hr⟩ := bno hr
            refine VW.callV (As := [.int (h 115 1), .int 2, .int x2]) (st := []) d9_line_112 mi_9_sets cv_9_180 (oo_9 o9_114) ⟨rfl, rfl⟩ (by decide) (dl1 hd) _ rfl (Nat.le_of_ble_eq_true rfl) rfl (c_9_sets (dl hd rfl) e24) (kV ?_)
            refine VW.aload_n d9_line_115 1 rfl ?_
            refine VW.iload d9_line_116 0 rfl ?_
            refine VW.iconst (v := 3) d9_line_118 ic_3 ?_
            refine VW.iload_n d9_line_119 4 rfl ?_
            obtain ⟨h27, e26, hr⟩ := bno hr
            refine VW.callV (As := [.int (h 115 1), .int 3, .int x3]) (st := []) d9_line_120 mi_9_sets cv_9_180 (oo_9 o9_114) ⟨rfl, rfl⟩ (by decide) (dl1 hd) _ rfl (Nat.le_of_ble_eq_true rfl) rfl (c_9_sets (dl hd rfl) e26) (kV ?_)
            refine VW.aload_n d9_line_123 1 rfl ?_
            refine VW.iload d9_line_124 0 rfl ?_
            refine VW.iconst (v := 4) d9_line_126 ic_4 ?_
            refine VW.iconst (v := 0) d9_line_127 ic_0 ?_
            obtain ⟨h29, e28, hr⟩ := bno hr
            refine VW.callV (As := [.int (h 115 1), .int 4, .int 0]) (st := []) d9_line_128 mi_9_sets cv_9_180 (oo_9 o9_114) ⟨rfl, rfl⟩ (by decide) (dl1 hd) _ rfl (Nat.le_of_ble_eq_true rfl) rfl (c_9_sets (dl hd rfl) e28) (kV ?_)
            refine VW.aload_n d9_line_131 1 rfl ?_
            refine VW.iload d9_line_132 0 rfl ?_
            refine VW.iconst (v := 5) d9_line_134 ic_5 ?_
            refine VW.iconst (v := 0) d9_line_135 ic_0 ?_
            obtain ⟨h31, e30, hr⟩ := bno hr
            refine VW.callV (As := [.int (h 115 1), .int 5, .int 0]) (st := []) d9_line_136 mi_9_sets cv_9_180 (oo_9 o9_114) ⟨rfl, rfl⟩ (by decide) (dl1 hd) _ rfl (Nat.le_of_ble_eq_true rfl) rfl (c_9_sets (dl hd rfl) e30) (kV ?_)
            refine VW.iload d9_line_139 0 rfl ?_
            exact VW.iret d9_line_141 hR (rIw hr)
        · replace hr := im hr c13
          refine VW.aload_n d9_line_44 0 rfl ?_
          refine VW.iconst (v := 1) d9_line_45 ic_1 ?_
          obtain ⟨r33, h34, e32, hr⟩ := bno2 hr
          refine VW.callV (As := [.int 1]) (st := []) d9_line_46 mi_9_finds cv_9_107 (oo_9 o9_114) ⟨rfl, rfl⟩ (by decide) (dl1 hd) _ rfl (Nat.le_of_ble_eq_true rfl) rfl (c_9_finds (dl hd rfl) e32) (kI ?_)
          exact VW.iret d9_line_49 hR (rIw hr)
set_option maxRecDepth 100000 in
set_option maxHeartbeats 4000000 in
theorem s_9_matinees_47 {γ : Gm} {ε : En} {dd : Nat} (hd : 72 ≤ dd) {r : Int32} {hz : Hp} {K40 : Int32 → Hp → Option (Int32 × Hp)} {x1 : Int32} {x2 : Int32} (HK40 : ∀ (x2 : Int32) (h : Hp), K40 x2 h = some (r, hz) → VW γ ε cX9_matinees RX9 5 dd 40 [(0, .ref (γ.2.2.1 114)), (1, .int x1), (2, .int x2)] [] h) (hR : RT γ ε (some .int) (QI r hz)) : ∀ (n : Nat) (x3 : Int32) (h : Hp), f_9_matinees_47 K40 x1 x2 n x3 h = some (r, hz) → VW γ ε cX9_matinees RX9 5 dd 47 [(0, .ref (γ.2.2.1 114)), (1, .int x1), (2, .int x2), (3, .int x3)] [] h := by
  intro n
  induction n with
  | zero =>
    intro x3 h hr
    exact nf hr
  | succ n ih =>
    intro x3 h hr
    rw [f_9_matinees_47] at hr
    refine VW.iload_n d9_matinees_47 3 rfl ?_
    refine VW.aload_n d9_matinees_48 0 rfl ?_
    refine VW.getR (k := 0) (r := 115) d9_matinees_49 (oo_9 o9_114) rfl fl_9_7 ck9 ?_
    refine VW.iconst (v := 1) d9_matinees_52 ic_1 ?_
    refine VW.iald (j := 1) d9_matinees_53 (rf_9_0 o9_114) ib_1_380 il_1 ?_
    refine VW.icmp_ge 124 d9_matinees_54 (by decide) (fun c7 => ?_) (fun c7 => ?_)
    · replace hr := ip hr c7
      refine VW.aload_n d9_matinees_124 0 rfl ?_
      refine VW.getR (k := 0) (r := 115) d9_matinees_125 (oo_9 o9_114) rfl fl_9_7 ck9 ?_
      refine VW.iconst (v := 2) d9_matinees_128 ic_2 ?_
      refine VW.dup2 d9_matinees_129 rfl rfl ?_
      refine VW.iald (j := 2) d9_matinees_130 (rf_9_0 o9_114) ib_2_380 il_2 ?_
      refine VW.iconst (v := 1) d9_matinees_131 ic_1 ?_
      refine VW.iadd d9_matinees_132 ?_
      obtain ⟨h8, e9, hr⟩ := hlt hr
      refine VW.iast (j := 2) d9_matinees_133 (rf_9_0 o9_114) ib_2_380 il_2 ?_
      refine VW.heq e9 ?_
      refine VW.iinc (w := 1) (lo' := [(2, .int (x2 + 1)), (0, .ref (γ.2.2.1 114)), (1, .int x1), (3, .int x3)]) d9_matinees_134 2 rfl ic_1 (by decide) rfl ?_
      refine VW.goto 40 d9_matinees_137 (by decide) ?_
      exact VW.sub [1, 2, 0] rfl (HK40 (x2 + 1) h8 hr)
    · replace hr := im hr c7
      refine VW.aload_n d9_matinees_57 0 rfl ?_
      obtain ⟨r11, h12, e10, hr⟩ := bno2 hr
      refine VW.callV (As := []) (st := []) d9_matinees_58 mi_9_drawn cv_9_203 (oo_9 o9_114) ⟨rfl, rfl⟩ (by decide) (dl1 hd) _ rfl (Nat.le_of_ble_eq_true rfl) rfl (c_9_drawn (dl hd rfl) e10) (kI ?_)
      refine VW.iconst (v := 4) d9_matinees_61 ic_4 ?_
      refine VW.irem d9_matinees_62 (by decide) ?_
      refine VW.if_eq 70 d9_matinees_63 (by decide) (fun c13 => ?_) (fun c13 => ?_)
      · replace hr := ip hr c13
        refine VW.iconst (v := 0) d9_matinees_70 ic_0 ?_
        refine VW.istore (lo' := [(4, .int 0), (0, .ref (γ.2.2.1 114)), (1, .int x1), (2, .int x2), (3, .int x3)]) d9_matinees_71 (by decide) rfl ?_
        refine VW.aload_n d9_matinees_73 1 rfl ?_
        refine VW.getR (k := 0) (r := 115) d9_matinees_74 (oo_9 o9_114) rfl fl_9_7 ck9 ?_
        refine VW.iconst (v := 3) d9_matinees_77 ic_3 ?_
        refine VW.dup2 d9_matinees_78 rfl rfl ?_
        refine VW.iald (j := 3) d9_matinees_79 (rf_9_0 o9_114) ib_3_380 il_3 ?_
        refine VW.iload d9_matinees_80 0 rfl ?_
        refine VW.if_eq 115 d9_matinees_82 (by decide) (fun c14 => ?_) (fun c14 => ?_)
        · skip
          refine VW.iconst (v := 0) d9_matinees_115 ic_0 ?_
          refine VW.iadd d9_matinees_116 ?_
          obtain ⟨h15, e16, hr⟩ := hlt hr
          refine VW.iast (j := 3) d9_matinees_117 (rf_9_0 o9_114) ib_3_380 il_3 ?_
          refine VW.heq e16 ?_
          refine VW.iinc (w := 1) (lo' := [(3, .int (x3 + 1)), (4, .int 0), (0, .ref (γ.2.2.1 114)), (1, .int x1), (2, .int x2)]) d9_matinees_118 4 rfl ic_1 (by decide) rfl ?_
          refine VW.goto 47 d9_matinees_121 (by decide) ?_
          exact VW.sub [2, 3, 4, 0] rfl (ih (x3 + 1) h15 hr)
        · exact (c14 (by decide)).elim
      · replace hr := im hr c13
        refine VW.iconst (v := 1) d9_matinees_66 ic_1 ?_
        refine VW.goto 71 d9_matinees_67 (by decide) ?_
        refine VW.istore (lo' := [(4, .int 1), (0, .ref (γ.2.2.1 114)), (1, .int x1), (2, .int x2), (3, .int x3)]) d9_matinees_71 (by decide) rfl ?_
        refine VW.aload_n d9_matinees_73 1 rfl ?_
        refine VW.getR (k := 0) (r := 115) d9_matinees_74 (oo_9 o9_114) rfl fl_9_7 ck9 ?_
        refine VW.iconst (v := 3) d9_matinees_77 ic_3 ?_
        refine VW.dup2 d9_matinees_78 rfl rfl ?_
        refine VW.iald (j := 3) d9_matinees_79 (rf_9_0 o9_114) ib_3_380 il_3 ?_
        refine VW.iload d9_matinees_80 0 rfl ?_
        refine VW.if_eq 115 d9_matinees_82 (by decide) (fun c17 => ?_) (fun c17 => ?_)
        · exact absurd c17 (by decide)
        · skip
          refine VW.aload_n d9_matinees_85 1 rfl ?_
          refine VW.getR (k := 0) (r := 115) d9_matinees_86 (oo_9 o9_114) rfl fl_9_7 ck9 ?_
          refine VW.iconst (v := 3) d9_matinees_89 ic_3 ?_
          refine VW.iald (j := 3) d9_matinees_90 (rf_9_0 o9_114) ib_3_380 il_3 ?_
          refine VW.sipush (v := 9999) d9_matinees_91 sp_9999 ?_
          refine VW.icmp_ge 115 d9_matinees_94 (by decide) (fun c18 => ?_) (fun c18 => ?_)
          · replace hr := ip hr c18
            refine VW.iconst (v := 0) d9_matinees_115 ic_0 ?_
            refine VW.iadd d9_matinees_116 ?_
            obtain ⟨h19, e20, hr⟩ := hlt hr
            refine VW.iast (j := 3) d9_matinees_117 (rf_9_0 o9_114) ib_3_380 il_3 ?_
            refine VW.heq e20 ?_
            refine VW.iinc (w := 1) (lo' := [(3, .int (x3 + 1)), (4, .int 1), (0, .ref (γ.2.2.1 114)), (1, .int x1), (2, .int x2)]) d9_matinees_118 4 rfl ic_1 (by decide) rfl ?_
            refine VW.goto 47 d9_matinees_121 (by decide) ?_
            exact VW.sub [2, 3, 4, 0] rfl (ih (x3 + 1) h19 hr)
          · replace hr := im hr c18
            refine VW.aload_n d9_matinees_97 1 rfl ?_
            refine VW.iload_n d9_matinees_98 4 rfl ?_
            refine VW.aload_n d9_matinees_99 1 rfl ?_
            refine VW.getR (k := 0) (r := 115) d9_matinees_100 (oo_9 o9_114) rfl fl_9_7 ck9 ?_
            refine VW.iconst (v := 2) d9_matinees_103 ic_2 ?_
            refine VW.iald (j := 2) d9_matinees_104 (rf_9_0 o9_114) ib_2_380 il_2 ?_
            obtain ⟨r22, h23, e21, hr⟩ := bno2 hr
            refine VW.callV (As := [.int x3, .int (h12 115 2)]) (st := [.int (h12 115 3), .int 3, .ref (γ.2.2.1 115)]) d9_matinees_105 mi_9_isNoticed cv_9_189 (oo_9 o9_114) ⟨rfl, rfl⟩ (by decide) (dl1 hd) _ rfl (Nat.le_of_ble_eq_true rfl) rfl (c_9_isNoticed (dl hd rfl) e21) (kI ?_)
            refine VW.if_eq 115 d9_matinees_108 (by decide) (fun c24 => ?_) (fun c24 => ?_)
            · replace hr := ip hr c24
              refine VW.iconst (v := 0) d9_matinees_115 ic_0 ?_
              refine VW.iadd d9_matinees_116 ?_
              obtain ⟨h25, e26, hr⟩ := hlt hr
              refine VW.iast (j := 3) d9_matinees_117 (rf_9_0 o9_114) ib_3_380 il_3 ?_
              refine VW.heq e26 ?_
              refine VW.iinc (w := 1) (lo' := [(3, .int (x3 + 1)), (4, .int 1), (0, .ref (γ.2.2.1 114)), (1, .int x1), (2, .int x2)]) d9_matinees_118 4 rfl ic_1 (by decide) rfl ?_
              refine VW.goto 47 d9_matinees_121 (by decide) ?_
              exact VW.sub [2, 3, 4, 0] rfl (ih (x3 + 1) h25 hr)
            · replace hr := im hr c24
              refine VW.iconst (v := 1) d9_matinees_111 ic_1 ?_
              refine VW.goto 116 d9_matinees_112 (by decide) ?_
              refine VW.iadd d9_matinees_116 ?_
              obtain ⟨h27, e28, hr⟩ := hlt hr
              refine VW.iast (j := 3) d9_matinees_117 (rf_9_0 o9_114) ib_3_380 il_3 ?_
              refine VW.heq e28 ?_
              refine VW.iinc (w := 1) (lo' := [(3, .int (x3 + 1)), (4, .int 1), (0, .ref (γ.2.2.1 114)), (1, .int x1), (2, .int x2)]) d9_matinees_118 4 rfl ic_1 (by decide) rfl ?_
              refine VW.goto 47 d9_matinees_121 (by decide) ?_
              exact VW.sub [2, 3, 4, 0] rfl (ih (x3 + 1) h27 hr)
set_option maxRecDepth 100000 in
set_option maxHeartbeats 4000000 in
theorem s_9_matinees_40 {γ : Gm} {ε : En} {dd : Nat} (hd : 72 ≤ dd) {r : Int32} {hz : Hp} {x1 : Int32} (hR : RT γ ε (some .int) (QI r hz)) : ∀ (n : Nat) (x2 : Int32) (h : Hp), f_9_matinees_40 x1 n x2 h = some (r, hz) → VW γ ε cX9_matinees RX9 5 dd 40 [(0, .ref (γ.2.2.1 114)), (1, .int x1), (2, .int x2)] [] h := by
  intro n
  induction n with
  | zero =>
    intro x2 h hr
    exact nf hr
  | succ n ih =>
    intro x2 h hr
    rw [f_9_matinees_40] at hr
    refine VW.iload_n d9_matinees_40 2 rfl ?_
    refine VW.iload_n d9_matinees_41 1 rfl ?_
    refine VW.icmp_ge 140 d9_matinees_42 (by decide) (fun c6 => ?_) (fun c6 => ?_)
    · replace hr := ip hr c6
      refine VW.aload_n d9_matinees_140 0 rfl ?_
      refine VW.getR (k := 0) (r := 115) d9_matinees_141 (oo_9 o9_114) rfl fl_9_7 ck9 ?_
      refine VW.iconst (v := 3) d9_matinees_144 ic_3 ?_
      refine VW.iald (j := 3) d9_matinees_145 (rf_9_0 o9_114) ib_3_380 il_3 ?_
      exact VW.iret d9_matinees_146 hR (rIw hr)
    · replace hr := im hr c6
      refine VW.iconst (v := 0) d9_matinees_45 ic_0 ?_
      refine VW.istore_n (lo' := [(3, .int 0), (0, .ref (γ.2.2.1 114)), (1, .int x1), (2, .int x2)]) d9_matinees_46 (by decide) rfl ?_
      exact VW.sub [1, 2, 3, 0] rfl (s_9_matinees_47 hd ih hR FU 0 h hr)
set_option maxRecDepth 100000 in
set_option maxHeartbeats 4000000 in
theorem c_9_matinees {γ : Gm} {dd : Nat} {x1 : Int32} {h : Hp} {r : Int32} {hz : Hp} (hd : 72 ≤ dd) (hr : f_9_matinees x1 h = some (r, hz)) : MC γ dd yX9_matinees cX9_matinees 5 (some .int) [.ref (γ.2.2.1 114), .int x1] h (QI r hz) := by
  unfold f_9_matinees at hr
  refine MC.of mi_9_matinees (Nat.le_of_ble_eq_true rfl) (fun ε hR => ?_)
  show VW γ ε cX9_matinees RX9 5 dd 0 [(0, .ref (γ.2.2.1 114)), (1, .int x1)] [] h
  refine VW.iload_n d9_matinees_0 1 rfl ?_
  refine VW.i2l d9_matinees_1 ?_
  refine VW.lconst (v := 1) d9_matinees_2 (by decide) ?_
  refine VW.ldc2 (v := 100) d9_matinees_3 kc_9_201 ?_
  refine VW.callS (As := [.long (Int32.toInt64 x1), .long 1, .long 100]) (st := []) d9_matinees_6 mi_9_in cs_9_44 (by decide) (dl1 hd) _ rfl (Nat.le_of_ble_eq_true rfl) rfl (c_9_in (dl hd rfl) rfl) (kI ?_)
  refine VW.if_ne 18 d9_matinees_9 (by decide) (fun c1 => ?_) (fun c1 => ?_)
  · replace hr := ip hr c1
    refine VW.aload_n d9_matinees_12 0 rfl ?_
    refine VW.iconst (v := 1) d9_matinees_13 ic_1 ?_
    obtain ⟨r3, h4, e2, hr⟩ := bno2 hr
    refine VW.callV (As := [.int 1]) (st := []) d9_matinees_14 mi_9_finds cv_9_107 (oo_9 o9_114) ⟨rfl, rfl⟩ (by decide) (dl1 hd) _ rfl (Nat.le_of_ble_eq_true rfl) rfl (c_9_finds (dl hd rfl) e2) (kI ?_)
    exact VW.iret d9_matinees_17 hR (rIw hr)
  · replace hr := im hr c1
    refine VW.aload_n d9_matinees_18 0 rfl ?_
    refine VW.getR (k := 0) (r := 115) d9_matinees_19 (oo_9 o9_114) rfl fl_9_7 ck9 ?_
    refine VW.iconst (v := 2) d9_matinees_22 ic_2 ?_
    refine VW.iald (j := 2) d9_matinees_23 (rf_9_0 o9_114) ib_2_380 il_2 ?_
    refine VW.iload_n d9_matinees_24 1 rfl ?_
    refine VW.iadd d9_matinees_25 ?_
    refine VW.sipush (v := 9999) d9_matinees_26 sp_9999 ?_
    refine VW.icmp_le 38 d9_matinees_29 (by decide) (fun c5 => ?_) (fun c5 => ?_)
    · replace hr := ip hr c5
      refine VW.iconst (v := 0) d9_matinees_38 ic_0 ?_
      refine VW.istore_n (lo' := [(2, .int 0), (0, .ref (γ.2.2.1 114)), (1, .int x1)]) d9_matinees_39 (by decide) rfl ?_
      exact VW.sub [1, 2, 0] rfl (s_9_matinees_40 hd hR FU 0 h hr)
    · replace hr := im hr c5
      refine VW.aload_n d9_matinees_32 0 rfl ?_
      refine VW.iconst (v := 3) d9_matinees_33 ic_3 ?_
      obtain ⟨r30, h31, e29, hr⟩ := bno2 hr
      refine VW.callV (As := [.int 3]) (st := []) d9_matinees_34 mi_9_finds cv_9_107 (oo_9 o9_114) ⟨rfl, rfl⟩ (by decide) (dl1 hd) _ rfl (Nat.le_of_ble_eq_true rfl) rfl (c_9_finds (dl hd rfl) e29) (kI ?_)
      exact VW.iret d9_matinees_37 hR (rIw hr)
set_option maxRecDepth 100000 in
set_option maxHeartbeats 4000000 in
theorem c_9_minutes {γ : Gm} {dd : Nat} {x1 : Int32} {h : Hp} {r : Int32} {hz : Hp} (hd : 1 ≤ dd) (hr : f_9_minutes x1 h = some (r, hz)) : MC γ dd yX9_minutes cX9_minutes 2 (some .int) [.ref (γ.2.2.1 114), .int x1] h (QI r hz) := by
  unfold f_9_minutes at hr
  refine MC.of mi_9_minutes (Nat.le_of_ble_eq_true rfl) (fun ε hR => ?_)
  show VW γ ε cX9_minutes RX9 2 dd 0 [(0, .ref (γ.2.2.1 114)), (1, .int x1)] [] h
  refine VW.iload_n d9_minutes_0 1 rfl ?_
  refine VW.i2l d9_minutes_1 ?_
  refine VW.lconst (v := 1) d9_minutes_2 (by decide) ?_
  refine VW.ldc2 (v := 500) d9_minutes_3 kc_9_198 ?_
  refine VW.callS (As := [.long (Int32.toInt64 x1), .long 1, .long 500]) (st := []) d9_minutes_6 mi_9_in cs_9_44 (by decide) (dl1 hd) _ rfl (Nat.le_of_ble_eq_true rfl) rfl (c_9_in (dl hd rfl) rfl) (kI ?_)
  refine VW.if_ne 18 d9_minutes_9 (by decide) (fun c1 => ?_) (fun c1 => ?_)
  · replace hr := ip hr c1
    refine VW.aload_n d9_minutes_12 0 rfl ?_
    refine VW.iconst (v := 1) d9_minutes_13 ic_1 ?_
    obtain ⟨r3, h4, e2, hr⟩ := bno2 hr
    refine VW.callV (As := [.int 1]) (st := []) d9_minutes_14 mi_9_finds cv_9_107 (oo_9 o9_114) ⟨rfl, rfl⟩ (by decide) (dl1 hd) _ rfl (Nat.le_of_ble_eq_true rfl) rfl (c_9_finds (dl hd rfl) e2) (kI ?_)
    exact VW.iret d9_minutes_17 hR (rIw hr)
  · replace hr := im hr c1
    refine VW.aload_n d9_minutes_18 0 rfl ?_
    refine VW.getR (k := 0) (r := 115) d9_minutes_19 (oo_9 o9_114) rfl fl_9_7 ck9 ?_
    refine VW.iconst (v := 2) d9_minutes_22 ic_2 ?_
    refine VW.iald (j := 2) d9_minutes_23 (rf_9_0 o9_114) ib_2_380 il_2 ?_
    refine VW.iload_n d9_minutes_24 1 rfl ?_
    refine VW.iadd d9_minutes_25 ?_
    refine VW.sipush (v := 9999) d9_minutes_26 sp_9999 ?_
    refine VW.icmp_le 38 d9_minutes_29 (by decide) (fun c5 => ?_) (fun c5 => ?_)
    · replace hr := ip hr c5
      refine VW.aload_n d9_minutes_38 0 rfl ?_
      refine VW.getR (k := 0) (r := 115) d9_minutes_39 (oo_9 o9_114) rfl fl_9_7 ck9 ?_
      refine VW.iconst (v := 2) d9_minutes_42 ic_2 ?_
      refine VW.dup2 d9_minutes_43 rfl rfl ?_
      refine VW.iald (j := 2) d9_minutes_44 (rf_9_0 o9_114) ib_2_380 il_2 ?_
      refine VW.iload_n d9_minutes_45 1 rfl ?_
      refine VW.iadd d9_minutes_46 ?_
      obtain ⟨h6, e7, hr⟩ := hlt hr
      refine VW.iast (j := 2) d9_minutes_47 (rf_9_0 o9_114) ib_2_380 il_2 ?_
      refine VW.heq e7 ?_
      refine VW.aload_n d9_minutes_48 0 rfl ?_
      refine VW.getR (k := 0) (r := 115) d9_minutes_49 (oo_9 o9_114) rfl fl_9_7 ck9 ?_
      refine VW.iconst (v := 2) d9_minutes_52 ic_2 ?_
      refine VW.iald (j := 2) d9_minutes_53 (rf_9_0 o9_114) ib_2_380 il_2 ?_
      exact VW.iret d9_minutes_54 hR (rIw hr)
    · replace hr := im hr c5
      refine VW.aload_n d9_minutes_32 0 rfl ?_
      refine VW.iconst (v := 3) d9_minutes_33 ic_3 ?_
      obtain ⟨r9, h10, e8, hr⟩ := bno2 hr
      refine VW.callV (As := [.int 3]) (st := []) d9_minutes_34 mi_9_finds cv_9_107 (oo_9 o9_114) ⟨rfl, rfl⟩ (by decide) (dl1 hd) _ rfl (Nat.le_of_ble_eq_true rfl) rfl (c_9_finds (dl hd rfl) e8) (kI ?_)
      exact VW.iret d9_minutes_37 hR (rIw hr)
set_option maxRecDepth 100000 in
set_option maxHeartbeats 4000000 in
theorem s_9_mouth_53 {γ : Gm} {ε : En} {dd : Nat} (hd : 1 ≤ dd) {r : Int32} {hz : Hp} {x1 : Int32} {x2 : Int32} {x3 : Int32} (hR : RT γ ε (some .int) (QI r hz)) : ∀ (n : Nat) (x4 : Int32) (h : Hp), f_9_mouth_53 x1 x2 x3 n x4 h = some (r, hz) → VW γ ε cX9_mouth RX9 5 dd 53 [(0, .ref (γ.2.2.1 114)), (1, .int x1), (2, .int x2), (3, .int x3), (4, .int x4)] [] h := by
  intro n
  induction n with
  | zero =>
    intro x4 h hr
    exact nf hr
  | succ n ih =>
    intro x4 h hr
    rw [f_9_mouth_53] at hr
    refine VW.iload d9_mouth_53 4 rfl ?_
    refine VW.iload_n d9_mouth_55 2 rfl ?_
    refine VW.icmp_ge 78 d9_mouth_56 (by decide) (fun c14 => ?_) (fun c14 => ?_)
    · replace hr := ip hr c14
      refine VW.iload_n d9_mouth_78 2 rfl ?_
      exact VW.iret d9_mouth_79 hR (rIw hr)
    · replace hr := im hr c14
      refine VW.aload_n d9_mouth_59 0 rfl ?_
      refine VW.getR (k := 0) (r := 115) d9_mouth_60 (oo_9 o9_114) rfl fl_9_7 ck9 ?_
      refine VW.bipush (v := 24) d9_mouth_63 bp_24 ?_
      refine VW.iload_n d9_mouth_65 1 rfl ?_
      refine VW.iadd d9_mouth_66 ?_
      refine VW.iload d9_mouth_67 4 rfl ?_
      refine VW.iadd d9_mouth_69 ?_
      refine VW.iload_n d9_mouth_70 3 rfl ?_
      obtain ⟨g15, hr⟩ := gdt hr
      obtain ⟨h16, e17, hr⟩ := hlt hr
      refine VW.iast (j := (ci ((24 + x1) + x4))) d9_mouth_71 (rf_9_0 o9_114) g15 rfl ?_
      refine VW.heq e17 ?_
      refine VW.iinc (w := 1) (lo' := [(4, .int (x4 + 1)), (0, .ref (γ.2.2.1 114)), (1, .int x1), (2, .int x2), (3, .int x3)]) d9_mouth_72 4 rfl ic_1 (by decide) rfl ?_
      refine VW.goto 53 d9_mouth_75 (by decide) ?_
      exact VW.sub [1, 2, 3, 4, 0] rfl (ih (x4 + 1) h16 hr)
set_option maxRecDepth 100000 in
set_option maxHeartbeats 4000000 in
theorem c_9_mouth {γ : Gm} {dd : Nat} {x1 : Int32} {x2 : Int32} {x3 : Int32} {h : Hp} {r : Int32} {hz : Hp} (hd : 1 ≤ dd) (hr : f_9_mouth x1 x2 x3 h = some (r, hz)) : MC γ dd yX9_mouth cX9_mouth 5 (some .int) [.ref (γ.2.2.1 114), .int x1, .int x2, .int x3] h (QI r hz) := by
  unfold f_9_mouth at hr
  refine MC.of mi_9_mouth (Nat.le_of_ble_eq_true rfl) (fun ε hR => ?_)
  show VW γ ε cX9_mouth RX9 5 dd 0 [(0, .ref (γ.2.2.1 114)), (1, .int x1), (2, .int x2), (3, .int x3)] [] h
  refine VW.iload_n d9_mouth_0 1 rfl ?_
  refine VW.i2l d9_mouth_1 ?_
  refine VW.lconst (v := 0) d9_mouth_2 (by decide) ?_
  refine VW.ldc2 (v := 59) d9_mouth_3 kc_9_123 ?_
  refine VW.callS (As := [.long (Int32.toInt64 x1), .long 0, .long 59]) (st := []) d9_mouth_6 mi_9_in cs_9_44 (by decide) (dl1 hd) _ rfl (Nat.le_of_ble_eq_true rfl) rfl (c_9_in (dl hd rfl) rfl) (kI ?_)
  refine VW.if_eq 44 d9_mouth_9 (by decide) (fun c1 => ?_) (fun c1 => ?_)
  · replace hr := ip hr c1
    refine VW.aload_n d9_mouth_44 0 rfl ?_
    refine VW.iconst (v := 1) d9_mouth_45 ic_1 ?_
    obtain ⟨r3, h4, e2, hr⟩ := bno2 hr
    refine VW.callV (As := [.int 1]) (st := []) d9_mouth_46 mi_9_finds cv_9_107 (oo_9 o9_114) ⟨rfl, rfl⟩ (by decide) (dl1 hd) _ rfl (Nat.le_of_ble_eq_true rfl) rfl (c_9_finds (dl hd rfl) e2) (kI ?_)
    exact VW.iret d9_mouth_49 hR (rIw hr)
  · replace hr := im hr c1
    refine VW.iload_n d9_mouth_12 2 rfl ?_
    refine VW.i2l d9_mouth_13 ?_
    refine VW.lconst (v := 1) d9_mouth_14 (by decide) ?_
    refine VW.ldc2 (v := 60) d9_mouth_15 kc_9_125 ?_
    refine VW.callS (As := [.long (Int32.toInt64 x2), .long 1, .long 60]) (st := []) d9_mouth_18 mi_9_in cs_9_44 (by decide) (dl1 hd) _ rfl (Nat.le_of_ble_eq_true rfl) rfl (c_9_in (dl hd rfl) rfl) (kI ?_)
    refine VW.if_eq 44 d9_mouth_21 (by decide) (fun c5 => ?_) (fun c5 => ?_)
    · replace hr := ip hr c5
      refine VW.aload_n d9_mouth_44 0 rfl ?_
      refine VW.iconst (v := 1) d9_mouth_45 ic_1 ?_
      obtain ⟨r7, h8, e6, hr⟩ := bno2 hr
      refine VW.callV (As := [.int 1]) (st := []) d9_mouth_46 mi_9_finds cv_9_107 (oo_9 o9_114) ⟨rfl, rfl⟩ (by decide) (dl1 hd) _ rfl (Nat.le_of_ble_eq_true rfl) rfl (c_9_finds (dl hd rfl) e6) (kI ?_)
      exact VW.iret d9_mouth_49 hR (rIw hr)
    · replace hr := im hr c5
      refine VW.iload_n d9_mouth_24 3 rfl ?_
      refine VW.i2l d9_mouth_25 ?_
      refine VW.lconst (v := 0) d9_mouth_26 (by decide) ?_
      refine VW.ldc2 (v := 3) d9_mouth_27 kc_9_127 ?_
      refine VW.callS (As := [.long (Int32.toInt64 x3), .long 0, .long 3]) (st := []) d9_mouth_30 mi_9_in cs_9_44 (by decide) (dl1 hd) _ rfl (Nat.le_of_ble_eq_true rfl) rfl (c_9_in (dl hd rfl) rfl) (kI ?_)
      refine VW.if_eq 44 d9_mouth_33 (by decide) (fun c9 => ?_) (fun c9 => ?_)
      · replace hr := ip hr c9
        refine VW.aload_n d9_mouth_44 0 rfl ?_
        refine VW.iconst (v := 1) d9_mouth_45 ic_1 ?_
        obtain ⟨r11, h12, e10, hr⟩ := bno2 hr
        refine VW.callV (As := [.int 1]) (st := []) d9_mouth_46 mi_9_finds cv_9_107 (oo_9 o9_114) ⟨rfl, rfl⟩ (by decide) (dl1 hd) _ rfl (Nat.le_of_ble_eq_true rfl) rfl (c_9_finds (dl hd rfl) e10) (kI ?_)
        exact VW.iret d9_mouth_49 hR (rIw hr)
      · replace hr := im hr c9
        refine VW.iload_n d9_mouth_36 1 rfl ?_
        refine VW.iload_n d9_mouth_37 2 rfl ?_
        refine VW.iadd d9_mouth_38 ?_
        refine VW.bipush (v := 60) d9_mouth_39 bp_60 ?_
        refine VW.icmp_le 50 d9_mouth_41 (by decide) (fun c13 => ?_) (fun c13 => ?_)
        · replace hr := ip hr c13
          refine VW.iconst (v := 0) d9_mouth_50 ic_0 ?_
          refine VW.istore (lo' := [(4, .int 0), (0, .ref (γ.2.2.1 114)), (1, .int x1), (2, .int x2), (3, .int x3)]) d9_mouth_51 (by decide) rfl ?_
          exact VW.sub [1, 2, 3, 4, 0] rfl (s_9_mouth_53 hd hR FU 0 h hr)
        · replace hr := im hr c13
          refine VW.aload_n d9_mouth_44 0 rfl ?_
          refine VW.iconst (v := 1) d9_mouth_45 ic_1 ?_
          obtain ⟨r19, h20, e18, hr⟩ := bno2 hr
          refine VW.callV (As := [.int 1]) (st := []) d9_mouth_46 mi_9_finds cv_9_107 (oo_9 o9_114) ⟨rfl, rfl⟩ (by decide) (dl1 hd) _ rfl (Nat.le_of_ble_eq_true rfl) rfl (c_9_finds (dl hd rfl) e18) (kI ?_)
          exact VW.iret d9_mouth_49 hR (rIw hr)
set_option maxRecDepth 100000 in
set_option maxHeartbeats 4000000 in
theorem c_9_mouthAt {γ : Gm} {dd : Nat} {x1 : Int32} {h : Hp} {r : Int32} {hz : Hp} (hd : 1 ≤ dd) (hr : f_9_mouthAt x1 h = some (r, hz)) : MC γ dd yX9_mouthAt cX9_mouthAt 2 (some .int) [.ref (γ.2.2.1 114), .int x1] h (QI r hz) := by
  unfold f_9_mouthAt at hr
  refine MC.of mi_9_mouthAt (Nat.le_of_ble_eq_true rfl) (fun ε hR => ?_)
  show VW γ ε cX9_mouthAt RX9 2 dd 0 [(0, .ref (γ.2.2.1 114)), (1, .int x1)] [] h
  refine VW.iload_n d9_mouthAt_0 1 rfl ?_
  refine VW.i2l d9_mouthAt_1 ?_
  refine VW.lconst (v := 0) d9_mouthAt_2 (by decide) ?_
  refine VW.ldc2 (v := 59) d9_mouthAt_3 kc_9_123 ?_
  refine VW.callS (As := [.long (Int32.toInt64 x1), .long 0, .long 59]) (st := []) d9_mouthAt_6 mi_9_in cs_9_44 (by decide) (dl1 hd) _ rfl (Nat.le_of_ble_eq_true rfl) rfl (c_9_in (dl hd rfl) rfl) (kI ?_)
  refine VW.if_eq 24 d9_mouthAt_9 (by decide) (fun c1 => ?_) (fun c1 => ?_)
  · replace hr := ip hr c1
    refine VW.aload_n d9_mouthAt_24 0 rfl ?_
    refine VW.iconst (v := 1) d9_mouthAt_25 ic_1 ?_
    obtain ⟨r3, h4, e2, hr⟩ := bno2 hr
    refine VW.callV (As := [.int 1]) (st := []) d9_mouthAt_26 mi_9_finds cv_9_107 (oo_9 o9_114) ⟨rfl, rfl⟩ (by decide) (dl1 hd) _ rfl (Nat.le_of_ble_eq_true rfl) rfl (c_9_finds (dl hd rfl) e2) (kI ?_)
    exact VW.iret d9_mouthAt_29 hR (rIw hr)
  · replace hr := im hr c1
    refine VW.aload_n d9_mouthAt_12 0 rfl ?_
    refine VW.getR (k := 0) (r := 115) d9_mouthAt_13 (oo_9 o9_114) rfl fl_9_7 ck9 ?_
    refine VW.bipush (v := 24) d9_mouthAt_16 bp_24 ?_
    refine VW.iload_n d9_mouthAt_18 1 rfl ?_
    refine VW.iadd d9_mouthAt_19 ?_
    obtain ⟨g5, hr⟩ := gdt hr
    refine VW.iald (j := (ci (24 + x1))) d9_mouthAt_20 (rf_9_0 o9_114) g5 rfl ?_
    refine VW.goto 29 d9_mouthAt_21 (by decide) ?_
    exact VW.iret d9_mouthAt_29 hR (rIw hr)
set_option maxRecDepth 100000 in
set_option maxHeartbeats 4000000 in
theorem s_9_mouths_30 {γ : Gm} {ε : En} {dd : Nat} (hd : 2 ≤ dd) {r : Int32} {hz : Hp} {x1 : Int32} (hR : RT γ ε (some .int) (QI r hz)) : ∀ (n : Nat) (x2 : Int32) (h : Hp), f_9_mouths_30 x1 n x2 h = some (r, hz) → VW γ ε cX9_mouths RX9 3 dd 30 [(0, .ref (γ.2.2.1 114)), (1, .int x1), (2, .int x2)] [] h := by
  intro n
  induction n with
  | zero =>
    intro x2 h hr
    exact nf hr
  | succ n ih =>
    intro x2 h hr
    rw [f_9_mouths_30] at hr
    refine VW.iload_n d9_mouths_30 2 rfl ?_
    refine VW.aload_n d9_mouths_31 0 rfl ?_
    refine VW.getR (k := 22) (r := 123) d9_mouths_32 (oo_9 o9_114) rfl fl_9_34 ck9 ?_
    refine VW.iload_n d9_mouths_35 1 rfl ?_
    obtain ⟨g10, hr⟩ := gdt hr
    refine VW.iald (j := (ci x1)) d9_mouths_36 (rf_9_22 o9_114) g10 rfl ?_
    refine VW.icmp_ge 88 d9_mouths_37 (by decide) (fun c11 => ?_) (fun c11 => ?_)
    · replace hr := ip hr c11
      refine VW.iload_n d9_mouths_88 2 rfl ?_
      exact VW.iret d9_mouths_89 hR (rIw hr)
    · replace hr := im hr c11
      refine VW.aload_n d9_mouths_40 0 rfl ?_
      refine VW.getR (k := 23) (r := 124) d9_mouths_41 (oo_9 o9_114) rfl fl_9_37 ck9 ?_
      refine VW.bipush (v := 40) d9_mouths_44 bp_40 ?_
      refine VW.iload_n d9_mouths_46 1 rfl ?_
      refine VW.imul d9_mouths_47 ?_
      refine VW.iload_n d9_mouths_48 2 rfl ?_
      refine VW.iadd d9_mouths_49 ?_
      obtain ⟨g12, hr⟩ := gdt hr
      refine VW.iald (j := (ci ((40 * x1) + x2))) d9_mouths_50 (rf_9_23 o9_114) g12 rfl ?_
      refine VW.i2l d9_mouths_51 ?_
      refine VW.lconst (v := 0) d9_mouths_52 (by decide) ?_
      refine VW.ldc2 (v := 3) d9_mouths_53 kc_9_127 ?_
      refine VW.callS (As := [.long (Int32.toInt64 (h 124 (ci ((40 * x1) + x2)))), .long 0, .long 3]) (st := []) d9_mouths_56 mi_9_in cs_9_44 (by decide) (dl1 hd) _ rfl (Nat.le_of_ble_eq_true rfl) rfl (c_9_in (dl hd rfl) rfl) (kI ?_)
      refine VW.if_eq 88 d9_mouths_59 (by decide) (fun c13 => ?_) (fun c13 => ?_)
      · replace hr := ip hr c13
        refine VW.iload_n d9_mouths_88 2 rfl ?_
        exact VW.iret d9_mouths_89 hR (rIw hr)
      · replace hr := im hr c13
        refine VW.aload_n d9_mouths_62 0 rfl ?_
        refine VW.getR (k := 0) (r := 115) d9_mouths_63 (oo_9 o9_114) rfl fl_9_7 ck9 ?_
        refine VW.bipush (v := 24) d9_mouths_66 bp_24 ?_
        refine VW.iload_n d9_mouths_68 2 rfl ?_
        refine VW.iadd d9_mouths_69 ?_
        refine VW.aload_n d9_mouths_70 0 rfl ?_
        refine VW.getR (k := 23) (r := 124) d9_mouths_71 (oo_9 o9_114) rfl fl_9_37 ck9 ?_
        refine VW.bipush (v := 40) d9_mouths_74 bp_40 ?_
        refine VW.iload_n d9_mouths_76 1 rfl ?_
        refine VW.imul d9_mouths_77 ?_
        refine VW.iload_n d9_mouths_78 2 rfl ?_
        refine VW.iadd d9_mouths_79 ?_
        obtain ⟨g14, hr⟩ := gdt hr
        refine VW.iald (j := (ci ((40 * x1) + x2))) d9_mouths_80 (rf_9_23 o9_114) g14 rfl ?_
        obtain ⟨g15, hr⟩ := gdt hr
        obtain ⟨h16, e17, hr⟩ := hlt hr
        refine VW.iast (j := (ci (24 + x2))) d9_mouths_81 (rf_9_0 o9_114) g15 rfl ?_
        refine VW.heq e17 ?_
        refine VW.iinc (w := 1) (lo' := [(2, .int (x2 + 1)), (0, .ref (γ.2.2.1 114)), (1, .int x1)]) d9_mouths_82 2 rfl ic_1 (by decide) rfl ?_
        refine VW.goto 30 d9_mouths_85 (by decide) ?_
        exact VW.sub [1, 2, 0] rfl (ih (x2 + 1) h16 hr)
set_option maxRecDepth 100000 in
set_option maxHeartbeats 4000000 in
theorem c_9_mouths {γ : Gm} {dd : Nat} {x1 : Int32} {h : Hp} {r : Int32} {hz : Hp} (hd : 2 ≤ dd) (hr : f_9_mouths x1 h = some (r, hz)) : MC γ dd yX9_mouths cX9_mouths 3 (some .int) [.ref (γ.2.2.1 114), .int x1] h (QI r hz) := by
  unfold f_9_mouths at hr
  refine MC.of mi_9_mouths (Nat.le_of_ble_eq_true rfl) (fun ε hR => ?_)
  show VW γ ε cX9_mouths RX9 3 dd 0 [(0, .ref (γ.2.2.1 114)), (1, .int x1)] [] h
  refine VW.iload_n d9_mouths_0 1 rfl ?_
  refine VW.callS (As := [.int x1]) (st := []) d9_mouths_1 mi_9_isSheet cs_9_269 (by decide) (dl1 hd) _ rfl (Nat.le_of_ble_eq_true rfl) rfl (c_9_isSheet (dl hd rfl) rfl) (kI ?_)
  refine VW.if_ne 13 d9_mouths_4 (by decide) (fun c1 => ?_) (fun c1 => ?_)
  · replace hr := ip hr c1
    refine VW.aload_n d9_mouths_7 0 rfl ?_
    refine VW.iconst (v := 1) d9_mouths_8 ic_1 ?_
    obtain ⟨r3, h4, e2, hr⟩ := bno2 hr
    refine VW.callV (As := [.int 1]) (st := []) d9_mouths_9 mi_9_finds cv_9_107 (oo_9 o9_114) ⟨rfl, rfl⟩ (by decide) (dl1 hd) _ rfl (Nat.le_of_ble_eq_true rfl) rfl (c_9_finds (dl hd rfl) e2) (kI ?_)
    exact VW.iret d9_mouths_12 hR (rIw hr)
  · replace hr := im hr c1
    refine VW.aload_n d9_mouths_13 0 rfl ?_
    refine VW.getR (k := 21) (r := 122) d9_mouths_14 (oo_9 o9_114) rfl fl_9_31 ck9 ?_
    refine VW.iload_n d9_mouths_17 1 rfl ?_
    obtain ⟨g5, hr⟩ := gdt hr
    refine VW.iald (j := (ci x1)) d9_mouths_18 (rf_9_21 o9_114) g5 rfl ?_
    refine VW.if_ne 28 d9_mouths_19 (by decide) (fun c6 => ?_) (fun c6 => ?_)
    · replace hr := ip hr c6
      refine VW.aload_n d9_mouths_22 0 rfl ?_
      refine VW.iconst (v := 2) d9_mouths_23 ic_2 ?_
      obtain ⟨r8, h9, e7, hr⟩ := bno2 hr
      refine VW.callV (As := [.int 2]) (st := []) d9_mouths_24 mi_9_finds cv_9_107 (oo_9 o9_114) ⟨rfl, rfl⟩ (by decide) (dl1 hd) _ rfl (Nat.le_of_ble_eq_true rfl) rfl (c_9_finds (dl hd rfl) e7) (kI ?_)
      exact VW.iret d9_mouths_27 hR (rIw hr)
    · replace hr := im hr c6
      refine VW.iconst (v := 0) d9_mouths_28 ic_0 ?_
      refine VW.istore_n (lo' := [(2, .int 0), (0, .ref (γ.2.2.1 114)), (1, .int x1)]) d9_mouths_29 (by decide) rfl ?_
      exact VW.sub [1, 2, 0] rfl (s_9_mouths_30 hd hR FU 0 h hr)
set_option maxRecDepth 100000 in
set_option maxHeartbeats 4000000 in
theorem s_9_move_152 {γ : Gm} {ε : En} {dd : Nat} (hd : 2 ≤ dd) {r : Int32} {hz : Hp} {x3 : Int32} {x4 : Int32} {x5 : Int32} (hR : RT γ ε (some .int) (QI r hz)) : ∀ (n : Nat) (x6 : Int32) (h : Hp), f_9_move_152 x3 x4 x5 n x6 h = some (r, hz) → VW γ ε cX9_move RX9 7 dd 152 [(0, .ref (γ.2.2.1 114)), (3, .int x3), (4, .int x4), (5, .int x5), (6, .int x6)] [] h := by
  intro n
  induction n with
  | zero =>
    intro x6 h hr
    exact nf hr
  | succ n ih =>
    intro x6 h hr
    rw [f_9_move_152] at hr
    refine VW.iload d9_move_152 4 rfl ?_
    refine VW.iload d9_move_154 3 rfl ?_
    refine VW.icmp_ge 187 d9_move_156 (by decide) (fun c42 => ?_) (fun c42 => ?_)
    · replace hr := ip hr c42
      refine VW.iload d9_move_187 3 rfl ?_
      exact VW.iret d9_move_189 hR (rIw hr)
    · replace hr := im hr c42
      refine VW.aload_n d9_move_159 0 rfl ?_
      refine VW.getR (k := 23) (r := 124) d9_move_160 (oo_9 o9_114) rfl fl_9_37 ck9 ?_
      refine VW.bipush (v := 40) d9_move_163 bp_40 ?_
      refine VW.iload_n d9_move_165 1 rfl ?_
      refine VW.imul d9_move_166 ?_
      refine VW.iload d9_move_167 2 rfl ?_
      refine VW.iadd d9_move_169 ?_
      refine VW.iload d9_move_170 4 rfl ?_
      refine VW.iadd d9_move_172 ?_
      refine VW.aload_n d9_move_173 0 rfl ?_
      refine VW.getR (k := 24) (r := 125) d9_move_174 (oo_9 o9_114) rfl fl_9_40 ck9 ?_
      refine VW.iload d9_move_177 4 rfl ?_
      obtain ⟨g43, hr⟩ := gdt hr
      refine VW.iald (j := (ci x6)) d9_move_179 (rf_9_24 o9_114) g43 rfl ?_
      obtain ⟨g44, hr⟩ := gdt hr
      obtain ⟨h45, e46, hr⟩ := hlt hr
      refine VW.iast (j := (ci (((40 * x3) + x4) + x6))) d9_move_180 (rf_9_23 o9_114) g44 rfl ?_
      refine VW.heq e46 ?_
      refine VW.iinc (w := 1) (lo' := [(6, .int (x6 + 1)), (0, .ref (γ.2.2.1 114)), (3, .int x3), (4, .int x4), (5, .int x5)]) d9_move_181 4 rfl ic_1 (by decide) rfl ?_
      refine VW.goto 152 d9_move_184 (by decide) ?_
      exact VW.sub [1, 2, 3, 4, 0] rfl (ih (x6 + 1) h45 hr)
set_option maxRecDepth 100000 in
set_option maxHeartbeats 4000000 in
theorem s_9_move_115 {γ : Gm} {ε : En} {dd : Nat} (hd : 2 ≤ dd) {r : Int32} {hz : Hp} {x1 : Int32} {x2 : Int32} {x3 : Int32} {x4 : Int32} {x5 : Int32} (hR : RT γ ε (some .int) (QI r hz)) : ∀ (n : Nat) (x6 : Int32) (h : Hp), f_9_move_115 x1 x2 x3 x4 x5 n x6 h = some (r, hz) → VW γ ε cX9_move RX9 7 dd 115 [(0, .ref (γ.2.2.1 114)), (1, .int x1), (2, .int x2), (3, .int x3), (4, .int x4), (5, .int x5), (6, .int x6)] [] h := by
  intro n
  induction n with
  | zero =>
    intro x6 h hr
    exact nf hr
  | succ n ih =>
    intro x6 h hr
    rw [f_9_move_115] at hr
    refine VW.iload d9_move_115 6 rfl ?_
    refine VW.iload d9_move_117 5 rfl ?_
    refine VW.icmp_ge 149 d9_move_119 (by decide) (fun c41 => ?_) (fun c41 => ?_)
    · replace hr := ip hr c41
      refine VW.iconst (v := 0) d9_move_149 ic_0 ?_
      refine VW.istore (lo' := [(6, .int 0), (0, .ref (γ.2.2.1 114)), (1, .int x1), (2, .int x2), (3, .int x3), (4, .int x4), (5, .int x5)]) d9_move_150 (by decide) rfl ?_
      exact VW.sub [1, 4, 5, 6, 0] rfl (s_9_move_152 hd hR FU 0 h hr)
    · replace hr := im hr c41
      refine VW.aload_n d9_move_122 0 rfl ?_
      refine VW.getR (k := 24) (r := 125) d9_move_123 (oo_9 o9_114) rfl fl_9_40 ck9 ?_
      refine VW.iload d9_move_126 6 rfl ?_
      refine VW.aload_n d9_move_128 0 rfl ?_
      refine VW.getR (k := 23) (r := 124) d9_move_129 (oo_9 o9_114) rfl fl_9_37 ck9 ?_
      refine VW.bipush (v := 40) d9_move_132 bp_40 ?_
      refine VW.iload_n d9_move_134 1 rfl ?_
      refine VW.imul d9_move_135 ?_
      refine VW.iload_n d9_move_136 2 rfl ?_
      refine VW.iadd d9_move_137 ?_
      refine VW.iload d9_move_138 6 rfl ?_
      refine VW.iadd d9_move_140 ?_
      obtain ⟨g47, hr⟩ := gdt hr
      refine VW.iald (j := (ci (((40 * x1) + x2) + x6))) d9_move_141 (rf_9_23 o9_114) g47 rfl ?_
      obtain ⟨g48, hr⟩ := gdt hr
      obtain ⟨h49, e50, hr⟩ := hlt hr
      refine VW.iast (j := (ci x6)) d9_move_142 (rf_9_24 o9_114) g48 rfl ?_
      refine VW.heq e50 ?_
      refine VW.iinc (w := 1) (lo' := [(6, .int (x6 + 1)), (0, .ref (γ.2.2.1 114)), (1, .int x1), (2, .int x2), (3, .int x3), (4, .int x4), (5, .int x5)]) d9_move_143 6 rfl ic_1 (by decide) rfl ?_
      refine VW.goto 115 d9_move_146 (by decide) ?_
      exact VW.sub [1, 2, 3, 4, 5, 6, 0] rfl (ih (x6 + 1) h49 hr)
set_option maxRecDepth 100000 in
set_option maxHeartbeats 4000000 in
theorem c_9_move {γ : Gm} {dd : Nat} {x1 : Int32} {x2 : Int32} {x3 : Int32} {x4 : Int32} {x5 : Int32} {h : Hp} {r : Int32} {hz : Hp} (hd : 2 ≤ dd) (hr : f_9_move x1 x2 x3 x4 x5 h = some (r, hz)) : MC γ dd yX9_move cX9_move 7 (some .int) [.ref (γ.2.2.1 114), .int x1, .int x2, .int x3, .int x4, .int x5] h (QI r hz) := by
  unfold f_9_move at hr
  refine MC.of mi_9_move (Nat.le_of_ble_eq_true rfl) (fun ε hR => ?_)
  show VW γ ε cX9_move RX9 7 dd 0 [(0, .ref (γ.2.2.1 114)), (1, .int x1), (2, .int x2), (3, .int x3), (4, .int x4), (5, .int x5)] [] h
  refine VW.iload_n d9_move_0 1 rfl ?_
  refine VW.callS (As := [.int x1]) (st := []) d9_move_1 mi_9_isSheet cs_9_269 (by decide) (dl1 hd) _ rfl (Nat.le_of_ble_eq_true rfl) rfl (c_9_isSheet (dl hd rfl) rfl) (kI ?_)
  refine VW.if_eq 14 d9_move_4 (by decide) (fun c1 => ?_) (fun c1 => ?_)
  · replace hr := ip hr c1
    refine VW.aload_n d9_move_14 0 rfl ?_
    refine VW.iconst (v := 1) d9_move_15 ic_1 ?_
    obtain ⟨r3, h4, e2, hr⟩ := bno2 hr
    refine VW.callV (As := [.int 1]) (st := []) d9_move_16 mi_9_finds cv_9_107 (oo_9 o9_114) ⟨rfl, rfl⟩ (by decide) (dl1 hd) _ rfl (Nat.le_of_ble_eq_true rfl) rfl (c_9_finds (dl hd rfl) e2) (kI ?_)
    exact VW.iret d9_move_19 hR (rIw hr)
  · replace hr := im hr c1
    refine VW.iload_n d9_move_7 3 rfl ?_
    refine VW.callS (As := [.int x3]) (st := []) d9_move_8 mi_9_isSheet cs_9_269 (by decide) (dl1 hd) _ rfl (Nat.le_of_ble_eq_true rfl) rfl (c_9_isSheet (dl hd rfl) rfl) (kI ?_)
    refine VW.if_ne 20 d9_move_11 (by decide) (fun c5 => ?_) (fun c5 => ?_)
    · replace hr := ip hr c5
      refine VW.aload_n d9_move_14 0 rfl ?_
      refine VW.iconst (v := 1) d9_move_15 ic_1 ?_
      obtain ⟨r7, h8, e6, hr⟩ := bno2 hr
      refine VW.callV (As := [.int 1]) (st := []) d9_move_16 mi_9_finds cv_9_107 (oo_9 o9_114) ⟨rfl, rfl⟩ (by decide) (dl1 hd) _ rfl (Nat.le_of_ble_eq_true rfl) rfl (c_9_finds (dl hd rfl) e6) (kI ?_)
      exact VW.iret d9_move_19 hR (rIw hr)
    · replace hr := im hr c5
      refine VW.aload_n d9_move_20 0 rfl ?_
      refine VW.getR (k := 21) (r := 122) d9_move_21 (oo_9 o9_114) rfl fl_9_31 ck9 ?_
      refine VW.iload_n d9_move_24 1 rfl ?_
      obtain ⟨g9, hr⟩ := gdt hr
      refine VW.iald (j := (ci x1)) d9_move_25 (rf_9_21 o9_114) g9 rfl ?_
      refine VW.if_eq 38 d9_move_26 (by decide) (fun c10 => ?_) (fun c10 => ?_)
      · replace hr := ip hr c10
        refine VW.aload_n d9_move_38 0 rfl ?_
        refine VW.iconst (v := 2) d9_move_39 ic_2 ?_
        obtain ⟨r12, h13, e11, hr⟩ := bno2 hr
        refine VW.callV (As := [.int 2]) (st := []) d9_move_40 mi_9_finds cv_9_107 (oo_9 o9_114) ⟨rfl, rfl⟩ (by decide) (dl1 hd) _ rfl (Nat.le_of_ble_eq_true rfl) rfl (c_9_finds (dl hd rfl) e11) (kI ?_)
        exact VW.iret d9_move_43 hR (rIw hr)
      · replace hr := im hr c10
        refine VW.aload_n d9_move_29 0 rfl ?_
        refine VW.getR (k := 21) (r := 122) d9_move_30 (oo_9 o9_114) rfl fl_9_31 ck9 ?_
        refine VW.iload_n d9_move_33 3 rfl ?_
        obtain ⟨g14, hr⟩ := gdt hr
        refine VW.iald (j := (ci x3)) d9_move_34 (rf_9_21 o9_114) g14 rfl ?_
        refine VW.if_ne 44 d9_move_35 (by decide) (fun c15 => ?_) (fun c15 => ?_)
        · replace hr := ip hr c15
          refine VW.aload_n d9_move_38 0 rfl ?_
          refine VW.iconst (v := 2) d9_move_39 ic_2 ?_
          obtain ⟨r17, h18, e16, hr⟩ := bno2 hr
          refine VW.callV (As := [.int 2]) (st := []) d9_move_40 mi_9_finds cv_9_107 (oo_9 o9_114) ⟨rfl, rfl⟩ (by decide) (dl1 hd) _ rfl (Nat.le_of_ble_eq_true rfl) rfl (c_9_finds (dl hd rfl) e16) (kI ?_)
          exact VW.iret d9_move_43 hR (rIw hr)
        · replace hr := im hr c15
          refine VW.aload_n d9_move_44 0 rfl ?_
          refine VW.getR (k := 21) (r := 122) d9_move_45 (oo_9 o9_114) rfl fl_9_31 ck9 ?_
          refine VW.iload_n d9_move_48 1 rfl ?_
          obtain ⟨g19, hr⟩ := gdt hr
          refine VW.iald (j := (ci x1)) d9_move_49 (rf_9_21 o9_114) g19 rfl ?_
          refine VW.aload_n d9_move_50 0 rfl ?_
          refine VW.getR (k := 21) (r := 122) d9_move_51 (oo_9 o9_114) rfl fl_9_31 ck9 ?_
          refine VW.iload_n d9_move_54 3 rfl ?_
          obtain ⟨g20, hr⟩ := gdt hr
          refine VW.iald (j := (ci x3)) d9_move_55 (rf_9_21 o9_114) g20 rfl ?_
          refine VW.icmp_eq 65 d9_move_56 (by decide) (fun c21 => ?_) (fun c21 => ?_)
          · replace hr := ip hr c21
            refine VW.iload d9_move_65 5 rfl ?_
            refine VW.if_lt 106 d9_move_67 (by decide) (fun c22 => ?_) (fun c22 => ?_)
            · replace hr := ip hr c22
              refine VW.aload_n d9_move_106 0 rfl ?_
              refine VW.iconst (v := 1) d9_move_107 ic_1 ?_
              obtain ⟨r24, h25, e23, hr⟩ := bno2 hr
              refine VW.callV (As := [.int 1]) (st := []) d9_move_108 mi_9_finds cv_9_107 (oo_9 o9_114) ⟨rfl, rfl⟩ (by decide) (dl1 hd) _ rfl (Nat.le_of_ble_eq_true rfl) rfl (c_9_finds (dl hd rfl) e23) (kI ?_)
              exact VW.iret d9_move_111 hR (rIw hr)
            · replace hr := im hr c22
              refine VW.iload_n d9_move_70 2 rfl ?_
              refine VW.if_lt 106 d9_move_71 (by decide) (fun c26 => ?_) (fun c26 => ?_)
              · replace hr := ip hr c26
                refine VW.aload_n d9_move_106 0 rfl ?_
                refine VW.iconst (v := 1) d9_move_107 ic_1 ?_
                obtain ⟨r28, h29, e27, hr⟩ := bno2 hr
                refine VW.callV (As := [.int 1]) (st := []) d9_move_108 mi_9_finds cv_9_107 (oo_9 o9_114) ⟨rfl, rfl⟩ (by decide) (dl1 hd) _ rfl (Nat.le_of_ble_eq_true rfl) rfl (c_9_finds (dl hd rfl) e27) (kI ?_)
                exact VW.iret d9_move_111 hR (rIw hr)
              · replace hr := im hr c26
                refine VW.iload d9_move_74 4 rfl ?_
                refine VW.if_lt 106 d9_move_76 (by decide) (fun c30 => ?_) (fun c30 => ?_)
                · replace hr := ip hr c30
                  refine VW.aload_n d9_move_106 0 rfl ?_
                  refine VW.iconst (v := 1) d9_move_107 ic_1 ?_
                  obtain ⟨r32, h33, e31, hr⟩ := bno2 hr
                  refine VW.callV (As := [.int 1]) (st := []) d9_move_108 mi_9_finds cv_9_107 (oo_9 o9_114) ⟨rfl, rfl⟩ (by decide) (dl1 hd) _ rfl (Nat.le_of_ble_eq_true rfl) rfl (c_9_finds (dl hd rfl) e31) (kI ?_)
                  exact VW.iret d9_move_111 hR (rIw hr)
                · replace hr := im hr c30
                  refine VW.iload d9_move_79 5 rfl ?_
                  refine VW.aload_n d9_move_81 0 rfl ?_
                  refine VW.getR (k := 22) (r := 123) d9_move_82 (oo_9 o9_114) rfl fl_9_34 ck9 ?_
                  refine VW.iload_n d9_move_85 1 rfl ?_
                  obtain ⟨g34, hr⟩ := gdt hr
                  refine VW.iald (j := (ci x1)) d9_move_86 (rf_9_22 o9_114) g34 rfl ?_
                  refine VW.iload_n d9_move_87 2 rfl ?_
                  refine VW.isub d9_move_88 ?_
                  refine VW.icmp_gt 106 d9_move_89 (by decide) (fun c35 => ?_) (fun c35 => ?_)
                  · replace hr := ip hr c35
                    refine VW.aload_n d9_move_106 0 rfl ?_
                    refine VW.iconst (v := 1) d9_move_107 ic_1 ?_
                    obtain ⟨r37, h38, e36, hr⟩ := bno2 hr
                    refine VW.callV (As := [.int 1]) (st := []) d9_move_108 mi_9_finds cv_9_107 (oo_9 o9_114) ⟨rfl, rfl⟩ (by decide) (dl1 hd) _ rfl (Nat.le_of_ble_eq_true rfl) rfl (c_9_finds (dl hd rfl) e36) (kI ?_)
                    exact VW.iret d9_move_111 hR (rIw hr)
                  · replace hr := im hr c35
                    refine VW.iload d9_move_92 5 rfl ?_
                    refine VW.aload_n d9_move_94 0 rfl ?_
                    refine VW.getR (k := 22) (r := 123) d9_move_95 (oo_9 o9_114) rfl fl_9_34 ck9 ?_
                    refine VW.iload_n d9_move_98 3 rfl ?_
                    obtain ⟨g39, hr⟩ := gdt hr
                    refine VW.iald (j := (ci x3)) d9_move_99 (rf_9_22 o9_114) g39 rfl ?_
                    refine VW.iload d9_move_100 4 rfl ?_
                    refine VW.isub d9_move_102 ?_
                    refine VW.icmp_le 112 d9_move_103 (by decide) (fun c40 => ?_) (fun c40 => ?_)
                    · replace hr := ip hr c40
                      refine VW.iconst (v := 0) d9_move_112 ic_0 ?_
                      refine VW.istore (lo' := [(6, .int 0), (0, .ref (γ.2.2.1 114)), (1, .int x1), (2, .int x2), (3, .int x3), (4, .int x4), (5, .int x5)]) d9_move_113 (by decide) rfl ?_
                      exact VW.sub [1, 2, 3, 4, 5, 6, 0] rfl (s_9_move_115 hd hR FU 0 h hr)
                    · replace hr := im hr c40
                      refine VW.aload_n d9_move_106 0 rfl ?_
                      refine VW.iconst (v := 1) d9_move_107 ic_1 ?_
                      obtain ⟨r52, h53, e51, hr⟩ := bno2 hr
                      refine VW.callV (As := [.int 1]) (st := []) d9_move_108 mi_9_finds cv_9_107 (oo_9 o9_114) ⟨rfl, rfl⟩ (by decide) (dl1 hd) _ rfl (Nat.le_of_ble_eq_true rfl) rfl (c_9_finds (dl hd rfl) e51) (kI ?_)
                      exact VW.iret d9_move_111 hR (rIw hr)
          · replace hr := im hr c21
            refine VW.aload_n d9_move_59 0 rfl ?_
            refine VW.iconst (v := 5) d9_move_60 ic_5 ?_
            obtain ⟨r55, h56, e54, hr⟩ := bno2 hr
            refine VW.callV (As := [.int 5]) (st := []) d9_move_61 mi_9_finds cv_9_107 (oo_9 o9_114) ⟨rfl, rfl⟩ (by decide) (dl1 hd) _ rfl (Nat.le_of_ble_eq_true rfl) rfl (c_9_finds (dl hd rfl) e54) (kI ?_)
            exact VW.iret d9_move_64 hR (rIw hr)
set_option maxRecDepth 100000 in
set_option maxHeartbeats 4000000 in
theorem s_9_must_18 {γ : Gm} {ε : En} {dd : Nat} (hd : 69 ≤ dd) {r : Int32} {hz : Hp} {x1 : Int32} (hR : RT γ ε (some .int) (QI r hz)) : ∀ (n : Nat) (x2 : Int32) (x3 : Int32) (h : Hp), f_9_must_18 x1 n x2 x3 h = some (r, hz) → VW γ ε cX9_must RX9 5 dd 18 [(0, .ref (γ.2.2.1 114)), (1, .int x1), (2, .int x2), (3, .int x3)] [] h := by
  intro n
  induction n with
  | zero =>
    intro x2 x3 h hr
    exact nf hr
  | succ n ih =>
    intro x2 x3 h hr
    rw [f_9_must_18] at hr
    refine VW.iload_n d9_must_18 3 rfl ?_
    refine VW.aload_n d9_must_19 0 rfl ?_
    refine VW.iload_n d9_must_20 1 rfl ?_
    refine VW.iconst (v := 3) d9_must_21 ic_3 ?_
    obtain ⟨r8, e7, hr⟩ := bno hr
    refine VW.callV (As := [.int x1, .int 3]) (st := [.int x3]) d9_must_22 mi_9_of cv_9_145 (oo_9 o9_114) ⟨rfl, rfl⟩ (by decide) (dl1 hd) _ rfl (Nat.le_of_ble_eq_true rfl) rfl (c_9_of (dl hd rfl) e7) (kI ?_)
    refine VW.icmp_ge 85 d9_must_25 (by decide) (fun c9 => ?_) (fun c9 => ?_)
    · replace hr := ip hr c9
      refine VW.iload_n d9_must_85 2 rfl ?_
      exact VW.iret d9_must_86 hR (rIw hr)
    · replace hr := im hr c9
      refine VW.aload_n d9_must_28 0 rfl ?_
      refine VW.getR (k := 0) (r := 115) d9_must_29 (oo_9 o9_114) rfl fl_9_7 ck9 ?_
      refine VW.bipush (v := 24) d9_must_32 bp_24 ?_
      refine VW.aload_n d9_must_34 0 rfl ?_
      refine VW.iload_n d9_must_35 1 rfl ?_
      refine VW.iconst (v := 2) d9_must_36 ic_2 ?_
      obtain ⟨r11, e10, hr⟩ := bno hr
      refine VW.callV (As := [.int x1, .int 2]) (st := [.int 24, .ref (γ.2.2.1 115)]) d9_must_37 mi_9_of cv_9_145 (oo_9 o9_114) ⟨rfl, rfl⟩ (by decide) (dl1 hd) _ rfl (Nat.le_of_ble_eq_true rfl) rfl (c_9_of (dl hd rfl) e10) (kI ?_)
      refine VW.iadd d9_must_40 ?_
      refine VW.iload_n d9_must_41 3 rfl ?_
      refine VW.iadd d9_must_42 ?_
      obtain ⟨g12, hr⟩ := gdt hr
      refine VW.iald (j := (ci ((24 + r11) + x3))) d9_must_43 (rf_9_0 o9_114) g12 rfl ?_
      refine VW.istore (lo' := [(4, .int (h 115 (ci ((24 + r11) + x3)))), (0, .ref (γ.2.2.1 114)), (1, .int x1), (2, .int x2), (3, .int x3)]) d9_must_44 (by decide) rfl ?_
      refine VW.iload_n d9_must_46 3 rfl ?_
      refine VW.iload d9_must_47 0 rfl ?_
      refine VW.iconst (v := 3) d9_must_49 ic_3 ?_
      refine VW.icmp_eq 76 d9_must_50 (by decide) (fun c13 => ?_) (fun c13 => ?_)
      · replace hr := ip hr c13
        refine VW.iconst (v := 0) d9_must_76 ic_0 ?_
        refine VW.ior d9_must_77 ?_
        refine VW.istore_n (lo' := [(2, .int (x2 ||| 0)), (4, .int (h 115 (ci ((24 + r11) + x3)))), (0, .ref (γ.2.2.1 114)), (1, .int x1), (3, .int x3)]) d9_must_78 (by decide) rfl ?_
        refine VW.iinc (w := 1) (lo' := [(3, .int (x3 + 1)), (2, .int (x2 ||| 0)), (4, .int (h 115 (ci ((24 + r11) + x3)))), (0, .ref (γ.2.2.1 114)), (1, .int x1)]) d9_must_79 4 rfl ic_1 (by decide) rfl ?_
        refine VW.goto 18 d9_must_82 (by decide) ?_
        exact VW.sub [3, 4, 1, 0] rfl (ih (x2 ||| 0) (x3 + 1) h hr)
      · replace hr := im hr c13
        refine VW.aload_n d9_must_53 1 rfl ?_
        refine VW.iload_n d9_must_54 2 rfl ?_
        refine VW.aload_n d9_must_55 1 rfl ?_
        refine VW.iconst (v := 0) d9_must_56 ic_0 ?_
        refine VW.iload d9_must_57 0 rfl ?_
        refine VW.iconst (v := 1) d9_must_59 ic_1 ?_
        refine VW.iload_n d9_must_60 4 rfl ?_
        obtain ⟨r15, h16, e14, hr⟩ := bno2 hr
        refine VW.callV (As := [.int 0, .int (h 115 (ci ((24 + r11) + x3))), .int 1, .int x3]) (st := [.int x1, .ref (γ.2.2.1 114), .int x2]) d9_must_61 mi_9_textGives cv_9_119 (oo_9 o9_114) ⟨rfl, rfl⟩ (by decide) (dl1 hd) _ rfl (Nat.le_of_ble_eq_true rfl) rfl (c_9_textGives (dl hd rfl) e14) (kI ?_)
        obtain ⟨r18, e17, hr⟩ := bno hr
        refine VW.callV (As := [.int x1, .int r15]) (st := [.int x2]) d9_must_64 mi_9_seen cv_9_154 (oo_9 o9_114) ⟨rfl, rfl⟩ (by decide) (dl1 hd) _ rfl (Nat.le_of_ble_eq_true rfl) rfl (c_9_seen (dl hd rfl) e17) (kI ?_)
        refine VW.if_eq 76 d9_must_67 (by decide) (fun c19 => ?_) (fun c19 => ?_)
        · replace hr := ip hr c19
          refine VW.iconst (v := 0) d9_must_76 ic_0 ?_
          refine VW.ior d9_must_77 ?_
          refine VW.istore_n (lo' := [(2, .int (x2 ||| 0)), (4, .int (h 115 (ci ((24 + r11) + x3)))), (0, .ref (γ.2.2.1 114)), (1, .int x1), (3, .int x3)]) d9_must_78 (by decide) rfl ?_
          refine VW.iinc (w := 1) (lo' := [(3, .int (x3 + 1)), (2, .int (x2 ||| 0)), (4, .int (h 115 (ci ((24 + r11) + x3)))), (0, .ref (γ.2.2.1 114)), (1, .int x1)]) d9_must_79 4 rfl ic_1 (by decide) rfl ?_
          refine VW.goto 18 d9_must_82 (by decide) ?_
          exact VW.sub [3, 4, 1, 0] rfl (ih (x2 ||| 0) (x3 + 1) h16 hr)
        · replace hr := im hr c19
          refine VW.iconst (v := 1) d9_must_70 ic_1 ?_
          refine VW.iload_n d9_must_71 4 rfl ?_
          refine VW.ishl d9_must_72 ?_
          refine VW.goto 77 d9_must_73 (by decide) ?_
          refine VW.ior d9_must_77 ?_
          refine VW.istore_n (lo' := [(2, .int (x2 ||| (1 <<< (x3 &&& 31)))), (4, .int (h 115 (ci ((24 + r11) + x3)))), (0, .ref (γ.2.2.1 114)), (1, .int x1), (3, .int x3)]) d9_must_78 (by decide) rfl ?_
          refine VW.iinc (w := 1) (lo' := [(3, .int (x3 + 1)), (2, .int (x2 ||| (1 <<< (x3 &&& 31)))), (4, .int (h 115 (ci ((24 + r11) + x3)))), (0, .ref (γ.2.2.1 114)), (1, .int x1)]) d9_must_79 4 rfl ic_1 (by decide) rfl ?_
          refine VW.goto 18 d9_must_82 (by decide) ?_
          exact VW.sub [3, 4, 1, 0] rfl (ih (x2 ||| (1 <<< (x3 &&& 31))) (x3 + 1) h16 hr)
set_option maxRecDepth 100000 in
set_option maxHeartbeats 4000000 in
theorem c_9_must {γ : Gm} {dd : Nat} {x1 : Int32} {h : Hp} {r : Int32} {hz : Hp} (hd : 69 ≤ dd) (hr : f_9_must x1 h = some (r, hz)) : MC γ dd yX9_must cX9_must 5 (some .int) [.ref (γ.2.2.1 114), .int x1] h (QI r hz) := by
  unfold f_9_must at hr
  refine MC.of mi_9_must (Nat.le_of_ble_eq_true rfl) (fun ε hR => ?_)
  show VW γ ε cX9_must RX9 5 dd 0 [(0, .ref (γ.2.2.1 114)), (1, .int x1)] [] h
  refine VW.aload_n d9_must_0 0 rfl ?_
  refine VW.iload_n d9_must_1 1 rfl ?_
  obtain ⟨r2, e1, hr⟩ := bno hr
  refine VW.callV (As := [.int x1]) (st := []) d9_must_2 mi_9_isLine cv_9_184 (oo_9 o9_114) ⟨rfl, rfl⟩ (by decide) (dl1 hd) _ rfl (Nat.le_of_ble_eq_true rfl) rfl (c_9_isLine (dl hd rfl) e1) (kI ?_)
  refine VW.if_ne 14 d9_must_5 (by decide) (fun c3 => ?_) (fun c3 => ?_)
  · replace hr := ip hr c3
    refine VW.aload_n d9_must_8 0 rfl ?_
    refine VW.iconst (v := 1) d9_must_9 ic_1 ?_
    obtain ⟨r5, h6, e4, hr⟩ := bno2 hr
    refine VW.callV (As := [.int 1]) (st := []) d9_must_10 mi_9_finds cv_9_107 (oo_9 o9_114) ⟨rfl, rfl⟩ (by decide) (dl1 hd) _ rfl (Nat.le_of_ble_eq_true rfl) rfl (c_9_finds (dl hd rfl) e4) (kI ?_)
    exact VW.iret d9_must_13 hR (rIw hr)
  · replace hr := im hr c3
    refine VW.iconst (v := 0) d9_must_14 ic_0 ?_
    refine VW.istore_n (lo' := [(2, .int 0), (0, .ref (γ.2.2.1 114)), (1, .int x1)]) d9_must_15 (by decide) rfl ?_
    refine VW.iconst (v := 0) d9_must_16 ic_0 ?_
    refine VW.istore_n (lo' := [(3, .int 0), (2, .int 0), (0, .ref (γ.2.2.1 114)), (1, .int x1)]) d9_must_17 (by decide) rfl ?_
    exact VW.sub [2, 3, 1, 0] rfl (s_9_must_18 hd hR FU 0 0 h hr)
set_option maxRecDepth 100000 in
set_option maxHeartbeats 4000000 in
theorem c_9_ofLine {γ : Gm} {dd : Nat} {x1 : Int32} {x2 : Int32} {h : Hp} {r : Int32} {hz : Hp} (hd : 72 ≤ dd) (hr : f_9_ofLine x1 x2 h = some (r, hz)) : MC γ dd yX9_ofLine cX9_ofLine 3 (some .int) [.ref (γ.2.2.1 114), .int x1, .int x2] h (QI r hz) := by
  unfold f_9_ofLine at hr
  refine MC.of mi_9_ofLine (Nat.le_of_ble_eq_true rfl) (fun ε hR => ?_)
  show VW γ ε cX9_ofLine RX9 3 dd 0 [(0, .ref (γ.2.2.1 114)), (1, .int x1), (2, .int x2)] [] h
  refine VW.aload_n d9_ofLine_0 0 rfl ?_
  refine VW.iload_n d9_ofLine_1 1 rfl ?_
  obtain ⟨r2, e1, hr⟩ := bno hr
  refine VW.callV (As := [.int x1]) (st := []) d9_ofLine_2 mi_9_isLine cv_9_184 (oo_9 o9_114) ⟨rfl, rfl⟩ (by decide) (dl1 hd) _ rfl (Nat.le_of_ble_eq_true rfl) rfl (c_9_isLine (dl hd rfl) e1) (kI ?_)
  refine VW.if_eq 20 d9_ofLine_5 (by decide) (fun c3 => ?_) (fun c3 => ?_)
  · replace hr := ip hr c3
    refine VW.aload_n d9_ofLine_20 0 rfl ?_
    refine VW.iconst (v := 1) d9_ofLine_21 ic_1 ?_
    obtain ⟨r5, h6, e4, hr⟩ := bno2 hr
    refine VW.callV (As := [.int 1]) (st := []) d9_ofLine_22 mi_9_finds cv_9_107 (oo_9 o9_114) ⟨rfl, rfl⟩ (by decide) (dl1 hd) _ rfl (Nat.le_of_ble_eq_true rfl) rfl (c_9_finds (dl hd rfl) e4) (kI ?_)
    exact VW.iret d9_ofLine_25 hR (rIw hr)
  · replace hr := im hr c3
    refine VW.iload_n d9_ofLine_8 2 rfl ?_
    refine VW.i2l d9_ofLine_9 ?_
    refine VW.lconst (v := 0) d9_ofLine_10 (by decide) ?_
    refine VW.ldc2 (v := 9) d9_ofLine_11 kc_9_187 ?_
    refine VW.callS (As := [.long (Int32.toInt64 x2), .long 0, .long 9]) (st := []) d9_ofLine_14 mi_9_in cs_9_44 (by decide) (dl1 hd) _ rfl (Nat.le_of_ble_eq_true rfl) rfl (c_9_in (dl hd rfl) rfl) (kI ?_)
    refine VW.if_ne 26 d9_ofLine_17 (by decide) (fun c7 => ?_) (fun c7 => ?_)
    · replace hr := ip hr c7
      refine VW.aload_n d9_ofLine_20 0 rfl ?_
      refine VW.iconst (v := 1) d9_ofLine_21 ic_1 ?_
      obtain ⟨r9, h10, e8, hr⟩ := bno2 hr
      refine VW.callV (As := [.int 1]) (st := []) d9_ofLine_22 mi_9_finds cv_9_107 (oo_9 o9_114) ⟨rfl, rfl⟩ (by decide) (dl1 hd) _ rfl (Nat.le_of_ble_eq_true rfl) rfl (c_9_finds (dl hd rfl) e8) (kI ?_)
      exact VW.iret d9_ofLine_25 hR (rIw hr)
    · replace hr := im hr c7
      refine VW.iload_n d9_ofLine_26 2 rfl ?_
      by_cases c11 : x2 = 6
      · replace hr := ip hr c11
        refine VW.tableIn (off := 29) 56 d9_ofLine_27 (by rw [c11]; decide) (by rw [c11]; decide) (by rw [c11]; decide) (by decide) ?_
        refine VW.aload_n d9_ofLine_56 0 rfl ?_
        refine VW.iload_n d9_ofLine_57 1 rfl ?_
        obtain ⟨r13, h14, e12, hr⟩ := bno2 hr
        refine VW.callV (As := [.int x1]) (st := []) d9_ofLine_58 mi_9_offOf cv_9_170 (oo_9 o9_114) ⟨rfl, rfl⟩ (by decide) (dl1 hd) _ rfl (Nat.le_of_ble_eq_true rfl) rfl (c_9_offOf (dl hd rfl) e12) (kI ?_)
        exact VW.iret d9_ofLine_61 hR (rIw hr)
      · replace hr := im hr c11
        by_cases c15 : x2 = 7
        · replace hr := ip hr c15
          refine VW.tableIn (off := 35) 62 d9_ofLine_27 (by rw [c15]; decide) (by rw [c15]; decide) (by rw [c15]; decide) (by decide) ?_
          refine VW.aload_n d9_ofLine_62 0 rfl ?_
          refine VW.iload_n d9_ofLine_63 1 rfl ?_
          obtain ⟨r17, h18, e16, hr⟩ := bno2 hr
          refine VW.callV (As := [.int x1]) (st := []) d9_ofLine_64 mi_9_lossOf cv_9_173 (oo_9 o9_114) ⟨rfl, rfl⟩ (by decide) (dl1 hd) _ rfl (Nat.le_of_ble_eq_true rfl) rfl (c_9_lossOf (dl hd rfl) e16) (kI ?_)
          exact VW.iret d9_ofLine_67 hR (rIw hr)
        · replace hr := im hr c15
          by_cases c19 : x2 = 8
          · replace hr := ip hr c19
            refine VW.tableIn (off := 41) 68 d9_ofLine_27 (by rw [c19]; decide) (by rw [c19]; decide) (by rw [c19]; decide) (by decide) ?_
            refine VW.aload_n d9_ofLine_68 0 rfl ?_
            refine VW.iload_n d9_ofLine_69 1 rfl ?_
            refine VW.aload_n d9_ofLine_70 0 rfl ?_
            refine VW.getR (k := 0) (r := 115) d9_ofLine_71 (oo_9 o9_114) rfl fl_9_7 ck9 ?_
            refine VW.iconst (v := 2) d9_ofLine_74 ic_2 ?_
            refine VW.iald (j := 2) d9_ofLine_75 (rf_9_0 o9_114) ib_2_380 il_2 ?_
            obtain ⟨r21, h22, e20, hr⟩ := bno2 hr
            refine VW.callV (As := [.int x1, .int (h 115 2)]) (st := []) d9_ofLine_76 mi_9_isNoticed cv_9_189 (oo_9 o9_114) ⟨rfl, rfl⟩ (by decide) (dl1 hd) _ rfl (Nat.le_of_ble_eq_true rfl) rfl (c_9_isNoticed (dl hd rfl) e20) (kI ?_)
            refine VW.if_eq 86 d9_ofLine_79 (by decide) (fun c23 => ?_) (fun c23 => ?_)
            · replace hr := ip hr c23
              refine VW.iconst (v := 0) d9_ofLine_86 ic_0 ?_
              exact VW.iret d9_ofLine_87 hR (rIw hr)
            · replace hr := im hr c23
              refine VW.iconst (v := 1) d9_ofLine_82 ic_1 ?_
              refine VW.goto 87 d9_ofLine_83 (by decide) ?_
              exact VW.iret d9_ofLine_87 hR (rIw hr)
          · replace hr := im hr c19
            by_cases c24 : x2 = 9
            · replace hr := ip hr c24
              refine VW.tableIn (off := 61) 88 d9_ofLine_27 (by rw [c24]; decide) (by rw [c24]; decide) (by rw [c24]; decide) (by decide) ?_
              refine VW.aload_n d9_ofLine_88 0 rfl ?_
              refine VW.iload_n d9_ofLine_89 1 rfl ?_
              refine VW.iconst (v := 2) d9_ofLine_90 ic_2 ?_
              obtain ⟨r26, e25, hr⟩ := bno hr
              refine VW.callV (As := [.int x1, .int 2]) (st := []) d9_ofLine_91 mi_9_endsOf cv_9_157 (oo_9 o9_114) ⟨rfl, rfl⟩ (by decide) (dl1 hd) _ rfl (Nat.le_of_ble_eq_true rfl) rfl (c_9_endsOf (dl hd rfl) e25) (kI ?_)
              exact VW.iret d9_ofLine_94 hR (rIw hr)
            · replace hr := im hr c24
              have tc11 := lv_neT c11 (by decide : (6 : Int32).toInt = 6)
              have tc15 := lv_neT c15 (by decide : (7 : Int32).toInt = 7)
              have tc19 := lv_neT c19 (by decide : (8 : Int32).toInt = 8)
              have tc24 := lv_neT c24 (by decide : (9 : Int32).toInt = 9)
              refine VW.tableOut 95 d9_ofLine_27 (by omega) (by decide) ?_
              refine VW.aload_n d9_ofLine_95 0 rfl ?_
              refine VW.iload_n d9_ofLine_96 1 rfl ?_
              refine VW.iload_n d9_ofLine_97 2 rfl ?_
              obtain ⟨r28, e27, hr⟩ := bno hr
              refine VW.callV (As := [.int x1, .int x2]) (st := []) d9_ofLine_98 mi_9_of cv_9_145 (oo_9 o9_114) ⟨rfl, rfl⟩ (by decide) (dl1 hd) _ rfl (Nat.le_of_ble_eq_true rfl) rfl (c_9_of (dl hd rfl) e27) (kI ?_)
              exact VW.iret d9_ofLine_101 hR (rIw hr)
set_option maxRecDepth 100000 in
set_option maxHeartbeats 4000000 in
theorem s_9_ofWord_31 {γ : Gm} {ε : En} {dd : Nat} (hd : 2 ≤ dd) {r : Int32} {hz : Hp} {x1 : Int32} {x2 : Int32} (hR : RT γ ε (some .int) (QI r hz)) : ∀ (n : Nat) (x3 : Int32) (x4 : Int32) (h : Hp), f_9_ofWord_31 x1 x2 n x3 x4 h = some (r, hz) → VW γ ε cX9_ofWord RX9 5 dd 31 [(0, .ref (γ.2.2.1 114)), (1, .int x1), (2, .int x2), (3, .int x3), (4, .int x4)] [] h := by
  intro n
  induction n with
  | zero =>
    intro x3 x4 h hr
    exact nf hr
  | succ n ih =>
    intro x3 x4 h hr
    rw [f_9_ofWord_31] at hr
    refine VW.iload d9_ofWord_31 4 rfl ?_
    refine VW.aload_n d9_ofWord_33 0 rfl ?_
    refine VW.iload_n d9_ofWord_34 1 rfl ?_
    refine VW.iconst (v := 0) d9_ofWord_35 ic_0 ?_
    obtain ⟨r12, e11, hr⟩ := bno hr
    refine VW.callV (As := [.int x1, .int 0]) (st := [.int x4]) d9_ofWord_36 mi_9_its cv_9_141 (oo_9 o9_114) ⟨rfl, rfl⟩ (by decide) (dl1 hd) _ rfl (Nat.le_of_ble_eq_true rfl) rfl (c_9_its (dl hd rfl) e11) (kI ?_)
    refine VW.icmp_ge 65 d9_ofWord_39 (by decide) (fun c13 => ?_) (fun c13 => ?_)
    · replace hr := ip hr c13
      refine VW.iload_n d9_ofWord_65 2 rfl ?_
      refine VW.if_ne 73 d9_ofWord_66 (by decide) (fun c14 => ?_) (fun c14 => ?_)
      · replace hr := ip hr c14
        refine VW.iload_n d9_ofWord_69 3 rfl ?_
        refine VW.goto 93 d9_ofWord_70 (by decide) ?_
        exact VW.iret d9_ofWord_93 hR (rIw hr)
      · replace hr := im hr c14
        refine VW.iload_n d9_ofWord_73 2 rfl ?_
        refine VW.iconst (v := 1) d9_ofWord_74 ic_1 ?_
        refine VW.icmp_ne 87 d9_ofWord_75 (by decide) (fun c15 => ?_) (fun c15 => ?_)
        · replace hr := ip hr c15
          refine VW.aload_n d9_ofWord_78 0 rfl ?_
          refine VW.iload_n d9_ofWord_79 1 rfl ?_
          refine VW.iconst (v := 0) d9_ofWord_80 ic_0 ?_
          obtain ⟨r17, e16, hr⟩ := bno hr
          refine VW.callV (As := [.int x1, .int 0]) (st := []) d9_ofWord_81 mi_9_its cv_9_141 (oo_9 o9_114) ⟨rfl, rfl⟩ (by decide) (dl1 hd) _ rfl (Nat.le_of_ble_eq_true rfl) rfl (c_9_its (dl hd rfl) e16) (kI ?_)
          refine VW.goto 93 d9_ofWord_84 (by decide) ?_
          exact VW.iret d9_ofWord_93 hR (rIw hr)
        · replace hr := im hr c15
          refine VW.aload_n d9_ofWord_87 0 rfl ?_
          refine VW.iload_n d9_ofWord_88 1 rfl ?_
          refine VW.iconst (v := 1) d9_ofWord_89 ic_1 ?_
          obtain ⟨r19, e18, hr⟩ := bno hr
          refine VW.callV (As := [.int x1, .int 1]) (st := []) d9_ofWord_90 mi_9_its cv_9_141 (oo_9 o9_114) ⟨rfl, rfl⟩ (by decide) (dl1 hd) _ rfl (Nat.le_of_ble_eq_true rfl) rfl (c_9_its (dl hd rfl) e18) (kI ?_)
          exact VW.iret d9_ofWord_93 hR (rIw hr)
    · replace hr := im hr c13
      refine VW.bipush (v := 10) d9_ofWord_42 bp_10 ?_
      refine VW.iload_n d9_ofWord_44 3 rfl ?_
      refine VW.imul d9_ofWord_45 ?_
      refine VW.aload_n d9_ofWord_46 0 rfl ?_
      refine VW.iload_n d9_ofWord_47 1 rfl ?_
      refine VW.iconst (v := 2) d9_ofWord_48 ic_2 ?_
      refine VW.iload d9_ofWord_49 4 rfl ?_
      refine VW.iadd d9_ofWord_51 ?_
      obtain ⟨r21, e20, hr⟩ := bno hr
      refine VW.callV (As := [.int x1, .int (2 + x4)]) (st := [.int (10 * x3)]) d9_ofWord_52 mi_9_its cv_9_141 (oo_9 o9_114) ⟨rfl, rfl⟩ (by decide) (dl1 hd) _ rfl (Nat.le_of_ble_eq_true rfl) rfl (c_9_its (dl hd rfl) e20) (kI ?_)
      refine VW.iadd d9_ofWord_55 ?_
      refine VW.iconst (v := 1) d9_ofWord_56 ic_1 ?_
      refine VW.iadd d9_ofWord_57 ?_
      refine VW.istore_n (lo' := [(3, .int (((10 * x3) + r21) + 1)), (0, .ref (γ.2.2.1 114)), (1, .int x1), (2, .int x2), (4, .int x4)]) d9_ofWord_58 (by decide) rfl ?_
      refine VW.iinc (w := 1) (lo' := [(4, .int (x4 + 1)), (3, .int (((10 * x3) + r21) + 1)), (0, .ref (γ.2.2.1 114)), (1, .int x1), (2, .int x2)]) d9_ofWord_59 4 rfl ic_1 (by decide) rfl ?_
      refine VW.goto 31 d9_ofWord_62 (by decide) ?_
      exact VW.sub [2, 3, 4, 1, 0] rfl (ih (((10 * x3) + r21) + 1) (x4 + 1) h hr)
set_option maxRecDepth 100000 in
set_option maxHeartbeats 4000000 in
theorem c_9_ofWord {γ : Gm} {dd : Nat} {x1 : Int32} {x2 : Int32} {h : Hp} {r : Int32} {hz : Hp} (hd : 2 ≤ dd) (hr : f_9_ofWord x1 x2 h = some (r, hz)) : MC γ dd yX9_ofWord cX9_ofWord 5 (some .int) [.ref (γ.2.2.1 114), .int x1, .int x2] h (QI r hz) := by
  unfold f_9_ofWord at hr
  refine MC.of mi_9_ofWord (Nat.le_of_ble_eq_true rfl) (fun ε hR => ?_)
  show VW γ ε cX9_ofWord RX9 5 dd 0 [(0, .ref (γ.2.2.1 114)), (1, .int x1), (2, .int x2)] [] h
  refine VW.aload_n d9_ofWord_0 0 rfl ?_
  refine VW.iload_n d9_ofWord_1 1 rfl ?_
  obtain ⟨r2, e1, hr⟩ := bno hr
  refine VW.callV (As := [.int x1]) (st := []) d9_ofWord_2 mi_9_isWord cv_9_136 (oo_9 o9_114) ⟨rfl, rfl⟩ (by decide) (dl1 hd) _ rfl (Nat.le_of_ble_eq_true rfl) rfl (c_9_isWord (dl hd rfl) e1) (kI ?_)
  refine VW.if_eq 20 d9_ofWord_5 (by decide) (fun c3 => ?_) (fun c3 => ?_)
  · replace hr := ip hr c3
    refine VW.aload_n d9_ofWord_20 0 rfl ?_
    refine VW.iconst (v := 1) d9_ofWord_21 ic_1 ?_
    obtain ⟨r5, h6, e4, hr⟩ := bno2 hr
    refine VW.callV (As := [.int 1]) (st := []) d9_ofWord_22 mi_9_finds cv_9_107 (oo_9 o9_114) ⟨rfl, rfl⟩ (by decide) (dl1 hd) _ rfl (Nat.le_of_ble_eq_true rfl) rfl (c_9_finds (dl hd rfl) e4) (kI ?_)
    exact VW.iret d9_ofWord_25 hR (rIw hr)
  · replace hr := im hr c3
    refine VW.iload_n d9_ofWord_8 2 rfl ?_
    refine VW.i2l d9_ofWord_9 ?_
    refine VW.lconst (v := 0) d9_ofWord_10 (by decide) ?_
    refine VW.ldc2 (v := 2) d9_ofWord_11 kc_9_139 ?_
    refine VW.callS (As := [.long (Int32.toInt64 x2), .long 0, .long 2]) (st := []) d9_ofWord_14 mi_9_in cs_9_44 (by decide) (dl1 hd) _ rfl (Nat.le_of_ble_eq_true rfl) rfl (c_9_in (dl hd rfl) rfl) (kI ?_)
    refine VW.if_ne 26 d9_ofWord_17 (by decide) (fun c7 => ?_) (fun c7 => ?_)
    · replace hr := ip hr c7
      refine VW.aload_n d9_ofWord_20 0 rfl ?_
      refine VW.iconst (v := 1) d9_ofWord_21 ic_1 ?_
      obtain ⟨r9, h10, e8, hr⟩ := bno2 hr
      refine VW.callV (As := [.int 1]) (st := []) d9_ofWord_22 mi_9_finds cv_9_107 (oo_9 o9_114) ⟨rfl, rfl⟩ (by decide) (dl1 hd) _ rfl (Nat.le_of_ble_eq_true rfl) rfl (c_9_finds (dl hd rfl) e8) (kI ?_)
      exact VW.iret d9_ofWord_25 hR (rIw hr)
    · replace hr := im hr c7
      refine VW.iconst (v := 0) d9_ofWord_26 ic_0 ?_
      refine VW.istore_n (lo' := [(3, .int 0), (0, .ref (γ.2.2.1 114)), (1, .int x1), (2, .int x2)]) d9_ofWord_27 (by decide) rfl ?_
      refine VW.iconst (v := 0) d9_ofWord_28 ic_0 ?_
      refine VW.istore (lo' := [(4, .int 0), (3, .int 0), (0, .ref (γ.2.2.1 114)), (1, .int x1), (2, .int x2)]) d9_ofWord_29 (by decide) rfl ?_
      exact VW.sub [2, 3, 4, 1, 0] rfl (s_9_ofWord_31 hd hR FU 0 0 h hr)
set_option maxRecDepth 100000 in
set_option maxHeartbeats 4000000 in
theorem c_9_own {γ : Gm} {dd : Nat} {h : Hp} {r : Int32} (hd : 1 ≤ dd) (hr : f_9_own h = some r) : MC γ dd yX9_own cX9_own 1 (some .int) [.ref (γ.2.2.1 114)] h (QI r h) := by
  unfold f_9_own at hr
  refine MC.of mi_9_own (Nat.le_of_ble_eq_true rfl) (fun ε hR => ?_)
  show VW γ ε cX9_own RX9 1 dd 0 [(0, .ref (γ.2.2.1 114))] [] h
  refine VW.aload_n d9_own_0 0 rfl ?_
  refine VW.aload_n d9_own_1 0 rfl ?_
  refine VW.getI (k := 20) d9_own_2 (oo_9 o9_114) rfl fl_9_248 ck9 ?_
  refine VW.iconst (v := 0) d9_own_5 ic_0 ?_
  obtain ⟨r2, e1, hr⟩ := bno hr
  refine VW.callV (As := [.int (h 114 20), .int 0]) (st := []) d9_own_6 mi_9_of cv_9_145 (oo_9 o9_114) ⟨rfl, rfl⟩ (by decide) (dl1 hd) _ rfl (Nat.le_of_ble_eq_true rfl) rfl (c_9_of (dl hd rfl) e1) (kI ?_)
  exact VW.iret d9_own_9 hR (rIf hr)
set_option maxRecDepth 100000 in
set_option maxHeartbeats 4000000 in
theorem c_9_put {γ : Gm} {dd : Nat} {x1 : Int32} {x2 : Int32} {x3 : Int32} {h : Hp} {r : Int32} {hz : Hp} (hd : 2 ≤ dd) (hr : f_9_put x1 x2 x3 h = some (r, hz)) : MC γ dd yX9_put cX9_put 4 (some .int) [.ref (γ.2.2.1 114), .int x1, .int x2, .int x3] h (QI r hz) := by
  unfold f_9_put at hr
  refine MC.of mi_9_put (Nat.le_of_ble_eq_true rfl) (fun ε hR => ?_)
  show VW γ ε cX9_put RX9 4 dd 0 [(0, .ref (γ.2.2.1 114)), (1, .int x1), (2, .int x2), (3, .int x3)] [] h
  refine VW.iload_n d9_put_0 1 rfl ?_
  refine VW.callS (As := [.int x1]) (st := []) d9_put_1 mi_9_isSheet cs_9_269 (by decide) (dl1 hd) _ rfl (Nat.le_of_ble_eq_true rfl) rfl (c_9_isSheet (dl hd rfl) rfl) (kI ?_)
  refine VW.if_ne 13 d9_put_4 (by decide) (fun c1 => ?_) (fun c1 => ?_)
  · replace hr := ip hr c1
    refine VW.aload_n d9_put_7 0 rfl ?_
    refine VW.iconst (v := 1) d9_put_8 ic_1 ?_
    obtain ⟨r3, h4, e2, hr⟩ := bno2 hr
    refine VW.callV (As := [.int 1]) (st := []) d9_put_9 mi_9_finds cv_9_107 (oo_9 o9_114) ⟨rfl, rfl⟩ (by decide) (dl1 hd) _ rfl (Nat.le_of_ble_eq_true rfl) rfl (c_9_finds (dl hd rfl) e2) (kI ?_)
    exact VW.iret d9_put_12 hR (rIw hr)
  · replace hr := im hr c1
    refine VW.aload_n d9_put_13 0 rfl ?_
    refine VW.getR (k := 21) (r := 122) d9_put_14 (oo_9 o9_114) rfl fl_9_31 ck9 ?_
    refine VW.iload_n d9_put_17 1 rfl ?_
    obtain ⟨g5, hr⟩ := gdt hr
    refine VW.iald (j := (ci x1)) d9_put_18 (rf_9_21 o9_114) g5 rfl ?_
    refine VW.if_ne 28 d9_put_19 (by decide) (fun c6 => ?_) (fun c6 => ?_)
    · replace hr := ip hr c6
      refine VW.aload_n d9_put_22 0 rfl ?_
      refine VW.iconst (v := 2) d9_put_23 ic_2 ?_
      obtain ⟨r8, h9, e7, hr⟩ := bno2 hr
      refine VW.callV (As := [.int 2]) (st := []) d9_put_24 mi_9_finds cv_9_107 (oo_9 o9_114) ⟨rfl, rfl⟩ (by decide) (dl1 hd) _ rfl (Nat.le_of_ble_eq_true rfl) rfl (c_9_finds (dl hd rfl) e7) (kI ?_)
      exact VW.iret d9_put_27 hR (rIw hr)
    · replace hr := im hr c6
      refine VW.iload_n d9_put_28 2 rfl ?_
      refine VW.i2l d9_put_29 ?_
      refine VW.lconst (v := 0) d9_put_30 (by decide) ?_
      refine VW.aload_n d9_put_31 0 rfl ?_
      refine VW.getR (k := 22) (r := 123) d9_put_32 (oo_9 o9_114) rfl fl_9_34 ck9 ?_
      refine VW.iload_n d9_put_35 1 rfl ?_
      obtain ⟨g10, hr⟩ := gdt hr
      refine VW.iald (j := (ci x1)) d9_put_36 (rf_9_22 o9_114) g10 rfl ?_
      refine VW.iconst (v := 1) d9_put_37 ic_1 ?_
      refine VW.isub d9_put_38 ?_
      refine VW.i2l d9_put_39 ?_
      refine VW.callS (As := [.long (Int32.toInt64 x2), .long 0, .long (Int32.toInt64 ((h 123 (ci x1)) - 1))]) (st := []) d9_put_40 mi_9_in cs_9_44 (by decide) (dl1 hd) _ rfl (Nat.le_of_ble_eq_true rfl) rfl (c_9_in (dl hd rfl) rfl) (kI ?_)
      refine VW.if_ne 52 d9_put_43 (by decide) (fun c11 => ?_) (fun c11 => ?_)
      · replace hr := ip hr c11
        refine VW.aload_n d9_put_46 0 rfl ?_
        refine VW.iconst (v := 1) d9_put_47 ic_1 ?_
        obtain ⟨r13, h14, e12, hr⟩ := bno2 hr
        refine VW.callV (As := [.int 1]) (st := []) d9_put_48 mi_9_finds cv_9_107 (oo_9 o9_114) ⟨rfl, rfl⟩ (by decide) (dl1 hd) _ rfl (Nat.le_of_ble_eq_true rfl) rfl (c_9_finds (dl hd rfl) e12) (kI ?_)
        exact VW.iret d9_put_51 hR (rIw hr)
      · replace hr := im hr c11
        refine VW.aload_n d9_put_52 0 rfl ?_
        refine VW.getR (k := 23) (r := 124) d9_put_53 (oo_9 o9_114) rfl fl_9_37 ck9 ?_
        refine VW.bipush (v := 40) d9_put_56 bp_40 ?_
        refine VW.iload_n d9_put_58 1 rfl ?_
        refine VW.imul d9_put_59 ?_
        refine VW.iload_n d9_put_60 2 rfl ?_
        refine VW.iadd d9_put_61 ?_
        refine VW.aload_n d9_put_62 0 rfl ?_
        refine VW.getR (k := 21) (r := 122) d9_put_63 (oo_9 o9_114) rfl fl_9_31 ck9 ?_
        refine VW.iload_n d9_put_66 1 rfl ?_
        obtain ⟨g15, hr⟩ := gdt hr
        refine VW.iald (j := (ci x1)) d9_put_67 (rf_9_21 o9_114) g15 rfl ?_
        refine VW.bipush (v := 8) d9_put_68 bp_8 ?_
        refine VW.icmp_ne 78 d9_put_70 (by decide) (fun c16 => ?_) (fun c16 => ?_)
        · replace hr := ip hr c16
          refine VW.iload_n d9_put_73 3 rfl ?_
          refine VW.i2b d9_put_74 ?_
          refine VW.goto 95 d9_put_75 (by decide) ?_
          obtain ⟨g17, hr⟩ := gdt hr
          obtain ⟨h18, e19, hr⟩ := hlt hr
          refine VW.iast (j := (ci ((40 * x1) + x2))) d9_put_95 (rf_9_23 o9_114) g17 rfl ?_
          refine VW.heq e19 ?_
          refine VW.iconst (v := 1) d9_put_96 ic_1 ?_
          exact VW.iret d9_put_97 hR (rIw hr)
        · replace hr := im hr c16
          refine VW.aload_n d9_put_78 0 rfl ?_
          refine VW.getR (k := 21) (r := 122) d9_put_79 (oo_9 o9_114) rfl fl_9_31 ck9 ?_
          refine VW.iload_n d9_put_82 1 rfl ?_
          obtain ⟨g20, hr⟩ := gdt hr
          refine VW.iald (j := (ci x1)) d9_put_83 (rf_9_21 o9_114) g20 rfl ?_
          refine VW.bipush (v := 16) d9_put_84 bp_16 ?_
          refine VW.icmp_ne 94 d9_put_86 (by decide) (fun c21 => ?_) (fun c21 => ?_)
          · replace hr := ip hr c21
            refine VW.iload_n d9_put_89 3 rfl ?_
            refine VW.i2s d9_put_90 ?_
            refine VW.goto 95 d9_put_91 (by decide) ?_
            obtain ⟨g22, hr⟩ := gdt hr
            obtain ⟨h23, e24, hr⟩ := hlt hr
            refine VW.iast (j := (ci ((40 * x1) + x2))) d9_put_95 (rf_9_23 o9_114) g22 rfl ?_
            refine VW.heq e24 ?_
            refine VW.iconst (v := 1) d9_put_96 ic_1 ?_
            exact VW.iret d9_put_97 hR (rIw hr)
          · replace hr := im hr c21
            refine VW.iload_n d9_put_94 3 rfl ?_
            obtain ⟨g25, hr⟩ := gdt hr
            obtain ⟨h26, e27, hr⟩ := hlt hr
            refine VW.iast (j := (ci ((40 * x1) + x2))) d9_put_95 (rf_9_23 o9_114) g25 rfl ?_
            refine VW.heq e27 ?_
            refine VW.iconst (v := 1) d9_put_96 ic_1 ?_
            exact VW.iret d9_put_97 hR (rIw hr)
set_option maxRecDepth 100000 in
set_option maxHeartbeats 4000000 in
theorem s_9_restore_15 {γ : Gm} {ε : En} {dd : Nat} (hd : 1 ≤ dd) {r : Int32} {hz : Hp} (hR : RT γ ε (some .int) (QI r hz)) : ∀ (n : Nat) (x1 : Int32) (h : Hp), f_9_restore_15 n x1 h = some (r, hz) → VW γ ε cX9_restore RX9 2 dd 15 [(0, .ref (γ.2.2.1 114)), (1, .int x1)] [] h := by
  intro n
  induction n with
  | zero =>
    intro x1 h hr
    exact nf hr
  | succ n ih =>
    intro x1 h hr
    rw [f_9_restore_15] at hr
    refine VW.iload_n d9_restore_15 1 rfl ?_
    refine VW.sipush (v := 380) d9_restore_16 sp_380 ?_
    refine VW.icmp_ge 40 d9_restore_19 (by decide) (fun c5 => ?_) (fun c5 => ?_)
    · replace hr := ip hr c5
      refine VW.aload_n d9_restore_40 0 rfl ?_
      refine VW.getR (k := 0) (r := 115) d9_restore_41 (oo_9 o9_114) rfl fl_9_7 ck9 ?_
      refine VW.iconst (v := 2) d9_restore_44 ic_2 ?_
      refine VW.iald (j := 2) d9_restore_45 (rf_9_0 o9_114) ib_2_380 il_2 ?_
      exact VW.iret d9_restore_46 hR (rIw hr)
    · replace hr := im hr c5
      refine VW.aload_n d9_restore_22 0 rfl ?_
      refine VW.getR (k := 0) (r := 115) d9_restore_23 (oo_9 o9_114) rfl fl_9_7 ck9 ?_
      refine VW.iload_n d9_restore_26 1 rfl ?_
      refine VW.aload_n d9_restore_27 0 rfl ?_
      refine VW.getR (k := 1) (r := 116) d9_restore_28 (oo_9 o9_114) rfl fl_9_13 ck9 ?_
      refine VW.iload_n d9_restore_31 1 rfl ?_
      obtain ⟨g6, hr⟩ := gdt hr
      refine VW.iald (j := (ci x1)) d9_restore_32 (rf_9_1 o9_114) g6 rfl ?_
      obtain ⟨g7, hr⟩ := gdt hr
      obtain ⟨h8, e9, hr⟩ := hlt hr
      refine VW.iast (j := (ci x1)) d9_restore_33 (rf_9_0 o9_114) g7 rfl ?_
      refine VW.heq e9 ?_
      refine VW.iinc (w := 1) (lo' := [(1, .int (x1 + 1)), (0, .ref (γ.2.2.1 114))]) d9_restore_34 1 rfl ic_1 (by decide) rfl ?_
      refine VW.goto 15 d9_restore_37 (by decide) ?_
      exact VW.sub [1, 0] rfl (ih (x1 + 1) h8 hr)
set_option maxRecDepth 100000 in
set_option maxHeartbeats 4000000 in
theorem c_9_restore {γ : Gm} {dd : Nat} {h : Hp} {r : Int32} {hz : Hp} (hd : 1 ≤ dd) (hr : f_9_restore h = some (r, hz)) : MC γ dd yX9_restore cX9_restore 2 (some .int) [.ref (γ.2.2.1 114)] h (QI r hz) := by
  unfold f_9_restore at hr
  refine MC.of mi_9_restore (Nat.le_of_ble_eq_true rfl) (fun ε hR => ?_)
  show VW γ ε cX9_restore RX9 2 dd 0 [(0, .ref (γ.2.2.1 114))] [] h
  refine VW.aload_n d9_restore_0 0 rfl ?_
  refine VW.getI (k := 2) d9_restore_1 (oo_9 o9_114) rfl fl_9_272 ck9 ?_
  refine VW.if_ne 13 d9_restore_4 (by decide) (fun c1 => ?_) (fun c1 => ?_)
  · replace hr := ip hr c1
    refine VW.aload_n d9_restore_7 0 rfl ?_
    refine VW.iconst (v := 2) d9_restore_8 ic_2 ?_
    obtain ⟨r3, h4, e2, hr⟩ := bno2 hr
    refine VW.callV (As := [.int 2]) (st := []) d9_restore_9 mi_9_finds cv_9_107 (oo_9 o9_114) ⟨rfl, rfl⟩ (by decide) (dl1 hd) _ rfl (Nat.le_of_ble_eq_true rfl) rfl (c_9_finds (dl hd rfl) e2) (kI ?_)
    exact VW.iret d9_restore_12 hR (rIw hr)
  · replace hr := im hr c1
    refine VW.iconst (v := 0) d9_restore_13 ic_0 ?_
    refine VW.istore_n (lo' := [(1, .int 0), (0, .ref (γ.2.2.1 114))]) d9_restore_14 (by decide) rfl ?_
    exact VW.sub [1, 0] rfl (s_9_restore_15 hd hR FU 0 h hr)
set_option maxRecDepth 100000 in
set_option maxHeartbeats 4000000 in
theorem c_9_said {γ : Gm} {dd : Nat} {x1 : Int32} {x2 : Int32} {h : Hp} {r : Int32} {hz : Hp} (hd : 2 ≤ dd) (hr : f_9_said x1 x2 h = some (r, hz)) : MC γ dd yX9_said cX9_said 3 (some .int) [.ref (γ.2.2.1 114), .int x1, .int x2] h (QI r hz) := by
  unfold f_9_said at hr
  refine MC.of mi_9_said (Nat.le_of_ble_eq_true rfl) (fun ε hR => ?_)
  show VW γ ε cX9_said RX9 3 dd 0 [(0, .ref (γ.2.2.1 114)), (1, .int x1), (2, .int x2)] [] h
  refine VW.aload_n d9_said_0 0 rfl ?_
  refine VW.iload_n d9_said_1 1 rfl ?_
  obtain ⟨r2, e1, hr⟩ := bno hr
  refine VW.callV (As := [.int x1]) (st := []) d9_said_2 mi_9_isLine cv_9_184 (oo_9 o9_114) ⟨rfl, rfl⟩ (by decide) (dl1 hd) _ rfl (Nat.le_of_ble_eq_true rfl) rfl (c_9_isLine (dl hd rfl) e1) (kI ?_)
  refine VW.if_eq 20 d9_said_5 (by decide) (fun c3 => ?_) (fun c3 => ?_)
  · replace hr := ip hr c3
    refine VW.aload_n d9_said_20 0 rfl ?_
    refine VW.iconst (v := 1) d9_said_21 ic_1 ?_
    obtain ⟨r5, h6, e4, hr⟩ := bno2 hr
    refine VW.callV (As := [.int 1]) (st := []) d9_said_22 mi_9_finds cv_9_107 (oo_9 o9_114) ⟨rfl, rfl⟩ (by decide) (dl1 hd) _ rfl (Nat.le_of_ble_eq_true rfl) rfl (c_9_finds (dl hd rfl) e4) (kI ?_)
    exact VW.iret d9_said_25 hR (rIw hr)
  · replace hr := im hr c3
    refine VW.iload_n d9_said_8 2 rfl ?_
    refine VW.i2l d9_said_9 ?_
    refine VW.lconst (v := 0) d9_said_10 (by decide) ?_
    refine VW.ldc2 (v := 2) d9_said_11 kc_9_139 ?_
    refine VW.callS (As := [.long (Int32.toInt64 x2), .long 0, .long 2]) (st := []) d9_said_14 mi_9_in cs_9_44 (by decide) (dl1 hd) _ rfl (Nat.le_of_ble_eq_true rfl) rfl (c_9_in (dl hd rfl) rfl) (kI ?_)
    refine VW.if_ne 26 d9_said_17 (by decide) (fun c7 => ?_) (fun c7 => ?_)
    · replace hr := ip hr c7
      refine VW.aload_n d9_said_20 0 rfl ?_
      refine VW.iconst (v := 1) d9_said_21 ic_1 ?_
      obtain ⟨r9, h10, e8, hr⟩ := bno2 hr
      refine VW.callV (As := [.int 1]) (st := []) d9_said_22 mi_9_finds cv_9_107 (oo_9 o9_114) ⟨rfl, rfl⟩ (by decide) (dl1 hd) _ rfl (Nat.le_of_ble_eq_true rfl) rfl (c_9_finds (dl hd rfl) e8) (kI ?_)
      exact VW.iret d9_said_25 hR (rIw hr)
    · replace hr := im hr c7
      refine VW.iload_n d9_said_26 2 rfl ?_
      refine VW.aload_n d9_said_27 0 rfl ?_
      refine VW.iload_n d9_said_28 1 rfl ?_
      refine VW.iconst (v := 5) d9_said_29 ic_5 ?_
      obtain ⟨r12, e11, hr⟩ := bno hr
      refine VW.callV (As := [.int x1, .int 5]) (st := [.int x2]) d9_said_30 mi_9_of cv_9_145 (oo_9 o9_114) ⟨rfl, rfl⟩ (by decide) (dl1 hd) _ rfl (Nat.le_of_ble_eq_true rfl) rfl (c_9_of (dl hd rfl) e11) (kI ?_)
      refine VW.icmp_ge 48 d9_said_33 (by decide) (fun c13 => ?_) (fun c13 => ?_)
      · replace hr := ip hr c13
        refine VW.aload_n d9_said_48 0 rfl ?_
        refine VW.iconst (v := 2) d9_said_49 ic_2 ?_
        obtain ⟨r15, h16, e14, hr⟩ := bno2 hr
        refine VW.callV (As := [.int 2]) (st := []) d9_said_50 mi_9_finds cv_9_107 (oo_9 o9_114) ⟨rfl, rfl⟩ (by decide) (dl1 hd) _ rfl (Nat.le_of_ble_eq_true rfl) rfl (c_9_finds (dl hd rfl) e14) (kI ?_)
        exact VW.iret d9_said_53 hR (rIw hr)
      · replace hr := im hr c13
        refine VW.aload_n d9_said_36 0 rfl ?_
        refine VW.iload_n d9_said_37 1 rfl ?_
        refine VW.bipush (v := 6) d9_said_38 bp_6 ?_
        refine VW.iload_n d9_said_40 2 rfl ?_
        refine VW.iadd d9_said_41 ?_
        obtain ⟨r18, e17, hr⟩ := bno hr
        refine VW.callV (As := [.int x1, .int (6 + x2)]) (st := []) d9_said_42 mi_9_of cv_9_145 (oo_9 o9_114) ⟨rfl, rfl⟩ (by decide) (dl1 hd) _ rfl (Nat.le_of_ble_eq_true rfl) rfl (c_9_of (dl hd rfl) e17) (kI ?_)
        refine VW.goto 53 d9_said_45 (by decide) ?_
        exact VW.iret d9_said_53 hR (rIw hr)
