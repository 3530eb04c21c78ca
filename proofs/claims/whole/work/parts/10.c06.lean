set_option maxRecDepth 100000 in
set_option maxHeartbeats 4000000 in
theorem c_9_textGives {γ : Gm} {dd : Nat} {x1 : Int32} {x2 : Int32} {x3 : Int32} {x4 : Int32} {h : Hp} {r : Int32} {hz : Hp} (hd : 68 ≤ dd) (hr : f_9_textGives x1 x2 x3 x4 h = some (r, hz)) : MC γ dd yX9_textGives cX9_textGives 7 (some .int) [.ref (γ.2.2.1 114), .int x1, .int x2, .int x3, .int x4] h (QI r hz) := by
  unfold f_9_textGives at hr
  refine MC.of mi_9_textGives (Nat.le_of_ble_eq_true rfl) (fun ε hR => ?_)
  show VW γ ε cX9_textGives RX9 7 dd 0 [(0, .ref (γ.2.2.1 114)), (1, .int x1), (2, .int x2), (3, .int x3), (4, .int x4)] [] h
  refine VW.iload_n d9_textGives_0 2 rfl ?_
  refine VW.iload_n d9_textGives_1 3 rfl ?_
  refine VW.icmp_ne 9 d9_textGives_2 (by decide) (fun c1 => ?_) (fun c1 => ?_)
  · replace hr := ip hr c1
    refine VW.iconst (v := 0) d9_textGives_5 ic_0 ?_
    refine VW.goto 22 d9_textGives_6 (by decide) ?_
    refine VW.istore (lo' := [(5, .int 0), (0, .ref (γ.2.2.1 114)), (1, .int x1), (2, .int x2), (3, .int x3), (4, .int x4)]) d9_textGives_22 (by decide) rfl ?_
    refine VW.iload_n d9_textGives_24 2 rfl ?_
    refine VW.if_ne 33 d9_textGives_25 (by decide) (fun c2 => ?_) (fun c2 => ?_)
    · replace hr := ip hr c2
      refine VW.iload d9_textGives_28 0 rfl ?_
      refine VW.goto 49 d9_textGives_30 (by decide) ?_
      refine VW.istore (lo' := [(6, .int 0), (5, .int 0), (0, .ref (γ.2.2.1 114)), (1, .int x1), (2, .int x2), (3, .int x3), (4, .int x4)]) d9_textGives_49 (by decide) rfl ?_
      refine VW.aload_n d9_textGives_51 2 rfl ?_
      refine VW.getR (k := 0) (r := 115) d9_textGives_52 (oo_9 o9_114) rfl fl_9_7 ck9 ?_
      refine VW.sipush (v := 208) d9_textGives_55 sp_208 ?_
      refine VW.iload_n d9_textGives_58 3 rfl ?_
      refine VW.iadd d9_textGives_59 ?_
      obtain ⟨g3, hr⟩ := gdt hr
      refine VW.iald (j := (ci (208 + x1))) d9_textGives_60 (rf_9_0 o9_114) g3 rfl ?_
      refine VW.if_le 111 d9_textGives_61 (by decide) (fun c4 => ?_) (fun c4 => ?_)
      · replace hr := ip hr c4
        refine VW.iload_n d9_textGives_111 3 rfl ?_
        refine VW.if_ne 126 d9_textGives_112 (by decide) (fun c5 => ?_) (fun c5 => ?_)
        · replace hr := ip hr c5
          refine VW.iload d9_textGives_115 0 rfl ?_
          refine VW.iconst (v := 0) d9_textGives_117 ic_0 ?_
          refine VW.bipush (v := 99) d9_textGives_118 bp_99 ?_
          refine VW.callS (As := [.int 0, .int 0, .int 99]) (st := []) d9_textGives_120 mi_9_held cs_9_116 (by decide) (dl1 hd) _ rfl (Nat.le_of_ble_eq_true rfl) rfl (c_9_held (dl hd rfl) rfl) (kI ?_)
          refine VW.goto 128 d9_textGives_123 (by decide) ?_
          exact VW.iret d9_textGives_128 hR (rIw hr)
        · replace hr := im hr c5
          refine VW.iload d9_textGives_126 0 rfl ?_
          exact VW.iret d9_textGives_128 hR (rIw hr)
      · replace hr := im hr c4
        refine VW.aload_n d9_textGives_64 2 rfl ?_
        refine VW.getR (k := 10) (r := 118) d9_textGives_65 (oo_9 o9_114) rfl fl_9_19 ck9 ?_
        refine VW.iconst (v := 0) d9_textGives_68 ic_0 ?_
        refine VW.iload_n d9_textGives_69 4 rfl ?_
        obtain ⟨h6, e7, hr⟩ := hlt hr
        refine VW.iast (j := 0) d9_textGives_70 (rf_9_10 o9_114) ib_0_3 il_0 ?_
        refine VW.heq e7 ?_
        refine VW.aload_n d9_textGives_71 2 rfl ?_
        refine VW.getR (k := 10) (r := 118) d9_textGives_72 (oo_9 o9_114) rfl fl_9_19 ck9 ?_
        refine VW.iconst (v := 1) d9_textGives_75 ic_1 ?_
        refine VW.iload_n d9_textGives_76 5 rfl ?_
        obtain ⟨h8, e9, hr⟩ := hlt hr
        refine VW.iast (j := 1) d9_textGives_77 (rf_9_10 o9_114) ib_1_3 il_1 ?_
        refine VW.heq e9 ?_
        refine VW.aload_n d9_textGives_78 2 rfl ?_
        refine VW.getR (k := 10) (r := 118) d9_textGives_79 (oo_9 o9_114) rfl fl_9_19 ck9 ?_
        refine VW.iconst (v := 2) d9_textGives_82 ic_2 ?_
        refine VW.iload d9_textGives_83 6 rfl ?_
        obtain ⟨h10, e11, hr⟩ := hlt hr
        refine VW.iast (j := 2) d9_textGives_85 (rf_9_10 o9_114) ib_2_3 il_2 ?_
        refine VW.heq e11 ?_
        refine VW.aload_n d9_textGives_86 2 rfl ?_
        refine VW.sipush (v := 230) d9_textGives_87 sp_230 ?_
        refine VW.bipush (v := 50) d9_textGives_90 bp_50 ?_
        refine VW.iload_n d9_textGives_92 3 rfl ?_
        refine VW.imul d9_textGives_93 ?_
        refine VW.iadd d9_textGives_94 ?_
        refine VW.aload_n d9_textGives_95 2 rfl ?_
        refine VW.getR (k := 0) (r := 115) d9_textGives_96 (oo_9 o9_114) rfl fl_9_7 ck9 ?_
        refine VW.sipush (v := 208) d9_textGives_99 sp_208 ?_
        refine VW.iload_n d9_textGives_102 3 rfl ?_
        refine VW.iadd d9_textGives_103 ?_
        obtain ⟨g12, hr⟩ := gdt hr
        refine VW.iald (j := (ci (208 + x1))) d9_textGives_104 (rf_9_0 o9_114) g12 rfl ?_
        refine VW.iload_n d9_textGives_105 3 rfl ?_
        obtain ⟨r14, h15, e13, hr⟩ := bno2 hr
        refine VW.callV (As := [.int (230 + (50 * x1)), .int (h10 115 (ci (208 + x1))), .int x1]) (st := []) d9_textGives_106 mi_9_worked cv_9_112 (oo_9 o9_114) ⟨rfl, rfl⟩ (by decide) (dl1 hd) _ rfl (Nat.le_of_ble_eq_true rfl) rfl (c_9_worked (dl hd rfl) e13) (kI ?_)
        refine VW.istore (lo' := [(6, .int r14), (5, .int 0), (0, .ref (γ.2.2.1 114)), (1, .int x1), (2, .int x2), (3, .int x3), (4, .int x4)]) d9_textGives_109 (by decide) rfl ?_
        refine VW.iload_n d9_textGives_111 3 rfl ?_
        refine VW.if_ne 126 d9_textGives_112 (by decide) (fun c16 => ?_) (fun c16 => ?_)
        · replace hr := ip hr c16
          refine VW.iload d9_textGives_115 0 rfl ?_
          refine VW.iconst (v := 0) d9_textGives_117 ic_0 ?_
          refine VW.bipush (v := 99) d9_textGives_118 bp_99 ?_
          refine VW.callS (As := [.int r14, .int 0, .int 99]) (st := []) d9_textGives_120 mi_9_held cs_9_116 (by decide) (dl1 hd) _ rfl (Nat.le_of_ble_eq_true rfl) rfl (c_9_held (dl hd rfl) rfl) (kI ?_)
          refine VW.goto 128 d9_textGives_123 (by decide) ?_
          exact VW.iret d9_textGives_128 hR (rIw hr)
        · replace hr := im hr c16
          refine VW.iload d9_textGives_126 0 rfl ?_
          exact VW.iret d9_textGives_128 hR (rIw hr)
    · replace hr := im hr c2
      refine VW.iload_n d9_textGives_33 3 rfl ?_
      refine VW.iconst (v := 3) d9_textGives_34 ic_3 ?_
      refine VW.iload d9_textGives_35 5 rfl ?_
      refine VW.bipush (v := 10) d9_textGives_37 bp_10 ?_
      refine VW.idiv d9_textGives_39 (by decide) ?_
      refine VW.iadd d9_textGives_40 ?_
      refine VW.icmp_le 48 d9_textGives_41 (by decide) (fun c17 => ?_) (fun c17 => ?_)
      · replace hr := ip hr c17
        refine VW.iconst (v := 0) d9_textGives_48 ic_0 ?_
        refine VW.istore (lo' := [(6, .int 0), (5, .int 0), (0, .ref (γ.2.2.1 114)), (1, .int x1), (2, .int x2), (3, .int x3), (4, .int x4)]) d9_textGives_49 (by decide) rfl ?_
        refine VW.aload_n d9_textGives_51 2 rfl ?_
        refine VW.getR (k := 0) (r := 115) d9_textGives_52 (oo_9 o9_114) rfl fl_9_7 ck9 ?_
        refine VW.sipush (v := 208) d9_textGives_55 sp_208 ?_
        refine VW.iload_n d9_textGives_58 3 rfl ?_
        refine VW.iadd d9_textGives_59 ?_
        obtain ⟨g18, hr⟩ := gdt hr
        refine VW.iald (j := (ci (208 + x1))) d9_textGives_60 (rf_9_0 o9_114) g18 rfl ?_
        refine VW.if_le 111 d9_textGives_61 (by decide) (fun c19 => ?_) (fun c19 => ?_)
        · replace hr := ip hr c19
          refine VW.iload_n d9_textGives_111 3 rfl ?_
          refine VW.if_ne 126 d9_textGives_112 (by decide) (fun c20 => ?_) (fun c20 => ?_)
          · replace hr := ip hr c20
            refine VW.iload d9_textGives_115 0 rfl ?_
            refine VW.iconst (v := 0) d9_textGives_117 ic_0 ?_
            refine VW.bipush (v := 99) d9_textGives_118 bp_99 ?_
            refine VW.callS (As := [.int 0, .int 0, .int 99]) (st := []) d9_textGives_120 mi_9_held cs_9_116 (by decide) (dl1 hd) _ rfl (Nat.le_of_ble_eq_true rfl) rfl (c_9_held (dl hd rfl) rfl) (kI ?_)
            refine VW.goto 128 d9_textGives_123 (by decide) ?_
            exact VW.iret d9_textGives_128 hR (rIw hr)
          · replace hr := im hr c20
            refine VW.iload d9_textGives_126 0 rfl ?_
            exact VW.iret d9_textGives_128 hR (rIw hr)
        · replace hr := im hr c19
          refine VW.aload_n d9_textGives_64 2 rfl ?_
          refine VW.getR (k := 10) (r := 118) d9_textGives_65 (oo_9 o9_114) rfl fl_9_19 ck9 ?_
          refine VW.iconst (v := 0) d9_textGives_68 ic_0 ?_
          refine VW.iload_n d9_textGives_69 4 rfl ?_
          obtain ⟨h21, e22, hr⟩ := hlt hr
          refine VW.iast (j := 0) d9_textGives_70 (rf_9_10 o9_114) ib_0_3 il_0 ?_
          refine VW.heq e22 ?_
          refine VW.aload_n d9_textGives_71 2 rfl ?_
          refine VW.getR (k := 10) (r := 118) d9_textGives_72 (oo_9 o9_114) rfl fl_9_19 ck9 ?_
          refine VW.iconst (v := 1) d9_textGives_75 ic_1 ?_
          refine VW.iload_n d9_textGives_76 5 rfl ?_
          obtain ⟨h23, e24, hr⟩ := hlt hr
          refine VW.iast (j := 1) d9_textGives_77 (rf_9_10 o9_114) ib_1_3 il_1 ?_
          refine VW.heq e24 ?_
          refine VW.aload_n d9_textGives_78 2 rfl ?_
          refine VW.getR (k := 10) (r := 118) d9_textGives_79 (oo_9 o9_114) rfl fl_9_19 ck9 ?_
          refine VW.iconst (v := 2) d9_textGives_82 ic_2 ?_
          refine VW.iload d9_textGives_83 6 rfl ?_
          obtain ⟨h25, e26, hr⟩ := hlt hr
          refine VW.iast (j := 2) d9_textGives_85 (rf_9_10 o9_114) ib_2_3 il_2 ?_
          refine VW.heq e26 ?_
          refine VW.aload_n d9_textGives_86 2 rfl ?_
          refine VW.sipush (v := 230) d9_textGives_87 sp_230 ?_
          refine VW.bipush (v := 50) d9_textGives_90 bp_50 ?_
          refine VW.iload_n d9_textGives_92 3 rfl ?_
          refine VW.imul d9_textGives_93 ?_
          refine VW.iadd d9_textGives_94 ?_
          refine VW.aload_n d9_textGives_95 2 rfl ?_
          refine VW.getR (k := 0) (r := 115) d9_textGives_96 (oo_9 o9_114) rfl fl_9_7 ck9 ?_
          refine VW.sipush (v := 208) d9_textGives_99 sp_208 ?_
          refine VW.iload_n d9_textGives_102 3 rfl ?_
          refine VW.iadd d9_textGives_103 ?_
          obtain ⟨g27, hr⟩ := gdt hr
          refine VW.iald (j := (ci (208 + x1))) d9_textGives_104 (rf_9_0 o9_114) g27 rfl ?_
          refine VW.iload_n d9_textGives_105 3 rfl ?_
          obtain ⟨r29, h30, e28, hr⟩ := bno2 hr
          refine VW.callV (As := [.int (230 + (50 * x1)), .int (h25 115 (ci (208 + x1))), .int x1]) (st := []) d9_textGives_106 mi_9_worked cv_9_112 (oo_9 o9_114) ⟨rfl, rfl⟩ (by decide) (dl1 hd) _ rfl (Nat.le_of_ble_eq_true rfl) rfl (c_9_worked (dl hd rfl) e28) (kI ?_)
          refine VW.istore (lo' := [(6, .int r29), (5, .int 0), (0, .ref (γ.2.2.1 114)), (1, .int x1), (2, .int x2), (3, .int x3), (4, .int x4)]) d9_textGives_109 (by decide) rfl ?_
          refine VW.iload_n d9_textGives_111 3 rfl ?_
          refine VW.if_ne 126 d9_textGives_112 (by decide) (fun c31 => ?_) (fun c31 => ?_)
          · replace hr := ip hr c31
            refine VW.iload d9_textGives_115 0 rfl ?_
            refine VW.iconst (v := 0) d9_textGives_117 ic_0 ?_
            refine VW.bipush (v := 99) d9_textGives_118 bp_99 ?_
            refine VW.callS (As := [.int r29, .int 0, .int 99]) (st := []) d9_textGives_120 mi_9_held cs_9_116 (by decide) (dl1 hd) _ rfl (Nat.le_of_ble_eq_true rfl) rfl (c_9_held (dl hd rfl) rfl) (kI ?_)
            refine VW.goto 128 d9_textGives_123 (by decide) ?_
            exact VW.iret d9_textGives_128 hR (rIw hr)
          · replace hr := im hr c31
            refine VW.iload d9_textGives_126 0 rfl ?_
            exact VW.iret d9_textGives_128 hR (rIw hr)
      · replace hr := im hr c17
        refine VW.iconst (v := 1) d9_textGives_44 ic_1 ?_
        refine VW.goto 49 d9_textGives_45 (by decide) ?_
        refine VW.istore (lo' := [(6, .int 1), (5, .int 0), (0, .ref (γ.2.2.1 114)), (1, .int x1), (2, .int x2), (3, .int x3), (4, .int x4)]) d9_textGives_49 (by decide) rfl ?_
        refine VW.aload_n d9_textGives_51 2 rfl ?_
        refine VW.getR (k := 0) (r := 115) d9_textGives_52 (oo_9 o9_114) rfl fl_9_7 ck9 ?_
        refine VW.sipush (v := 208) d9_textGives_55 sp_208 ?_
        refine VW.iload_n d9_textGives_58 3 rfl ?_
        refine VW.iadd d9_textGives_59 ?_
        obtain ⟨g32, hr⟩ := gdt hr
        refine VW.iald (j := (ci (208 + x1))) d9_textGives_60 (rf_9_0 o9_114) g32 rfl ?_
        refine VW.if_le 111 d9_textGives_61 (by decide) (fun c33 => ?_) (fun c33 => ?_)
        · replace hr := ip hr c33
          refine VW.iload_n d9_textGives_111 3 rfl ?_
          refine VW.if_ne 126 d9_textGives_112 (by decide) (fun c34 => ?_) (fun c34 => ?_)
          · replace hr := ip hr c34
            refine VW.iload d9_textGives_115 0 rfl ?_
            refine VW.iconst (v := 0) d9_textGives_117 ic_0 ?_
            refine VW.bipush (v := 99) d9_textGives_118 bp_99 ?_
            refine VW.callS (As := [.int 1, .int 0, .int 99]) (st := []) d9_textGives_120 mi_9_held cs_9_116 (by decide) (dl1 hd) _ rfl (Nat.le_of_ble_eq_true rfl) rfl (c_9_held (dl hd rfl) rfl) (kI ?_)
            refine VW.goto 128 d9_textGives_123 (by decide) ?_
            exact VW.iret d9_textGives_128 hR (rIw hr)
          · replace hr := im hr c34
            refine VW.iload d9_textGives_126 0 rfl ?_
            exact VW.iret d9_textGives_128 hR (rIw hr)
        · replace hr := im hr c33
          refine VW.aload_n d9_textGives_64 2 rfl ?_
          refine VW.getR (k := 10) (r := 118) d9_textGives_65 (oo_9 o9_114) rfl fl_9_19 ck9 ?_
          refine VW.iconst (v := 0) d9_textGives_68 ic_0 ?_
          refine VW.iload_n d9_textGives_69 4 rfl ?_
          obtain ⟨h35, e36, hr⟩ := hlt hr
          refine VW.iast (j := 0) d9_textGives_70 (rf_9_10 o9_114) ib_0_3 il_0 ?_
          refine VW.heq e36 ?_
          refine VW.aload_n d9_textGives_71 2 rfl ?_
          refine VW.getR (k := 10) (r := 118) d9_textGives_72 (oo_9 o9_114) rfl fl_9_19 ck9 ?_
          refine VW.iconst (v := 1) d9_textGives_75 ic_1 ?_
          refine VW.iload_n d9_textGives_76 5 rfl ?_
          obtain ⟨h37, e38, hr⟩ := hlt hr
          refine VW.iast (j := 1) d9_textGives_77 (rf_9_10 o9_114) ib_1_3 il_1 ?_
          refine VW.heq e38 ?_
          refine VW.aload_n d9_textGives_78 2 rfl ?_
          refine VW.getR (k := 10) (r := 118) d9_textGives_79 (oo_9 o9_114) rfl fl_9_19 ck9 ?_
          refine VW.iconst (v := 2) d9_textGives_82 ic_2 ?_
          refine VW.iload d9_textGives_83 6 rfl ?_
          obtain ⟨h39, e40, hr⟩ := hlt hr
          refine VW.iast (j := 2) d9_textGives_85 (rf_9_10 o9_114) ib_2_3 il_2 ?_
          refine VW.heq e40 ?_
          refine VW.aload_n d9_textGives_86 2 rfl ?_
          refine VW.sipush (v := 230) d9_textGives_87 sp_230 ?_
          refine VW.bipush (v := 50) d9_textGives_90 bp_50 ?_
          refine VW.iload_n d9_textGives_92 3 rfl ?_
          refine VW.imul d9_textGives_93 ?_
          refine VW.iadd d9_textGives_94 ?_
          refine VW.aload_n d9_textGives_95 2 rfl ?_
          refine VW.getR (k := 0) (r := 115) d9_textGives_96 (oo_9 o9_114) rfl fl_9_7 ck9 ?_
          refine VW.sipush (v := 208) d9_textGives_99 sp_208 ?_
          refine VW.iload_n d9_textGives_102 3 rfl ?_
          refine VW.iadd d9_textGives_103 ?_
          obtain ⟨g41, hr⟩ := gdt hr
          refine VW.iald (j := (ci (208 + x1))) d9_textGives_104 (rf_9_0 o9_114) g41 rfl ?_
          refine VW.iload_n d9_textGives_105 3 rfl ?_
          obtain ⟨r43, h44, e42, hr⟩ := bno2 hr
          refine VW.callV (As := [.int (230 + (50 * x1)), .int (h39 115 (ci (208 + x1))), .int x1]) (st := []) d9_textGives_106 mi_9_worked cv_9_112 (oo_9 o9_114) ⟨rfl, rfl⟩ (by decide) (dl1 hd) _ rfl (Nat.le_of_ble_eq_true rfl) rfl (c_9_worked (dl hd rfl) e42) (kI ?_)
          refine VW.istore (lo' := [(6, .int r43), (5, .int 0), (0, .ref (γ.2.2.1 114)), (1, .int x1), (2, .int x2), (3, .int x3), (4, .int x4)]) d9_textGives_109 (by decide) rfl ?_
          refine VW.iload_n d9_textGives_111 3 rfl ?_
          refine VW.if_ne 126 d9_textGives_112 (by decide) (fun c45 => ?_) (fun c45 => ?_)
          · replace hr := ip hr c45
            refine VW.iload d9_textGives_115 0 rfl ?_
            refine VW.iconst (v := 0) d9_textGives_117 ic_0 ?_
            refine VW.bipush (v := 99) d9_textGives_118 bp_99 ?_
            refine VW.callS (As := [.int r43, .int 0, .int 99]) (st := []) d9_textGives_120 mi_9_held cs_9_116 (by decide) (dl1 hd) _ rfl (Nat.le_of_ble_eq_true rfl) rfl (c_9_held (dl hd rfl) rfl) (kI ?_)
            refine VW.goto 128 d9_textGives_123 (by decide) ?_
            exact VW.iret d9_textGives_128 hR (rIw hr)
          · replace hr := im hr c45
            refine VW.iload d9_textGives_126 0 rfl ?_
            exact VW.iret d9_textGives_128 hR (rIw hr)
  · replace hr := im hr c1
    refine VW.iload_n d9_textGives_9 2 rfl ?_
    refine VW.if_eq 17 d9_textGives_10 (by decide) (fun c46 => ?_) (fun c46 => ?_)
    · replace hr := ip hr c46
      refine VW.iconst (v := 5) d9_textGives_17 ic_5 ?_
      refine VW.goto 22 d9_textGives_18 (by decide) ?_
      refine VW.istore (lo' := [(5, .int 5), (0, .ref (γ.2.2.1 114)), (1, .int x1), (2, .int x2), (3, .int x3), (4, .int x4)]) d9_textGives_22 (by decide) rfl ?_
      refine VW.iload_n d9_textGives_24 2 rfl ?_
      refine VW.if_ne 33 d9_textGives_25 (by decide) (fun c47 => ?_) (fun c47 => ?_)
      · replace hr := ip hr c47
        refine VW.iload d9_textGives_28 0 rfl ?_
        refine VW.goto 49 d9_textGives_30 (by decide) ?_
        refine VW.istore (lo' := [(6, .int 5), (5, .int 5), (0, .ref (γ.2.2.1 114)), (1, .int x1), (2, .int x2), (3, .int x3), (4, .int x4)]) d9_textGives_49 (by decide) rfl ?_
        refine VW.aload_n d9_textGives_51 2 rfl ?_
        refine VW.getR (k := 0) (r := 115) d9_textGives_52 (oo_9 o9_114) rfl fl_9_7 ck9 ?_
        refine VW.sipush (v := 208) d9_textGives_55 sp_208 ?_
        refine VW.iload_n d9_textGives_58 3 rfl ?_
        refine VW.iadd d9_textGives_59 ?_
        obtain ⟨g48, hr⟩ := gdt hr
        refine VW.iald (j := (ci (208 + x1))) d9_textGives_60 (rf_9_0 o9_114) g48 rfl ?_
        refine VW.if_le 111 d9_textGives_61 (by decide) (fun c49 => ?_) (fun c49 => ?_)
        · replace hr := ip hr c49
          refine VW.iload_n d9_textGives_111 3 rfl ?_
          refine VW.if_ne 126 d9_textGives_112 (by decide) (fun c50 => ?_) (fun c50 => ?_)
          · replace hr := ip hr c50
            refine VW.iload d9_textGives_115 0 rfl ?_
            refine VW.iconst (v := 0) d9_textGives_117 ic_0 ?_
            refine VW.bipush (v := 99) d9_textGives_118 bp_99 ?_
            refine VW.callS (As := [.int 5, .int 0, .int 99]) (st := []) d9_textGives_120 mi_9_held cs_9_116 (by decide) (dl1 hd) _ rfl (Nat.le_of_ble_eq_true rfl) rfl (c_9_held (dl hd rfl) rfl) (kI ?_)
            refine VW.goto 128 d9_textGives_123 (by decide) ?_
            exact VW.iret d9_textGives_128 hR (rIw hr)
          · replace hr := im hr c50
            refine VW.iload d9_textGives_126 0 rfl ?_
            exact VW.iret d9_textGives_128 hR (rIw hr)
        · replace hr := im hr c49
          refine VW.aload_n d9_textGives_64 2 rfl ?_
          refine VW.getR (k := 10) (r := 118) d9_textGives_65 (oo_9 o9_114) rfl fl_9_19 ck9 ?_
          refine VW.iconst (v := 0) d9_textGives_68 ic_0 ?_
          refine VW.iload_n d9_textGives_69 4 rfl ?_
          obtain ⟨h51, e52, hr⟩ := hlt hr
          refine VW.iast (j := 0) d9_textGives_70 (rf_9_10 o9_114) ib_0_3 il_0 ?_
          refine VW.heq e52 ?_
          refine VW.aload_n d9_textGives_71 2 rfl ?_
          refine VW.getR (k := 10) (r := 118) d9_textGives_72 (oo_9 o9_114) rfl fl_9_19 ck9 ?_
          refine VW.iconst (v := 1) d9_textGives_75 ic_1 ?_
          refine VW.iload_n d9_textGives_76 5 rfl ?_
          obtain ⟨h53, e54, hr⟩ := hlt hr
          refine VW.iast (j := 1) d9_textGives_77 (rf_9_10 o9_114) ib_1_3 il_1 ?_
          refine VW.heq e54 ?_
          refine VW.aload_n d9_textGives_78 2 rfl ?_
          refine VW.getR (k := 10) (r := 118) d9_textGives_79 (oo_9 o9_114) rfl fl_9_19 ck9 ?_
          refine VW.iconst (v := 2) d9_textGives_82 ic_2 ?_
          refine VW.iload d9_textGives_83 6 rfl ?_
          obtain ⟨h55, e56, hr⟩ := hlt hr
          refine VW.iast (j := 2) d9_textGives_85 (rf_9_10 o9_114) ib_2_3 il_2 ?_
          refine VW.heq e56 ?_
          refine VW.aload_n d9_textGives_86 2 rfl ?_
          refine VW.sipush (v := 230) d9_textGives_87 sp_230 ?_
          refine VW.bipush (v := 50) d9_textGives_90 bp_50 ?_
          refine VW.iload_n d9_textGives_92 3 rfl ?_
          refine VW.imul d9_textGives_93 ?_
          refine VW.iadd d9_textGives_94 ?_
          refine VW.aload_n d9_textGives_95 2 rfl ?_
          refine VW.getR (k := 0) (r := 115) d9_textGives_96 (oo_9 o9_114) rfl fl_9_7 ck9 ?_
          refine VW.sipush (v := 208) d9_textGives_99 sp_208 ?_
          refine VW.iload_n d9_textGives_102 3 rfl ?_
          refine VW.iadd d9_textGives_103 ?_
          obtain ⟨g57, hr⟩ := gdt hr
          refine VW.iald (j := (ci (208 + x1))) d9_textGives_104 (rf_9_0 o9_114) g57 rfl ?_
          refine VW.iload_n d9_textGives_105 3 rfl ?_
          obtain ⟨r59, h60, e58, hr⟩ := bno2 hr
          refine VW.callV (As := [.int (230 + (50 * x1)), .int (h55 115 (ci (208 + x1))), .int x1]) (st := []) d9_textGives_106 mi_9_worked cv_9_112 (oo_9 o9_114) ⟨rfl, rfl⟩ (by decide) (dl1 hd) _ rfl (Nat.le_of_ble_eq_true rfl) rfl (c_9_worked (dl hd rfl) e58) (kI ?_)
          refine VW.istore (lo' := [(6, .int r59), (5, .int 5), (0, .ref (γ.2.2.1 114)), (1, .int x1), (2, .int x2), (3, .int x3), (4, .int x4)]) d9_textGives_109 (by decide) rfl ?_
          refine VW.iload_n d9_textGives_111 3 rfl ?_
          refine VW.if_ne 126 d9_textGives_112 (by decide) (fun c61 => ?_) (fun c61 => ?_)
          · replace hr := ip hr c61
            refine VW.iload d9_textGives_115 0 rfl ?_
            refine VW.iconst (v := 0) d9_textGives_117 ic_0 ?_
            refine VW.bipush (v := 99) d9_textGives_118 bp_99 ?_
            refine VW.callS (As := [.int r59, .int 0, .int 99]) (st := []) d9_textGives_120 mi_9_held cs_9_116 (by decide) (dl1 hd) _ rfl (Nat.le_of_ble_eq_true rfl) rfl (c_9_held (dl hd rfl) rfl) (kI ?_)
            refine VW.goto 128 d9_textGives_123 (by decide) ?_
            exact VW.iret d9_textGives_128 hR (rIw hr)
          · replace hr := im hr c61
            refine VW.iload d9_textGives_126 0 rfl ?_
            exact VW.iret d9_textGives_128 hR (rIw hr)
      · replace hr := im hr c47
        refine VW.iload_n d9_textGives_33 3 rfl ?_
        refine VW.iconst (v := 3) d9_textGives_34 ic_3 ?_
        refine VW.iload d9_textGives_35 5 rfl ?_
        refine VW.bipush (v := 10) d9_textGives_37 bp_10 ?_
        refine VW.idiv d9_textGives_39 (by decide) ?_
        refine VW.iadd d9_textGives_40 ?_
        refine VW.icmp_le 48 d9_textGives_41 (by decide) (fun c62 => ?_) (fun c62 => ?_)
        · replace hr := ip hr c62
          refine VW.iconst (v := 0) d9_textGives_48 ic_0 ?_
          refine VW.istore (lo' := [(6, .int 0), (5, .int 5), (0, .ref (γ.2.2.1 114)), (1, .int x1), (2, .int x2), (3, .int x3), (4, .int x4)]) d9_textGives_49 (by decide) rfl ?_
          refine VW.aload_n d9_textGives_51 2 rfl ?_
          refine VW.getR (k := 0) (r := 115) d9_textGives_52 (oo_9 o9_114) rfl fl_9_7 ck9 ?_
          refine VW.sipush (v := 208) d9_textGives_55 sp_208 ?_
          refine VW.iload_n d9_textGives_58 3 rfl ?_
          refine VW.iadd d9_textGives_59 ?_
          obtain ⟨g63, hr⟩ := gdt hr
          refine VW.iald (j := (ci (208 + x1))) d9_textGives_60 (rf_9_0 o9_114) g63 rfl ?_
          refine VW.if_le 111 d9_textGives_61 (by decide) (fun c64 => ?_) (fun c64 => ?_)
          · replace hr := ip hr c64
            refine VW.iload_n d9_textGives_111 3 rfl ?_
            refine VW.if_ne 126 d9_textGives_112 (by decide) (fun c65 => ?_) (fun c65 => ?_)
            · replace hr := ip hr c65
              refine VW.iload d9_textGives_115 0 rfl ?_
              refine VW.iconst (v := 0) d9_textGives_117 ic_0 ?_
              refine VW.bipush (v := 99) d9_textGives_118 bp_99 ?_
              refine VW.callS (As := [.int 0, .int 0, .int 99]) (st := []) d9_textGives_120 mi_9_held cs_9_116 (by decide) (dl1 hd) _ rfl (Nat.le_of_ble_eq_true rfl) rfl (c_9_held (dl hd rfl) rfl) (kI ?_)
              refine VW.goto 128 d9_textGives_123 (by decide) ?_
              exact VW.iret d9_textGives_128 hR (rIw hr)
            · replace hr := im hr c65
              refine VW.iload d9_textGives_126 0 rfl ?_
              exact VW.iret d9_textGives_128 hR (rIw hr)
          · replace hr := im hr c64
            refine VW.aload_n d9_textGives_64 2 rfl ?_
            refine VW.getR (k := 10) (r := 118) d9_textGives_65 (oo_9 o9_114) rfl fl_9_19 ck9 ?_
            refine VW.iconst (v := 0) d9_textGives_68 ic_0 ?_
            refine VW.iload_n d9_textGives_69 4 rfl ?_
            obtain ⟨h66, e67, hr⟩ := hlt hr
            refine VW.iast (j := 0) d9_textGives_70 (rf_9_10 o9_114) ib_0_3 il_0 ?_
            refine VW.heq e67 ?_
            refine VW.aload_n d9_textGives_71 2 rfl ?_
            refine VW.getR (k := 10) (r := 118) d9_textGives_72 (oo_9 o9_114) rfl fl_9_19 ck9 ?_
            refine VW.iconst (v := 1) d9_textGives_75 ic_1 ?_
            refine VW.iload_n d9_textGives_76 5 rfl ?_
            obtain ⟨h68, e69, hr⟩ := hlt hr
            refine VW.iast (j := 1) d9_textGives_77 (rf_9_10 o9_114) ib_1_3 il_1 ?_
            refine VW.heq e69 ?_
            refine VW.aload_n d9_textGives_78 2 rfl ?_
            refine VW.getR (k := 10) (r := 118) d9_textGives_79 (oo_9 o9_114) rfl fl_9_19 ck9 ?_
            refine VW.iconst (v := 2) d9_textGives_82 ic_2 ?_
            refine VW.iload d9_textGives_83 6 rfl ?_
            obtain ⟨h70, e71, hr⟩ := hlt hr
            refine VW.iast (j := 2) d9_textGives_85 (rf_9_10 o9_114) ib_2_3 il_2 ?_
            refine VW.heq e71 ?_
            refine VW.aload_n d9_textGives_86 2 rfl ?_
            refine VW.sipush (v := 230) d9_textGives_87 sp_230 ?_
            refine VW.bipush (v := 50) d9_textGives_90 bp_50 ?_
            refine VW.iload_n d9_textGives_92 3 rfl ?_
            refine VW.imul d9_textGives_93 ?_
            refine VW.iadd d9_textGives_94 ?_
            refine VW.aload_n d9_textGives_95 2 rfl ?_
            refine VW.getR (k := 0) (r := 115) d9_textGives_96 (oo_9 o9_114) rfl fl_9_7 ck9 ?_
            refine VW.sipush (v := 208) d9_textGives_99 sp_208 ?_
            refine VW.iload_n d9_textGives_102 3 rfl ?_
            refine VW.iadd d9_textGives_103 ?_
            obtain ⟨g72, hr⟩ := gdt hr
            refine VW.iald (j := (ci (208 + x1))) d9_textGives_104 (rf_9_0 o9_114) g72 rfl ?_
            refine VW.iload_n d9_textGives_105 3 rfl ?_
            obtain ⟨r74, h75, e73, hr⟩ := bno2 hr
            refine VW.callV (As := [.int (230 + (50 * x1)), .int (h70 115 (ci (208 + x1))), .int x1]) (st := []) d9_textGives_106 mi_9_worked cv_9_112 (oo_9 o9_114) ⟨rfl, rfl⟩ (by decide) (dl1 hd) _ rfl (Nat.le_of_ble_eq_true rfl) rfl (c_9_worked (dl hd rfl) e73) (kI ?_)
            refine VW.istore (lo' := [(6, .int r74), (5, .int 5), (0, .ref (γ.2.2.1 114)), (1, .int x1), (2, .int x2), (3, .int x3), (4, .int x4)]) d9_textGives_109 (by decide) rfl ?_
            refine VW.iload_n d9_textGives_111 3 rfl ?_
            refine VW.if_ne 126 d9_textGives_112 (by decide) (fun c76 => ?_) (fun c76 => ?_)
            · replace hr := ip hr c76
              refine VW.iload d9_textGives_115 0 rfl ?_
              refine VW.iconst (v := 0) d9_textGives_117 ic_0 ?_
              refine VW.bipush (v := 99) d9_textGives_118 bp_99 ?_
              refine VW.callS (As := [.int r74, .int 0, .int 99]) (st := []) d9_textGives_120 mi_9_held cs_9_116 (by decide) (dl1 hd) _ rfl (Nat.le_of_ble_eq_true rfl) rfl (c_9_held (dl hd rfl) rfl) (kI ?_)
              refine VW.goto 128 d9_textGives_123 (by decide) ?_
              exact VW.iret d9_textGives_128 hR (rIw hr)
            · replace hr := im hr c76
              refine VW.iload d9_textGives_126 0 rfl ?_
              exact VW.iret d9_textGives_128 hR (rIw hr)
        · replace hr := im hr c62
          refine VW.iconst (v := 1) d9_textGives_44 ic_1 ?_
          refine VW.goto 49 d9_textGives_45 (by decide) ?_
          refine VW.istore (lo' := [(6, .int 1), (5, .int 5), (0, .ref (γ.2.2.1 114)), (1, .int x1), (2, .int x2), (3, .int x3), (4, .int x4)]) d9_textGives_49 (by decide) rfl ?_
          refine VW.aload_n d9_textGives_51 2 rfl ?_
          refine VW.getR (k := 0) (r := 115) d9_textGives_52 (oo_9 o9_114) rfl fl_9_7 ck9 ?_
          refine VW.sipush (v := 208) d9_textGives_55 sp_208 ?_
          refine VW.iload_n d9_textGives_58 3 rfl ?_
          refine VW.iadd d9_textGives_59 ?_
          obtain ⟨g77, hr⟩ := gdt hr
          refine VW.iald (j := (ci (208 + x1))) d9_textGives_60 (rf_9_0 o9_114) g77 rfl ?_
          refine VW.if_le 111 d9_textGives_61 (by decide) (fun c78 => ?_) (fun c78 => ?_)
          · replace hr := ip hr c78
            refine VW.iload_n d9_textGives_111 3 rfl ?_
            refine VW.if_ne 126 d9_textGives_112 (by decide) (fun c79 => ?_) (fun c79 => ?_)
            · replace hr := ip hr c79
              refine VW.iload d9_textGives_115 0 rfl ?_
              refine VW.iconst (v := 0) d9_textGives_117 ic_0 ?_
              refine VW.bipush (v := 99) d9_textGives_118 bp_99 ?_
              refine VW.callS (As := [.int 1, .int 0, .int 99]) (st := []) d9_textGives_120 mi_9_held cs_9_116 (by decide) (dl1 hd) _ rfl (Nat.le_of_ble_eq_true rfl) rfl (c_9_held (dl hd rfl) rfl) (kI ?_)
              refine VW.goto 128 d9_textGives_123 (by decide) ?_
              exact VW.iret d9_textGives_128 hR (rIw hr)
            · replace hr := im hr c79
              refine VW.iload d9_textGives_126 0 rfl ?_
              exact VW.iret d9_textGives_128 hR (rIw hr)
          · replace hr := im hr c78
            refine VW.aload_n d9_textGives_64 2 rfl ?_
            refine VW.getR (k := 10) (r := 118) d9_textGives_65 (oo_9 o9_114) rfl fl_9_19 ck9 ?_
            refine VW.iconst (v := 0) d9_textGives_68 ic_0 ?_
            refine VW.iload_n d9_textGives_69 4 rfl ?_
            obtain ⟨h80, e81, hr⟩ := hlt hr
            refine VW.iast (j := 0) d9_textGives_70 (rf_9_10 o9_114) ib_0_3 il_0 ?_
            refine VW.heq e81 ?_
            refine VW.aload_n d9_textGives_71 2 rfl ?_
            refine VW.getR (k := 10) (r := 118) d9_textGives_72 (oo_9 o9_114) rfl fl_9_19 ck9 ?_
            refine VW.iconst (v := 1) d9_textGives_75 ic_1 ?_
            refine VW.iload_n d9_textGives_76 5 rfl ?_
            obtain ⟨h82, e83, hr⟩ := hlt hr
            refine VW.iast (j := 1) d9_textGives_77 (rf_9_10 o9_114) ib_1_3 il_1 ?_
            refine VW.heq e83 ?_
            refine VW.aload_n d9_textGives_78 2 rfl ?_
            refine VW.getR (k := 10) (r := 118) d9_textGives_79 (oo_9 o9_114) rfl fl_9_19 ck9 ?_
            refine VW.iconst (v := 2) d9_textGives_82 ic_2 ?_
            refine VW.iload d9_textGives_83 6 rfl ?_
            obtain ⟨h84, e85, hr⟩ := hlt hr
            refine VW.iast (j := 2) d9_textGives_85 (rf_9_10 o9_114) ib_2_3 il_2 ?_
            refine VW.heq e85 ?_
            refine VW.aload_n d9_textGives_86 2 rfl ?_
            refine VW.sipush (v := 230) d9_textGives_87 sp_230 ?_
            refine VW.bipush (v := 50) d9_textGives_90 bp_50 ?_
            refine VW.iload_n d9_textGives_92 3 rfl ?_
            refine VW.imul d9_textGives_93 ?_
            refine VW.iadd d9_textGives_94 ?_
            refine VW.aload_n d9_textGives_95 2 rfl ?_
            refine VW.getR (k := 0) (r := 115) d9_textGives_96 (oo_9 o9_114) rfl fl_9_7 ck9 ?_
            refine VW.sipush (v := 208) d9_textGives_99 sp_208 ?_
            refine VW.iload_n d9_textGives_102 3 rfl ?_
            refine VW.iadd d9_textGives_103 ?_
            obtain ⟨g86, hr⟩ := gdt hr
            refine VW.iald (j := (ci (208 + x1))) d9_textGives_104 (rf_9_0 o9_114) g86 rfl ?_
            refine VW.iload_n d9_textGives_105 3 rfl ?_
            obtain ⟨r88, h89, e87, hr⟩ := bno2 hr
            refine VW.callV (As := [.int (230 + (50 * x1)), .int (h84 115 (ci (208 + x1))), .int x1]) (st := []) d9_textGives_106 mi_9_worked cv_9_112 (oo_9 o9_114) ⟨rfl, rfl⟩ (by decide) (dl1 hd) _ rfl (Nat.le_of_ble_eq_true rfl) rfl (c_9_worked (dl hd rfl) e87) (kI ?_)
            refine VW.istore (lo' := [(6, .int r88), (5, .int 5), (0, .ref (γ.2.2.1 114)), (1, .int x1), (2, .int x2), (3, .int x3), (4, .int x4)]) d9_textGives_109 (by decide) rfl ?_
            refine VW.iload_n d9_textGives_111 3 rfl ?_
            refine VW.if_ne 126 d9_textGives_112 (by decide) (fun c90 => ?_) (fun c90 => ?_)
            · replace hr := ip hr c90
              refine VW.iload d9_textGives_115 0 rfl ?_
              refine VW.iconst (v := 0) d9_textGives_117 ic_0 ?_
              refine VW.bipush (v := 99) d9_textGives_118 bp_99 ?_
              refine VW.callS (As := [.int r88, .int 0, .int 99]) (st := []) d9_textGives_120 mi_9_held cs_9_116 (by decide) (dl1 hd) _ rfl (Nat.le_of_ble_eq_true rfl) rfl (c_9_held (dl hd rfl) rfl) (kI ?_)
              refine VW.goto 128 d9_textGives_123 (by decide) ?_
              exact VW.iret d9_textGives_128 hR (rIw hr)
            · replace hr := im hr c90
              refine VW.iload d9_textGives_126 0 rfl ?_
              exact VW.iret d9_textGives_128 hR (rIw hr)
    · replace hr := im hr c46
      refine VW.iload_n d9_textGives_13 3 rfl ?_
      refine VW.if_ne 21 d9_textGives_14 (by decide) (fun c91 => ?_) (fun c91 => ?_)
      · replace hr := ip hr c91
        refine VW.iconst (v := 5) d9_textGives_17 ic_5 ?_
        refine VW.goto 22 d9_textGives_18 (by decide) ?_
        refine VW.istore (lo' := [(5, .int 5), (0, .ref (γ.2.2.1 114)), (1, .int x1), (2, .int x2), (3, .int x3), (4, .int x4)]) d9_textGives_22 (by decide) rfl ?_
        refine VW.iload_n d9_textGives_24 2 rfl ?_
        refine VW.if_ne 33 d9_textGives_25 (by decide) (fun c92 => ?_) (fun c92 => ?_)
        · replace hr := ip hr c92
          refine VW.iload d9_textGives_28 0 rfl ?_
          refine VW.goto 49 d9_textGives_30 (by decide) ?_
          refine VW.istore (lo' := [(6, .int 5), (5, .int 5), (0, .ref (γ.2.2.1 114)), (1, .int x1), (2, .int x2), (3, .int x3), (4, .int x4)]) d9_textGives_49 (by decide) rfl ?_
          refine VW.aload_n d9_textGives_51 2 rfl ?_
          refine VW.getR (k := 0) (r := 115) d9_textGives_52 (oo_9 o9_114) rfl fl_9_7 ck9 ?_
          refine VW.sipush (v := 208) d9_textGives_55 sp_208 ?_
          refine VW.iload_n d9_textGives_58 3 rfl ?_
          refine VW.iadd d9_textGives_59 ?_
          obtain ⟨g93, hr⟩ := gdt hr
          refine VW.iald (j := (ci (208 + x1))) d9_textGives_60 (rf_9_0 o9_114) g93 rfl ?_
          refine VW.if_le 111 d9_textGives_61 (by decide) (fun c94 => ?_) (fun c94 => ?_)
          · replace hr := ip hr c94
            refine VW.iload_n d9_textGives_111 3 rfl ?_
            refine VW.if_ne 126 d9_textGives_112 (by decide) (fun c95 => ?_) (fun c95 => ?_)
            · replace hr := ip hr c95
              refine VW.iload d9_textGives_115 0 rfl ?_
              refine VW.iconst (v := 0) d9_textGives_117 ic_0 ?_
              refine VW.bipush (v := 99) d9_textGives_118 bp_99 ?_
              refine VW.callS (As := [.int 5, .int 0, .int 99]) (st := []) d9_textGives_120 mi_9_held cs_9_116 (by decide) (dl1 hd) _ rfl (Nat.le_of_ble_eq_true rfl) rfl (c_9_held (dl hd rfl) rfl) (kI ?_)
              refine VW.goto 128 d9_textGives_123 (by decide) ?_
              exact VW.iret d9_textGives_128 hR (rIw hr)
            · replace hr := im hr c95
              refine VW.iload d9_textGives_126 0 rfl ?_
              exact VW.iret d9_textGives_128 hR (rIw hr)
          · replace hr := im hr c94
            refine VW.aload_n d9_textGives_64 2 rfl ?_
            refine VW.getR (k := 10) (r := 118) d9_textGives_65 (oo_9 o9_114) rfl fl_9_19 ck9 ?_
            refine VW.iconst (v := 0) d9_textGives_68 ic_0 ?_
            refine VW.iload_n d9_textGives_69 4 rfl ?_
            obtain ⟨h96, e97, hr⟩ := hlt hr
            refine VW.iast (j := 0) d9_textGives_70 (rf_9_10 o9_114) ib_0_3 il_0 ?_
            refine VW.heq e97 ?_
            refine VW.aload_n d9_textGives_71 2 rfl ?_
            refine VW.getR (k := 10) (r := 118) d9_textGives_72 (oo_9 o9_114) rfl fl_9_19 ck9 ?_
            refine VW.iconst (v := 1) d9_textGives_75 ic_1 ?_
            refine VW.iload_n d9_textGives_76 5 rfl ?_
            obtain ⟨h98, e99, hr⟩ := hlt hr
            refine VW.iast (j := 1) d9_textGives_77 (rf_9_10 o9_114) ib_1_3 il_1 ?_
            refine VW.heq e99 ?_
            refine VW.aload_n d9_textGives_78 2 rfl ?_
            refine VW.getR (k := 10) (r := 118) d9_textGives_79 (oo_9 o9_114) rfl fl_9_19 ck9 ?_
            refine VW.iconst (v := 2) d9_textGives_82 ic_2 ?_
            refine VW.iload d9_textGives_83 6 rfl ?_
            obtain ⟨h100, e101, hr⟩ := hlt hr
            refine VW.iast (j := 2) d9_textGives_85 (rf_9_10 o9_114) ib_2_3 il_2 ?_
            refine VW.heq e101 ?_
            refine VW.aload_n d9_textGives_86 2 rfl ?_
            refine VW.sipush (v := 230) d9_textGives_87 sp_230 ?_
            refine VW.bipush (v := 50) d9_textGives_90 bp_50 ?_
            refine VW.iload_n d9_textGives_92 3 rfl ?_
            refine VW.imul d9_textGives_93 ?_
            refine VW.iadd d9_textGives_94 ?_
            refine VW.aload_n d9_textGives_95 2 rfl ?_
            refine VW.getR (k := 0) (r := 115) d9_textGives_96 (oo_9 o9_114) rfl fl_9_7 ck9 ?_
            refine VW.sipush (v := 208) d9_textGives_99 sp_208 ?_
            refine VW.iload_n d9_textGives_102 3 rfl ?_
            refine VW.iadd d9_textGives_103 ?_
            obtain ⟨g102, hr⟩ := gdt hr
            refine VW.iald (j := (ci (208 + x1))) d9_textGives_104 (rf_9_0 o9_114) g102 rfl ?_
            refine VW.iload_n d9_textGives_105 3 rfl ?_
            obtain ⟨r104, h105, e103, hr⟩ := bno2 hr
            refine VW.callV (As := [.int (230 + (50 * x1)), .int (h100 115 (ci (208 + x1))), .int x1]) (st := []) d9_textGives_106 mi_9_worked cv_9_112 (oo_9 o9_114) ⟨rfl, rfl⟩ (by decide) (dl1 hd) _ rfl (Nat.le_of_ble_eq_true rfl) rfl (c_9_worked (dl hd rfl) e103) (kI ?_)
            refine VW.istore (lo' := [(6, .int r104), (5, .int 5), (0, .ref (γ.2.2.1 114)), (1, .int x1), (2, .int x2), (3, .int x3), (4, .int x4)]) d9_textGives_109 (by decide) rfl ?_
            refine VW.iload_n d9_textGives_111 3 rfl ?_
            refine VW.if_ne 126 d9_textGives_112 (by decide) (fun c106 => ?_) (fun c106 => ?_)
            · replace hr := ip hr c106
              refine VW.iload d9_textGives_115 0 rfl ?_
              refine VW.iconst (v := 0) d9_textGives_117 ic_0 ?_
              refine VW.bipush (v := 99) d9_textGives_118 bp_99 ?_
              refine VW.callS (As := [.int r104, .int 0, .int 99]) (st := []) d9_textGives_120 mi_9_held cs_9_116 (by decide) (dl1 hd) _ rfl (Nat.le_of_ble_eq_true rfl) rfl (c_9_held (dl hd rfl) rfl) (kI ?_)
              refine VW.goto 128 d9_textGives_123 (by decide) ?_
              exact VW.iret d9_textGives_128 hR (rIw hr)
            · replace hr := im hr c106
              refine VW.iload d9_textGives_126 0 rfl ?_
              exact VW.iret d9_textGives_128 hR (rIw hr)
        · replace hr := im hr c92
          refine VW.iload_n d9_textGives_33 3 rfl ?_
          refine VW.iconst (v := 3) d9_textGives_34 ic_3 ?_
          refine VW.iload d9_textGives_35 5 rfl ?_
          refine VW.bipush (v := 10) d9_textGives_37 bp_10 ?_
          refine VW.idiv d9_textGives_39 (by decide) ?_
          refine VW.iadd d9_textGives_40 ?_
          refine VW.icmp_le 48 d9_textGives_41 (by decide) (fun c107 => ?_) (fun c107 => ?_)
          · replace hr := ip hr c107
            refine VW.iconst (v := 0) d9_textGives_48 ic_0 ?_
            refine VW.istore (lo' := [(6, .int 0), (5, .int 5), (0, .ref (γ.2.2.1 114)), (1, .int x1), (2, .int x2), (3, .int x3), (4, .int x4)]) d9_textGives_49 (by decide) rfl ?_
            refine VW.aload_n d9_textGives_51 2 rfl ?_
            refine VW.getR (k := 0) (r := 115) d9_textGives_52 (oo_9 o9_114) rfl fl_9_7 ck9 ?_
            refine VW.sipush (v := 208) d9_textGives_55 sp_208 ?_
            refine VW.iload_n d9_textGives_58 3 rfl ?_
            refine VW.iadd d9_textGives_59 ?_
            obtain ⟨g108, hr⟩ := gdt hr
            refine VW.iald (j := (ci (208 + x1))) d9_textGives_60 (rf_9_0 o9_114) g108 rfl ?_
            refine VW.if_le 111 d9_textGives_61 (by decide) (fun c109 => ?_) (fun c109 => ?_)
            · replace hr := ip hr c109
              refine VW.iload_n d9_textGives_111 3 rfl ?_
              refine VW.if_ne 126 d9_textGives_112 (by decide) (fun c110 => ?_) (fun c110 => ?_)
              · replace hr := ip hr c110
                refine VW.iload d9_textGives_115 0 rfl ?_
                refine VW.iconst (v := 0) d9_textGives_117 ic_0 ?_
                refine VW.bipush (v := 99) d9_textGives_118 bp_99 ?_
                refine VW.callS (As := [.int 0, .int 0, .int 99]) (st := []) d9_textGives_120 mi_9_held cs_9_116 (by decide) (dl1 hd) _ rfl (Nat.le_of_ble_eq_true rfl) rfl (c_9_held (dl hd rfl) rfl) (kI ?_)
                refine VW.goto 128 d9_textGives_123 (by decide) ?_
                exact VW.iret d9_textGives_128 hR (rIw hr)
              · replace hr := im hr c110
                refine VW.iload d9_textGives_126 0 rfl ?_
                exact VW.iret d9_textGives_128 hR (rIw hr)
            · replace hr := im hr c109
              refine VW.aload_n d9_textGives_64 2 rfl ?_
              refine VW.getR (k := 10) (r := 118) d9_textGives_65 (oo_9 o9_114) rfl fl_9_19 ck9 ?_
              refine VW.iconst (v := 0) d9_textGives_68 ic_0 ?_
              refine VW.iload_n d9_textGives_69 4 rfl ?_
              obtain ⟨h111, e112, hr⟩ := hlt hr
              refine VW.iast (j := 0) d9_textGives_70 (rf_9_10 o9_114) ib_0_3 il_0 ?_
              refine VW.heq e112 ?_
              refine VW.aload_n d9_textGives_71 2 rfl ?_
              refine VW.getR (k := 10) (r := 118) d9_textGives_72 (oo_9 o9_114) rfl fl_9_19 ck9 ?_
              refine VW.iconst (v := 1) d9_textGives_75 ic_1 ?_
              refine VW.iload_n d9_textGives_76 5 rfl ?_
              obtain ⟨h113, e114, hr⟩ := hlt hr
              refine VW.iast (j := 1) d9_textGives_77 (rf_9_10 o9_114) ib_1_3 il_1 ?_
              refine VW.heq e114 ?_
              refine VW.aload_n d9_textGives_78 2 rfl ?_
              refine VW.getR (k := 10) (r := 118) d9_textGives_79 (oo_9 o9_114) rfl fl_9_19 ck9 ?_
              refine VW.iconst (v := 2) d9_textGives_82 ic_2 ?_
              refine VW.iload d9_textGives_83 6 rfl ?_
              obtain ⟨h115, e116, hr⟩ := hlt hr
              refine VW.iast (j := 2) d9_textGives_85 (rf_9_10 o9_114) ib_2_3 il_2 ?_
              refine VW.heq e116 ?_
              refine VW.aload_n d9_textGives_86 2 rfl ?_
              refine VW.sipush (v := 230) d9_textGives_87 sp_230 ?_
              refine VW.bipush (v := 50) d9_textGives_90 bp_50 ?_
              refine VW.iload_n d9_textGives_92 3 rfl ?_
              refine VW.imul d9_textGives_93 ?_
              refine VW.iadd d9_textGives_94 ?_
              refine VW.aload_n d9_textGives_95 2 rfl ?_
              refine VW.getR (k := 0) (r := 115) d9_textGives_96 (oo_9 o9_114) rfl fl_9_7 ck9 ?_
              refine VW.sipush (v := 208) d9_textGives_99 sp_208 ?_
              refine VW.iload_n d9_textGives_102 3 rfl ?_
              refine VW.iadd d9_textGives_103 ?_
              obtain ⟨g117, hr⟩ := gdt hr
              refine VW.iald (j := (ci (208 + x1))) d9_textGives_104 (rf_9_0 o9_114) g117 rfl ?_
              refine VW.iload_n d9_textGives_105 3 rfl ?_
              obtain ⟨r119, h120, e118, hr⟩ := bno2 hr
              refine VW.callV (As := [.int (230 + (50 * x1)), .int (h115 115 (ci (208 + x1))), .int x1]) (st := []) d9_textGives_106 mi_9_worked cv_9_112 (oo_9 o9_114) ⟨rfl, rfl⟩ (by decide) (dl1 hd) _ rfl (Nat.le_of_ble_eq_true rfl) rfl (c_9_worked (dl hd rfl) e118) (kI ?_)
              refine VW.istore (lo' := [(6, .int r119), (5, .int 5), (0, .ref (γ.2.2.1 114)), (1, .int x1), (2, .int x2), (3, .int x3), (4, .int x4)]) d9_textGives_109 (by decide) rfl ?_
              refine VW.iload_n d9_textGives_111 3 rfl ?_
              refine VW.if_ne 126 d9_textGives_112 (by decide) (fun c121 => ?_) (fun c121 => ?_)
              · replace hr := ip hr c121
                refine VW.iload d9_textGives_115 0 rfl ?_
                refine VW.iconst (v := 0) d9_textGives_117 ic_0 ?_
                refine VW.bipush (v := 99) d9_textGives_118 bp_99 ?_
                refine VW.callS (As := [.int r119, .int 0, .int 99]) (st := []) d9_textGives_120 mi_9_held cs_9_116 (by decide) (dl1 hd) _ rfl (Nat.le_of_ble_eq_true rfl) rfl (c_9_held (dl hd rfl) rfl) (kI ?_)
                refine VW.goto 128 d9_textGives_123 (by decide) ?_
                exact VW.iret d9_textGives_128 hR (rIw hr)
              · replace hr := im hr c121
                refine VW.iload d9_textGives_126 0 rfl ?_
                exact VW.iret d9_textGives_128 hR (rIw hr)
          · replace hr := im hr c107
            refine VW.iconst (v := 1) d9_textGives_44 ic_1 ?_
            refine VW.goto 49 d9_textGives_45 (by decide) ?_
            refine VW.istore (lo' := [(6, .int 1), (5, .int 5), (0, .ref (γ.2.2.1 114)), (1, .int x1), (2, .int x2), (3, .int x3), (4, .int x4)]) d9_textGives_49 (by decide) rfl ?_
            refine VW.aload_n d9_textGives_51 2 rfl ?_
            refine VW.getR (k := 0) (r := 115) d9_textGives_52 (oo_9 o9_114) rfl fl_9_7 ck9 ?_
            refine VW.sipush (v := 208) d9_textGives_55 sp_208 ?_
            refine VW.iload_n d9_textGives_58 3 rfl ?_
            refine VW.iadd d9_textGives_59 ?_
            obtain ⟨g122, hr⟩ := gdt hr
            refine VW.iald (j := (ci (208 + x1))) d9_textGives_60 (rf_9_0 o9_114) g122 rfl ?_
            refine VW.if_le 111 d9_textGives_61 (by decide) (fun c123 => ?_) (fun c123 => ?_)
            · replace hr := ip hr c123
              refine VW.iload_n d9_textGives_111 3 rfl ?_
              refine VW.if_ne 126 d9_textGives_112 (by decide) (fun c124 => ?_) (fun c124 => ?_)
              · replace hr := ip hr c124
                refine VW.iload d9_textGives_115 0 rfl ?_
                refine VW.iconst (v := 0) d9_textGives_117 ic_0 ?_
                refine VW.bipush (v := 99) d9_textGives_118 bp_99 ?_
                refine VW.callS (As := [.int 1, .int 0, .int 99]) (st := []) d9_textGives_120 mi_9_held cs_9_116 (by decide) (dl1 hd) _ rfl (Nat.le_of_ble_eq_true rfl) rfl (c_9_held (dl hd rfl) rfl) (kI ?_)
                refine VW.goto 128 d9_textGives_123 (by decide) ?_
                exact VW.iret d9_textGives_128 hR (rIw hr)
              · replace hr := im hr c124
                refine VW.iload d9_textGives_126 0 rfl ?_
                exact VW.iret d9_textGives_128 hR (rIw hr)
            · replace hr := im hr c123
              refine VW.aload_n d9_textGives_64 2 rfl ?_
              refine VW.getR (k := 10) (r := 118) d9_textGives_65 (oo_9 o9_114) rfl fl_9_19 ck9 ?_
              refine VW.iconst (v := 0) d9_textGives_68 ic_0 ?_
              refine VW.iload_n d9_textGives_69 4 rfl ?_
              obtain ⟨h125, e126, hr⟩ := hlt hr
              refine VW.iast (j := 0) d9_textGives_70 (rf_9_10 o9_114) ib_0_3 il_0 ?_
              refine VW.heq e126 ?_
              refine VW.aload_n d9_textGives_71 2 rfl ?_
              refine VW.getR (k := 10) (r := 118) d9_textGives_72 (oo_9 o9_114) rfl fl_9_19 ck9 ?_
              refine VW.iconst (v := 1) d9_textGives_75 ic_1 ?_
              refine VW.iload_n d9_textGives_76 5 rfl ?_
              obtain ⟨h127, e128, hr⟩ := hlt hr
              refine VW.iast (j := 1) d9_textGives_77 (rf_9_10 o9_114) ib_1_3 il_1 ?_
              refine VW.heq e128 ?_
              refine VW.aload_n d9_textGives_78 2 rfl ?_
              refine VW.getR (k := 10) (r := 118) d9_textGives_79 (oo_9 o9_114) rfl fl_9_19 ck9 ?_
              refine VW.iconst (v := 2) d9_textGives_82 ic_2 ?_
              refine VW.iload d9_textGives_83 6 rfl ?_
              obtain ⟨h129, e130, hr⟩ := hlt hr
              refine VW.iast (j := 2) d9_textGives_85 (rf_9_10 o9_114) ib_2_3 il_2 ?_
              refine VW.heq e130 ?_
              refine VW.aload_n d9_textGives_86 2 rfl ?_
              refine VW.sipush (v := 230) d9_textGives_87 sp_230 ?_
              refine VW.bipush (v := 50) d9_textGives_90 bp_50 ?_
              refine VW.iload_n d9_textGives_92 3 rfl ?_
              refine VW.imul d9_textGives_93 ?_
              refine VW.iadd d9_textGives_94 ?_
              refine VW.aload_n d9_textGives_95 2 rfl ?_
              refine VW.getR (k := 0) (r := 115) d9_textGives_96 (oo_9 o9_114) rfl fl_9_7 ck9 ?_
              refine VW.sipush (v := 208) d9_textGives_99 sp_208 ?_
              refine VW.iload_n d9_textGives_102 3 rfl ?_
              refine VW.iadd d9_textGives_103 ?_
              obtain ⟨g131, hr⟩ := gdt hr
              refine VW.iald (j := (ci (208 + x1))) d9_textGives_104 (rf_9_0 o9_114) g131 rfl ?_
              refine VW.iload_n d9_textGives_105 3 rfl ?_
              obtain ⟨r133, h134, e132, hr⟩ := bno2 hr
              refine VW.callV (As := [.int (230 + (50 * x1)), .int (h129 115 (ci (208 + x1))), .int x1]) (st := []) d9_textGives_106 mi_9_worked cv_9_112 (oo_9 o9_114) ⟨rfl, rfl⟩ (by decide) (dl1 hd) _ rfl (Nat.le_of_ble_eq_true rfl) rfl (c_9_worked (dl hd rfl) e132) (kI ?_)
              refine VW.istore (lo' := [(6, .int r133), (5, .int 5), (0, .ref (γ.2.2.1 114)), (1, .int x1), (2, .int x2), (3, .int x3), (4, .int x4)]) d9_textGives_109 (by decide) rfl ?_
              refine VW.iload_n d9_textGives_111 3 rfl ?_
              refine VW.if_ne 126 d9_textGives_112 (by decide) (fun c135 => ?_) (fun c135 => ?_)
              · replace hr := ip hr c135
                refine VW.iload d9_textGives_115 0 rfl ?_
                refine VW.iconst (v := 0) d9_textGives_117 ic_0 ?_
                refine VW.bipush (v := 99) d9_textGives_118 bp_99 ?_
                refine VW.callS (As := [.int r133, .int 0, .int 99]) (st := []) d9_textGives_120 mi_9_held cs_9_116 (by decide) (dl1 hd) _ rfl (Nat.le_of_ble_eq_true rfl) rfl (c_9_held (dl hd rfl) rfl) (kI ?_)
                refine VW.goto 128 d9_textGives_123 (by decide) ?_
                exact VW.iret d9_textGives_128 hR (rIw hr)
              · replace hr := im hr c135
                refine VW.iload d9_textGives_126 0 rfl ?_
                exact VW.iret d9_textGives_128 hR (rIw hr)
      · replace hr := im hr c91
        refine VW.iconst (v := 1) d9_textGives_21 ic_1 ?_
        refine VW.istore (lo' := [(5, .int 1), (0, .ref (γ.2.2.1 114)), (1, .int x1), (2, .int x2), (3, .int x3), (4, .int x4)]) d9_textGives_22 (by decide) rfl ?_
        refine VW.iload_n d9_textGives_24 2 rfl ?_
        refine VW.if_ne 33 d9_textGives_25 (by decide) (fun c136 => ?_) (fun c136 => ?_)
        · replace hr := ip hr c136
          refine VW.iload d9_textGives_28 0 rfl ?_
          refine VW.goto 49 d9_textGives_30 (by decide) ?_
          refine VW.istore (lo' := [(6, .int 1), (5, .int 1), (0, .ref (γ.2.2.1 114)), (1, .int x1), (2, .int x2), (3, .int x3), (4, .int x4)]) d9_textGives_49 (by decide) rfl ?_
          refine VW.aload_n d9_textGives_51 2 rfl ?_
          refine VW.getR (k := 0) (r := 115) d9_textGives_52 (oo_9 o9_114) rfl fl_9_7 ck9 ?_
          refine VW.sipush (v := 208) d9_textGives_55 sp_208 ?_
          refine VW.iload_n d9_textGives_58 3 rfl ?_
          refine VW.iadd d9_textGives_59 ?_
          obtain ⟨g137, hr⟩ := gdt hr
          refine VW.iald (j := (ci (208 + x1))) d9_textGives_60 (rf_9_0 o9_114) g137 rfl ?_
          refine VW.if_le 111 d9_textGives_61 (by decide) (fun c138 => ?_) (fun c138 => ?_)
          · replace hr := ip hr c138
            refine VW.iload_n d9_textGives_111 3 rfl ?_
            refine VW.if_ne 126 d9_textGives_112 (by decide) (fun c139 => ?_) (fun c139 => ?_)
            · replace hr := ip hr c139
              refine VW.iload d9_textGives_115 0 rfl ?_
              refine VW.iconst (v := 0) d9_textGives_117 ic_0 ?_
              refine VW.bipush (v := 99) d9_textGives_118 bp_99 ?_
              refine VW.callS (As := [.int 1, .int 0, .int 99]) (st := []) d9_textGives_120 mi_9_held cs_9_116 (by decide) (dl1 hd) _ rfl (Nat.le_of_ble_eq_true rfl) rfl (c_9_held (dl hd rfl) rfl) (kI ?_)
              refine VW.goto 128 d9_textGives_123 (by decide) ?_
              exact VW.iret d9_textGives_128 hR (rIw hr)
            · replace hr := im hr c139
              refine VW.iload d9_textGives_126 0 rfl ?_
              exact VW.iret d9_textGives_128 hR (rIw hr)
          · replace hr := im hr c138
            refine VW.aload_n d9_textGives_64 2 rfl ?_
            refine VW.getR (k := 10) (r := 118) d9_textGives_65 (oo_9 o9_114) rfl fl_9_19 ck9 ?_
            refine VW.iconst (v := 0) d9_textGives_68 ic_0 ?_
            refine VW.iload_n d9_textGives_69 4 rfl ?_
            obtain ⟨h140, e141, hr⟩ := hlt hr
            refine VW.iast (j := 0) d9_textGives_70 (rf_9_10 o9_114) ib_0_3 il_0 ?_
            refine VW.heq e141 ?_
            refine VW.aload_n d9_textGives_71 2 rfl ?_
            refine VW.getR (k := 10) (r := 118) d9_textGives_72 (oo_9 o9_114) rfl fl_9_19 ck9 ?_
            refine VW.iconst (v := 1) d9_textGives_75 ic_1 ?_
            refine VW.iload_n d9_textGives_76 5 rfl ?_
            obtain ⟨h142, e143, hr⟩ := hlt hr
            refine VW.iast (j := 1) d9_textGives_77 (rf_9_10 o9_114) ib_1_3 il_1 ?_
            refine VW.heq e143 ?_
            refine VW.aload_n d9_textGives_78 2 rfl ?_
            refine VW.getR (k := 10) (r := 118) d9_textGives_79 (oo_9 o9_114) rfl fl_9_19 ck9 ?_
            refine VW.iconst (v := 2) d9_textGives_82 ic_2 ?_
            refine VW.iload d9_textGives_83 6 rfl ?_
            obtain ⟨h144, e145, hr⟩ := hlt hr
            refine VW.iast (j := 2) d9_textGives_85 (rf_9_10 o9_114) ib_2_3 il_2 ?_
            refine VW.heq e145 ?_
            refine VW.aload_n d9_textGives_86 2 rfl ?_
            refine VW.sipush (v := 230) d9_textGives_87 sp_230 ?_
            refine VW.bipush (v := 50) d9_textGives_90 bp_50 ?_
            refine VW.iload_n d9_textGives_92 3 rfl ?_
            refine VW.imul d9_textGives_93 ?_
            refine VW.iadd d9_textGives_94 ?_
            refine VW.aload_n d9_textGives_95 2 rfl ?_
            refine VW.getR (k := 0) (r := 115) d9_textGives_96 (oo_9 o9_114) rfl fl_9_7 ck9 ?_
            refine VW.sipush (v := 208) d9_textGives_99 sp_208 ?_
            refine VW.iload_n d9_textGives_102 3 rfl ?_
            refine VW.iadd d9_textGives_103 ?_
            obtain ⟨g146, hr⟩ := gdt hr
            refine VW.iald (j := (ci (208 + x1))) d9_textGives_104 (rf_9_0 o9_114) g146 rfl ?_
            refine VW.iload_n d9_textGives_105 3 rfl ?_
            obtain ⟨r148, h149, e147, hr⟩ := bno2 hr
            refine VW.callV (As := [.int (230 + (50 * x1)), .int (h144 115 (ci (208 + x1))), .int x1]) (st := []) d9_textGives_106 mi_9_worked cv_9_112 (oo_9 o9_114) ⟨rfl, rfl⟩ (by decide) (dl1 hd) _ rfl (Nat.le_of_ble_eq_true rfl) rfl (c_9_worked (dl hd rfl) e147) (kI ?_)
            refine VW.istore (lo' := [(6, .int r148), (5, .int 1), (0, .ref (γ.2.2.1 114)), (1, .int x1), (2, .int x2), (3, .int x3), (4, .int x4)]) d9_textGives_109 (by decide) rfl ?_
            refine VW.iload_n d9_textGives_111 3 rfl ?_
            refine VW.if_ne 126 d9_textGives_112 (by decide) (fun c150 => ?_) (fun c150 => ?_)
            · replace hr := ip hr c150
              refine VW.iload d9_textGives_115 0 rfl ?_
              refine VW.iconst (v := 0) d9_textGives_117 ic_0 ?_
              refine VW.bipush (v := 99) d9_textGives_118 bp_99 ?_
              refine VW.callS (As := [.int r148, .int 0, .int 99]) (st := []) d9_textGives_120 mi_9_held cs_9_116 (by decide) (dl1 hd) _ rfl (Nat.le_of_ble_eq_true rfl) rfl (c_9_held (dl hd rfl) rfl) (kI ?_)
              refine VW.goto 128 d9_textGives_123 (by decide) ?_
              exact VW.iret d9_textGives_128 hR (rIw hr)
            · replace hr := im hr c150
              refine VW.iload d9_textGives_126 0 rfl ?_
              exact VW.iret d9_textGives_128 hR (rIw hr)
        · replace hr := im hr c136
          refine VW.iload_n d9_textGives_33 3 rfl ?_
          refine VW.iconst (v := 3) d9_textGives_34 ic_3 ?_
          refine VW.iload d9_textGives_35 5 rfl ?_
          refine VW.bipush (v := 10) d9_textGives_37 bp_10 ?_
          refine VW.idiv d9_textGives_39 (by decide) ?_
          refine VW.iadd d9_textGives_40 ?_
          refine VW.icmp_le 48 d9_textGives_41 (by decide) (fun c151 => ?_) (fun c151 => ?_)
          · replace hr := ip hr c151
            refine VW.iconst (v := 0) d9_textGives_48 ic_0 ?_
            refine VW.istore (lo' := [(6, .int 0), (5, .int 1), (0, .ref (γ.2.2.1 114)), (1, .int x1), (2, .int x2), (3, .int x3), (4, .int x4)]) d9_textGives_49 (by decide) rfl ?_
            refine VW.aload_n d9_textGives_51 2 rfl ?_
            refine VW.getR (k := 0) (r := 115) d9_textGives_52 (oo_9 o9_114) rfl fl_9_7 ck9 ?_
            refine VW.sipush (v := 208) d9_textGives_55 sp_208 ?_
            refine VW.iload_n d9_textGives_58 3 rfl ?_
            refine VW.iadd d9_textGives_59 ?_
            obtain ⟨g152, hr⟩ := gdt hr
            refine VW.iald (j := (ci (208 + x1))) d9_textGives_60 (rf_9_0 o9_114) g152 rfl ?_
            refine VW.if_le 111 d9_textGives_61 (by decide) (fun c153 => ?_) (fun c153 => ?_)
            · replace hr := ip hr c153
              refine VW.iload_n d9_textGives_111 3 rfl ?_
              refine VW.if_ne 126 d9_textGives_112 (by decide) (fun c154 => ?_) (fun c154 => ?_)
              · replace hr := ip hr c154
                refine VW.iload d9_textGives_115 0 rfl ?_
                refine VW.iconst (v := 0) d9_textGives_117 ic_0 ?_
                refine VW.bipush (v := 99) d9_textGives_118 bp_99 ?_
                refine VW.callS (As := [.int 0, .int 0, .int 99]) (st := []) d9_textGives_120 mi_9_held cs_9_116 (by decide) (dl1 hd) _ rfl (Nat.le_of_ble_eq_true rfl) rfl (c_9_held (dl hd rfl) rfl) (kI ?_)
                refine VW.goto 128 d9_textGives_123 (by decide) ?_
                exact VW.iret d9_textGives_128 hR (rIw hr)
              · replace hr := im hr c154
                refine VW.iload d9_textGives_126 0 rfl ?_
                exact VW.iret d9_textGives_128 hR (rIw hr)
            · replace hr := im hr c153
              refine VW.aload_n d9_textGives_64 2 rfl ?_
              refine VW.getR (k := 10) (r := 118) d9_textGives_65 (oo_9 o9_114) rfl fl_9_19 ck9 ?_
              refine VW.iconst (v := 0) d9_textGives_68 ic_0 ?_
              refine VW.iload_n d9_textGives_69 4 rfl ?_
              obtain ⟨h155, e156, hr⟩ := hlt hr
              refine VW.iast (j := 0) d9_textGives_70 (rf_9_10 o9_114) ib_0_3 il_0 ?_
              refine VW.heq e156 ?_
              refine VW.aload_n d9_textGives_71 2 rfl ?_
              refine VW.getR (k := 10) (r := 118) d9_textGives_72 (oo_9 o9_114) rfl fl_9_19 ck9 ?_
              refine VW.iconst (v := 1) d9_textGives_75 ic_1 ?_
              refine VW.iload_n d9_textGives_76 5 rfl ?_
              obtain ⟨h157, e158, hr⟩ := hlt hr
              refine VW.iast (j := 1) d9_textGives_77 (rf_9_10 o9_114) ib_1_3 il_1 ?_
              refine VW.heq e158 ?_
              refine VW.aload_n d9_textGives_78 2 rfl ?_
              refine VW.getR (k := 10) (r := 118) d9_textGives_79 (oo_9 o9_114) rfl fl_9_19 ck9 ?_
              refine VW.iconst (v := 2) d9_textGives_82 ic_2 ?_
              refine VW.iload d9_textGives_83 6 rfl ?_
              obtain ⟨h159, e160, hr⟩ := hlt hr
              refine VW.iast (j := 2) d9_textGives_85 (rf_9_10 o9_114) ib_2_3 il_2 ?_
              refine VW.heq e160 ?_
              refine VW.aload_n d9_textGives_86 2 rfl ?_
              refine VW.sipush (v := 230) d9_textGives_87 sp_230 ?_
              refine VW.bipush (v := 50) d9_textGives_90 bp_50 ?_
              refine VW.iload_n d9_textGives_92 3 rfl ?_
              refine VW.imul d9_textGives_93 ?_
              refine VW.iadd d9_textGives_94 ?_
              refine VW.aload_n d9_textGives_95 2 rfl ?_
              refine VW.getR (k := 0) (r := 115) d9_textGives_96 (oo_9 o9_114) rfl fl_9_7 ck9 ?_
              refine VW.sipush (v := 208) d9_textGives_99 sp_208 ?_
              refine VW.iload_n d9_textGives_102 3 rfl ?_
              refine VW.iadd d9_textGives_103 ?_
              obtain ⟨g161, hr⟩ := gdt hr
              refine VW.iald (j := (ci (208 + x1))) d9_textGives_104 (rf_9_0 o9_114) g161 rfl ?_
              refine VW.iload_n d9_textGives_105 3 rfl ?_
              obtain ⟨r163, h164, e162, hr⟩ := bno2 hr
              refine VW.callV (As := [.int (230 + (50 * x1)), .int (h159 115 (ci (208 + x1))), .int x1]) (st := []) d9_textGives_106 mi_9_worked cv_9_112 (oo_9 o9_114) ⟨rfl, rfl⟩ (by decide) (dl1 hd) _ rfl (Nat.le_of_ble_eq_true rfl) rfl (c_9_worked (dl hd rfl) e162) (kI ?_)
              refine VW.istore (lo' := [(6, .int r163), (5, .int 1), (0, .ref (γ.2.2.1 114)), (1, .int x1), (2, .int x2), (3, .int x3), (4, .int x4)]) d9_textGives_109 (by decide) rfl ?_
              refine VW.iload_n d9_textGives_111 3 rfl ?_
              refine VW.if_ne 126 d9_textGives_112 (by decide) (fun c165 => ?_) (fun c165 => ?_)
              · replace hr := ip hr c165
                refine VW.iload d9_textGives_115 0 rfl ?_
                refine VW.iconst (v := 0) d9_textGives_117 ic_0 ?_
                refine VW.bipush (v := 99) d9_textGives_118 bp_99 ?_
                refine VW.callS (As := [.int r163, .int 0, .int 99]) (st := []) d9_textGives_120 mi_9_held cs_9_116 (by decide) (dl1 hd) _ rfl (Nat.le_of_ble_eq_true rfl) rfl (c_9_held (dl hd rfl) rfl) (kI ?_)
                refine VW.goto 128 d9_textGives_123 (by decide) ?_
                exact VW.iret d9_textGives_128 hR (rIw hr)
              · replace hr := im hr c165
                refine VW.iload d9_textGives_126 0 rfl ?_
                exact VW.iret d9_textGives_128 hR (rIw hr)
          · replace hr := im hr c151
            refine VW.iconst (v := 1) d9_textGives_44 ic_1 ?_
            refine VW.goto 49 d9_textGives_45 (by decide) ?_
            refine VW.istore (lo' := [(6, .int 1), (5, .int 1), (0, .ref (γ.2.2.1 114)), (1, .int x1), (2, .int x2), (3, .int x3), (4, .int x4)]) d9_textGives_49 (by decide) rfl ?_
            refine VW.aload_n d9_textGives_51 2 rfl ?_
            refine VW.getR (k := 0) (r := 115) d9_textGives_52 (oo_9 o9_114) rfl fl_9_7 ck9 ?_
            refine VW.sipush (v := 208) d9_textGives_55 sp_208 ?_
            refine VW.iload_n d9_textGives_58 3 rfl ?_
            refine VW.iadd d9_textGives_59 ?_
            obtain ⟨g166, hr⟩ := gdt hr
            refine VW.iald (j := (ci (208 + x1))) d9_textGives_60 (rf_9_0 o9_114) g166 rfl ?_
            refine VW.if_le 111 d9_textGives_61 (by decide) (fun c167 => ?_) (fun c167 => ?_)
            · replace hr := ip hr c167
              refine VW.iload_n d9_textGives_111 3 rfl ?_
              refine VW.if_ne 126 d9_textGives_112 (by decide) (fun c168 => ?_) (fun c168 => ?_)
              · replace hr := ip hr c168
                refine VW.iload d9_textGives_115 0 rfl ?_
                refine VW.iconst (v := 0) d9_textGives_117 ic_0 ?_
                refine VW.bipush (v := 99) d9_textGives_118 bp_99 ?_
                refine VW.callS (As := [.int 1, .int 0, .int 99]) (st := []) d9_textGives_120 mi_9_held cs_9_116 (by decide) (dl1 hd) _ rfl (Nat.le_of_ble_eq_true rfl) rfl (c_9_held (dl hd rfl) rfl) (kI ?_)
                refine VW.goto 128 d9_textGives_123 (by decide) ?_
                exact VW.iret d9_textGives_128 hR (rIw hr)
              · replace hr := im hr c168
                refine VW.iload d9_textGives_126 0 rfl ?_
                exact VW.iret d9_textGives_128 hR (rIw hr)
            · replace hr := im hr c167
              refine VW.aload_n d9_textGives_64 2 rfl ?_
              refine VW.getR (k := 10) (r := 118) d9_textGives_65 (oo_9 o9_114) rfl fl_9_19 ck9 ?_
              refine VW.iconst (v := 0) d9_textGives_68 ic_0 ?_
              refine VW.iload_n d9_textGives_69 4 rfl ?_
              obtain ⟨h169, e170, hr⟩ := hlt hr
              refine VW.iast (j := 0) d9_textGives_70 (rf_9_10 o9_114) ib_0_3 il_0 ?_
              refine VW.heq e170 ?_
              refine VW.aload_n d9_textGives_71 2 rfl ?_
              refine VW.getR (k := 10) (r := 118) d9_textGives_72 (oo_9 o9_114) rfl fl_9_19 ck9 ?_
              refine VW.iconst (v := 1) d9_textGives_75 ic_1 ?_
              refine VW.iload_n d9_textGives_76 5 rfl ?_
              obtain ⟨h171, e172, hr⟩ := hlt hr
              refine VW.iast (j := 1) d9_textGives_77 (rf_9_10 o9_114) ib_1_3 il_1 ?_
              refine VW.heq e172 ?_
              refine VW.aload_n d9_textGives_78 2 rfl ?_
              refine VW.getR (k := 10) (r := 118) d9_textGives_79 (oo_9 o9_114) rfl fl_9_19 ck9 ?_
              refine VW.iconst (v := 2) d9_textGives_82 ic_2 ?_
              refine VW.iload d9_textGives_83 6 rfl ?_
              obtain ⟨h173, e174, hr⟩ := hlt hr
              refine VW.iast (j := 2) d9_textGives_85 (rf_9_10 o9_114) ib_2_3 il_2 ?_
              refine VW.heq e174 ?_
              refine VW.aload_n d9_textGives_86 2 rfl ?_
              refine VW.sipush (v := 230) d9_textGives_87 sp_230 ?_
              refine VW.bipush (v := 50) d9_textGives_90 bp_50 ?_
              refine VW.iload_n d9_textGives_92 3 rfl ?_
              refine VW.imul d9_textGives_93 ?_
              refine VW.iadd d9_textGives_94 ?_
              refine VW.aload_n d9_textGives_95 2 rfl ?_
              refine VW.getR (k := 0) (r := 115) d9_textGives_96 (oo_9 o9_114) rfl fl_9_7 ck9 ?_
              refine VW.sipush (v := 208) d9_textGives_99 sp_208 ?_
              refine VW.iload_n d9_textGives_102 3 rfl ?_
              refine VW.iadd d9_textGives_103 ?_
              obtain ⟨g175, hr⟩ := gdt hr
              refine VW.iald (j := (ci (208 + x1))) d9_textGives_104 (rf_9_0 o9_114) g175 rfl ?_
              refine VW.iload_n d9_textGives_105 3 rfl ?_
              obtain ⟨r177, h178, e176, hr⟩ := bno2 hr
              refine VW.callV (As := [.int (230 + (50 * x1)), .int (h173 115 (ci (208 + x1))), .int x1]) (st := []) d9_textGives_106 mi_9_worked cv_9_112 (oo_9 o9_114) ⟨rfl, rfl⟩ (by decide) (dl1 hd) _ rfl (Nat.le_of_ble_eq_true rfl) rfl (c_9_worked (dl hd rfl) e176) (kI ?_)
              refine VW.istore (lo' := [(6, .int r177), (5, .int 1), (0, .ref (γ.2.2.1 114)), (1, .int x1), (2, .int x2), (3, .int x3), (4, .int x4)]) d9_textGives_109 (by decide) rfl ?_
              refine VW.iload_n d9_textGives_111 3 rfl ?_
              refine VW.if_ne 126 d9_textGives_112 (by decide) (fun c179 => ?_) (fun c179 => ?_)
              · replace hr := ip hr c179
                refine VW.iload d9_textGives_115 0 rfl ?_
                refine VW.iconst (v := 0) d9_textGives_117 ic_0 ?_
                refine VW.bipush (v := 99) d9_textGives_118 bp_99 ?_
                refine VW.callS (As := [.int r177, .int 0, .int 99]) (st := []) d9_textGives_120 mi_9_held cs_9_116 (by decide) (dl1 hd) _ rfl (Nat.le_of_ble_eq_true rfl) rfl (c_9_held (dl hd rfl) rfl) (kI ?_)
                refine VW.goto 128 d9_textGives_123 (by decide) ?_
                exact VW.iret d9_textGives_128 hR (rIw hr)
              · replace hr := im hr c179
                refine VW.iload d9_textGives_126 0 rfl ?_
                exact VW.iret d9_textGives_128 hR (rIw hr)
set_option maxRecDepth 100000 in
set_option maxHeartbeats 4000000 in
theorem s_9_offNow_40 {γ : Gm} {ε : En} {dd : Nat} (hd : 69 ≤ dd) {r : Int32} {hz : Hp} {K28 : Int32 → Int32 → Hp → Option (Int32 × Hp)} {x1 : Int32} {x2 : Int32} {x3 : Int32} {x5 : Int32} (HK28 : ∀ (x4 : Int32) (x5 : Int32) (h : Hp), K28 x4 x5 h = some (r, hz) → VW γ ε cX9_offNow RX9 8 dd 28 [(0, .ref (γ.2.2.1 114)), (1, .int x1), (2, .int x2), (3, .int x3), (4, .int x4), (5, .int x5)] [] h) (hR : RT γ ε (some .int) (QI r hz)) : ∀ (n : Nat) (x4 : Int32) (x6 : Int32) (h : Hp), f_9_offNow_40 K28 x1 x2 x3 x5 n x4 x6 h = some (r, hz) → VW γ ε cX9_offNow RX9 8 dd 40 [(0, .ref (γ.2.2.1 114)), (1, .int x1), (2, .int x2), (3, .int x3), (4, .int x4), (5, .int x5), (6, .int x6)] [] h := by
  intro n
  induction n with
  | zero =>
    intro x4 x6 h hr
    exact nf hr
  | succ n ih =>
    intro x4 x6 h hr
    rw [f_9_offNow_40] at hr
    refine VW.iload d9_offNow_40 6 rfl ?_
    refine VW.aload_n d9_offNow_42 0 rfl ?_
    refine VW.aload_n d9_offNow_43 0 rfl ?_
    refine VW.getR (k := 12) (r := 119) d9_offNow_44 (oo_9 o9_114) rfl fl_9_22 ck9 ?_
    refine VW.iload d9_offNow_47 5 rfl ?_
    obtain ⟨g13, hr⟩ := gdt hr
    refine VW.iald (j := (ci x5)) d9_offNow_49 (rf_9_12 o9_114) g13 rfl ?_
    refine VW.iconst (v := 0) d9_offNow_50 ic_0 ?_
    obtain ⟨r15, e14, hr⟩ := bno hr
    refine VW.callV (As := [.int (h 119 (ci x5)), .int 0]) (st := [.int x6]) d9_offNow_51 mi_9_its cv_9_141 (oo_9 o9_114) ⟨rfl, rfl⟩ (by decide) (dl1 hd) _ rfl (Nat.le_of_ble_eq_true rfl) rfl (c_9_its (dl hd rfl) e14) (kI ?_)
    refine VW.icmp_ge 139 d9_offNow_54 (by decide) (fun c16 => ?_) (fun c16 => ?_)
    · replace hr := ip hr c16
      refine VW.iinc (w := 1) (lo' := [(5, .int (x5 + 1)), (0, .ref (γ.2.2.1 114)), (1, .int x1), (2, .int x2), (3, .int x3), (4, .int x4), (6, .int x6)]) d9_offNow_139 5 rfl ic_1 (by decide) rfl ?_
      refine VW.goto 28 d9_offNow_142 (by decide) ?_
      exact VW.sub [1, 2, 3, 4, 5, 0] rfl (HK28 x4 (x5 + 1) h hr)
    · replace hr := im hr c16
      refine VW.aload_n d9_offNow_57 0 rfl ?_
      refine VW.getI (k := 13) d9_offNow_58 (oo_9 o9_114) rfl fl_9_148 ck9 ?_
      refine VW.istore (lo' := [(7, .int (h 114 13)), (0, .ref (γ.2.2.1 114)), (1, .int x1), (2, .int x2), (3, .int x3), (4, .int x4), (5, .int x5), (6, .int x6)]) d9_offNow_61 (by decide) rfl ?_
      refine VW.iload d9_offNow_63 0 rfl ?_
      refine VW.iload_n d9_offNow_65 4 rfl ?_
      refine VW.icmp_ge 123 d9_offNow_66 (by decide) (fun c17 => ?_) (fun c17 => ?_)
      · replace hr := ip hr c17
        refine VW.aload_n d9_offNow_123 1 rfl ?_
        refine VW.dup d9_offNow_124 rfl ?_
        refine VW.getI (k := 13) d9_offNow_125 (oo_9 o9_114) rfl fl_9_148 ck9 ?_
        refine VW.iconst (v := 1) d9_offNow_128 ic_1 ?_
        refine VW.iadd d9_offNow_129 ?_
        obtain ⟨h18, e19, hr⟩ := hlt hr
        refine VW.putI (k := 13) d9_offNow_130 (oo_9 o9_114) rfl fl_9_148 ck9 rfl rfl rfl rfl ?_
        refine VW.heq e19 ?_
        refine VW.iinc (w := 1) (lo' := [(6, .int (x6 + 1)), (7, .int (h 114 13)), (0, .ref (γ.2.2.1 114)), (1, .int x1), (2, .int x2), (3, .int x3), (4, .int x4), (5, .int x5)]) d9_offNow_133 7 rfl ic_1 (by decide) rfl ?_
        refine VW.goto 40 d9_offNow_136 (by decide) ?_
        exact VW.sub [2, 3, 4, 5, 6, 7, 0] rfl (ih x4 (x6 + 1) h18 hr)
      · replace hr := im hr c17
        refine VW.aload_n d9_offNow_69 1 rfl ?_
        refine VW.getR (k := 0) (r := 115) d9_offNow_70 (oo_9 o9_114) rfl fl_9_7 ck9 ?_
        refine VW.iload_n d9_offNow_73 3 rfl ?_
        refine VW.iload d9_offNow_74 0 rfl ?_
        refine VW.iadd d9_offNow_76 ?_
        obtain ⟨g20, hr⟩ := gdt hr
        refine VW.iald (j := (ci (x2 + (h 114 13)))) d9_offNow_77 (rf_9_0 o9_114) g20 rfl ?_
        refine VW.iconst (v := 3) d9_offNow_78 ic_3 ?_
        refine VW.icmp_eq 123 d9_offNow_79 (by decide) (fun c21 => ?_) (fun c21 => ?_)
        · replace hr := ip hr c21
          refine VW.aload_n d9_offNow_123 1 rfl ?_
          refine VW.dup d9_offNow_124 rfl ?_
          refine VW.getI (k := 13) d9_offNow_125 (oo_9 o9_114) rfl fl_9_148 ck9 ?_
          refine VW.iconst (v := 1) d9_offNow_128 ic_1 ?_
          refine VW.iadd d9_offNow_129 ?_
          obtain ⟨h22, e23, hr⟩ := hlt hr
          refine VW.putI (k := 13) d9_offNow_130 (oo_9 o9_114) rfl fl_9_148 ck9 rfl rfl rfl rfl ?_
          refine VW.heq e23 ?_
          refine VW.iinc (w := 1) (lo' := [(6, .int (x6 + 1)), (7, .int (h 114 13)), (0, .ref (γ.2.2.1 114)), (1, .int x1), (2, .int x2), (3, .int x3), (4, .int x4), (5, .int x5)]) d9_offNow_133 7 rfl ic_1 (by decide) rfl ?_
          refine VW.goto 40 d9_offNow_136 (by decide) ?_
          exact VW.sub [2, 3, 4, 5, 6, 7, 0] rfl (ih x4 (x6 + 1) h22 hr)
        · replace hr := im hr c21
          refine VW.iload d9_offNow_82 5 rfl ?_
          refine VW.aload_n d9_offNow_84 1 rfl ?_
          refine VW.iload_n d9_offNow_85 2 rfl ?_
          refine VW.aload_n d9_offNow_86 1 rfl ?_
          refine VW.iconst (v := 0) d9_offNow_87 ic_0 ?_
          refine VW.aload_n d9_offNow_88 1 rfl ?_
          refine VW.getR (k := 0) (r := 115) d9_offNow_89 (oo_9 o9_114) rfl fl_9_7 ck9 ?_
          refine VW.iload_n d9_offNow_92 3 rfl ?_
          refine VW.iload d9_offNow_93 0 rfl ?_
          refine VW.iadd d9_offNow_95 ?_
          obtain ⟨g24, hr⟩ := gdt hr
          refine VW.iald (j := (ci (x2 + (h 114 13)))) d9_offNow_96 (rf_9_0 o9_114) g24 rfl ?_
          refine VW.aload_n d9_offNow_97 1 rfl ?_
          refine VW.aload_n d9_offNow_98 1 rfl ?_
          refine VW.getR (k := 12) (r := 119) d9_offNow_99 (oo_9 o9_114) rfl fl_9_22 ck9 ?_
          refine VW.iload d9_offNow_102 6 rfl ?_
          obtain ⟨g25, hr⟩ := gdt hr
          refine VW.iald (j := (ci x5)) d9_offNow_104 (rf_9_12 o9_114) g25 rfl ?_
          refine VW.iconst (v := 2) d9_offNow_105 ic_2 ?_
          refine VW.iload d9_offNow_106 7 rfl ?_
          refine VW.iadd d9_offNow_108 ?_
          obtain ⟨r27, e26, hr⟩ := bno hr
          refine VW.callV (As := [.int (h 119 (ci x5)), .int (2 + x6)]) (st := [.int (h 115 (ci (x2 + (h 114 13)))), .int 0, .ref (γ.2.2.1 114), .int x1, .ref (γ.2.2.1 114), .int x4]) d9_offNow_109 mi_9_its cv_9_141 (oo_9 o9_114) ⟨rfl, rfl⟩ (by decide) (dl1 hd) _ rfl (Nat.le_of_ble_eq_true rfl) rfl (c_9_its (dl hd rfl) e26) (kI ?_)
          refine VW.iload d9_offNow_112 0 rfl ?_
          obtain ⟨r29, h30, e28, hr⟩ := bno2 hr
          refine VW.callV (As := [.int 0, .int (h 115 (ci (x2 + (h 114 13)))), .int r27, .int (h 114 13)]) (st := [.int x1, .ref (γ.2.2.1 114), .int x4]) d9_offNow_114 mi_9_textGives cv_9_119 (oo_9 o9_114) ⟨rfl, rfl⟩ (by decide) (dl1 hd) _ rfl (Nat.le_of_ble_eq_true rfl) rfl (c_9_textGives (dl hd rfl) e28) (kI ?_)
          obtain ⟨r32, e31, hr⟩ := bno hr
          refine VW.callV (As := [.int x1, .int r29]) (st := [.int x4]) d9_offNow_117 mi_9_seen cv_9_154 (oo_9 o9_114) ⟨rfl, rfl⟩ (by decide) (dl1 hd) _ rfl (Nat.le_of_ble_eq_true rfl) rfl (c_9_seen (dl hd rfl) e31) (kI ?_)
          refine VW.iadd d9_offNow_120 ?_
          refine VW.istore (lo' := [(4, .int (x4 + r32)), (7, .int (h 114 13)), (0, .ref (γ.2.2.1 114)), (1, .int x1), (2, .int x2), (3, .int x3), (5, .int x5), (6, .int x6)]) d9_offNow_121 (by decide) rfl ?_
          refine VW.aload_n d9_offNow_123 2 rfl ?_
          refine VW.dup d9_offNow_124 rfl ?_
          refine VW.getI (k := 13) d9_offNow_125 (oo_9 o9_114) rfl fl_9_148 ck9 ?_
          refine VW.iconst (v := 1) d9_offNow_128 ic_1 ?_
          refine VW.iadd d9_offNow_129 ?_
          obtain ⟨h33, e34, hr⟩ := hlt hr
          refine VW.putI (k := 13) d9_offNow_130 (oo_9 o9_114) rfl fl_9_148 ck9 rfl rfl rfl rfl ?_
          refine VW.heq e34 ?_
          refine VW.iinc (w := 1) (lo' := [(6, .int (x6 + 1)), (4, .int (x4 + r32)), (7, .int (h 114 13)), (0, .ref (γ.2.2.1 114)), (1, .int x1), (2, .int x2), (3, .int x3), (5, .int x5)]) d9_offNow_133 7 rfl ic_1 (by decide) rfl ?_
          refine VW.goto 40 d9_offNow_136 (by decide) ?_
          exact VW.sub [3, 4, 5, 6, 1, 7, 0] rfl (ih (x4 + r32) (x6 + 1) h33 hr)
set_option maxRecDepth 100000 in
set_option maxHeartbeats 4000000 in
theorem s_9_offNow_28 {γ : Gm} {ε : En} {dd : Nat} (hd : 69 ≤ dd) {r : Int32} {hz : Hp} {x1 : Int32} {x2 : Int32} {x3 : Int32} (hR : RT γ ε (some .int) (QI r hz)) : ∀ (n : Nat) (x4 : Int32) (x5 : Int32) (h : Hp), f_9_offNow_28 x1 x2 x3 n x4 x5 h = some (r, hz) → VW γ ε cX9_offNow RX9 8 dd 28 [(0, .ref (γ.2.2.1 114)), (1, .int x1), (2, .int x2), (3, .int x3), (4, .int x4), (5, .int x5)] [] h := by
  intro n
  induction n with
  | zero =>
    intro x4 x5 h hr
    exact nf hr
  | succ n ih =>
    intro x4 x5 h hr
    rw [f_9_offNow_28] at hr
    refine VW.iload d9_offNow_28 5 rfl ?_
    refine VW.aload_n d9_offNow_30 0 rfl ?_
    refine VW.getI (k := 11) d9_offNow_31 (oo_9 o9_114) rfl fl_9_151 ck9 ?_
    refine VW.icmp_ge 145 d9_offNow_34 (by decide) (fun c7 => ?_) (fun c7 => ?_)
    · replace hr := ip hr c7
      refine VW.iload d9_offNow_145 4 rfl ?_
      refine VW.aload_n d9_offNow_147 0 rfl ?_
      refine VW.iload_n d9_offNow_148 1 rfl ?_
      refine VW.aload_n d9_offNow_149 0 rfl ?_
      refine VW.getI (k := 13) d9_offNow_150 (oo_9 o9_114) rfl fl_9_148 ck9 ?_
      refine VW.iload_n d9_offNow_153 3 rfl ?_
      refine VW.icmp_ge 166 d9_offNow_154 (by decide) (fun c8 => ?_) (fun c8 => ?_)
      · replace hr := ip hr c8
        refine VW.aload_n d9_offNow_166 0 rfl ?_
        refine VW.getI (k := 13) d9_offNow_167 (oo_9 o9_114) rfl fl_9_148 ck9 ?_
        refine VW.iload_n d9_offNow_170 3 rfl ?_
        refine VW.isub d9_offNow_171 ?_
        obtain ⟨r10, e9, hr⟩ := bno hr
        refine VW.callV (As := [.int x1, .int ((h 114 13) - x3)]) (st := [.int x4]) d9_offNow_172 mi_9_endsOf cv_9_157 (oo_9 o9_114) ⟨rfl, rfl⟩ (by decide) (dl1 hd) _ rfl (Nat.le_of_ble_eq_true rfl) rfl (c_9_endsOf (dl hd rfl) e9) (kI ?_)
        refine VW.iadd d9_offNow_175 ?_
        exact VW.iret d9_offNow_176 hR (rIw hr)
      · replace hr := im hr c8
        refine VW.iload_n d9_offNow_157 3 rfl ?_
        refine VW.aload_n d9_offNow_158 0 rfl ?_
        refine VW.getI (k := 13) d9_offNow_159 (oo_9 o9_114) rfl fl_9_148 ck9 ?_
        refine VW.isub d9_offNow_162 ?_
        refine VW.goto 172 d9_offNow_163 (by decide) ?_
        obtain ⟨r12, e11, hr⟩ := bno hr
        refine VW.callV (As := [.int x1, .int (x3 - (h 114 13))]) (st := [.int x4]) d9_offNow_172 mi_9_endsOf cv_9_157 (oo_9 o9_114) ⟨rfl, rfl⟩ (by decide) (dl1 hd) _ rfl (Nat.le_of_ble_eq_true rfl) rfl (c_9_endsOf (dl hd rfl) e11) (kI ?_)
        refine VW.iadd d9_offNow_175 ?_
        exact VW.iret d9_offNow_176 hR (rIw hr)
    · replace hr := im hr c7
      refine VW.iconst (v := 0) d9_offNow_37 ic_0 ?_
      refine VW.istore (lo' := [(6, .int 0), (0, .ref (γ.2.2.1 114)), (1, .int x1), (2, .int x2), (3, .int x3), (4, .int x4), (5, .int x5)]) d9_offNow_38 (by decide) rfl ?_
      exact VW.sub [1, 2, 3, 4, 5, 6, 0] rfl (s_9_offNow_40 hd ih hR FU x4 0 h hr)
set_option maxRecDepth 100000 in
set_option maxHeartbeats 4000000 in
theorem c_9_offNow {γ : Gm} {dd : Nat} {x1 : Int32} {h : Hp} {r : Int32} {hz : Hp} (hd : 69 ≤ dd) (hr : f_9_offNow x1 h = some (r, hz)) : MC γ dd yX9_offNow cX9_offNow 8 (some .int) [.ref (γ.2.2.1 114), .int x1] h (QI r hz) := by
  unfold f_9_offNow at hr
  refine MC.of mi_9_offNow (Nat.le_of_ble_eq_true rfl) (fun ε hR => ?_)
  show VW γ ε cX9_offNow RX9 8 dd 0 [(0, .ref (γ.2.2.1 114)), (1, .int x1)] [] h
  refine VW.bipush (v := 24) d9_offNow_0 bp_24 ?_
  refine VW.aload_n d9_offNow_2 0 rfl ?_
  refine VW.iload_n d9_offNow_3 1 rfl ?_
  refine VW.iconst (v := 2) d9_offNow_4 ic_2 ?_
  obtain ⟨r2, e1, hr⟩ := bno hr
  refine VW.callV (As := [.int x1, .int 2]) (st := [.int 24]) d9_offNow_5 mi_9_of cv_9_145 (oo_9 o9_114) ⟨rfl, rfl⟩ (by decide) (dl1 hd) _ rfl (Nat.le_of_ble_eq_true rfl) rfl (c_9_of (dl hd rfl) e1) (kI ?_)
  refine VW.iadd d9_offNow_8 ?_
  refine VW.istore_n (lo' := [(2, .int (24 + r2)), (0, .ref (γ.2.2.1 114)), (1, .int x1)]) d9_offNow_9 (by decide) rfl ?_
  refine VW.aload_n d9_offNow_10 1 rfl ?_
  refine VW.iload_n d9_offNow_11 2 rfl ?_
  refine VW.iconst (v := 3) d9_offNow_12 ic_3 ?_
  obtain ⟨r4, e3, hr⟩ := bno hr
  refine VW.callV (As := [.int x1, .int 3]) (st := []) d9_offNow_13 mi_9_of cv_9_145 (oo_9 o9_114) ⟨rfl, rfl⟩ (by decide) (dl1 hd) _ rfl (Nat.le_of_ble_eq_true rfl) rfl (c_9_of (dl hd rfl) e3) (kI ?_)
  refine VW.istore_n (lo' := [(3, .int r4), (2, .int (24 + r2)), (0, .ref (γ.2.2.1 114)), (1, .int x1)]) d9_offNow_16 (by decide) rfl ?_
  refine VW.iconst (v := 0) d9_offNow_17 ic_0 ?_
  refine VW.istore (lo' := [(4, .int 0), (3, .int r4), (2, .int (24 + r2)), (0, .ref (γ.2.2.1 114)), (1, .int x1)]) d9_offNow_18 (by decide) rfl ?_
  refine VW.aload_n d9_offNow_20 3 rfl ?_
  refine VW.iconst (v := 0) d9_offNow_21 ic_0 ?_
  obtain ⟨h5, e6, hr⟩ := hlt hr
  refine VW.putI (k := 13) d9_offNow_22 (oo_9 o9_114) rfl fl_9_148 ck9 rfl rfl rfl rfl ?_
  refine VW.heq e6 ?_
  refine VW.iconst (v := 0) d9_offNow_25 ic_0 ?_
  refine VW.istore (lo' := [(5, .int 0), (4, .int 0), (3, .int r4), (2, .int (24 + r2)), (0, .ref (γ.2.2.1 114)), (1, .int x1)]) d9_offNow_26 (by decide) rfl ?_
  exact VW.sub [4, 5, 3, 2, 1, 0] rfl (s_9_offNow_28 hd hR FU 0 0 h5 hr)
set_option maxRecDepth 100000 in
set_option maxHeartbeats 4000000 in
theorem s_9_isHeard_57 {γ : Gm} {ε : En} {dd : Nat} (hd : 70 ≤ dd) {r : Int32} {hz : Hp} {K45 : Int32 → Int32 → Int32 → Hp → Option (Int32 × Hp)} {x5 : Int32} (HK45 : ∀ (x3 : Int32) (x4 : Int32) (x5 : Int32) (h : Hp), K45 x3 x4 x5 h = some (r, hz) → VW γ ε cX9_isHeard RX9 7 dd 45 [(0, .ref (γ.2.2.1 114)), (3, .int x3), (4, .int x4), (5, .int x5)] [] h) (hR : RT γ ε (some .boolean) (QI r hz)) : ∀ (n : Nat) (x3 : Int32) (x4 : Int32) (x6 : Int32) (h : Hp), f_9_isHeard_57 K45 x5 n x3 x4 x6 h = some (r, hz) → VW γ ε cX9_isHeard RX9 7 dd 57 [(0, .ref (γ.2.2.1 114)), (3, .int x3), (4, .int x4), (5, .int x5), (6, .int x6)] [] h := by
  intro n
  induction n with
  | zero =>
    intro x3 x4 x6 h hr
    exact nf hr
  | succ n ih =>
    intro x3 x4 x6 h hr
    rw [f_9_isHeard_57] at hr
    refine VW.iload d9_isHeard_57 4 rfl ?_
    refine VW.aload_n d9_isHeard_59 0 rfl ?_
    refine VW.aload_n d9_isHeard_60 0 rfl ?_
    refine VW.getR (k := 12) (r := 119) d9_isHeard_61 (oo_9 o9_114) rfl fl_9_22 ck9 ?_
    refine VW.iload d9_isHeard_64 3 rfl ?_
    obtain ⟨g12, hr⟩ := gdt hr
    refine VW.iald (j := (ci x5)) d9_isHeard_66 (rf_9_12 o9_114) g12 rfl ?_
    refine VW.iconst (v := 0) d9_isHeard_67 ic_0 ?_
    obtain ⟨r14, e13, hr⟩ := bno hr
    refine VW.callV (As := [.int (h 119 (ci x5)), .int 0]) (st := [.int x6]) d9_isHeard_68 mi_9_its cv_9_141 (oo_9 o9_114) ⟨rfl, rfl⟩ (by decide) (dl1 hd) _ rfl (Nat.le_of_ble_eq_true rfl) rfl (c_9_its (dl hd rfl) e13) (kI ?_)
    refine VW.icmp_ge 129 d9_isHeard_71 (by decide) (fun c15 => ?_) (fun c15 => ?_)
    · replace hr := ip hr c15
      refine VW.iinc (w := 1) (lo' := [(5, .int (x5 + 1)), (0, .ref (γ.2.2.1 114)), (3, .int x3), (4, .int x4), (6, .int x6)]) d9_isHeard_129 3 rfl ic_1 (by decide) rfl ?_
      refine VW.goto 45 d9_isHeard_132 (by decide) ?_
      exact VW.sub [1, 2, 3, 0] rfl (HK45 x3 x4 (x5 + 1) h hr)
    · replace hr := im hr c15
      refine VW.iload d9_isHeard_74 2 rfl ?_
      refine VW.if_eq 117 d9_isHeard_76 (by decide) (fun c16 => ?_) (fun c16 => ?_)
      · replace hr := ip hr c16
        refine VW.iconst (v := 0) d9_isHeard_117 ic_0 ?_
        refine VW.istore (lo' := [(4, .int 0), (0, .ref (γ.2.2.1 114)), (3, .int x3), (5, .int x5), (6, .int x6)]) d9_isHeard_118 (by decide) rfl ?_
        refine VW.iinc (w := 1) (lo' := [(3, .int (x3 + 1)), (4, .int 0), (0, .ref (γ.2.2.1 114)), (5, .int x5), (6, .int x6)]) d9_isHeard_120 2 rfl ic_1 (by decide) rfl ?_
        refine VW.iinc (w := 1) (lo' := [(6, .int (x6 + 1)), (3, .int (x3 + 1)), (4, .int 0), (0, .ref (γ.2.2.1 114)), (5, .int x5)]) d9_isHeard_123 4 rfl ic_1 (by decide) rfl ?_
        refine VW.goto 57 d9_isHeard_126 (by decide) ?_
        exact VW.sub [3, 1, 2, 4, 0] rfl (ih (x3 + 1) 0 (x6 + 1) h hr)
      · replace hr := im hr c16
        refine VW.aload_n d9_isHeard_79 0 rfl ?_
        refine VW.getR (k := 0) (r := 115) d9_isHeard_80 (oo_9 o9_114) rfl fl_9_7 ck9 ?_
        refine VW.iload_n d9_isHeard_83 1 rfl ?_
        obtain ⟨g17, hr⟩ := gdt hr
        refine VW.iald (j := (ci x3)) d9_isHeard_84 (rf_9_0 o9_114) g17 rfl ?_
        refine VW.iconst (v := 3) d9_isHeard_85 ic_3 ?_
        refine VW.icmp_eq 113 d9_isHeard_86 (by decide) (fun c18 => ?_) (fun c18 => ?_)
        · replace hr := ip hr c18
          refine VW.iconst (v := 1) d9_isHeard_113 ic_1 ?_
          refine VW.goto 118 d9_isHeard_114 (by decide) ?_
          refine VW.istore (lo' := [(4, .int 1), (0, .ref (γ.2.2.1 114)), (3, .int x3), (5, .int x5), (6, .int x6)]) d9_isHeard_118 (by decide) rfl ?_
          refine VW.iinc (w := 1) (lo' := [(3, .int (x3 + 1)), (4, .int 1), (0, .ref (γ.2.2.1 114)), (5, .int x5), (6, .int x6)]) d9_isHeard_120 2 rfl ic_1 (by decide) rfl ?_
          refine VW.iinc (w := 1) (lo' := [(6, .int (x6 + 1)), (3, .int (x3 + 1)), (4, .int 1), (0, .ref (γ.2.2.1 114)), (5, .int x5)]) d9_isHeard_123 4 rfl ic_1 (by decide) rfl ?_
          refine VW.goto 57 d9_isHeard_126 (by decide) ?_
          exact VW.sub [3, 1, 2, 4, 0] rfl (ih (x3 + 1) 1 (x6 + 1) h hr)
        · replace hr := im hr c18
          refine VW.aload_n d9_isHeard_89 0 rfl ?_
          refine VW.getR (k := 0) (r := 115) d9_isHeard_90 (oo_9 o9_114) rfl fl_9_7 ck9 ?_
          refine VW.iload_n d9_isHeard_93 1 rfl ?_
          obtain ⟨g19, hr⟩ := gdt hr
          refine VW.iald (j := (ci x3)) d9_isHeard_94 (rf_9_0 o9_114) g19 rfl ?_
          refine VW.aload_n d9_isHeard_95 0 rfl ?_
          refine VW.aload_n d9_isHeard_96 0 rfl ?_
          refine VW.getR (k := 12) (r := 119) d9_isHeard_97 (oo_9 o9_114) rfl fl_9_22 ck9 ?_
          refine VW.iload d9_isHeard_100 3 rfl ?_
          obtain ⟨g20, hr⟩ := gdt hr
          refine VW.iald (j := (ci x5)) d9_isHeard_102 (rf_9_12 o9_114) g20 rfl ?_
          refine VW.iconst (v := 2) d9_isHeard_103 ic_2 ?_
          refine VW.iload d9_isHeard_104 4 rfl ?_
          refine VW.iadd d9_isHeard_106 ?_
          obtain ⟨r22, e21, hr⟩ := bno hr
          refine VW.callV (As := [.int (h 119 (ci x5)), .int (2 + x6)]) (st := [.int (h 115 (ci x3))]) d9_isHeard_107 mi_9_its cv_9_141 (oo_9 o9_114) ⟨rfl, rfl⟩ (by decide) (dl1 hd) _ rfl (Nat.le_of_ble_eq_true rfl) rfl (c_9_its (dl hd rfl) e21) (kI ?_)
          refine VW.icmp_ne 117 d9_isHeard_110 (by decide) (fun c23 => ?_) (fun c23 => ?_)
          · replace hr := ip hr c23
            refine VW.iconst (v := 1) d9_isHeard_113 ic_1 ?_
            refine VW.goto 118 d9_isHeard_114 (by decide) ?_
            refine VW.istore (lo' := [(4, .int 1), (0, .ref (γ.2.2.1 114)), (3, .int x3), (5, .int x5), (6, .int x6)]) d9_isHeard_118 (by decide) rfl ?_
            refine VW.iinc (w := 1) (lo' := [(3, .int (x3 + 1)), (4, .int 1), (0, .ref (γ.2.2.1 114)), (5, .int x5), (6, .int x6)]) d9_isHeard_120 2 rfl ic_1 (by decide) rfl ?_
            refine VW.iinc (w := 1) (lo' := [(6, .int (x6 + 1)), (3, .int (x3 + 1)), (4, .int 1), (0, .ref (γ.2.2.1 114)), (5, .int x5)]) d9_isHeard_123 4 rfl ic_1 (by decide) rfl ?_
            refine VW.goto 57 d9_isHeard_126 (by decide) ?_
            exact VW.sub [3, 1, 2, 4, 0] rfl (ih (x3 + 1) 1 (x6 + 1) h hr)
          · replace hr := im hr c23
            refine VW.iconst (v := 0) d9_isHeard_117 ic_0 ?_
            refine VW.istore (lo' := [(4, .int 0), (0, .ref (γ.2.2.1 114)), (3, .int x3), (5, .int x5), (6, .int x6)]) d9_isHeard_118 (by decide) rfl ?_
            refine VW.iinc (w := 1) (lo' := [(3, .int (x3 + 1)), (4, .int 0), (0, .ref (γ.2.2.1 114)), (5, .int x5), (6, .int x6)]) d9_isHeard_120 2 rfl ic_1 (by decide) rfl ?_
            refine VW.iinc (w := 1) (lo' := [(6, .int (x6 + 1)), (3, .int (x3 + 1)), (4, .int 0), (0, .ref (γ.2.2.1 114)), (5, .int x5)]) d9_isHeard_123 4 rfl ic_1 (by decide) rfl ?_
            refine VW.goto 57 d9_isHeard_126 (by decide) ?_
            exact VW.sub [3, 1, 2, 4, 0] rfl (ih (x3 + 1) 0 (x6 + 1) h hr)
set_option maxRecDepth 100000 in
set_option maxHeartbeats 4000000 in
theorem s_9_isHeard_45 {γ : Gm} {ε : En} {dd : Nat} (hd : 70 ≤ dd) {r : Int32} {hz : Hp} (hR : RT γ ε (some .boolean) (QI r hz)) : ∀ (n : Nat) (x3 : Int32) (x4 : Int32) (x5 : Int32) (h : Hp), f_9_isHeard_45 n x3 x4 x5 h = some (r, hz) → VW γ ε cX9_isHeard RX9 7 dd 45 [(0, .ref (γ.2.2.1 114)), (3, .int x3), (4, .int x4), (5, .int x5)] [] h := by
  intro n
  induction n with
  | zero =>
    intro x3 x4 x5 h hr
    exact nf hr
  | succ n ih =>
    intro x3 x4 x5 h hr
    rw [f_9_isHeard_45] at hr
    refine VW.iload d9_isHeard_45 3 rfl ?_
    refine VW.aload_n d9_isHeard_47 0 rfl ?_
    refine VW.getI (k := 11) d9_isHeard_48 (oo_9 o9_114) rfl fl_9_151 ck9 ?_
    refine VW.icmp_ge 135 d9_isHeard_51 (by decide) (fun c10 => ?_) (fun c10 => ?_)
    · replace hr := ip hr c10
      refine VW.iload d9_isHeard_135 2 rfl ?_
      obtain ⟨g11, hr⟩ := gdt hr
      exact VW.zret d9_isHeard_137 hR (nzb g11) (rIw hr)
    · replace hr := im hr c10
      refine VW.iconst (v := 0) d9_isHeard_54 ic_0 ?_
      refine VW.istore (lo' := [(6, .int 0), (0, .ref (γ.2.2.1 114)), (3, .int x3), (4, .int x4), (5, .int x5)]) d9_isHeard_55 (by decide) rfl ?_
      exact VW.sub [1, 2, 3, 4, 0] rfl (s_9_isHeard_57 hd ih hR FU x3 x4 0 h hr)
set_option maxRecDepth 100000 in
set_option maxHeartbeats 4000000 in
theorem c_9_isHeard {γ : Gm} {dd : Nat} {x1 : Int32} {h : Hp} {r : Int32} {hz : Hp} (hd : 70 ≤ dd) (hr : f_9_isHeard x1 h = some (r, hz)) : MC γ dd yX9_isHeard cX9_isHeard 7 (some .boolean) [.ref (γ.2.2.1 114), .int x1] h (QI r hz) := by
  unfold f_9_isHeard at hr
  refine MC.of mi_9_isHeard (Nat.le_of_ble_eq_true rfl) (fun ε hR => ?_)
  show VW γ ε cX9_isHeard RX9 7 dd 0 [(0, .ref (γ.2.2.1 114)), (1, .int x1)] [] h
  refine VW.aload_n d9_isHeard_0 0 rfl ?_
  refine VW.iload_n d9_isHeard_1 1 rfl ?_
  obtain ⟨r2, h3, e1, hr⟩ := bno2 hr
  refine VW.callV (As := [.int x1]) (st := []) d9_isHeard_2 mi_9_offNow cv_9_164 (oo_9 o9_114) ⟨rfl, rfl⟩ (by decide) (dl1 hd) _ rfl (Nat.le_of_ble_eq_true rfl) rfl (c_9_offNow (dl hd rfl) e1) (kI ?_)
  refine VW.istore_n (lo' := [(2, .int r2), (0, .ref (γ.2.2.1 114)), (1, .int x1)]) d9_isHeard_5 (by decide) rfl ?_
  refine VW.aload_n d9_isHeard_6 1 rfl ?_
  refine VW.getI (k := 13) d9_isHeard_7 (oo_9 o9_114) rfl fl_9_148 ck9 ?_
  refine VW.aload_n d9_isHeard_10 1 rfl ?_
  refine VW.iload_n d9_isHeard_11 2 rfl ?_
  refine VW.iconst (v := 3) d9_isHeard_12 ic_3 ?_
  obtain ⟨r5, e4, hr⟩ := bno hr
  refine VW.callV (As := [.int x1, .int 3]) (st := [.int (h3 114 13)]) d9_isHeard_13 mi_9_of cv_9_145 (oo_9 o9_114) ⟨rfl, rfl⟩ (by decide) (dl1 hd) _ rfl (Nat.le_of_ble_eq_true rfl) rfl (c_9_of (dl hd rfl) e4) (kI ?_)
  refine VW.icmp_eq 21 d9_isHeard_16 (by decide) (fun c6 => ?_) (fun c6 => ?_)
  · replace hr := ip hr c6
    refine VW.bipush (v := 24) d9_isHeard_21 bp_24 ?_
    refine VW.aload_n d9_isHeard_23 1 rfl ?_
    refine VW.iload_n d9_isHeard_24 2 rfl ?_
    refine VW.iconst (v := 2) d9_isHeard_25 ic_2 ?_
    obtain ⟨r8, e7, hr⟩ := bno hr
    refine VW.callV (As := [.int x1, .int 2]) (st := [.int 24]) d9_isHeard_26 mi_9_of cv_9_145 (oo_9 o9_114) ⟨rfl, rfl⟩ (by decide) (dl1 hd) _ rfl (Nat.le_of_ble_eq_true rfl) rfl (c_9_of (dl hd rfl) e7) (kI ?_)
    refine VW.iadd d9_isHeard_29 ?_
    refine VW.istore_n (lo' := [(3, .int (24 + r8)), (2, .int r2), (0, .ref (γ.2.2.1 114)), (1, .int x1)]) d9_isHeard_30 (by decide) rfl ?_
    refine VW.iload_n d9_isHeard_31 1 rfl ?_
    refine VW.if_lt 39 d9_isHeard_32 (by decide) (fun c9 => ?_) (fun c9 => ?_)
    · replace hr := ip hr c9
      refine VW.iconst (v := 0) d9_isHeard_39 ic_0 ?_
      refine VW.istore (lo' := [(4, .int 0), (3, .int (24 + r8)), (2, .int r2), (0, .ref (γ.2.2.1 114)), (1, .int x1)]) d9_isHeard_40 (by decide) rfl ?_
      refine VW.iconst (v := 0) d9_isHeard_42 ic_0 ?_
      refine VW.istore (lo' := [(5, .int 0), (4, .int 0), (3, .int (24 + r8)), (2, .int r2), (0, .ref (γ.2.2.1 114)), (1, .int x1)]) d9_isHeard_43 (by decide) rfl ?_
      exact VW.sub [4, 2, 1, 0] rfl (s_9_isHeard_45 hd hR FU (24 + r8) 0 0 h3 hr)
    · replace hr := im hr c9
      refine VW.iconst (v := 1) d9_isHeard_35 ic_1 ?_
      refine VW.goto 40 d9_isHeard_36 (by decide) ?_
      refine VW.istore (lo' := [(4, .int 1), (3, .int (24 + r8)), (2, .int r2), (0, .ref (γ.2.2.1 114)), (1, .int x1)]) d9_isHeard_40 (by decide) rfl ?_
      refine VW.iconst (v := 0) d9_isHeard_42 ic_0 ?_
      refine VW.istore (lo' := [(5, .int 0), (4, .int 1), (3, .int (24 + r8)), (2, .int r2), (0, .ref (γ.2.2.1 114)), (1, .int x1)]) d9_isHeard_43 (by decide) rfl ?_
      exact VW.sub [4, 2, 1, 0] rfl (s_9_isHeard_45 hd hR FU (24 + r8) 1 0 h3 hr)
  · replace hr := im hr c6
    refine VW.iconst (v := 0) d9_isHeard_19 ic_0 ?_
    exact VW.zret d9_isHeard_20 hR rfl (rIw hr)
set_option maxRecDepth 100000 in
set_option maxHeartbeats 4000000 in
theorem s_9_lossNow_4 {γ : Gm} {ε : En} {dd : Nat} (hd : 1 ≤ dd) {r : Int32} {x1 : Int32} {h : Hp} (hR : RT γ ε (some .int) (QI r h)) : ∀ (n : Nat) (x2 : Int32) (x3 : Int32), f_9_lossNow_4 x1 h n x2 x3 = some r → VW γ ε cX9_lossNow RX9 4 dd 4 [(0, .ref (γ.2.2.1 114)), (1, .int x1), (2, .int x2), (3, .int x3)] [] h := by
  intro n
  induction n with
  | zero =>
    intro x2 x3 hr
    exact nf hr
  | succ n ih =>
    intro x2 x3 hr
    rw [f_9_lossNow_4] at hr
    refine VW.iload_n d9_lossNow_4 3 rfl ?_
    refine VW.aload_n d9_lossNow_5 0 rfl ?_
    refine VW.getI (k := 11) d9_lossNow_6 (oo_9 o9_114) rfl fl_9_151 ck9 ?_
    refine VW.icmp_ge 32 d9_lossNow_9 (by decide) (fun c1 => ?_) (fun c1 => ?_)
    · replace hr := ip hr c1
      refine VW.iload_n d9_lossNow_32 2 rfl ?_
      refine VW.aload_n d9_lossNow_33 0 rfl ?_
      refine VW.iload_n d9_lossNow_34 1 rfl ?_
      refine VW.iconst (v := 4) d9_lossNow_35 ic_4 ?_
      obtain ⟨r3, e2, hr⟩ := bno hr
      refine VW.callV (As := [.int x1, .int 4]) (st := [.int x2]) d9_lossNow_36 mi_9_of cv_9_145 (oo_9 o9_114) ⟨rfl, rfl⟩ (by decide) (dl1 hd) _ rfl (Nat.le_of_ble_eq_true rfl) rfl (c_9_of (dl hd rfl) e2) (kI ?_)
      refine VW.icmp_ge 53 d9_lossNow_39 (by decide) (fun c4 => ?_) (fun c4 => ?_)
      · replace hr := ip hr c4
        refine VW.iconst (v := 0) d9_lossNow_53 ic_0 ?_
        exact VW.iret d9_lossNow_54 hR (rIf hr)
      · replace hr := im hr c4
        refine VW.aload_n d9_lossNow_42 0 rfl ?_
        refine VW.iload_n d9_lossNow_43 1 rfl ?_
        refine VW.iconst (v := 4) d9_lossNow_44 ic_4 ?_
        obtain ⟨r6, e5, hr⟩ := bno hr
        refine VW.callV (As := [.int x1, .int 4]) (st := []) d9_lossNow_45 mi_9_of cv_9_145 (oo_9 o9_114) ⟨rfl, rfl⟩ (by decide) (dl1 hd) _ rfl (Nat.le_of_ble_eq_true rfl) rfl (c_9_of (dl hd rfl) e5) (kI ?_)
        refine VW.iload_n d9_lossNow_48 2 rfl ?_
        refine VW.isub d9_lossNow_49 ?_
        refine VW.goto 54 d9_lossNow_50 (by decide) ?_
        exact VW.iret d9_lossNow_54 hR (rIf hr)
    · replace hr := im hr c1
      refine VW.iload_n d9_lossNow_12 2 rfl ?_
      refine VW.aload_n d9_lossNow_13 0 rfl ?_
      refine VW.aload_n d9_lossNow_14 0 rfl ?_
      refine VW.getR (k := 12) (r := 119) d9_lossNow_15 (oo_9 o9_114) rfl fl_9_22 ck9 ?_
      refine VW.iload_n d9_lossNow_18 3 rfl ?_
      obtain ⟨g7, hr⟩ := gdt hr
      refine VW.iald (j := (ci x3)) d9_lossNow_19 (rf_9_12 o9_114) g7 rfl ?_
      refine VW.iconst (v := 1) d9_lossNow_20 ic_1 ?_
      obtain ⟨r9, e8, hr⟩ := bno hr
      refine VW.callV (As := [.int (h 119 (ci x3)), .int 1]) (st := [.int x2]) d9_lossNow_21 mi_9_its cv_9_141 (oo_9 o9_114) ⟨rfl, rfl⟩ (by decide) (dl1 hd) _ rfl (Nat.le_of_ble_eq_true rfl) rfl (c_9_its (dl hd rfl) e8) (kI ?_)
      refine VW.iadd d9_lossNow_24 ?_
      refine VW.istore_n (lo' := [(2, .int (x2 + r9)), (0, .ref (γ.2.2.1 114)), (1, .int x1), (3, .int x3)]) d9_lossNow_25 (by decide) rfl ?_
      refine VW.iinc (w := 1) (lo' := [(3, .int (x3 + 1)), (2, .int (x2 + r9)), (0, .ref (γ.2.2.1 114)), (1, .int x1)]) d9_lossNow_26 3 rfl ic_1 (by decide) rfl ?_
      refine VW.goto 4 d9_lossNow_29 (by decide) ?_
      exact VW.sub [2, 3, 1, 0] rfl (ih (x2 + r9) (x3 + 1) hr)
set_option maxRecDepth 100000 in
set_option maxHeartbeats 4000000 in
theorem c_9_lossNow {γ : Gm} {dd : Nat} {x1 : Int32} {h : Hp} {r : Int32} (hd : 1 ≤ dd) (hr : f_9_lossNow x1 h = some r) : MC γ dd yX9_lossNow cX9_lossNow 4 (some .int) [.ref (γ.2.2.1 114), .int x1] h (QI r h) := by
  unfold f_9_lossNow at hr
  refine MC.of mi_9_lossNow (Nat.le_of_ble_eq_true rfl) (fun ε hR => ?_)
  show VW γ ε cX9_lossNow RX9 4 dd 0 [(0, .ref (γ.2.2.1 114)), (1, .int x1)] [] h
  refine VW.iconst (v := 0) d9_lossNow_0 ic_0 ?_
  refine VW.istore_n (lo' := [(2, .int 0), (0, .ref (γ.2.2.1 114)), (1, .int x1)]) d9_lossNow_1 (by decide) rfl ?_
  refine VW.iconst (v := 0) d9_lossNow_2 ic_0 ?_
  refine VW.istore_n (lo' := [(3, .int 0), (2, .int 0), (0, .ref (γ.2.2.1 114)), (1, .int x1)]) d9_lossNow_3 (by decide) rfl ?_
  exact VW.sub [2, 3, 1, 0] rfl (s_9_lossNow_4 hd hR FU 0 0 hr)
