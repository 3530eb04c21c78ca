set_option maxRecDepth 100000 in
set_option maxHeartbeats 4000000 in
theorem c_9_seed {γ : Gm} {dd : Nat} {x1 : Int32} {h : Hp} {r : Int32} {hz : Hp} (hd : 0 ≤ dd) (hr : f_9_seed x1 h = some (r, hz)) : MC γ dd yX9_seed cX9_seed 3 (some .int) [.ref (γ.2.2.1 114), .int x1] h (QI r hz) := by
  unfold f_9_seed at hr
  refine MC.of mi_9_seed (Nat.le_of_ble_eq_true rfl) (fun ε hR => ?_)
  show VW γ ε cX9_seed RX9 3 dd 0 [(0, .ref (γ.2.2.1 114)), (1, .int x1)] [] h
  refine VW.aload_n d9_seed_0 0 rfl ?_
  refine VW.getR (k := 0) (r := 115) d9_seed_1 (oo_9 o9_114) rfl fl_9_7 ck9 ?_
  refine VW.iconst (v := 4) d9_seed_4 ic_4 ?_
  refine VW.iald (j := 4) d9_seed_5 (rf_9_0 o9_114) ib_4_380 il_4 ?_
  refine VW.istore_n (lo' := [(2, .int (h 115 4)), (0, .ref (γ.2.2.1 114)), (1, .int x1)]) d9_seed_6 (by decide) rfl ?_
  refine VW.aload_n d9_seed_7 1 rfl ?_
  refine VW.getR (k := 0) (r := 115) d9_seed_8 (oo_9 o9_114) rfl fl_9_7 ck9 ?_
  refine VW.iconst (v := 4) d9_seed_11 ic_4 ?_
  refine VW.iload_n d9_seed_12 2 rfl ?_
  obtain ⟨h1, e2, hr⟩ := hlt hr
  refine VW.iast (j := 4) d9_seed_13 (rf_9_0 o9_114) ib_4_380 il_4 ?_
  refine VW.heq e2 ?_
  refine VW.iload_n d9_seed_14 0 rfl ?_
  exact VW.iret d9_seed_15 hR (rIw hr)
set_option maxRecDepth 100000 in
set_option maxHeartbeats 4000000 in
theorem s_9_sheet_90 {γ : Gm} {ε : En} {dd : Nat} (hd : 2 ≤ dd) {r : Int32} {hz : Hp} {x1 : Int32} (hR : RT γ ε (some .int) (QI r hz)) : ∀ (n : Nat) (x4 : Int32) (h : Hp), f_9_sheet_90 x1 n x4 h = some (r, hz) → VW γ ε cX9_sheet RX9 5 dd 90 [(0, .ref (γ.2.2.1 114)), (1, .int x1), (4, .int x4)] [] h := by
  intro n
  induction n with
  | zero =>
    intro x4 h hr
    exact nf hr
  | succ n ih =>
    intro x4 h hr
    rw [f_9_sheet_90] at hr
    refine VW.iload d9_sheet_90 2 rfl ?_
    refine VW.bipush (v := 40) d9_sheet_92 bp_40 ?_
    refine VW.icmp_ge 116 d9_sheet_94 (by decide) (fun c15 => ?_) (fun c15 => ?_)
    · replace hr := ip hr c15
      refine VW.iconst (v := 1) d9_sheet_116 ic_1 ?_
      exact VW.iret d9_sheet_117 hR (rIw hr)
    · replace hr := im hr c15
      refine VW.aload_n d9_sheet_97 0 rfl ?_
      refine VW.getR (k := 23) (r := 124) d9_sheet_98 (oo_9 o9_114) rfl fl_9_37 ck9 ?_
      refine VW.bipush (v := 40) d9_sheet_101 bp_40 ?_
      refine VW.iload_n d9_sheet_103 1 rfl ?_
      refine VW.imul d9_sheet_104 ?_
      refine VW.iload d9_sheet_105 2 rfl ?_
      refine VW.iadd d9_sheet_107 ?_
      refine VW.iconst (v := 0) d9_sheet_108 ic_0 ?_
      obtain ⟨g16, hr⟩ := gdt hr
      obtain ⟨h17, e18, hr⟩ := hlt hr
      refine VW.iast (j := (ci ((40 * x1) + x4))) d9_sheet_109 (rf_9_23 o9_114) g16 rfl ?_
      refine VW.heq e18 ?_
      refine VW.iinc (w := 1) (lo' := [(4, .int (x4 + 1)), (0, .ref (γ.2.2.1 114)), (1, .int x1)]) d9_sheet_110 2 rfl ic_1 (by decide) rfl ?_
      refine VW.goto 90 d9_sheet_113 (by decide) ?_
      exact VW.sub [1, 2, 0] rfl (ih (x4 + 1) h17 hr)
set_option maxRecDepth 100000 in
set_option maxHeartbeats 4000000 in
theorem c_9_sheet {γ : Gm} {dd : Nat} {x1 : Int32} {x2 : Int32} {x3 : Int32} {h : Hp} {r : Int32} {hz : Hp} (hd : 2 ≤ dd) (hr : f_9_sheet x1 x2 x3 h = some (r, hz)) : MC γ dd yX9_sheet cX9_sheet 5 (some .int) [.ref (γ.2.2.1 114), .int x1, .int x2, .int x3] h (QI r hz) := by
  unfold f_9_sheet at hr
  refine MC.of mi_9_sheet (Nat.le_of_ble_eq_true rfl) (fun ε hR => ?_)
  show VW γ ε cX9_sheet RX9 5 dd 0 [(0, .ref (γ.2.2.1 114)), (1, .int x1), (2, .int x2), (3, .int x3)] [] h
  refine VW.iload_n d9_sheet_0 1 rfl ?_
  refine VW.callS (As := [.int x1]) (st := []) d9_sheet_1 mi_9_isSheet cs_9_269 (by decide) (dl1 hd) _ rfl (Nat.le_of_ble_eq_true rfl) rfl (c_9_isSheet (dl hd rfl) rfl) (kI ?_)
  refine VW.if_eq 29 d9_sheet_4 (by decide) (fun c1 => ?_) (fun c1 => ?_)
  · replace hr := ip hr c1
    refine VW.aload_n d9_sheet_29 0 rfl ?_
    refine VW.iconst (v := 1) d9_sheet_30 ic_1 ?_
    obtain ⟨r3, h4, e2, hr⟩ := bno2 hr
    refine VW.callV (As := [.int 1]) (st := []) d9_sheet_31 mi_9_finds cv_9_107 (oo_9 o9_114) ⟨rfl, rfl⟩ (by decide) (dl1 hd) _ rfl (Nat.le_of_ble_eq_true rfl) rfl (c_9_finds (dl hd rfl) e2) (kI ?_)
    exact VW.iret d9_sheet_34 hR (rIw hr)
  · replace hr := im hr c1
    refine VW.iload_n d9_sheet_7 2 rfl ?_
    refine VW.if_eq 35 d9_sheet_8 (by decide) (fun c5 => ?_) (fun c5 => ?_)
    · replace hr := ip hr c5
      refine VW.iload_n d9_sheet_35 2 rfl ?_
      refine VW.if_eq 49 d9_sheet_36 (by decide) (fun c6 => ?_) (fun c6 => ?_)
      · replace hr := ip hr c6
        refine VW.iload_n d9_sheet_49 2 rfl ?_
        refine VW.if_eq 65 d9_sheet_50 (by decide) (fun c7 => ?_) (fun c7 => ?_)
        · replace hr := ip hr c7
          refine VW.aload_n d9_sheet_65 0 rfl ?_
          refine VW.getR (k := 21) (r := 122) d9_sheet_66 (oo_9 o9_114) rfl fl_9_31 ck9 ?_
          refine VW.iload_n d9_sheet_69 1 rfl ?_
          refine VW.iload_n d9_sheet_70 2 rfl ?_
          obtain ⟨g8, hr⟩ := gdt hr
          obtain ⟨h9, e10, hr⟩ := hlt hr
          refine VW.iast (j := (ci x1)) d9_sheet_71 (rf_9_21 o9_114) g8 rfl ?_
          refine VW.heq e10 ?_
          refine VW.aload_n d9_sheet_72 0 rfl ?_
          refine VW.getR (k := 22) (r := 123) d9_sheet_73 (oo_9 o9_114) rfl fl_9_34 ck9 ?_
          refine VW.iload_n d9_sheet_76 1 rfl ?_
          refine VW.iload_n d9_sheet_77 2 rfl ?_
          refine VW.if_ne 85 d9_sheet_78 (by decide) (fun c11 => ?_) (fun c11 => ?_)
          · replace hr := ip hr c11
            refine VW.iconst (v := 0) d9_sheet_81 ic_0 ?_
            refine VW.goto 86 d9_sheet_82 (by decide) ?_
            obtain ⟨g12, hr⟩ := gdt hr
            obtain ⟨h13, e14, hr⟩ := hlt hr
            refine VW.iast (j := (ci x1)) d9_sheet_86 (rf_9_22 o9_114) g12 rfl ?_
            refine VW.heq e14 ?_
            refine VW.iconst (v := 0) d9_sheet_87 ic_0 ?_
            refine VW.istore (lo' := [(4, .int 0), (0, .ref (γ.2.2.1 114)), (1, .int x1), (2, .int x2), (3, .int x3)]) d9_sheet_88 (by decide) rfl ?_
            exact VW.sub [1, 2, 0] rfl (s_9_sheet_90 hd hR FU 0 h13 hr)
          · replace hr := im hr c11
            refine VW.iload_n d9_sheet_85 3 rfl ?_
            obtain ⟨g19, hr⟩ := gdt hr
            obtain ⟨h20, e21, hr⟩ := hlt hr
            refine VW.iast (j := (ci x1)) d9_sheet_86 (rf_9_22 o9_114) g19 rfl ?_
            refine VW.heq e21 ?_
            refine VW.iconst (v := 0) d9_sheet_87 ic_0 ?_
            refine VW.istore (lo' := [(4, .int 0), (0, .ref (γ.2.2.1 114)), (1, .int x1), (2, .int x2), (3, .int x3)]) d9_sheet_88 (by decide) rfl ?_
            exact VW.sub [1, 2, 0] rfl (s_9_sheet_90 hd hR FU 0 h20 hr)
        · replace hr := im hr c7
          refine VW.iload_n d9_sheet_53 3 rfl ?_
          refine VW.bipush (v := 40) d9_sheet_54 bp_40 ?_
          refine VW.icmp_le 65 d9_sheet_56 (by decide) (fun c22 => ?_) (fun c22 => ?_)
          · replace hr := ip hr c22
            refine VW.aload_n d9_sheet_65 0 rfl ?_
            refine VW.getR (k := 21) (r := 122) d9_sheet_66 (oo_9 o9_114) rfl fl_9_31 ck9 ?_
            refine VW.iload_n d9_sheet_69 1 rfl ?_
            refine VW.iload_n d9_sheet_70 2 rfl ?_
            obtain ⟨g23, hr⟩ := gdt hr
            obtain ⟨h24, e25, hr⟩ := hlt hr
            refine VW.iast (j := (ci x1)) d9_sheet_71 (rf_9_21 o9_114) g23 rfl ?_
            refine VW.heq e25 ?_
            refine VW.aload_n d9_sheet_72 0 rfl ?_
            refine VW.getR (k := 22) (r := 123) d9_sheet_73 (oo_9 o9_114) rfl fl_9_34 ck9 ?_
            refine VW.iload_n d9_sheet_76 1 rfl ?_
            refine VW.iload_n d9_sheet_77 2 rfl ?_
            refine VW.if_ne 85 d9_sheet_78 (by decide) (fun c26 => ?_) (fun c26 => ?_)
            · replace hr := ip hr c26
              refine VW.iconst (v := 0) d9_sheet_81 ic_0 ?_
              refine VW.goto 86 d9_sheet_82 (by decide) ?_
              obtain ⟨g27, hr⟩ := gdt hr
              obtain ⟨h28, e29, hr⟩ := hlt hr
              refine VW.iast (j := (ci x1)) d9_sheet_86 (rf_9_22 o9_114) g27 rfl ?_
              refine VW.heq e29 ?_
              refine VW.iconst (v := 0) d9_sheet_87 ic_0 ?_
              refine VW.istore (lo' := [(4, .int 0), (0, .ref (γ.2.2.1 114)), (1, .int x1), (2, .int x2), (3, .int x3)]) d9_sheet_88 (by decide) rfl ?_
              exact VW.sub [1, 2, 0] rfl (s_9_sheet_90 hd hR FU 0 h28 hr)
            · replace hr := im hr c26
              refine VW.iload_n d9_sheet_85 3 rfl ?_
              obtain ⟨g30, hr⟩ := gdt hr
              obtain ⟨h31, e32, hr⟩ := hlt hr
              refine VW.iast (j := (ci x1)) d9_sheet_86 (rf_9_22 o9_114) g30 rfl ?_
              refine VW.heq e32 ?_
              refine VW.iconst (v := 0) d9_sheet_87 ic_0 ?_
              refine VW.istore (lo' := [(4, .int 0), (0, .ref (γ.2.2.1 114)), (1, .int x1), (2, .int x2), (3, .int x3)]) d9_sheet_88 (by decide) rfl ?_
              exact VW.sub [1, 2, 0] rfl (s_9_sheet_90 hd hR FU 0 h31 hr)
          · replace hr := im hr c22
            refine VW.aload_n d9_sheet_59 0 rfl ?_
            refine VW.iconst (v := 1) d9_sheet_60 ic_1 ?_
            obtain ⟨r34, h35, e33, hr⟩ := bno2 hr
            refine VW.callV (As := [.int 1]) (st := []) d9_sheet_61 mi_9_finds cv_9_107 (oo_9 o9_114) ⟨rfl, rfl⟩ (by decide) (dl1 hd) _ rfl (Nat.le_of_ble_eq_true rfl) rfl (c_9_finds (dl hd rfl) e33) (kI ?_)
            exact VW.iret d9_sheet_64 hR (rIw hr)
      · replace hr := im hr c6
        refine VW.iload_n d9_sheet_39 3 rfl ?_
        refine VW.if_ge 49 d9_sheet_40 (by decide) (fun c36 => ?_) (fun c36 => ?_)
        · replace hr := ip hr c36
          refine VW.iload_n d9_sheet_49 2 rfl ?_
          refine VW.if_eq 65 d9_sheet_50 (by decide) (fun c37 => ?_) (fun c37 => ?_)
          · replace hr := ip hr c37
            refine VW.aload_n d9_sheet_65 0 rfl ?_
            refine VW.getR (k := 21) (r := 122) d9_sheet_66 (oo_9 o9_114) rfl fl_9_31 ck9 ?_
            refine VW.iload_n d9_sheet_69 1 rfl ?_
            refine VW.iload_n d9_sheet_70 2 rfl ?_
            obtain ⟨g38, hr⟩ := gdt hr
            obtain ⟨h39, e40, hr⟩ := hlt hr
            refine VW.iast (j := (ci x1)) d9_sheet_71 (rf_9_21 o9_114) g38 rfl ?_
            refine VW.heq e40 ?_
            refine VW.aload_n d9_sheet_72 0 rfl ?_
            refine VW.getR (k := 22) (r := 123) d9_sheet_73 (oo_9 o9_114) rfl fl_9_34 ck9 ?_
            refine VW.iload_n d9_sheet_76 1 rfl ?_
            refine VW.iload_n d9_sheet_77 2 rfl ?_
            refine VW.if_ne 85 d9_sheet_78 (by decide) (fun c41 => ?_) (fun c41 => ?_)
            · replace hr := ip hr c41
              refine VW.iconst (v := 0) d9_sheet_81 ic_0 ?_
              refine VW.goto 86 d9_sheet_82 (by decide) ?_
              obtain ⟨g42, hr⟩ := gdt hr
              obtain ⟨h43, e44, hr⟩ := hlt hr
              refine VW.iast (j := (ci x1)) d9_sheet_86 (rf_9_22 o9_114) g42 rfl ?_
              refine VW.heq e44 ?_
              refine VW.iconst (v := 0) d9_sheet_87 ic_0 ?_
              refine VW.istore (lo' := [(4, .int 0), (0, .ref (γ.2.2.1 114)), (1, .int x1), (2, .int x2), (3, .int x3)]) d9_sheet_88 (by decide) rfl ?_
              exact VW.sub [1, 2, 0] rfl (s_9_sheet_90 hd hR FU 0 h43 hr)
            · replace hr := im hr c41
              refine VW.iload_n d9_sheet_85 3 rfl ?_
              obtain ⟨g45, hr⟩ := gdt hr
              obtain ⟨h46, e47, hr⟩ := hlt hr
              refine VW.iast (j := (ci x1)) d9_sheet_86 (rf_9_22 o9_114) g45 rfl ?_
              refine VW.heq e47 ?_
              refine VW.iconst (v := 0) d9_sheet_87 ic_0 ?_
              refine VW.istore (lo' := [(4, .int 0), (0, .ref (γ.2.2.1 114)), (1, .int x1), (2, .int x2), (3, .int x3)]) d9_sheet_88 (by decide) rfl ?_
              exact VW.sub [1, 2, 0] rfl (s_9_sheet_90 hd hR FU 0 h46 hr)
          · replace hr := im hr c37
            refine VW.iload_n d9_sheet_53 3 rfl ?_
            refine VW.bipush (v := 40) d9_sheet_54 bp_40 ?_
            refine VW.icmp_le 65 d9_sheet_56 (by decide) (fun c48 => ?_) (fun c48 => ?_)
            · replace hr := ip hr c48
              refine VW.aload_n d9_sheet_65 0 rfl ?_
              refine VW.getR (k := 21) (r := 122) d9_sheet_66 (oo_9 o9_114) rfl fl_9_31 ck9 ?_
              refine VW.iload_n d9_sheet_69 1 rfl ?_
              refine VW.iload_n d9_sheet_70 2 rfl ?_
              obtain ⟨g49, hr⟩ := gdt hr
              obtain ⟨h50, e51, hr⟩ := hlt hr
              refine VW.iast (j := (ci x1)) d9_sheet_71 (rf_9_21 o9_114) g49 rfl ?_
              refine VW.heq e51 ?_
              refine VW.aload_n d9_sheet_72 0 rfl ?_
              refine VW.getR (k := 22) (r := 123) d9_sheet_73 (oo_9 o9_114) rfl fl_9_34 ck9 ?_
              refine VW.iload_n d9_sheet_76 1 rfl ?_
              refine VW.iload_n d9_sheet_77 2 rfl ?_
              refine VW.if_ne 85 d9_sheet_78 (by decide) (fun c52 => ?_) (fun c52 => ?_)
              · replace hr := ip hr c52
                refine VW.iconst (v := 0) d9_sheet_81 ic_0 ?_
                refine VW.goto 86 d9_sheet_82 (by decide) ?_
                obtain ⟨g53, hr⟩ := gdt hr
                obtain ⟨h54, e55, hr⟩ := hlt hr
                refine VW.iast (j := (ci x1)) d9_sheet_86 (rf_9_22 o9_114) g53 rfl ?_
                refine VW.heq e55 ?_
                refine VW.iconst (v := 0) d9_sheet_87 ic_0 ?_
                refine VW.istore (lo' := [(4, .int 0), (0, .ref (γ.2.2.1 114)), (1, .int x1), (2, .int x2), (3, .int x3)]) d9_sheet_88 (by decide) rfl ?_
                exact VW.sub [1, 2, 0] rfl (s_9_sheet_90 hd hR FU 0 h54 hr)
              · replace hr := im hr c52
                refine VW.iload_n d9_sheet_85 3 rfl ?_
                obtain ⟨g56, hr⟩ := gdt hr
                obtain ⟨h57, e58, hr⟩ := hlt hr
                refine VW.iast (j := (ci x1)) d9_sheet_86 (rf_9_22 o9_114) g56 rfl ?_
                refine VW.heq e58 ?_
                refine VW.iconst (v := 0) d9_sheet_87 ic_0 ?_
                refine VW.istore (lo' := [(4, .int 0), (0, .ref (γ.2.2.1 114)), (1, .int x1), (2, .int x2), (3, .int x3)]) d9_sheet_88 (by decide) rfl ?_
                exact VW.sub [1, 2, 0] rfl (s_9_sheet_90 hd hR FU 0 h57 hr)
            · replace hr := im hr c48
              refine VW.aload_n d9_sheet_59 0 rfl ?_
              refine VW.iconst (v := 1) d9_sheet_60 ic_1 ?_
              obtain ⟨r60, h61, e59, hr⟩ := bno2 hr
              refine VW.callV (As := [.int 1]) (st := []) d9_sheet_61 mi_9_finds cv_9_107 (oo_9 o9_114) ⟨rfl, rfl⟩ (by decide) (dl1 hd) _ rfl (Nat.le_of_ble_eq_true rfl) rfl (c_9_finds (dl hd rfl) e59) (kI ?_)
              exact VW.iret d9_sheet_64 hR (rIw hr)
        · replace hr := im hr c36
          refine VW.aload_n d9_sheet_43 0 rfl ?_
          refine VW.iconst (v := 3) d9_sheet_44 ic_3 ?_
          obtain ⟨r63, h64, e62, hr⟩ := bno2 hr
          refine VW.callV (As := [.int 3]) (st := []) d9_sheet_45 mi_9_finds cv_9_107 (oo_9 o9_114) ⟨rfl, rfl⟩ (by decide) (dl1 hd) _ rfl (Nat.le_of_ble_eq_true rfl) rfl (c_9_finds (dl hd rfl) e62) (kI ?_)
          exact VW.iret d9_sheet_48 hR (rIw hr)
    · replace hr := im hr c5
      refine VW.iload_n d9_sheet_11 2 rfl ?_
      refine VW.bipush (v := 8) d9_sheet_12 bp_8 ?_
      refine VW.icmp_eq 35 d9_sheet_14 (by decide) (fun c65 => ?_) (fun c65 => ?_)
      · replace hr := ip hr c65
        refine VW.iload_n d9_sheet_35 2 rfl ?_
        refine VW.if_eq 49 d9_sheet_36 (by decide) (fun c66 => ?_) (fun c66 => ?_)
        · replace hr := ip hr c66
          refine VW.iload_n d9_sheet_49 2 rfl ?_
          refine VW.if_eq 65 d9_sheet_50 (by decide) (fun c67 => ?_) (fun c67 => ?_)
          · replace hr := ip hr c67
            refine VW.aload_n d9_sheet_65 0 rfl ?_
            refine VW.getR (k := 21) (r := 122) d9_sheet_66 (oo_9 o9_114) rfl fl_9_31 ck9 ?_
            refine VW.iload_n d9_sheet_69 1 rfl ?_
            refine VW.iload_n d9_sheet_70 2 rfl ?_
            obtain ⟨g68, hr⟩ := gdt hr
            obtain ⟨h69, e70, hr⟩ := hlt hr
            refine VW.iast (j := (ci x1)) d9_sheet_71 (rf_9_21 o9_114) g68 rfl ?_
            refine VW.heq e70 ?_
            refine VW.aload_n d9_sheet_72 0 rfl ?_
            refine VW.getR (k := 22) (r := 123) d9_sheet_73 (oo_9 o9_114) rfl fl_9_34 ck9 ?_
            refine VW.iload_n d9_sheet_76 1 rfl ?_
            refine VW.iload_n d9_sheet_77 2 rfl ?_
            refine VW.if_ne 85 d9_sheet_78 (by decide) (fun c71 => ?_) (fun c71 => ?_)
            · replace hr := ip hr c71
              refine VW.iconst (v := 0) d9_sheet_81 ic_0 ?_
              refine VW.goto 86 d9_sheet_82 (by decide) ?_
              obtain ⟨g72, hr⟩ := gdt hr
              obtain ⟨h73, e74, hr⟩ := hlt hr
              refine VW.iast (j := (ci x1)) d9_sheet_86 (rf_9_22 o9_114) g72 rfl ?_
              refine VW.heq e74 ?_
              refine VW.iconst (v := 0) d9_sheet_87 ic_0 ?_
              refine VW.istore (lo' := [(4, .int 0), (0, .ref (γ.2.2.1 114)), (1, .int x1), (2, .int x2), (3, .int x3)]) d9_sheet_88 (by decide) rfl ?_
              exact VW.sub [1, 2, 0] rfl (s_9_sheet_90 hd hR FU 0 h73 hr)
            · replace hr := im hr c71
              refine VW.iload_n d9_sheet_85 3 rfl ?_
              obtain ⟨g75, hr⟩ := gdt hr
              obtain ⟨h76, e77, hr⟩ := hlt hr
              refine VW.iast (j := (ci x1)) d9_sheet_86 (rf_9_22 o9_114) g75 rfl ?_
              refine VW.heq e77 ?_
              refine VW.iconst (v := 0) d9_sheet_87 ic_0 ?_
              refine VW.istore (lo' := [(4, .int 0), (0, .ref (γ.2.2.1 114)), (1, .int x1), (2, .int x2), (3, .int x3)]) d9_sheet_88 (by decide) rfl ?_
              exact VW.sub [1, 2, 0] rfl (s_9_sheet_90 hd hR FU 0 h76 hr)
          · replace hr := im hr c67
            refine VW.iload_n d9_sheet_53 3 rfl ?_
            refine VW.bipush (v := 40) d9_sheet_54 bp_40 ?_
            refine VW.icmp_le 65 d9_sheet_56 (by decide) (fun c78 => ?_) (fun c78 => ?_)
            · replace hr := ip hr c78
              refine VW.aload_n d9_sheet_65 0 rfl ?_
              refine VW.getR (k := 21) (r := 122) d9_sheet_66 (oo_9 o9_114) rfl fl_9_31 ck9 ?_
              refine VW.iload_n d9_sheet_69 1 rfl ?_
              refine VW.iload_n d9_sheet_70 2 rfl ?_
              obtain ⟨g79, hr⟩ := gdt hr
              obtain ⟨h80, e81, hr⟩ := hlt hr
              refine VW.iast (j := (ci x1)) d9_sheet_71 (rf_9_21 o9_114) g79 rfl ?_
              refine VW.heq e81 ?_
              refine VW.aload_n d9_sheet_72 0 rfl ?_
              refine VW.getR (k := 22) (r := 123) d9_sheet_73 (oo_9 o9_114) rfl fl_9_34 ck9 ?_
              refine VW.iload_n d9_sheet_76 1 rfl ?_
              refine VW.iload_n d9_sheet_77 2 rfl ?_
              refine VW.if_ne 85 d9_sheet_78 (by decide) (fun c82 => ?_) (fun c82 => ?_)
              · replace hr := ip hr c82
                refine VW.iconst (v := 0) d9_sheet_81 ic_0 ?_
                refine VW.goto 86 d9_sheet_82 (by decide) ?_
                obtain ⟨g83, hr⟩ := gdt hr
                obtain ⟨h84, e85, hr⟩ := hlt hr
                refine VW.iast (j := (ci x1)) d9_sheet_86 (rf_9_22 o9_114) g83 rfl ?_
                refine VW.heq e85 ?_
                refine VW.iconst (v := 0) d9_sheet_87 ic_0 ?_
                refine VW.istore (lo' := [(4, .int 0), (0, .ref (γ.2.2.1 114)), (1, .int x1), (2, .int x2), (3, .int x3)]) d9_sheet_88 (by decide) rfl ?_
                exact VW.sub [1, 2, 0] rfl (s_9_sheet_90 hd hR FU 0 h84 hr)
              · replace hr := im hr c82
                refine VW.iload_n d9_sheet_85 3 rfl ?_
                obtain ⟨g86, hr⟩ := gdt hr
                obtain ⟨h87, e88, hr⟩ := hlt hr
                refine VW.iast (j := (ci x1)) d9_sheet_86 (rf_9_22 o9_114) g86 rfl ?_
                refine VW.heq e88 ?_
                refine VW.iconst (v := 0) d9_sheet_87 ic_0 ?_
                refine VW.istore (lo' := [(4, .int 0), (0, .ref (γ.2.2.1 114)), (1, .int x1), (2, .int x2), (3, .int x3)]) d9_sheet_88 (by decide) rfl ?_
                exact VW.sub [1, 2, 0] rfl (s_9_sheet_90 hd hR FU 0 h87 hr)
            · replace hr := im hr c78
              refine VW.aload_n d9_sheet_59 0 rfl ?_
              refine VW.iconst (v := 1) d9_sheet_60 ic_1 ?_
              obtain ⟨r90, h91, e89, hr⟩ := bno2 hr
              refine VW.callV (As := [.int 1]) (st := []) d9_sheet_61 mi_9_finds cv_9_107 (oo_9 o9_114) ⟨rfl, rfl⟩ (by decide) (dl1 hd) _ rfl (Nat.le_of_ble_eq_true rfl) rfl (c_9_finds (dl hd rfl) e89) (kI ?_)
              exact VW.iret d9_sheet_64 hR (rIw hr)
        · replace hr := im hr c66
          refine VW.iload_n d9_sheet_39 3 rfl ?_
          refine VW.if_ge 49 d9_sheet_40 (by decide) (fun c92 => ?_) (fun c92 => ?_)
          · replace hr := ip hr c92
            refine VW.iload_n d9_sheet_49 2 rfl ?_
            refine VW.if_eq 65 d9_sheet_50 (by decide) (fun c93 => ?_) (fun c93 => ?_)
            · replace hr := ip hr c93
              refine VW.aload_n d9_sheet_65 0 rfl ?_
              refine VW.getR (k := 21) (r := 122) d9_sheet_66 (oo_9 o9_114) rfl fl_9_31 ck9 ?_
              refine VW.iload_n d9_sheet_69 1 rfl ?_
              refine VW.iload_n d9_sheet_70 2 rfl ?_
              obtain ⟨g94, hr⟩ := gdt hr
              obtain ⟨h95, e96, hr⟩ := hlt hr
              refine VW.iast (j := (ci x1)) d9_sheet_71 (rf_9_21 o9_114) g94 rfl ?_
              refine VW.heq e96 ?_
              refine VW.aload_n d9_sheet_72 0 rfl ?_
              refine VW.getR (k := 22) (r := 123) d9_sheet_73 (oo_9 o9_114) rfl fl_9_34 ck9 ?_
              refine VW.iload_n d9_sheet_76 1 rfl ?_
              refine VW.iload_n d9_sheet_77 2 rfl ?_
              refine VW.if_ne 85 d9_sheet_78 (by decide) (fun c97 => ?_) (fun c97 => ?_)
              · replace hr := ip hr c97
                refine VW.iconst (v := 0) d9_sheet_81 ic_0 ?_
                refine VW.goto 86 d9_sheet_82 (by decide) ?_
                obtain ⟨g98, hr⟩ := gdt hr
                obtain ⟨h99, e100, hr⟩ := hlt hr
                refine VW.iast (j := (ci x1)) d9_sheet_86 (rf_9_22 o9_114) g98 rfl ?_
                refine VW.heq e100 ?_
                refine VW.iconst (v := 0) d9_sheet_87 ic_0 ?_
                refine VW.istore (lo' := [(4, .int 0), (0, .ref (γ.2.2.1 114)), (1, .int x1), (2, .int x2), (3, .int x3)]) d9_sheet_88 (by decide) rfl ?_
                exact VW.sub [1, 2, 0] rfl (s_9_sheet_90 hd hR FU 0 h99 hr)
              · replace hr := im hr c97
                refine VW.iload_n d9_sheet_85 3 rfl ?_
                obtain ⟨g101, hr⟩ := gdt hr
                obtain ⟨h102, e103, hr⟩ := hlt hr
                refine VW.iast (j := (ci x1)) d9_sheet_86 (rf_9_22 o9_114) g101 rfl ?_
                refine VW.heq e103 ?_
                refine VW.iconst (v := 0) d9_sheet_87 ic_0 ?_
                refine VW.istore (lo' := [(4, .int 0), (0, .ref (γ.2.2.1 114)), (1, .int x1), (2, .int x2), (3, .int x3)]) d9_sheet_88 (by decide) rfl ?_
                exact VW.sub [1, 2, 0] rfl (s_9_sheet_90 hd hR FU 0 h102 hr)
            · replace hr := im hr c93
              refine VW.iload_n d9_sheet_53 3 rfl ?_
              refine VW.bipush (v := 40) d9_sheet_54 bp_40 ?_
              refine VW.icmp_le 65 d9_sheet_56 (by decide) (fun c104 => ?_) (fun c104 => ?_)
              · replace hr := ip hr c104
                refine VW.aload_n d9_sheet_65 0 rfl ?_
                refine VW.getR (k := 21) (r := 122) d9_sheet_66 (oo_9 o9_114) rfl fl_9_31 ck9 ?_
                refine VW.iload_n d9_sheet_69 1 rfl ?_
                refine VW.iload_n d9_sheet_70 2 rfl ?_
                obtain ⟨g105, hr⟩ := gdt hr
                obtain ⟨h106, e107, hr⟩ := hlt hr
                refine VW.iast (j := (ci x1)) d9_sheet_71 (rf_9_21 o9_114) g105 rfl ?_
                refine VW.heq e107 ?_
                refine VW.aload_n d9_sheet_72 0 rfl ?_
                refine VW.getR (k := 22) (r := 123) d9_sheet_73 (oo_9 o9_114) rfl fl_9_34 ck9 ?_
                refine VW.iload_n d9_sheet_76 1 rfl ?_
                refine VW.iload_n d9_sheet_77 2 rfl ?_
                refine VW.if_ne 85 d9_sheet_78 (by decide) (fun c108 => ?_) (fun c108 => ?_)
                · replace hr := ip hr c108
                  refine VW.iconst (v := 0) d9_sheet_81 ic_0 ?_
                  refine VW.goto 86 d9_sheet_82 (by decide) ?_
                  obtain ⟨g109, hr⟩ := gdt hr
                  obtain ⟨h110, e111, hr⟩ := hlt hr
                  refine VW.iast (j := (ci x1)) d9_sheet_86 (rf_9_22 o9_114) g109 rfl ?_
                  refine VW.heq e111 ?_
                  refine VW.iconst (v := 0) d9_sheet_87 ic_0 ?_
                  refine VW.istore (lo' := [(4, .int 0), (0, .ref (γ.2.2.1 114)), (1, .int x1), (2, .int x2), (3, .int x3)]) d9_sheet_88 (by decide) rfl ?_
                  exact VW.sub [1, 2, 0] rfl (s_9_sheet_90 hd hR FU 0 h110 hr)
                · replace hr := im hr c108
                  refine VW.iload_n d9_sheet_85 3 rfl ?_
                  obtain ⟨g112, hr⟩ := gdt hr
                  obtain ⟨h113, e114, hr⟩ := hlt hr
                  refine VW.iast (j := (ci x1)) d9_sheet_86 (rf_9_22 o9_114) g112 rfl ?_
                  refine VW.heq e114 ?_
                  refine VW.iconst (v := 0) d9_sheet_87 ic_0 ?_
                  refine VW.istore (lo' := [(4, .int 0), (0, .ref (γ.2.2.1 114)), (1, .int x1), (2, .int x2), (3, .int x3)]) d9_sheet_88 (by decide) rfl ?_
                  exact VW.sub [1, 2, 0] rfl (s_9_sheet_90 hd hR FU 0 h113 hr)
              · replace hr := im hr c104
                refine VW.aload_n d9_sheet_59 0 rfl ?_
                refine VW.iconst (v := 1) d9_sheet_60 ic_1 ?_
                obtain ⟨r116, h117, e115, hr⟩ := bno2 hr
                refine VW.callV (As := [.int 1]) (st := []) d9_sheet_61 mi_9_finds cv_9_107 (oo_9 o9_114) ⟨rfl, rfl⟩ (by decide) (dl1 hd) _ rfl (Nat.le_of_ble_eq_true rfl) rfl (c_9_finds (dl hd rfl) e115) (kI ?_)
                exact VW.iret d9_sheet_64 hR (rIw hr)
          · replace hr := im hr c92
            refine VW.aload_n d9_sheet_43 0 rfl ?_
            refine VW.iconst (v := 3) d9_sheet_44 ic_3 ?_
            obtain ⟨r119, h120, e118, hr⟩ := bno2 hr
            refine VW.callV (As := [.int 3]) (st := []) d9_sheet_45 mi_9_finds cv_9_107 (oo_9 o9_114) ⟨rfl, rfl⟩ (by decide) (dl1 hd) _ rfl (Nat.le_of_ble_eq_true rfl) rfl (c_9_finds (dl hd rfl) e118) (kI ?_)
            exact VW.iret d9_sheet_48 hR (rIw hr)
      · replace hr := im hr c65
        refine VW.iload_n d9_sheet_17 2 rfl ?_
        refine VW.bipush (v := 16) d9_sheet_18 bp_16 ?_
        refine VW.icmp_eq 35 d9_sheet_20 (by decide) (fun c121 => ?_) (fun c121 => ?_)
        · replace hr := ip hr c121
          refine VW.iload_n d9_sheet_35 2 rfl ?_
          refine VW.if_eq 49 d9_sheet_36 (by decide) (fun c122 => ?_) (fun c122 => ?_)
          · replace hr := ip hr c122
            refine VW.iload_n d9_sheet_49 2 rfl ?_
            refine VW.if_eq 65 d9_sheet_50 (by decide) (fun c123 => ?_) (fun c123 => ?_)
            · replace hr := ip hr c123
              refine VW.aload_n d9_sheet_65 0 rfl ?_
              refine VW.getR (k := 21) (r := 122) d9_sheet_66 (oo_9 o9_114) rfl fl_9_31 ck9 ?_
              refine VW.iload_n d9_sheet_69 1 rfl ?_
              refine VW.iload_n d9_sheet_70 2 rfl ?_
              obtain ⟨g124, hr⟩ := gdt hr
              obtain ⟨h125, e126, hr⟩ := hlt hr
              refine VW.iast (j := (ci x1)) d9_sheet_71 (rf_9_21 o9_114) g124 rfl ?_
              refine VW.heq e126 ?_
              refine VW.aload_n d9_sheet_72 0 rfl ?_
              refine VW.getR (k := 22) (r := 123) d9_sheet_73 (oo_9 o9_114) rfl fl_9_34 ck9 ?_
              refine VW.iload_n d9_sheet_76 1 rfl ?_
              refine VW.iload_n d9_sheet_77 2 rfl ?_
              refine VW.if_ne 85 d9_sheet_78 (by decide) (fun c127 => ?_) (fun c127 => ?_)
              · replace hr := ip hr c127
                refine VW.iconst (v := 0) d9_sheet_81 ic_0 ?_
                refine VW.goto 86 d9_sheet_82 (by decide) ?_
                obtain ⟨g128, hr⟩ := gdt hr
                obtain ⟨h129, e130, hr⟩ := hlt hr
                refine VW.iast (j := (ci x1)) d9_sheet_86 (rf_9_22 o9_114) g128 rfl ?_
                refine VW.heq e130 ?_
                refine VW.iconst (v := 0) d9_sheet_87 ic_0 ?_
                refine VW.istore (lo' := [(4, .int 0), (0, .ref (γ.2.2.1 114)), (1, .int x1), (2, .int x2), (3, .int x3)]) d9_sheet_88 (by decide) rfl ?_
                exact VW.sub [1, 2, 0] rfl (s_9_sheet_90 hd hR FU 0 h129 hr)
              · replace hr := im hr c127
                refine VW.iload_n d9_sheet_85 3 rfl ?_
                obtain ⟨g131, hr⟩ := gdt hr
                obtain ⟨h132, e133, hr⟩ := hlt hr
                refine VW.iast (j := (ci x1)) d9_sheet_86 (rf_9_22 o9_114) g131 rfl ?_
                refine VW.heq e133 ?_
                refine VW.iconst (v := 0) d9_sheet_87 ic_0 ?_
                refine VW.istore (lo' := [(4, .int 0), (0, .ref (γ.2.2.1 114)), (1, .int x1), (2, .int x2), (3, .int x3)]) d9_sheet_88 (by decide) rfl ?_
                exact VW.sub [1, 2, 0] rfl (s_9_sheet_90 hd hR FU 0 h132 hr)
            · replace hr := im hr c123
              refine VW.iload_n d9_sheet_53 3 rfl ?_
              refine VW.bipush (v := 40) d9_sheet_54 bp_40 ?_
              refine VW.icmp_le 65 d9_sheet_56 (by decide) (fun c134 => ?_) (fun c134 => ?_)
              · replace hr := ip hr c134
                refine VW.aload_n d9_sheet_65 0 rfl ?_
                refine VW.getR (k := 21) (r := 122) d9_sheet_66 (oo_9 o9_114) rfl fl_9_31 ck9 ?_
                refine VW.iload_n d9_sheet_69 1 rfl ?_
                refine VW.iload_n d9_sheet_70 2 rfl ?_
                obtain ⟨g135, hr⟩ := gdt hr
                obtain ⟨h136, e137, hr⟩ := hlt hr
                refine VW.iast (j := (ci x1)) d9_sheet_71 (rf_9_21 o9_114) g135 rfl ?_
                refine VW.heq e137 ?_
                refine VW.aload_n d9_sheet_72 0 rfl ?_
                refine VW.getR (k := 22) (r := 123) d9_sheet_73 (oo_9 o9_114) rfl fl_9_34 ck9 ?_
                refine VW.iload_n d9_sheet_76 1 rfl ?_
                refine VW.iload_n d9_sheet_77 2 rfl ?_
                refine VW.if_ne 85 d9_sheet_78 (by decide) (fun c138 => ?_) (fun c138 => ?_)
                · replace hr := ip hr c138
                  refine VW.iconst (v := 0) d9_sheet_81 ic_0 ?_
                  refine VW.goto 86 d9_sheet_82 (by decide) ?_
                  obtain ⟨g139, hr⟩ := gdt hr
                  obtain ⟨h140, e141, hr⟩ := hlt hr
                  refine VW.iast (j := (ci x1)) d9_sheet_86 (rf_9_22 o9_114) g139 rfl ?_
                  refine VW.heq e141 ?_
                  refine VW.iconst (v := 0) d9_sheet_87 ic_0 ?_
                  refine VW.istore (lo' := [(4, .int 0), (0, .ref (γ.2.2.1 114)), (1, .int x1), (2, .int x2), (3, .int x3)]) d9_sheet_88 (by decide) rfl ?_
                  exact VW.sub [1, 2, 0] rfl (s_9_sheet_90 hd hR FU 0 h140 hr)
                · replace hr := im hr c138
                  refine VW.iload_n d9_sheet_85 3 rfl ?_
                  obtain ⟨g142, hr⟩ := gdt hr
                  obtain ⟨h143, e144, hr⟩ := hlt hr
                  refine VW.iast (j := (ci x1)) d9_sheet_86 (rf_9_22 o9_114) g142 rfl ?_
                  refine VW.heq e144 ?_
                  refine VW.iconst (v := 0) d9_sheet_87 ic_0 ?_
                  refine VW.istore (lo' := [(4, .int 0), (0, .ref (γ.2.2.1 114)), (1, .int x1), (2, .int x2), (3, .int x3)]) d9_sheet_88 (by decide) rfl ?_
                  exact VW.sub [1, 2, 0] rfl (s_9_sheet_90 hd hR FU 0 h143 hr)
              · replace hr := im hr c134
                refine VW.aload_n d9_sheet_59 0 rfl ?_
                refine VW.iconst (v := 1) d9_sheet_60 ic_1 ?_
                obtain ⟨r146, h147, e145, hr⟩ := bno2 hr
                refine VW.callV (As := [.int 1]) (st := []) d9_sheet_61 mi_9_finds cv_9_107 (oo_9 o9_114) ⟨rfl, rfl⟩ (by decide) (dl1 hd) _ rfl (Nat.le_of_ble_eq_true rfl) rfl (c_9_finds (dl hd rfl) e145) (kI ?_)
                exact VW.iret d9_sheet_64 hR (rIw hr)
          · replace hr := im hr c122
            refine VW.iload_n d9_sheet_39 3 rfl ?_
            refine VW.if_ge 49 d9_sheet_40 (by decide) (fun c148 => ?_) (fun c148 => ?_)
            · replace hr := ip hr c148
              refine VW.iload_n d9_sheet_49 2 rfl ?_
              refine VW.if_eq 65 d9_sheet_50 (by decide) (fun c149 => ?_) (fun c149 => ?_)
              · replace hr := ip hr c149
                refine VW.aload_n d9_sheet_65 0 rfl ?_
                refine VW.getR (k := 21) (r := 122) d9_sheet_66 (oo_9 o9_114) rfl fl_9_31 ck9 ?_
                refine VW.iload_n d9_sheet_69 1 rfl ?_
                refine VW.iload_n d9_sheet_70 2 rfl ?_
                obtain ⟨g150, hr⟩ := gdt hr
                obtain ⟨h151, e152, hr⟩ := hlt hr
                refine VW.iast (j := (ci x1)) d9_sheet_71 (rf_9_21 o9_114) g150 rfl ?_
                refine VW.heq e152 ?_
                refine VW.aload_n d9_sheet_72 0 rfl ?_
                refine VW.getR (k := 22) (r := 123) d9_sheet_73 (oo_9 o9_114) rfl fl_9_34 ck9 ?_
                refine VW.iload_n d9_sheet_76 1 rfl ?_
                refine VW.iload_n d9_sheet_77 2 rfl ?_
                refine VW.if_ne 85 d9_sheet_78 (by decide) (fun c153 => ?_) (fun c153 => ?_)
                · replace hr := ip hr c153
                  refine VW.iconst (v := 0) d9_sheet_81 ic_0 ?_
                  refine VW.goto 86 d9_sheet_82 (by decide) ?_
                  obtain ⟨g154, hr⟩ := gdt hr
                  obtain ⟨h155, e156, hr⟩ := hlt hr
                  refine VW.iast (j := (ci x1)) d9_sheet_86 (rf_9_22 o9_114) g154 rfl ?_
                  refine VW.heq e156 ?_
                  refine VW.iconst (v := 0) d9_sheet_87 ic_0 ?_
                  refine VW.istore (lo' := [(4, .int 0), (0, .ref (γ.2.2.1 114)), (1, .int x1), (2, .int x2), (3, .int x3)]) d9_sheet_88 (by decide) rfl ?_
                  exact VW.sub [1, 2, 0] rfl (s_9_sheet_90 hd hR FU 0 h155 hr)
                · replace hr := im hr c153
                  refine VW.iload_n d9_sheet_85 3 rfl ?_
                  obtain ⟨g157, hr⟩ := gdt hr
                  obtain ⟨h158, e159, hr⟩ := hlt hr
                  refine VW.iast (j := (ci x1)) d9_sheet_86 (rf_9_22 o9_114) g157 rfl ?_
                  refine VW.heq e159 ?_
                  refine VW.iconst (v := 0) d9_sheet_87 ic_0 ?_
                  refine VW.istore (lo' := [(4, .int 0), (0, .ref (γ.2.2.1 114)), (1, .int x1), (2, .int x2), (3, .int x3)]) d9_sheet_88 (by decide) rfl ?_
                  exact VW.sub [1, 2, 0] rfl (s_9_sheet_90 hd hR FU 0 h158 hr)
              · replace hr := im hr c149
                refine VW.iload_n d9_sheet_53 3 rfl ?_
                refine VW.bipush (v := 40) d9_sheet_54 bp_40 ?_
                refine VW.icmp_le 65 d9_sheet_56 (by decide) (fun c160 => ?_) (fun c160 => ?_)
                · replace hr := ip hr c160
                  refine VW.aload_n d9_sheet_65 0 rfl ?_
                  refine VW.getR (k := 21) (r := 122) d9_sheet_66 (oo_9 o9_114) rfl fl_9_31 ck9 ?_
                  refine VW.iload_n d9_sheet_69 1 rfl ?_
                  refine VW.iload_n d9_sheet_70 2 rfl ?_
                  obtain ⟨g161, hr⟩ := gdt hr
                  obtain ⟨h162, e163, hr⟩ := hlt hr
                  refine VW.iast (j := (ci x1)) d9_sheet_71 (rf_9_21 o9_114) g161 rfl ?_
                  refine VW.heq e163 ?_
                  refine VW.aload_n d9_sheet_72 0 rfl ?_
                  refine VW.getR (k := 22) (r := 123) d9_sheet_73 (oo_9 o9_114) rfl fl_9_34 ck9 ?_
                  refine VW.iload_n d9_sheet_76 1 rfl ?_
                  refine VW.iload_n d9_sheet_77 2 rfl ?_
                  refine VW.if_ne 85 d9_sheet_78 (by decide) (fun c164 => ?_) (fun c164 => ?_)
                  · replace hr := ip hr c164
                    refine VW.iconst (v := 0) d9_sheet_81 ic_0 ?_
                    refine VW.goto 86 d9_sheet_82 (by decide) ?_
                    obtain ⟨g165, hr⟩ := gdt hr
                    obtain ⟨h166, e167, hr⟩ := hlt hr
                    refine VW.iast (j := (ci x1)) d9_sheet_86 (rf_9_22 o9_114) g165 rfl ?_
                    refine VW.heq e167 ?_
                    refine VW.iconst (v := 0) d9_sheet_87 ic_0 ?_
                    refine VW.istore (lo' := [(4, .int 0), (0, .ref (γ.2.2.1 114)), (1, .int x1), (2, .int x2), (3, .int x3)]) d9_sheet_88 (by decide) rfl ?_
                    exact VW.sub [1, 2, 0] rfl (s_9_sheet_90 hd hR FU 0 h166 hr)
                  · replace hr := im hr c164
                    refine VW.iload_n d9_sheet_85 3 rfl ?_
                    obtain ⟨g168, hr⟩ := gdt hr
                    obtain ⟨h169, e170, hr⟩ := hlt hr
                    refine VW.iast (j := (ci x1)) d9_sheet_86 (rf_9_22 o9_114) g168 rfl ?_
                    refine VW.heq e170 ?_
                    refine VW.iconst (v := 0) d9_sheet_87 ic_0 ?_
                    refine VW.istore (lo' := [(4, .int 0), (0, .ref (γ.2.2.1 114)), (1, .int x1), (2, .int x2), (3, .int x3)]) d9_sheet_88 (by decide) rfl ?_
                    exact VW.sub [1, 2, 0] rfl (s_9_sheet_90 hd hR FU 0 h169 hr)
                · replace hr := im hr c160
                  refine VW.aload_n d9_sheet_59 0 rfl ?_
                  refine VW.iconst (v := 1) d9_sheet_60 ic_1 ?_
                  obtain ⟨r172, h173, e171, hr⟩ := bno2 hr
                  refine VW.callV (As := [.int 1]) (st := []) d9_sheet_61 mi_9_finds cv_9_107 (oo_9 o9_114) ⟨rfl, rfl⟩ (by decide) (dl1 hd) _ rfl (Nat.le_of_ble_eq_true rfl) rfl (c_9_finds (dl hd rfl) e171) (kI ?_)
                  exact VW.iret d9_sheet_64 hR (rIw hr)
            · replace hr := im hr c148
              refine VW.aload_n d9_sheet_43 0 rfl ?_
              refine VW.iconst (v := 3) d9_sheet_44 ic_3 ?_
              obtain ⟨r175, h176, e174, hr⟩ := bno2 hr
              refine VW.callV (As := [.int 3]) (st := []) d9_sheet_45 mi_9_finds cv_9_107 (oo_9 o9_114) ⟨rfl, rfl⟩ (by decide) (dl1 hd) _ rfl (Nat.le_of_ble_eq_true rfl) rfl (c_9_finds (dl hd rfl) e174) (kI ?_)
              exact VW.iret d9_sheet_48 hR (rIw hr)
        · replace hr := im hr c121
          refine VW.iload_n d9_sheet_23 2 rfl ?_
          refine VW.bipush (v := 32) d9_sheet_24 bp_32 ?_
          refine VW.icmp_eq 35 d9_sheet_26 (by decide) (fun c177 => ?_) (fun c177 => ?_)
          · replace hr := ip hr c177
            refine VW.iload_n d9_sheet_35 2 rfl ?_
            refine VW.if_eq 49 d9_sheet_36 (by decide) (fun c178 => ?_) (fun c178 => ?_)
            · replace hr := ip hr c178
              refine VW.iload_n d9_sheet_49 2 rfl ?_
              refine VW.if_eq 65 d9_sheet_50 (by decide) (fun c179 => ?_) (fun c179 => ?_)
              · replace hr := ip hr c179
                refine VW.aload_n d9_sheet_65 0 rfl ?_
                refine VW.getR (k := 21) (r := 122) d9_sheet_66 (oo_9 o9_114) rfl fl_9_31 ck9 ?_
                refine VW.iload_n d9_sheet_69 1 rfl ?_
                refine VW.iload_n d9_sheet_70 2 rfl ?_
                obtain ⟨g180, hr⟩ := gdt hr
                obtain ⟨h181, e182, hr⟩ := hlt hr
                refine VW.iast (j := (ci x1)) d9_sheet_71 (rf_9_21 o9_114) g180 rfl ?_
                refine VW.heq e182 ?_
                refine VW.aload_n d9_sheet_72 0 rfl ?_
                refine VW.getR (k := 22) (r := 123) d9_sheet_73 (oo_9 o9_114) rfl fl_9_34 ck9 ?_
                refine VW.iload_n d9_sheet_76 1 rfl ?_
                refine VW.iload_n d9_sheet_77 2 rfl ?_
                refine VW.if_ne 85 d9_sheet_78 (by decide) (fun c183 => ?_) (fun c183 => ?_)
                · replace hr := ip hr c183
                  refine VW.iconst (v := 0) d9_sheet_81 ic_0 ?_
                  refine VW.goto 86 d9_sheet_82 (by decide) ?_
                  obtain ⟨g184, hr⟩ := gdt hr
                  obtain ⟨h185, e186, hr⟩ := hlt hr
                  refine VW.iast (j := (ci x1)) d9_sheet_86 (rf_9_22 o9_114) g184 rfl ?_
                  refine VW.heq e186 ?_
                  refine VW.iconst (v := 0) d9_sheet_87 ic_0 ?_
                  refine VW.istore (lo' := [(4, .int 0), (0, .ref (γ.2.2.1 114)), (1, .int x1), (2, .int x2), (3, .int x3)]) d9_sheet_88 (by decide) rfl ?_
                  exact VW.sub [1, 2, 0] rfl (s_9_sheet_90 hd hR FU 0 h185 hr)
                · replace hr := im hr c183
                  refine VW.iload_n d9_sheet_85 3 rfl ?_
                  obtain ⟨g187, hr⟩ := gdt hr
                  obtain ⟨h188, e189, hr⟩ := hlt hr
                  refine VW.iast (j := (ci x1)) d9_sheet_86 (rf_9_22 o9_114) g187 rfl ?_
                  refine VW.heq e189 ?_
                  refine VW.iconst (v := 0) d9_sheet_87 ic_0 ?_
                  refine VW.istore (lo' := [(4, .int 0), (0, .ref (γ.2.2.1 114)), (1, .int x1), (2, .int x2), (3, .int x3)]) d9_sheet_88 (by decide) rfl ?_
                  exact VW.sub [1, 2, 0] rfl (s_9_sheet_90 hd hR FU 0 h188 hr)
              · replace hr := im hr c179
                refine VW.iload_n d9_sheet_53 3 rfl ?_
                refine VW.bipush (v := 40) d9_sheet_54 bp_40 ?_
                refine VW.icmp_le 65 d9_sheet_56 (by decide) (fun c190 => ?_) (fun c190 => ?_)
                · replace hr := ip hr c190
                  refine VW.aload_n d9_sheet_65 0 rfl ?_
                  refine VW.getR (k := 21) (r := 122) d9_sheet_66 (oo_9 o9_114) rfl fl_9_31 ck9 ?_
                  refine VW.iload_n d9_sheet_69 1 rfl ?_
                  refine VW.iload_n d9_sheet_70 2 rfl ?_
                  obtain ⟨g191, hr⟩ := gdt hr
                  obtain ⟨h192, e193, hr⟩ := hlt hr
                  refine VW.iast (j := (ci x1)) d9_sheet_71 (rf_9_21 o9_114) g191 rfl ?_
                  refine VW.heq e193 ?_
                  refine VW.aload_n d9_sheet_72 0 rfl ?_
                  refine VW.getR (k := 22) (r := 123) d9_sheet_73 (oo_9 o9_114) rfl fl_9_34 ck9 ?_
                  refine VW.iload_n d9_sheet_76 1 rfl ?_
                  refine VW.iload_n d9_sheet_77 2 rfl ?_
                  refine VW.if_ne 85 d9_sheet_78 (by decide) (fun c194 => ?_) (fun c194 => ?_)
                  · replace hr := ip hr c194
                    refine VW.iconst (v := 0) d9_sheet_81 ic_0 ?_
                    refine VW.goto 86 d9_sheet_82 (by decide) ?_
                    obtain ⟨g195, hr⟩ := gdt hr
                    obtain ⟨h196, e197, hr⟩ := hlt hr
                    refine VW.iast (j := (ci x1)) d9_sheet_86 (rf_9_22 o9_114) g195 rfl ?_
                    refine VW.heq e197 ?_
                    refine VW.iconst (v := 0) d9_sheet_87 ic_0 ?_
                    refine VW.istore (lo' := [(4, .int 0), (0, .ref (γ.2.2.1 114)), (1, .int x1), (2, .int x2), (3, .int x3)]) d9_sheet_88 (by decide) rfl ?_
                    exact VW.sub [1, 2, 0] rfl (s_9_sheet_90 hd hR FU 0 h196 hr)
                  · replace hr := im hr c194
                    refine VW.iload_n d9_sheet_85 3 rfl ?_
                    obtain ⟨g198, hr⟩ := gdt hr
                    obtain ⟨h199, e200, hr⟩ := hlt hr
                    refine VW.iast (j := (ci x1)) d9_sheet_86 (rf_9_22 o9_114) g198 rfl ?_
                    refine VW.heq e200 ?_
                    refine VW.iconst (v := 0) d9_sheet_87 ic_0 ?_
                    refine VW.istore (lo' := [(4, .int 0), (0, .ref (γ.2.2.1 114)), (1, .int x1), (2, .int x2), (3, .int x3)]) d9_sheet_88 (by decide) rfl ?_
                    exact VW.sub [1, 2, 0] rfl (s_9_sheet_90 hd hR FU 0 h199 hr)
                · replace hr := im hr c190
                  refine VW.aload_n d9_sheet_59 0 rfl ?_
                  refine VW.iconst (v := 1) d9_sheet_60 ic_1 ?_
                  obtain ⟨r202, h203, e201, hr⟩ := bno2 hr
                  refine VW.callV (As := [.int 1]) (st := []) d9_sheet_61 mi_9_finds cv_9_107 (oo_9 o9_114) ⟨rfl, rfl⟩ (by decide) (dl1 hd) _ rfl (Nat.le_of_ble_eq_true rfl) rfl (c_9_finds (dl hd rfl) e201) (kI ?_)
                  exact VW.iret d9_sheet_64 hR (rIw hr)
            · replace hr := im hr c178
              refine VW.iload_n d9_sheet_39 3 rfl ?_
              refine VW.if_ge 49 d9_sheet_40 (by decide) (fun c204 => ?_) (fun c204 => ?_)
              · replace hr := ip hr c204
                refine VW.iload_n d9_sheet_49 2 rfl ?_
                refine VW.if_eq 65 d9_sheet_50 (by decide) (fun c205 => ?_) (fun c205 => ?_)
                · replace hr := ip hr c205
                  refine VW.aload_n d9_sheet_65 0 rfl ?_
                  refine VW.getR (k := 21) (r := 122) d9_sheet_66 (oo_9 o9_114) rfl fl_9_31 ck9 ?_
                  refine VW.iload_n d9_sheet_69 1 rfl ?_
                  refine VW.iload_n d9_sheet_70 2 rfl ?_
                  obtain ⟨g206, hr⟩ := gdt hr
                  obtain ⟨h207, e208, hr⟩ := hlt hr
                  refine VW.iast (j := (ci x1)) d9_sheet_71 (rf_9_21 o9_114) g206 rfl ?_
                  refine VW.heq e208 ?_
                  refine VW.aload_n d9_sheet_72 0 rfl ?_
                  refine VW.getR (k := 22) (r := 123) d9_sheet_73 (oo_9 o9_114) rfl fl_9_34 ck9 ?_
                  refine VW.iload_n d9_sheet_76 1 rfl ?_
                  refine VW.iload_n d9_sheet_77 2 rfl ?_
                  refine VW.if_ne 85 d9_sheet_78 (by decide) (fun c209 => ?_) (fun c209 => ?_)
                  · replace hr := ip hr c209
                    refine VW.iconst (v := 0) d9_sheet_81 ic_0 ?_
                    refine VW.goto 86 d9_sheet_82 (by decide) ?_
                    obtain ⟨g210, hr⟩ := gdt hr
                    obtain ⟨h211, e212, hr⟩ := hlt hr
                    refine VW.iast (j := (ci x1)) d9_sheet_86 (rf_9_22 o9_114) g210 rfl ?_
                    refine VW.heq e212 ?_
                    refine VW.iconst (v := 0) d9_sheet_87 ic_0 ?_
                    refine VW.istore (lo' := [(4, .int 0), (0, .ref (γ.2.2.1 114)), (1, .int x1), (2, .int x2), (3, .int x3)]) d9_sheet_88 (by decide) rfl ?_
                    exact VW.sub [1, 2, 0] rfl (s_9_sheet_90 hd hR FU 0 h211 hr)
                  · replace hr := im hr c209
                    refine VW.iload_n d9_sheet_85 3 rfl ?_
                    obtain ⟨g213, hr⟩ := gdt hr
                    obtain ⟨h214, e215, hr⟩ := hlt hr
                    refine VW.iast (j := (ci x1)) d9_sheet_86 (rf_9_22 o9_114) g213 rfl ?_
                    refine VW.heq e215 ?_
                    refine VW.iconst (v := 0) d9_sheet_87 ic_0 ?_
                    refine VW.istore (lo' := [(4, .int 0), (0, .ref (γ.2.2.1 114)), (1, .int x1), (2, .int x2), (3, .int x3)]) d9_sheet_88 (by decide) rfl ?_
                    exact VW.sub [1, 2, 0] rfl (s_9_sheet_90 hd hR FU 0 h214 hr)
                · replace hr := im hr c205
                  refine VW.iload_n d9_sheet_53 3 rfl ?_
                  refine VW.bipush (v := 40) d9_sheet_54 bp_40 ?_
                  refine VW.icmp_le 65 d9_sheet_56 (by decide) (fun c216 => ?_) (fun c216 => ?_)
                  · replace hr := ip hr c216
                    refine VW.aload_n d9_sheet_65 0 rfl ?_
                    refine VW.getR (k := 21) (r := 122) d9_sheet_66 (oo_9 o9_114) rfl fl_9_31 ck9 ?_
                    refine VW.iload_n d9_sheet_69 1 rfl ?_
                    refine VW.iload_n d9_sheet_70 2 rfl ?_
                    obtain ⟨g217, hr⟩ := gdt hr
                    obtain ⟨h218, e219, hr⟩ := hlt hr
                    refine VW.iast (j := (ci x1)) d9_sheet_71 (rf_9_21 o9_114) g217 rfl ?_
                    refine VW.heq e219 ?_
                    refine VW.aload_n d9_sheet_72 0 rfl ?_
                    refine VW.getR (k := 22) (r := 123) d9_sheet_73 (oo_9 o9_114) rfl fl_9_34 ck9 ?_
                    refine VW.iload_n d9_sheet_76 1 rfl ?_
                    refine VW.iload_n d9_sheet_77 2 rfl ?_
                    refine VW.if_ne 85 d9_sheet_78 (by decide) (fun c220 => ?_) (fun c220 => ?_)
                    · replace hr := ip hr c220
                      refine VW.iconst (v := 0) d9_sheet_81 ic_0 ?_
                      refine VW.goto 86 d9_sheet_82 (by decide) ?_
                      obtain ⟨g221, hr⟩ := gdt hr
                      obtain ⟨h222, e223, hr⟩ := hlt hr
                      refine VW.iast (j := (ci x1)) d9_sheet_86 (rf_9_22 o9_114) g221 rfl ?_
                      refine VW.heq e223 ?_
                      refine VW.iconst (v := 0) d9_sheet_87 ic_0 ?_
                      refine VW.istore (lo' := [(4, .int 0), (0, .ref (γ.2.2.1 114)), (1, .int x1), (2, .int x2), (3, .int x3)]) d9_sheet_88 (by decide) rfl ?_
                      exact VW.sub [1, 2, 0] rfl (s_9_sheet_90 hd hR FU 0 h222 hr)
                    · replace hr := im hr c220
                      refine VW.iload_n d9_sheet_85 3 rfl ?_
                      obtain ⟨g224, hr⟩ := gdt hr
                      obtain ⟨h225, e226, hr⟩ := hlt hr
                      refine VW.iast (j := (ci x1)) d9_sheet_86 (rf_9_22 o9_114) g224 rfl ?_
                      refine VW.heq e226 ?_
                      refine VW.iconst (v := 0) d9_sheet_87 ic_0 ?_
                      refine VW.istore (lo' := [(4, .int 0), (0, .ref (γ.2.2.1 114)), (1, .int x1), (2, .int x2), (3, .int x3)]) d9_sheet_88 (by decide) rfl ?_
                      exact VW.sub [1, 2, 0] rfl (s_9_sheet_90 hd hR FU 0 h225 hr)
                  · replace hr := im hr c216
                    refine VW.aload_n d9_sheet_59 0 rfl ?_
                    refine VW.iconst (v := 1) d9_sheet_60 ic_1 ?_
                    obtain ⟨r228, h229, e227, hr⟩ := bno2 hr
                    refine VW.callV (As := [.int 1]) (st := []) d9_sheet_61 mi_9_finds cv_9_107 (oo_9 o9_114) ⟨rfl, rfl⟩ (by decide) (dl1 hd) _ rfl (Nat.le_of_ble_eq_true rfl) rfl (c_9_finds (dl hd rfl) e227) (kI ?_)
                    exact VW.iret d9_sheet_64 hR (rIw hr)
              · replace hr := im hr c204
                refine VW.aload_n d9_sheet_43 0 rfl ?_
                refine VW.iconst (v := 3) d9_sheet_44 ic_3 ?_
                obtain ⟨r231, h232, e230, hr⟩ := bno2 hr
                refine VW.callV (As := [.int 3]) (st := []) d9_sheet_45 mi_9_finds cv_9_107 (oo_9 o9_114) ⟨rfl, rfl⟩ (by decide) (dl1 hd) _ rfl (Nat.le_of_ble_eq_true rfl) rfl (c_9_finds (dl hd rfl) e230) (kI ?_)
                exact VW.iret d9_sheet_48 hR (rIw hr)
          · replace hr := im hr c177
            refine VW.aload_n d9_sheet_29 0 rfl ?_
            refine VW.iconst (v := 1) d9_sheet_30 ic_1 ?_
            obtain ⟨r234, h235, e233, hr⟩ := bno2 hr
            refine VW.callV (As := [.int 1]) (st := []) d9_sheet_31 mi_9_finds cv_9_107 (oo_9 o9_114) ⟨rfl, rfl⟩ (by decide) (dl1 hd) _ rfl (Nat.le_of_ble_eq_true rfl) rfl (c_9_finds (dl hd rfl) e233) (kI ?_)
            exact VW.iret d9_sheet_34 hR (rIw hr)
set_option maxRecDepth 100000 in
set_option maxHeartbeats 4000000 in
theorem s_9_syllablesOf_14 {γ : Gm} {ε : En} {dd : Nat} (hd : 1 ≤ dd) {r : Int32} {h : Hp} (hR : RT γ ε (some .int) (QI r h)) : ∀ (n : Nat) (x1 : Int32) (x2 : Int32) (x3 : Int32), f_9_syllablesOf_14 n x1 x2 x3 = some r → VW γ ε cX9_syllablesOf RX9 4 dd 14 [(1, .int x1), (2, .int x2), (3, .int x3)] [] h := by
  intro n
  induction n with
  | zero =>
    intro x1 x2 x3 hr
    exact nf hr
  | succ n ih =>
    intro x1 x2 x3 hr
    rw [f_9_syllablesOf_14] at hr
    refine VW.iload_n d9_syllablesOf_14 0 rfl ?_
    refine VW.if_le 46 d9_syllablesOf_15 (by decide) (fun c1 => ?_) (fun c1 => ?_)
    · replace hr := ip hr c1
      refine VW.iload_n d9_syllablesOf_46 2 rfl ?_
      refine VW.if_eq 54 d9_syllablesOf_47 (by decide) (fun c2 => ?_) (fun c2 => ?_)
      · replace hr := ip hr c2
        refine VW.iconst (v := 0) d9_syllablesOf_54 ic_0 ?_
        exact VW.iret d9_syllablesOf_55 hR (rIf hr)
      · replace hr := im hr c2
        refine VW.iload_n d9_syllablesOf_50 1 rfl ?_
        refine VW.goto 55 d9_syllablesOf_51 (by decide) ?_
        exact VW.iret d9_syllablesOf_55 hR (rIf hr)
    · replace hr := im hr c1
      refine VW.iload_n d9_syllablesOf_18 2 rfl ?_
      refine VW.if_eq 46 d9_syllablesOf_19 (by decide) (fun c3 => ?_) (fun c3 => ?_)
      · replace hr := ip hr c3
        refine VW.iload_n d9_syllablesOf_46 2 rfl ?_
        refine VW.if_eq 54 d9_syllablesOf_47 (by decide) (fun c4 => ?_) (fun c4 => ?_)
        · replace hr := ip hr c4
          refine VW.iconst (v := 0) d9_syllablesOf_54 ic_0 ?_
          exact VW.iret d9_syllablesOf_55 hR (rIf hr)
        · replace hr := im hr c4
          refine VW.iload_n d9_syllablesOf_50 1 rfl ?_
          refine VW.goto 55 d9_syllablesOf_51 (by decide) ?_
          exact VW.iret d9_syllablesOf_55 hR (rIf hr)
      · replace hr := im hr c3
        refine VW.iload_n d9_syllablesOf_22 0 rfl ?_
        refine VW.bipush (v := 10) d9_syllablesOf_23 bp_10 ?_
        refine VW.irem d9_syllablesOf_25 (by decide) ?_
        refine VW.i2l d9_syllablesOf_26 ?_
        refine VW.lconst (v := 1) d9_syllablesOf_27 (by decide) ?_
        refine VW.ldc2 (v := 3) d9_syllablesOf_28 kc_9_127 ?_
        refine VW.callS (As := [.long (Int32.toInt64 (irm x1 10)), .long 1, .long 3]) (st := []) d9_syllablesOf_31 mi_9_in cs_9_44 (by decide) (dl1 hd) _ rfl (Nat.le_of_ble_eq_true rfl) rfl (c_9_in (dl hd rfl) rfl) (kI ?_)
        refine VW.istore_n (lo' := [(3, .int (f_9_in (Int32.toInt64 (irm x1 10)) 1 3)), (1, .int x1), (2, .int x2)]) d9_syllablesOf_34 (by decide) rfl ?_
        refine VW.iload_n d9_syllablesOf_35 1 rfl ?_
        refine VW.bipush (v := 10) d9_syllablesOf_36 bp_10 ?_
        refine VW.idiv d9_syllablesOf_38 (by decide) ?_
        refine VW.istore_n (lo' := [(1, .int (x1 / 10)), (3, .int (f_9_in (Int32.toInt64 (irm x1 10)) 1 3)), (2, .int x2)]) d9_syllablesOf_39 (by decide) rfl ?_
        refine VW.iinc (w := 1) (lo' := [(2, .int (x2 + 1)), (1, .int (x1 / 10)), (3, .int (f_9_in (Int32.toInt64 (irm x1 10)) 1 3))]) d9_syllablesOf_40 2 rfl ic_1 (by decide) rfl ?_
        refine VW.goto 14 d9_syllablesOf_43 (by decide) ?_
        exact VW.sub [1, 0, 2] rfl (ih (x1 / 10) (x2 + 1) (f_9_in (Int32.toInt64 (irm x1 10)) 1 3) hr)
set_option maxRecDepth 100000 in
set_option maxHeartbeats 4000000 in
theorem c_9_syllablesOf {γ : Gm} {dd : Nat} {x0 : Int32} {h : Hp} {r : Int32} (hd : 1 ≤ dd) (hr : f_9_syllablesOf x0 = some r) : MC γ dd yX9_syllablesOf cX9_syllablesOf 4 (some .int) [.int x0] h (QI r h) := by
  unfold f_9_syllablesOf at hr
  refine MC.of mi_9_syllablesOf (Nat.le_of_ble_eq_true rfl) (fun ε hR => ?_)
  show VW γ ε cX9_syllablesOf RX9 4 dd 0 [(0, .int x0)] [] h
  refine VW.iload_n d9_syllablesOf_0 0 rfl ?_
  refine VW.istore_n (lo' := [(1, .int x0), (0, .int x0)]) d9_syllablesOf_1 (by decide) rfl ?_
  refine VW.iconst (v := 0) d9_syllablesOf_2 ic_0 ?_
  refine VW.istore_n (lo' := [(2, .int 0), (1, .int x0), (0, .int x0)]) d9_syllablesOf_3 (by decide) rfl ?_
  refine VW.iload_n d9_syllablesOf_4 2 rfl ?_
  refine VW.i2l d9_syllablesOf_5 ?_
  refine VW.lconst (v := 1) d9_syllablesOf_6 (by decide) ?_
  refine VW.ldc2 (v := 33333) d9_syllablesOf_7 kc_9_129 ?_
  refine VW.callS (As := [.long (Int32.toInt64 x0), .long 1, .long 33333]) (st := []) d9_syllablesOf_10 mi_9_in cs_9_44 (by decide) (dl1 hd) _ rfl (Nat.le_of_ble_eq_true rfl) rfl (c_9_in (dl hd rfl) rfl) (kI ?_)
  refine VW.istore_n (lo' := [(3, .int (f_9_in (Int32.toInt64 x0) 1 33333)), (2, .int 0), (1, .int x0), (0, .int x0)]) d9_syllablesOf_13 (by decide) rfl ?_
  exact VW.sub [2, 1, 0] rfl (s_9_syllablesOf_14 hd hR FU x0 0 (f_9_in (Int32.toInt64 x0) 1 33333) hr)
set_option maxRecDepth 100000 in
set_option maxHeartbeats 4000000 in
theorem c_9_takes_ {γ : Gm} {dd : Nat} {x1 : Int32} {x2 : Int32} {x3 : Int32} {h : Hp} {r : Int64} {hz : Hp} (hd : 1 ≤ dd) (hr : f_9_takes_ x1 x2 x3 h = some (r, hz)) : MC γ dd yX9_takes_ cX9_takes_ 10 (some .long) [.ref (γ.2.2.1 114), .int x1, .int x2, .int x3] h (QL r hz) := by
  unfold f_9_takes_ at hr
  refine MC.of mi_9_takes_ (Nat.le_of_ble_eq_true rfl) (fun ε hR => ?_)
  show VW γ ε cX9_takes_ RX9 10 dd 0 [(0, .ref (γ.2.2.1 114)), (1, .int x1), (2, .int x2), (3, .int x3)] [] h
  refine VW.iload_n d9_takes__0 1 rfl ?_
  refine VW.i2l d9_takes__1 ?_
  refine VW.lconst (v := 1) d9_takes__2 (by decide) ?_
  refine VW.ldc2 (v := 16) d9_takes__3 kc_9_235 ?_
  refine VW.callS (As := [.long (Int32.toInt64 x1), .long 1, .long 16]) (st := []) d9_takes__6 mi_9_in cs_9_44 (by decide) (dl1 hd) _ rfl (Nat.le_of_ble_eq_true rfl) rfl (c_9_in (dl hd rfl) rfl) (kI ?_)
  refine VW.if_eq 34 d9_takes__9 (by decide) (fun c1 => ?_) (fun c1 => ?_)
  · replace hr := ip hr c1
    refine VW.aload_n d9_takes__34 0 rfl ?_
    refine VW.iconst (v := 1) d9_takes__35 ic_1 ?_
    obtain ⟨r3, h4, e2, hr⟩ := bno2 hr
    refine VW.callV (As := [.int 1]) (st := []) d9_takes__36 mi_9_finds cv_9_107 (oo_9 o9_114) ⟨rfl, rfl⟩ (by decide) (dl1 hd) _ rfl (Nat.le_of_ble_eq_true rfl) rfl (c_9_finds (dl hd rfl) e2) (kI ?_)
    refine VW.i2l d9_takes__39 ?_
    exact VW.lret d9_takes__40 hR (rLw hr)
  · replace hr := im hr c1
    refine VW.iload_n d9_takes__12 2 rfl ?_
    refine VW.i2l d9_takes__13 ?_
    refine VW.lconst (v := 0) d9_takes__14 (by decide) ?_
    refine VW.ldc2 (v := 6) d9_takes__15 kc_9_193 ?_
    refine VW.callS (As := [.long (Int32.toInt64 x2), .long 0, .long 6]) (st := []) d9_takes__18 mi_9_in cs_9_44 (by decide) (dl1 hd) _ rfl (Nat.le_of_ble_eq_true rfl) rfl (c_9_in (dl hd rfl) rfl) (kI ?_)
    refine VW.if_eq 34 d9_takes__21 (by decide) (fun c5 => ?_) (fun c5 => ?_)
    · replace hr := ip hr c5
      refine VW.aload_n d9_takes__34 0 rfl ?_
      refine VW.iconst (v := 1) d9_takes__35 ic_1 ?_
      obtain ⟨r7, h8, e6, hr⟩ := bno2 hr
      refine VW.callV (As := [.int 1]) (st := []) d9_takes__36 mi_9_finds cv_9_107 (oo_9 o9_114) ⟨rfl, rfl⟩ (by decide) (dl1 hd) _ rfl (Nat.le_of_ble_eq_true rfl) rfl (c_9_finds (dl hd rfl) e6) (kI ?_)
      refine VW.i2l d9_takes__39 ?_
      exact VW.lret d9_takes__40 hR (rLw hr)
    · replace hr := im hr c5
      refine VW.iload_n d9_takes__24 3 rfl ?_
      refine VW.i2l d9_takes__25 ?_
      refine VW.lconst (v := 0) d9_takes__26 (by decide) ?_
      refine VW.lconst (v := 1) d9_takes__27 (by decide) ?_
      refine VW.callS (As := [.long (Int32.toInt64 x3), .long 0, .long 1]) (st := []) d9_takes__28 mi_9_in cs_9_44 (by decide) (dl1 hd) _ rfl (Nat.le_of_ble_eq_true rfl) rfl (c_9_in (dl hd rfl) rfl) (kI ?_)
      refine VW.if_ne 41 d9_takes__31 (by decide) (fun c9 => ?_) (fun c9 => ?_)
      · replace hr := ip hr c9
        refine VW.aload_n d9_takes__34 0 rfl ?_
        refine VW.iconst (v := 1) d9_takes__35 ic_1 ?_
        obtain ⟨r11, h12, e10, hr⟩ := bno2 hr
        refine VW.callV (As := [.int 1]) (st := []) d9_takes__36 mi_9_finds cv_9_107 (oo_9 o9_114) ⟨rfl, rfl⟩ (by decide) (dl1 hd) _ rfl (Nat.le_of_ble_eq_true rfl) rfl (c_9_finds (dl hd rfl) e10) (kI ?_)
        refine VW.i2l d9_takes__39 ?_
        exact VW.lret d9_takes__40 hR (rLw hr)
      · replace hr := im hr c9
        refine VW.ldc2 (v := 16) d9_takes__41 kc_9_235 ?_
        refine VW.iload_n d9_takes__44 2 rfl ?_
        obtain ⟨r14, e13, hr⟩ := bno hr
        refine VW.callS (As := [.long 16, .int x2]) (st := []) d9_takes__45 mi_9_power cs_9_237 (by decide) (dl1 hd) _ rfl (Nat.le_of_ble_eq_true rfl) rfl (c_9_power (dl hd rfl) e13) (kL ?_)
        refine VW.lstore (lo' := [(4, .long r14), (0, .ref (γ.2.2.1 114)), (1, .int x1), (2, .int x2), (3, .int x3)]) d9_takes__48 (by decide) rfl ?_
        refine VW.lload d9_takes__50 0 rfl ?_
        refine VW.ldc2 (v := 16) d9_takes__52 kc_9_235 ?_
        refine VW.iload_n d9_takes__55 2 rfl ?_
        refine VW.i2l d9_takes__56 ?_
        refine VW.lsub d9_takes__57 ?_
        refine VW.iload_n d9_takes__58 3 rfl ?_
        obtain ⟨r16, e15, hr⟩ := bno hr
        refine VW.callS (As := [.long (16 - (Int32.toInt64 x1)), .int x2]) (st := [.long r14]) d9_takes__59 mi_9_power cs_9_237 (by decide) (dl1 hd) _ rfl (Nat.le_of_ble_eq_true rfl) rfl (c_9_power (dl hd rfl) e15) (kL ?_)
        refine VW.lsub d9_takes__62 ?_
        refine VW.lstore (lo' := [(6, .long (r14 - r16)), (4, .long r14), (0, .ref (γ.2.2.1 114)), (1, .int x1), (2, .int x2), (3, .int x3)]) d9_takes__63 (by decide) rfl ?_
        refine VW.lload d9_takes__65 0 rfl ?_
        refine VW.lload d9_takes__67 1 rfl ?_
        obtain ⟨r18, e17, hr⟩ := bno hr
        refine VW.callS (As := [.long (r14 - r16), .long r14]) (st := []) d9_takes__69 mi_9_common cs_9_241 (by decide) (dl1 hd) _ rfl (Nat.le_of_ble_eq_true rfl) rfl (c_9_common (dl hd rfl) e17) (kL ?_)
        refine VW.lstore (lo' := [(8, .long r18), (6, .long (r14 - r16)), (4, .long r14), (0, .ref (γ.2.2.1 114)), (1, .int x1), (2, .int x2), (3, .int x3)]) d9_takes__72 (by decide) rfl ?_
        refine VW.iload_n d9_takes__74 6 rfl ?_
        refine VW.if_ne 86 d9_takes__75 (by decide) (fun c19 => ?_) (fun c19 => ?_)
        · replace hr := ip hr c19
          refine VW.lload d9_takes__78 1 rfl ?_
          refine VW.lload d9_takes__80 0 rfl ?_
          obtain ⟨g20, hr⟩ := gdt hr
          refine VW.ldiv d9_takes__82 (of_decide_eq_true g20) ?_
          refine VW.goto 91 d9_takes__83 (by decide) ?_
          exact VW.lret d9_takes__91 hR (rLw hr)
        · replace hr := im hr c19
          refine VW.lload d9_takes__86 2 rfl ?_
          refine VW.lload d9_takes__88 0 rfl ?_
          obtain ⟨g21, hr⟩ := gdt hr
          refine VW.ldiv d9_takes__90 (of_decide_eq_true g21) ?_
          exact VW.lret d9_takes__91 hR (rLw hr)
set_option maxRecDepth 100000 in
set_option maxHeartbeats 4000000 in
theorem c_9_tell {γ : Gm} {dd : Nat} {x1 : Int32} {h : Hp} {r : Int32} {hz : Hp} (hd : 1 ≤ dd) (hr : f_9_tell x1 h = some (r, hz)) : MC γ dd yX9_tell cX9_tell 2 (some .int) [.ref (γ.2.2.1 114), .int x1] h (QI r hz) := by
  unfold f_9_tell at hr
  refine MC.of mi_9_tell (Nat.le_of_ble_eq_true rfl) (fun ε hR => ?_)
  show VW γ ε cX9_tell RX9 2 dd 0 [(0, .ref (γ.2.2.1 114)), (1, .int x1)] [] h
  refine VW.aload_n d9_tell_0 0 rfl ?_
  refine VW.getR (k := 0) (r := 115) d9_tell_1 (oo_9 o9_114) rfl fl_9_7 ck9 ?_
  refine VW.bipush (v := 6) d9_tell_4 bp_6 ?_
  refine VW.iald (j := 6) d9_tell_6 (rf_9_0 o9_114) ib_6_380 il_6 ?_
  refine VW.bipush (v := 20) d9_tell_7 bp_20 ?_
  refine VW.icmp_ne 18 d9_tell_9 (by decide) (fun c1 => ?_) (fun c1 => ?_)
  · replace hr := ip hr c1
    refine VW.aload_n d9_tell_12 0 rfl ?_
    refine VW.iconst (v := 4) d9_tell_13 ic_4 ?_
    obtain ⟨r3, h4, e2, hr⟩ := bno2 hr
    refine VW.callV (As := [.int 4]) (st := []) d9_tell_14 mi_9_finds cv_9_107 (oo_9 o9_114) ⟨rfl, rfl⟩ (by decide) (dl1 hd) _ rfl (Nat.le_of_ble_eq_true rfl) rfl (c_9_finds (dl hd rfl) e2) (kI ?_)
    exact VW.iret d9_tell_17 hR (rIw hr)
  · replace hr := im hr c1
    refine VW.aload_n d9_tell_18 0 rfl ?_
    refine VW.getR (k := 0) (r := 115) d9_tell_19 (oo_9 o9_114) rfl fl_9_7 ck9 ?_
    refine VW.sipush (v := 210) d9_tell_22 sp_210 ?_
    refine VW.aload_n d9_tell_25 0 rfl ?_
    refine VW.getR (k := 0) (r := 115) d9_tell_26 (oo_9 o9_114) rfl fl_9_7 ck9 ?_
    refine VW.bipush (v := 6) d9_tell_29 bp_6 ?_
    refine VW.iald (j := 6) d9_tell_31 (rf_9_0 o9_114) ib_6_380 il_6 ?_
    refine VW.iadd d9_tell_32 ?_
    refine VW.iload_n d9_tell_33 1 rfl ?_
    obtain ⟨g5, hr⟩ := gdt hr
    obtain ⟨h6, e7, hr⟩ := hlt hr
    refine VW.iast (j := (ci (210 + (h 115 6)))) d9_tell_34 (rf_9_0 o9_114) g5 rfl ?_
    refine VW.heq e7 ?_
    refine VW.aload_n d9_tell_35 0 rfl ?_
    refine VW.getR (k := 0) (r := 115) d9_tell_36 (oo_9 o9_114) rfl fl_9_7 ck9 ?_
    refine VW.bipush (v := 6) d9_tell_39 bp_6 ?_
    refine VW.dup2 d9_tell_41 rfl rfl ?_
    refine VW.iald (j := 6) d9_tell_42 (rf_9_0 o9_114) ib_6_380 il_6 ?_
    refine VW.iconst (v := 1) d9_tell_43 ic_1 ?_
    refine VW.iadd d9_tell_44 ?_
    obtain ⟨h8, e9, hr⟩ := hlt hr
    refine VW.iast (j := 6) d9_tell_45 (rf_9_0 o9_114) ib_6_380 il_6 ?_
    refine VW.heq e9 ?_
    refine VW.aload_n d9_tell_46 0 rfl ?_
    refine VW.getR (k := 0) (r := 115) d9_tell_47 (oo_9 o9_114) rfl fl_9_7 ck9 ?_
    refine VW.bipush (v := 6) d9_tell_50 bp_6 ?_
    refine VW.iald (j := 6) d9_tell_52 (rf_9_0 o9_114) ib_6_380 il_6 ?_
    exact VW.iret d9_tell_53 hR (rIw hr)
set_option maxRecDepth 100000 in
set_option maxHeartbeats 4000000 in
theorem cb_9_tellsBy {γ : Gm} {dd : Nat} {NN : Nat} {R_9_tellsBy : Int32 → Int32 → Hp → Option (Int32 × Hp)} (hN : 131 ≤ NN) (H_9_tellsBy : ∀ (dd : Nat), NN ≤ dd → ∀ (x1 : Int32) (x2 : Int32) (h : Hp) (r : Int32) (hz : Hp), R_9_tellsBy x1 x2 h = some (r, hz) → MC γ dd yX9_tellsBy cX9_tellsBy 4 (some .int) [.ref (γ.2.2.1 114), .int x1, .int x2] h (QI r hz)) {x1 : Int32} {x2 : Int32} {h : Hp} {r : Int32} {hz : Hp} (hd : NN + 1 ≤ dd) (hr : b_9_tellsBy R_9_tellsBy x1 x2 h = some (r, hz)) : MC γ dd yX9_tellsBy cX9_tellsBy 4 (some .int) [.ref (γ.2.2.1 114), .int x1, .int x2] h (QI r hz) := by
  unfold b_9_tellsBy at hr
  refine MC.of mi_9_tellsBy (Nat.le_of_ble_eq_true rfl) (fun ε hR => ?_)
  show VW γ ε cX9_tellsBy RX9 4 dd 0 [(0, .ref (γ.2.2.1 114)), (1, .int x1), (2, .int x2)] [] h
  refine VW.iload_n d9_tellsBy_0 1 rfl ?_
  by_cases c1 : x1 = 0
  · replace hr := ip hr c1
    refine VW.lookup (off := 35) 36 d9_tellsBy_1 (by decide) (by rw [c1]; decide) (by decide) ?_
    refine VW.aload_n d9_tellsBy_36 0 rfl ?_
    refine VW.bipush (v := 13) d9_tellsBy_37 bp_13 ?_
    obtain ⟨h3, e2, hr⟩ := bno hr
    refine VW.callV (As := [.int 13]) (st := []) d9_tellsBy_39 mi_9_ran cv_9_251 (oo_9 o9_114) ⟨rfl, rfl⟩ (by decide) (dl1r hd) _ rfl (Nat.le_of_ble_eq_true rfl) rfl (c_9_ran (dlr hd hN (Nat.le_of_ble_eq_true rfl)) e2) (kV ?_)
    refine VW.aload_n d9_tellsBy_42 0 rfl ?_
    refine VW.aload_n d9_tellsBy_43 0 rfl ?_
    obtain ⟨r5, e4, hr⟩ := bno hr
    refine VW.callV (As := []) (st := [.ref (γ.2.2.1 114)]) d9_tellsBy_44 mi_9_own cv_9_257 (oo_9 o9_114) ⟨rfl, rfl⟩ (by decide) (dl1r hd) _ rfl (Nat.le_of_ble_eq_true rfl) rfl (c_9_own (dlr hd hN (Nat.le_of_ble_eq_true rfl)) e4) (kI ?_)
    refine VW.iload_n d9_tellsBy_47 2 rfl ?_
    obtain ⟨r7, h8, e6, hr⟩ := bno2 hr
    refine VW.callV (As := [.int r5, .int x2]) (st := []) d9_tellsBy_48 mi_9_saysBy cv_9_260 (oo_9 o9_114) ⟨rfl, rfl⟩ (by decide) (dl1r hd) _ rfl (Nat.le_of_ble_eq_true rfl) rfl (c_9_saysBy (dlr hd hN (Nat.le_of_ble_eq_true rfl)) e6) (kI ?_)
    refine VW.istore_n (lo' := [(3, .int r7), (0, .ref (γ.2.2.1 114)), (1, .int x1), (2, .int x2)]) d9_tellsBy_51 (by decide) rfl ?_
    refine VW.iload_n d9_tellsBy_52 0 rfl ?_
    refine VW.aload_n d9_tellsBy_53 1 rfl ?_
    refine VW.aload_n d9_tellsBy_54 1 rfl ?_
    obtain ⟨r10, e9, hr⟩ := bno hr
    refine VW.callV (As := []) (st := [.ref (γ.2.2.1 114), .int r7]) d9_tellsBy_55 mi_9_own cv_9_257 (oo_9 o9_114) ⟨rfl, rfl⟩ (by decide) (dl1r hd) _ rfl (Nat.le_of_ble_eq_true rfl) rfl (c_9_own (dlr hd hN (Nat.le_of_ble_eq_true rfl)) e9) (kI ?_)
    refine VW.iload_n d9_tellsBy_58 3 rfl ?_
    obtain ⟨r12, h13, e11, hr⟩ := bno2 hr
    refine VW.callV (As := [.int r10, .int x2]) (st := [.int r7]) d9_tellsBy_59 mi_9_endsBy cv_9_263 (oo_9 o9_114) ⟨rfl, rfl⟩ (by decide) (dl1r hd) _ rfl (Nat.le_of_ble_eq_true rfl) rfl (c_9_endsBy (dlr hd hN (Nat.le_of_ble_eq_true rfl)) e11) (kI ?_)
    refine VW.ixor d9_tellsBy_62 ?_
    exact VW.iret d9_tellsBy_63 hR (rIw hr)
  · replace hr := im hr c1
    by_cases c14 : x1 = 4
    · replace hr := ip hr c14
      refine VW.lookup (off := 63) 64 d9_tellsBy_1 (by decide) (by rw [c14]; decide) (by decide) ?_
      refine VW.aload_n d9_tellsBy_64 0 rfl ?_
      refine VW.bipush (v := 50) d9_tellsBy_65 bp_50 ?_
      obtain ⟨h16, e15, hr⟩ := bno hr
      refine VW.callV (As := [.int 50]) (st := []) d9_tellsBy_67 mi_9_ran cv_9_251 (oo_9 o9_114) ⟨rfl, rfl⟩ (by decide) (dl1r hd) _ rfl (Nat.le_of_ble_eq_true rfl) rfl (c_9_ran (dlr hd hN (Nat.le_of_ble_eq_true rfl)) e15) (kV ?_)
      refine VW.aload_n d9_tellsBy_70 0 rfl ?_
      refine VW.iconst (v := 4) d9_tellsBy_71 ic_4 ?_
      refine VW.callS (As := [.int 4]) (st := [.ref (γ.2.2.1 114)]) d9_tellsBy_72 mi_9_above cs_9_195 (by decide) (dl1r hd) _ rfl (Nat.le_of_ble_eq_true rfl) rfl (c_9_above (dlr hd hN (Nat.le_of_ble_eq_true rfl)) rfl) (kI ?_)
      refine VW.iload_n d9_tellsBy_75 2 rfl ?_
      obtain ⟨r18, h19, e17, hr⟩ := bno2 hr
      refine VW.callV (As := [.int (f_9_above 4), .int x2]) (st := []) d9_tellsBy_76 mi_9_tellsBy cv_9_266 (oo_9 o9_114) ⟨rfl, rfl⟩ (by decide) (dl1r hd) _ rfl (Nat.le_of_ble_eq_true rfl) rfl (H_9_tellsBy (dd - 1) (dr hd) (f_9_above 4) x2 h16 _ _ e17) (kI ?_)
      refine VW.istore_n (lo' := [(3, .int r18), (0, .ref (γ.2.2.1 114)), (1, .int x1), (2, .int x2)]) d9_tellsBy_79 (by decide) rfl ?_
      refine VW.iload_n d9_tellsBy_80 0 rfl ?_
      refine VW.aload_n d9_tellsBy_81 1 rfl ?_
      refine VW.aload_n d9_tellsBy_82 1 rfl ?_
      obtain ⟨r21, e20, hr⟩ := bno hr
      refine VW.callV (As := []) (st := [.ref (γ.2.2.1 114), .int r18]) d9_tellsBy_83 mi_9_own cv_9_257 (oo_9 o9_114) ⟨rfl, rfl⟩ (by decide) (dl1r hd) _ rfl (Nat.le_of_ble_eq_true rfl) rfl (c_9_own (dlr hd hN (Nat.le_of_ble_eq_true rfl)) e20) (kI ?_)
      refine VW.iconst (v := 2) d9_tellsBy_86 ic_2 ?_
      obtain ⟨r23, h24, e22, hr⟩ := bno2 hr
      refine VW.callV (As := [.int r21, .int 2]) (st := [.int r18]) d9_tellsBy_87 mi_9_fitsBy cv_9_254 (oo_9 o9_114) ⟨rfl, rfl⟩ (by decide) (dl1r hd) _ rfl (Nat.le_of_ble_eq_true rfl) rfl (c_9_fitsBy (dlr hd hN (Nat.le_of_ble_eq_true rfl)) e22) (kI ?_)
      refine VW.isub d9_tellsBy_90 ?_
      exact VW.iret d9_tellsBy_91 hR (rIw hr)
    · replace hr := im hr c14
      by_cases c25 : x1 = 6
      · replace hr := ip hr c25
        refine VW.lookup (off := 91) 92 d9_tellsBy_1 (by decide) (by rw [c25]; decide) (by decide) ?_
        refine VW.aload_n d9_tellsBy_92 0 rfl ?_
        refine VW.bipush (v := 71) d9_tellsBy_93 bp_71 ?_
        obtain ⟨h27, e26, hr⟩ := bno hr
        refine VW.callV (As := [.int 71]) (st := []) d9_tellsBy_95 mi_9_ran cv_9_251 (oo_9 o9_114) ⟨rfl, rfl⟩ (by decide) (dl1r hd) _ rfl (Nat.le_of_ble_eq_true rfl) rfl (c_9_ran (dlr hd hN (Nat.le_of_ble_eq_true rfl)) e26) (kV ?_)
        refine VW.aload_n d9_tellsBy_98 0 rfl ?_
        refine VW.aload_n d9_tellsBy_99 0 rfl ?_
        obtain ⟨r29, e28, hr⟩ := bno hr
        refine VW.callV (As := []) (st := [.ref (γ.2.2.1 114)]) d9_tellsBy_100 mi_9_own cv_9_257 (oo_9 o9_114) ⟨rfl, rfl⟩ (by decide) (dl1r hd) _ rfl (Nat.le_of_ble_eq_true rfl) rfl (c_9_own (dlr hd hN (Nat.le_of_ble_eq_true rfl)) e28) (kI ?_)
        refine VW.iload_n d9_tellsBy_103 2 rfl ?_
        obtain ⟨r31, h32, e30, hr⟩ := bno2 hr
        refine VW.callV (As := [.int r29, .int x2]) (st := []) d9_tellsBy_104 mi_9_saysBy cv_9_260 (oo_9 o9_114) ⟨rfl, rfl⟩ (by decide) (dl1r hd) _ rfl (Nat.le_of_ble_eq_true rfl) rfl (c_9_saysBy (dlr hd hN (Nat.le_of_ble_eq_true rfl)) e30) (kI ?_)
        refine VW.istore_n (lo' := [(3, .int r31), (0, .ref (γ.2.2.1 114)), (1, .int x1), (2, .int x2)]) d9_tellsBy_107 (by decide) rfl ?_
        refine VW.iload_n d9_tellsBy_108 0 rfl ?_
        refine VW.aload_n d9_tellsBy_109 1 rfl ?_
        refine VW.bipush (v := 6) d9_tellsBy_110 bp_6 ?_
        refine VW.callS (As := [.int 6]) (st := [.ref (γ.2.2.1 114), .int r31]) d9_tellsBy_112 mi_9_above cs_9_195 (by decide) (dl1r hd) _ rfl (Nat.le_of_ble_eq_true rfl) rfl (c_9_above (dlr hd hN (Nat.le_of_ble_eq_true rfl)) rfl) (kI ?_)
        refine VW.iload_n d9_tellsBy_115 3 rfl ?_
        obtain ⟨r34, h35, e33, hr⟩ := bno2 hr
        refine VW.callV (As := [.int (f_9_above 6), .int x2]) (st := [.int r31]) d9_tellsBy_116 mi_9_tellsBy cv_9_266 (oo_9 o9_114) ⟨rfl, rfl⟩ (by decide) (dl1r hd) _ rfl (Nat.le_of_ble_eq_true rfl) rfl (H_9_tellsBy (dd - 1) (dr hd) (f_9_above 6) x2 h32 _ _ e33) (kI ?_)
        refine VW.isub d9_tellsBy_119 ?_
        exact VW.iret d9_tellsBy_120 hR (rIw hr)
      · replace hr := im hr c25
        refine VW.lookup (off := 120) 121 d9_tellsBy_1 (by decide) ((lv_osw c1 (by decide)).trans ((lv_osw c14 (by decide)).trans ((lv_osw c25 (by decide)).trans rfl))) (by decide) ?_
        refine VW.aload_n d9_tellsBy_121 0 rfl ?_
        refine VW.iload_n d9_tellsBy_122 1 rfl ?_
        refine VW.callS (As := [.int x1]) (st := [.ref (γ.2.2.1 114)]) d9_tellsBy_123 mi_9_above cs_9_195 (by decide) (dl1r hd) _ rfl (Nat.le_of_ble_eq_true rfl) rfl (c_9_above (dlr hd hN (Nat.le_of_ble_eq_true rfl)) rfl) (kI ?_)
        refine VW.iload_n d9_tellsBy_126 2 rfl ?_
        obtain ⟨r37, h38, e36, hr⟩ := bno2 hr
        refine VW.callV (As := [.int (f_9_above x1), .int x2]) (st := []) d9_tellsBy_127 mi_9_tellsBy cv_9_266 (oo_9 o9_114) ⟨rfl, rfl⟩ (by decide) (dl1r hd) _ rfl (Nat.le_of_ble_eq_true rfl) rfl (H_9_tellsBy (dd - 1) (dr hd) (f_9_above x1) x2 h _ _ e36) (kI ?_)
        exact VW.iret d9_tellsBy_130 hR (rIw hr)
set_option maxRecDepth 100000 in
set_option maxHeartbeats 4000000 in
theorem ck_9_tellsBy {γ : Gm} : ∀ n : Nat, (∀ (dd : Nat), n + 131 ≤ dd → ∀ (x1 : Int32) (x2 : Int32) (h : Hp) (r : Int32) (hz : Hp), (k_9_tellsBy n) x1 x2 h = some (r, hz) → MC γ dd yX9_tellsBy cX9_tellsBy 4 (some .int) [.ref (γ.2.2.1 114), .int x1, .int x2] h (QI r hz)) := by
  intro n
  induction n with
  | zero =>
    · intro dd hd _ _ _ _ _ hr
      exact nf hr
  | succ n ih =>
    have i0 := ih
    · intro dd hd x1 x2 h r hz hr
      exact cb_9_tellsBy (NN := n + 131) (Nat.le_add_left _ _) i0 (by omega) hr

theorem c_9_tellsBy {γ : Gm} {dd : Nat} {x1 : Int32} {x2 : Int32} {h : Hp} {r : Int32} {hz : Hp} (hd : 195 ≤ dd) (hr : f_9_tellsBy x1 x2 h = some (r, hz)) : MC γ dd yX9_tellsBy cX9_tellsBy 4 (some .int) [.ref (γ.2.2.1 114), .int x1, .int x2] h (QI r hz) := (ck_9_tellsBy RF) dd hd _ _ _ _ _ hr
set_option maxRecDepth 100000 in
set_option maxHeartbeats 4000000 in
theorem s_9_text_69 {γ : Gm} {ε : En} {dd : Nat} (hd : 68 ≤ dd) {r : Int32} {hz : Hp} {x1 : Int32} {x2 : Int32} (hR : RT γ ε (some .int) (QI r hz)) : ∀ (n : Nat) (x4 : Int32) (h : Hp), f_9_text_69 x1 x2 n x4 h = some (r, hz) → VW γ ε cX9_text RX9 5 dd 69 [(0, .ref (γ.2.2.1 114)), (1, .int x1), (2, .int x2), (4, .int x4)] [] h := by
  intro n
  induction n with
  | zero =>
    intro x4 h hr
    exact nf hr
  | succ n ih =>
    intro x4 h hr
    rw [f_9_text_69] at hr
    refine VW.iload d9_text_69 3 rfl ?_
    refine VW.iload_n d9_text_71 2 rfl ?_
    refine VW.icmp_ge 108 d9_text_72 (by decide) (fun c14 => ?_) (fun c14 => ?_)
    · replace hr := ip hr c14
      refine VW.iconst (v := 1) d9_text_108 ic_1 ?_
      exact VW.iret d9_text_109 hR (rIw hr)
    · replace hr := im hr c14
      refine VW.aload_n d9_text_75 0 rfl ?_
      refine VW.getR (k := 0) (r := 115) d9_text_76 (oo_9 o9_114) rfl fl_9_7 ck9 ?_
      refine VW.sipush (v := 230) d9_text_79 sp_230 ?_
      refine VW.bipush (v := 50) d9_text_82 bp_50 ?_
      refine VW.iload_n d9_text_84 1 rfl ?_
      refine VW.imul d9_text_85 ?_
      refine VW.iadd d9_text_86 ?_
      refine VW.iload d9_text_87 3 rfl ?_
      refine VW.iadd d9_text_89 ?_
      refine VW.aload_n d9_text_90 0 rfl ?_
      refine VW.getR (k := 0) (r := 115) d9_text_91 (oo_9 o9_114) rfl fl_9_7 ck9 ?_
      refine VW.sipush (v := 330) d9_text_94 sp_330 ?_
      refine VW.iload d9_text_97 3 rfl ?_
      refine VW.iadd d9_text_99 ?_
      obtain ⟨g15, hr⟩ := gdt hr
      refine VW.iald (j := (ci (330 + x4))) d9_text_100 (rf_9_0 o9_114) g15 rfl ?_
      obtain ⟨g16, hr⟩ := gdt hr
      obtain ⟨h17, e18, hr⟩ := hlt hr
      refine VW.iast (j := (ci ((230 + (50 * x1)) + x4))) d9_text_101 (rf_9_0 o9_114) g16 rfl ?_
      refine VW.heq e18 ?_
      refine VW.iinc (w := 1) (lo' := [(4, .int (x4 + 1)), (0, .ref (γ.2.2.1 114)), (1, .int x1), (2, .int x2)]) d9_text_102 3 rfl ic_1 (by decide) rfl ?_
      refine VW.goto 69 d9_text_105 (by decide) ?_
      exact VW.sub [1, 2, 3, 0] rfl (ih (x4 + 1) h17 hr)
set_option maxRecDepth 100000 in
set_option maxHeartbeats 4000000 in
theorem c_9_text {γ : Gm} {dd : Nat} {x1 : Int32} {h : Hp} {r : Int32} {hz : Hp} (hd : 68 ≤ dd) (hr : f_9_text x1 h = some (r, hz)) : MC γ dd yX9_text cX9_text 5 (some .int) [.ref (γ.2.2.1 114), .int x1] h (QI r hz) := by
  unfold f_9_text at hr
  refine MC.of mi_9_text (Nat.le_of_ble_eq_true rfl) (fun ε hR => ?_)
  show VW γ ε cX9_text RX9 5 dd 0 [(0, .ref (γ.2.2.1 114)), (1, .int x1)] [] h
  refine VW.iload_n d9_text_0 1 rfl ?_
  refine VW.i2l d9_text_1 ?_
  refine VW.lconst (v := 0) d9_text_2 (by decide) ?_
  refine VW.lconst (v := 1) d9_text_3 (by decide) ?_
  refine VW.callS (As := [.long (Int32.toInt64 x1), .long 0, .long 1]) (st := []) d9_text_4 mi_9_in cs_9_44 (by decide) (dl1 hd) _ rfl (Nat.le_of_ble_eq_true rfl) rfl (c_9_in (dl hd rfl) rfl) (kI ?_)
  refine VW.if_ne 16 d9_text_7 (by decide) (fun c1 => ?_) (fun c1 => ?_)
  · replace hr := ip hr c1
    refine VW.aload_n d9_text_10 0 rfl ?_
    refine VW.iconst (v := 1) d9_text_11 ic_1 ?_
    obtain ⟨r3, h4, e2, hr⟩ := bno2 hr
    refine VW.callV (As := [.int 1]) (st := []) d9_text_12 mi_9_finds cv_9_107 (oo_9 o9_114) ⟨rfl, rfl⟩ (by decide) (dl1 hd) _ rfl (Nat.le_of_ble_eq_true rfl) rfl (c_9_finds (dl hd rfl) e2) (kI ?_)
    exact VW.iret d9_text_15 hR (rIw hr)
  · replace hr := im hr c1
    refine VW.aload_n d9_text_16 0 rfl ?_
    refine VW.getR (k := 0) (r := 115) d9_text_17 (oo_9 o9_114) rfl fl_9_7 ck9 ?_
    refine VW.iconst (v := 5) d9_text_20 ic_5 ?_
    refine VW.iald (j := 5) d9_text_21 (rf_9_0 o9_114) ib_5_380 il_5 ?_
    refine VW.istore_n (lo' := [(2, .int (h 115 5)), (0, .ref (γ.2.2.1 114)), (1, .int x1)]) d9_text_22 (by decide) rfl ?_
    refine VW.aload_n d9_text_23 1 rfl ?_
    refine VW.getR (k := 0) (r := 115) d9_text_24 (oo_9 o9_114) rfl fl_9_7 ck9 ?_
    refine VW.iconst (v := 5) d9_text_27 ic_5 ?_
    refine VW.iconst (v := 0) d9_text_28 ic_0 ?_
    obtain ⟨h5, e6, hr⟩ := hlt hr
    refine VW.iast (j := 5) d9_text_29 (rf_9_0 o9_114) ib_5_380 il_5 ?_
    refine VW.heq e6 ?_
    refine VW.aload_n d9_text_30 1 rfl ?_
    refine VW.sipush (v := 330) d9_text_31 sp_330 ?_
    refine VW.iload_n d9_text_34 0 rfl ?_
    refine VW.iload_n d9_text_35 2 rfl ?_
    obtain ⟨r8, h9, e7, hr⟩ := bno2 hr
    refine VW.callV (As := [.int 330, .int (h 115 5), .int x1]) (st := []) d9_text_36 mi_9_worked cv_9_112 (oo_9 o9_114) ⟨rfl, rfl⟩ (by decide) (dl1 hd) _ rfl (Nat.le_of_ble_eq_true rfl) rfl (c_9_worked (dl hd rfl) e7) (kI ?_)
    refine VW.istore_n (lo' := [(3, .int r8), (2, .int (h 115 5)), (0, .ref (γ.2.2.1 114)), (1, .int x1)]) d9_text_39 (by decide) rfl ?_
    refine VW.aload_n d9_text_40 2 rfl ?_
    refine VW.getI (k := 7) d9_text_41 (oo_9 o9_114) rfl fl_9_55 ck9 ?_
    refine VW.if_lt 55 d9_text_44 (by decide) (fun c10 => ?_) (fun c10 => ?_)
    · replace hr := ip hr c10
      refine VW.aload_n d9_text_55 2 rfl ?_
      refine VW.getR (k := 0) (r := 115) d9_text_56 (oo_9 o9_114) rfl fl_9_7 ck9 ?_
      refine VW.sipush (v := 208) d9_text_59 sp_208 ?_
      refine VW.iload_n d9_text_62 3 rfl ?_
      refine VW.iadd d9_text_63 ?_
      refine VW.iload_n d9_text_64 1 rfl ?_
      obtain ⟨g11, hr⟩ := gdt hr
      obtain ⟨h12, e13, hr⟩ := hlt hr
      refine VW.iast (j := (ci (208 + x1))) d9_text_65 (rf_9_0 o9_114) g11 rfl ?_
      refine VW.heq e13 ?_
      refine VW.iconst (v := 0) d9_text_66 ic_0 ?_
      refine VW.istore (lo' := [(4, .int 0), (3, .int r8), (2, .int (h 115 5)), (0, .ref (γ.2.2.1 114)), (1, .int x1)]) d9_text_67 (by decide) rfl ?_
      exact VW.sub [3, 4, 2, 0] rfl (s_9_text_69 hd hR FU 0 h12 hr)
    · replace hr := im hr c10
      refine VW.bipush (v := (-10)) d9_text_47 bp_m10 ?_
      refine VW.aload_n d9_text_49 2 rfl ?_
      refine VW.getI (k := 7) d9_text_50 (oo_9 o9_114) rfl fl_9_55 ck9 ?_
      refine VW.isub d9_text_53 ?_
      exact VW.iret d9_text_54 hR (rIw hr)
set_option maxRecDepth 100000 in
set_option maxHeartbeats 4000000 in
theorem c_9_told {γ : Gm} {dd : Nat} {x1 : Int32} {h : Hp} {r : Int32} {hz : Hp} (hd : 1 ≤ dd) (hr : f_9_told x1 h = some (r, hz)) : MC γ dd yX9_told cX9_told 2 (some .int) [.ref (γ.2.2.1 114), .int x1] h (QI r hz) := by
  unfold f_9_told at hr
  refine MC.of mi_9_told (Nat.le_of_ble_eq_true rfl) (fun ε hR => ?_)
  show VW γ ε cX9_told RX9 2 dd 0 [(0, .ref (γ.2.2.1 114)), (1, .int x1)] [] h
  refine VW.iload_n d9_told_0 1 rfl ?_
  refine VW.i2l d9_told_1 ?_
  refine VW.lconst (v := 1) d9_told_2 (by decide) ?_
  refine VW.ldc2 (v := 5) d9_told_3 kc_9_278 ?_
  refine VW.callS (As := [.long (Int32.toInt64 x1), .long 1, .long 5]) (st := []) d9_told_6 mi_9_in cs_9_44 (by decide) (dl1 hd) _ rfl (Nat.le_of_ble_eq_true rfl) rfl (c_9_in (dl hd rfl) rfl) (kI ?_)
  refine VW.if_eq 21 d9_told_9 (by decide) (fun c1 => ?_) (fun c1 => ?_)
  · replace hr := ip hr c1
    refine VW.aload_n d9_told_21 0 rfl ?_
    refine VW.iconst (v := 1) d9_told_22 ic_1 ?_
    obtain ⟨r3, h4, e2, hr⟩ := bno2 hr
    refine VW.callV (As := [.int 1]) (st := []) d9_told_23 mi_9_finds cv_9_107 (oo_9 o9_114) ⟨rfl, rfl⟩ (by decide) (dl1 hd) _ rfl (Nat.le_of_ble_eq_true rfl) rfl (c_9_finds (dl hd rfl) e2) (kI ?_)
    exact VW.iret d9_told_26 hR (rIw hr)
  · replace hr := im hr c1
    refine VW.aload_n d9_told_12 0 rfl ?_
    refine VW.getR (k := 3) (r := 117) d9_told_13 (oo_9 o9_114) rfl fl_9_16 ck9 ?_
    refine VW.iload_n d9_told_16 1 rfl ?_
    obtain ⟨g5, hr⟩ := gdt hr
    refine VW.iald (j := (ci x1)) d9_told_17 (rf_9_3 o9_114) g5 rfl ?_
    refine VW.goto 26 d9_told_18 (by decide) ?_
    exact VW.iret d9_told_26 hR (rIw hr)
set_option maxRecDepth 100000 in
set_option maxHeartbeats 4000000 in
theorem c_9_trace {γ : Gm} {dd : Nat} {x1 : Int32} {h : Hp} {r : Int32} {hz : Hp} (hd : 1 ≤ dd) (hr : f_9_trace x1 h = some (r, hz)) : MC γ dd yX9_trace cX9_trace 2 (some .int) [.ref (γ.2.2.1 114), .int x1] h (QI r hz) := by
  unfold f_9_trace at hr
  refine MC.of mi_9_trace (Nat.le_of_ble_eq_true rfl) (fun ε hR => ?_)
  show VW γ ε cX9_trace RX9 2 dd 0 [(0, .ref (γ.2.2.1 114)), (1, .int x1)] [] h
  refine VW.iload_n d9_trace_0 1 rfl ?_
  refine VW.i2l d9_trace_1 ?_
  refine VW.lconst (v := 0) d9_trace_2 (by decide) ?_
  refine VW.aload_n d9_trace_3 0 rfl ?_
  refine VW.getI (k := 19) d9_trace_4 (oo_9 o9_114) rfl fl_9_245 ck9 ?_
  refine VW.iconst (v := 1) d9_trace_7 ic_1 ?_
  refine VW.isub d9_trace_8 ?_
  refine VW.i2l d9_trace_9 ?_
  refine VW.callS (As := [.long (Int32.toInt64 x1), .long 0, .long (Int32.toInt64 ((h 114 19) - 1))]) (st := []) d9_trace_10 mi_9_in cs_9_44 (by decide) (dl1 hd) _ rfl (Nat.le_of_ble_eq_true rfl) rfl (c_9_in (dl hd rfl) rfl) (kI ?_)
  refine VW.if_eq 25 d9_trace_13 (by decide) (fun c1 => ?_) (fun c1 => ?_)
  · replace hr := ip hr c1
    refine VW.aload_n d9_trace_25 0 rfl ?_
    refine VW.iconst (v := 2) d9_trace_26 ic_2 ?_
    obtain ⟨r3, h4, e2, hr⟩ := bno2 hr
    refine VW.callV (As := [.int 2]) (st := []) d9_trace_27 mi_9_finds cv_9_107 (oo_9 o9_114) ⟨rfl, rfl⟩ (by decide) (dl1 hd) _ rfl (Nat.le_of_ble_eq_true rfl) rfl (c_9_finds (dl hd rfl) e2) (kI ?_)
    exact VW.iret d9_trace_30 hR (rIw hr)
  · replace hr := im hr c1
    refine VW.aload_n d9_trace_16 0 rfl ?_
    refine VW.getR (k := 18) (r := 121) d9_trace_17 (oo_9 o9_114) rfl fl_9_28 ck9 ?_
    refine VW.iload_n d9_trace_20 1 rfl ?_
    obtain ⟨g5, hr⟩ := gdt hr
    refine VW.iald (j := (ci x1)) d9_trace_21 (rf_9_18 o9_114) g5 rfl ?_
    refine VW.goto 30 d9_trace_22 (by decide) ?_
    exact VW.iret d9_trace_30 hR (rIw hr)
set_option maxRecDepth 100000 in
set_option maxHeartbeats 4000000 in
theorem c_9_voice {γ : Gm} {dd : Nat} {x1 : Int32} {x2 : Int32} {x3 : Int32} {h : Hp} {r : Int32} {hz : Hp} (hd : 196 ≤ dd) (hr : f_9_voice x1 x2 x3 h = some (r, hz)) : MC γ dd yX9_voice cX9_voice 5 (some .int) [.ref (γ.2.2.1 114), .int x1, .int x2, .int x3] h (QI r hz) := by
  unfold f_9_voice at hr
  refine MC.of mi_9_voice (Nat.le_of_ble_eq_true rfl) (fun ε hR => ?_)
  show VW γ ε cX9_voice RX9 5 dd 0 [(0, .ref (γ.2.2.1 114)), (1, .int x1), (2, .int x2), (3, .int x3)] [] h
  refine VW.aload_n d9_voice_0 0 rfl ?_
  refine VW.iload_n d9_voice_1 1 rfl ?_
  obtain ⟨r2, e1, hr⟩ := bno hr
  refine VW.callV (As := [.int x1]) (st := []) d9_voice_2 mi_9_isLine cv_9_184 (oo_9 o9_114) ⟨rfl, rfl⟩ (by decide) (dl1 hd) _ rfl (Nat.le_of_ble_eq_true rfl) rfl (c_9_isLine (dl hd rfl) e1) (kI ?_)
  refine VW.if_eq 20 d9_voice_5 (by decide) (fun c3 => ?_) (fun c3 => ?_)
  · replace hr := ip hr c3
    refine VW.aload_n d9_voice_20 0 rfl ?_
    refine VW.iconst (v := 1) d9_voice_21 ic_1 ?_
    obtain ⟨r5, h6, e4, hr⟩ := bno2 hr
    refine VW.callV (As := [.int 1]) (st := []) d9_voice_22 mi_9_finds cv_9_107 (oo_9 o9_114) ⟨rfl, rfl⟩ (by decide) (dl1 hd) _ rfl (Nat.le_of_ble_eq_true rfl) rfl (c_9_finds (dl hd rfl) e4) (kI ?_)
    exact VW.iret d9_voice_25 hR (rIw hr)
  · replace hr := im hr c3
    refine VW.iload_n d9_voice_8 2 rfl ?_
    refine VW.i2l d9_voice_9 ?_
    refine VW.lconst (v := 0) d9_voice_10 (by decide) ?_
    refine VW.ldc2 (v := 3) d9_voice_11 kc_9_127 ?_
    refine VW.callS (As := [.long (Int32.toInt64 x2), .long 0, .long 3]) (st := []) d9_voice_14 mi_9_in cs_9_44 (by decide) (dl1 hd) _ rfl (Nat.le_of_ble_eq_true rfl) rfl (c_9_in (dl hd rfl) rfl) (kI ?_)
    refine VW.if_ne 26 d9_voice_17 (by decide) (fun c7 => ?_) (fun c7 => ?_)
    · replace hr := ip hr c7
      refine VW.aload_n d9_voice_20 0 rfl ?_
      refine VW.iconst (v := 1) d9_voice_21 ic_1 ?_
      obtain ⟨r9, h10, e8, hr⟩ := bno2 hr
      refine VW.callV (As := [.int 1]) (st := []) d9_voice_22 mi_9_finds cv_9_107 (oo_9 o9_114) ⟨rfl, rfl⟩ (by decide) (dl1 hd) _ rfl (Nat.le_of_ble_eq_true rfl) rfl (c_9_finds (dl hd rfl) e8) (kI ?_)
      exact VW.iret d9_voice_25 hR (rIw hr)
    · replace hr := im hr c7
      refine VW.aload_n d9_voice_26 0 rfl ?_
      refine VW.iconst (v := 0) d9_voice_27 ic_0 ?_
      obtain ⟨h11, e12, hr⟩ := hlt hr
      refine VW.putI (k := 19) d9_voice_28 (oo_9 o9_114) rfl fl_9_245 ck9 rfl rfl rfl rfl ?_
      refine VW.heq e12 ?_
      refine VW.aload_n d9_voice_31 0 rfl ?_
      refine VW.iload_n d9_voice_32 1 rfl ?_
      obtain ⟨h13, e14, hr⟩ := hlt hr
      refine VW.putI (k := 20) d9_voice_33 (oo_9 o9_114) rfl fl_9_248 ck9 rfl rfl rfl rfl ?_
      refine VW.heq e14 ?_
      refine VW.aload_n d9_voice_36 0 rfl ?_
      obtain ⟨r16, e15, hr⟩ := bno hr
      refine VW.callV (As := []) (st := []) d9_voice_37 mi_9_own cv_9_257 (oo_9 o9_114) ⟨rfl, rfl⟩ (by decide) (dl1 hd) _ rfl (Nat.le_of_ble_eq_true rfl) rfl (c_9_own (dl hd rfl) e15) (kI ?_)
      refine VW.istore (lo' := [(4, .int r16), (0, .ref (γ.2.2.1 114)), (1, .int x1), (2, .int x2), (3, .int x3)]) d9_voice_40 (by decide) rfl ?_
      refine VW.iload_n d9_voice_42 3 rfl ?_
      refine VW.if_ne 56 d9_voice_43 (by decide) (fun c17 => ?_) (fun c17 => ?_)
      · replace hr := ip hr c17
        refine VW.aload_n d9_voice_46 1 rfl ?_
        refine VW.iload d9_voice_47 0 rfl ?_
        refine VW.iload_n d9_voice_49 4 rfl ?_
        obtain ⟨r19, h20, e18, hr⟩ := bno2 hr
        refine VW.callV (As := [.int r16, .int x3]) (st := []) d9_voice_50 mi_9_fitsBy cv_9_254 (oo_9 o9_114) ⟨rfl, rfl⟩ (by decide) (dl1 hd) _ rfl (Nat.le_of_ble_eq_true rfl) rfl (c_9_fitsBy (dl hd rfl) e18) (kI ?_)
        refine VW.goto 93 d9_voice_53 (by decide) ?_
        exact VW.iret d9_voice_93 hR (rIw hr)
      · replace hr := im hr c17
        refine VW.iload_n d9_voice_56 3 rfl ?_
        refine VW.iconst (v := 1) d9_voice_57 ic_1 ?_
        refine VW.icmp_ne 71 d9_voice_58 (by decide) (fun c21 => ?_) (fun c21 => ?_)
        · replace hr := ip hr c21
          refine VW.aload_n d9_voice_61 1 rfl ?_
          refine VW.iload d9_voice_62 0 rfl ?_
          refine VW.iload_n d9_voice_64 4 rfl ?_
          obtain ⟨r23, h24, e22, hr⟩ := bno2 hr
          refine VW.callV (As := [.int r16, .int x3]) (st := []) d9_voice_65 mi_9_saysBy cv_9_260 (oo_9 o9_114) ⟨rfl, rfl⟩ (by decide) (dl1 hd) _ rfl (Nat.le_of_ble_eq_true rfl) rfl (c_9_saysBy (dl hd rfl) e22) (kI ?_)
          refine VW.goto 93 d9_voice_68 (by decide) ?_
          exact VW.iret d9_voice_93 hR (rIw hr)
        · replace hr := im hr c21
          refine VW.iload_n d9_voice_71 3 rfl ?_
          refine VW.iconst (v := 2) d9_voice_72 ic_2 ?_
          refine VW.icmp_ne 86 d9_voice_73 (by decide) (fun c25 => ?_) (fun c25 => ?_)
          · replace hr := ip hr c25
            refine VW.aload_n d9_voice_76 1 rfl ?_
            refine VW.iload d9_voice_77 0 rfl ?_
            refine VW.iload_n d9_voice_79 4 rfl ?_
            obtain ⟨r27, h28, e26, hr⟩ := bno2 hr
            refine VW.callV (As := [.int r16, .int x3]) (st := []) d9_voice_80 mi_9_endsBy cv_9_263 (oo_9 o9_114) ⟨rfl, rfl⟩ (by decide) (dl1 hd) _ rfl (Nat.le_of_ble_eq_true rfl) rfl (c_9_endsBy (dl hd rfl) e26) (kI ?_)
            refine VW.goto 93 d9_voice_83 (by decide) ?_
            exact VW.iret d9_voice_93 hR (rIw hr)
          · replace hr := im hr c25
            refine VW.aload_n d9_voice_86 1 rfl ?_
            refine VW.iload d9_voice_87 0 rfl ?_
            refine VW.iload_n d9_voice_89 4 rfl ?_
            obtain ⟨r30, h31, e29, hr⟩ := bno2 hr
            refine VW.callV (As := [.int r16, .int x3]) (st := []) d9_voice_90 mi_9_tellsBy cv_9_266 (oo_9 o9_114) ⟨rfl, rfl⟩ (by decide) (dl1 hd) _ rfl (Nat.le_of_ble_eq_true rfl) rfl (c_9_tellsBy (dl hd rfl) e29) (kI ?_)
            exact VW.iret d9_voice_93 hR (rIw hr)
set_option maxRecDepth 100000 in
set_option maxHeartbeats 4000000 in
theorem c_9_wanted {γ : Gm} {dd : Nat} {x1 : Int32} {x2 : Int32} {h : Hp} {r : Int32} {hz : Hp} (hd : 2 ≤ dd) (hr : f_9_wanted x1 x2 h = some (r, hz)) : MC γ dd yX9_wanted cX9_wanted 4 (some .int) [.ref (γ.2.2.1 114), .int x1, .int x2] h (QI r hz) := by
  unfold f_9_wanted at hr
  refine MC.of mi_9_wanted (Nat.le_of_ble_eq_true rfl) (fun ε hR => ?_)
  show VW γ ε cX9_wanted RX9 4 dd 0 [(0, .ref (γ.2.2.1 114)), (1, .int x1), (2, .int x2)] [] h
  refine VW.aload_n d9_wanted_0 0 rfl ?_
  refine VW.iload_n d9_wanted_1 1 rfl ?_
  obtain ⟨r2, e1, hr⟩ := bno hr
  refine VW.callV (As := [.int x1]) (st := []) d9_wanted_2 mi_9_isLine cv_9_184 (oo_9 o9_114) ⟨rfl, rfl⟩ (by decide) (dl1 hd) _ rfl (Nat.le_of_ble_eq_true rfl) rfl (c_9_isLine (dl hd rfl) e1) (kI ?_)
  refine VW.if_eq 20 d9_wanted_5 (by decide) (fun c3 => ?_) (fun c3 => ?_)
  · replace hr := ip hr c3
    refine VW.aload_n d9_wanted_20 0 rfl ?_
    refine VW.iconst (v := 1) d9_wanted_21 ic_1 ?_
    obtain ⟨r5, h6, e4, hr⟩ := bno2 hr
    refine VW.callV (As := [.int 1]) (st := []) d9_wanted_22 mi_9_finds cv_9_107 (oo_9 o9_114) ⟨rfl, rfl⟩ (by decide) (dl1 hd) _ rfl (Nat.le_of_ble_eq_true rfl) rfl (c_9_finds (dl hd rfl) e4) (kI ?_)
    exact VW.iret d9_wanted_25 hR (rIw hr)
  · replace hr := im hr c3
    refine VW.iload_n d9_wanted_8 2 rfl ?_
    refine VW.i2l d9_wanted_9 ?_
    refine VW.lconst (v := 0) d9_wanted_10 (by decide) ?_
    refine VW.ldc2 (v := 99) d9_wanted_11 kc_9_134 ?_
    refine VW.callS (As := [.long (Int32.toInt64 x2), .long 0, .long 99]) (st := []) d9_wanted_14 mi_9_in cs_9_44 (by decide) (dl1 hd) _ rfl (Nat.le_of_ble_eq_true rfl) rfl (c_9_in (dl hd rfl) rfl) (kI ?_)
    refine VW.if_ne 26 d9_wanted_17 (by decide) (fun c7 => ?_) (fun c7 => ?_)
    · replace hr := ip hr c7
      refine VW.aload_n d9_wanted_20 0 rfl ?_
      refine VW.iconst (v := 1) d9_wanted_21 ic_1 ?_
      obtain ⟨r9, h10, e8, hr⟩ := bno2 hr
      refine VW.callV (As := [.int 1]) (st := []) d9_wanted_22 mi_9_finds cv_9_107 (oo_9 o9_114) ⟨rfl, rfl⟩ (by decide) (dl1 hd) _ rfl (Nat.le_of_ble_eq_true rfl) rfl (c_9_finds (dl hd rfl) e8) (kI ?_)
      exact VW.iret d9_wanted_25 hR (rIw hr)
    · replace hr := im hr c7
      refine VW.aload_n d9_wanted_26 0 rfl ?_
      refine VW.iload_n d9_wanted_27 1 rfl ?_
      refine VW.iconst (v := 4) d9_wanted_28 ic_4 ?_
      obtain ⟨r12, e11, hr⟩ := bno hr
      refine VW.callV (As := [.int x1, .int 4]) (st := []) d9_wanted_29 mi_9_of cv_9_145 (oo_9 o9_114) ⟨rfl, rfl⟩ (by decide) (dl1 hd) _ rfl (Nat.le_of_ble_eq_true rfl) rfl (c_9_of (dl hd rfl) e11) (kI ?_)
      refine VW.istore_n (lo' := [(3, .int r12), (0, .ref (γ.2.2.1 114)), (1, .int x1), (2, .int x2)]) d9_wanted_32 (by decide) rfl ?_
      refine VW.aload_n d9_wanted_33 1 rfl ?_
      refine VW.iload_n d9_wanted_34 2 rfl ?_
      refine VW.iconst (v := 4) d9_wanted_35 ic_4 ?_
      refine VW.iload_n d9_wanted_36 3 rfl ?_
      obtain ⟨h14, e13, hr⟩ := bno hr
      refine VW.callV (As := [.int x1, .int 4, .int x2]) (st := []) d9_wanted_37 mi_9_sets cv_9_180 (oo_9 o9_114) ⟨rfl, rfl⟩ (by decide) (dl1 hd) _ rfl (Nat.le_of_ble_eq_true rfl) rfl (c_9_sets (dl hd rfl) e13) (kV ?_)
      refine VW.iload_n d9_wanted_40 0 rfl ?_
      exact VW.iret d9_wanted_41 hR (rIw hr)
set_option maxRecDepth 100000 in
set_option maxHeartbeats 4000000 in
theorem s_9_word_86 {γ : Gm} {ε : En} {dd : Nat} (hd : 2 ≤ dd) {r : Int32} {hz : Hp} {x4 : Int32} (hR : RT γ ε (some .int) (QI r hz)) : ∀ (n : Nat) (x5 : Int32) (x6 : Int32) (h : Hp), f_9_word_86 x4 n x5 x6 h = some (r, hz) → VW γ ε cX9_word RX9 7 dd 86 [(0, .ref (γ.2.2.1 114)), (4, .int x4), (5, .int x5), (6, .int x6)] [] h := by
  intro n
  induction n with
  | zero =>
    intro x5 x6 h hr
    exact nf hr
  | succ n ih =>
    intro x5 x6 h hr
    rw [f_9_word_86] at hr
    refine VW.iload d9_word_86 3 rfl ?_
    refine VW.if_lt 123 d9_word_88 (by decide) (fun c21 => ?_) (fun c21 => ?_)
    · replace hr := ip hr c21
      refine VW.aload_n d9_word_123 0 rfl ?_
      refine VW.getR (k := 0) (r := 115) d9_word_124 (oo_9 o9_114) rfl fl_9_7 ck9 ?_
      refine VW.iconst (v := 0) d9_word_127 ic_0 ?_
      refine VW.dup2 d9_word_128 rfl rfl ?_
      refine VW.iald (j := 0) d9_word_129 (rf_9_0 o9_114) ib_0_380 il_0 ?_
      refine VW.iconst (v := 1) d9_word_130 ic_1 ?_
      refine VW.iadd d9_word_131 ?_
      obtain ⟨h22, e23, hr⟩ := hlt hr
      refine VW.iast (j := 0) d9_word_132 (rf_9_0 o9_114) ib_0_380 il_0 ?_
      refine VW.heq e23 ?_
      refine VW.aload_n d9_word_133 0 rfl ?_
      refine VW.getR (k := 0) (r := 115) d9_word_134 (oo_9 o9_114) rfl fl_9_7 ck9 ?_
      refine VW.iconst (v := 0) d9_word_137 ic_0 ?_
      refine VW.iald (j := 0) d9_word_138 (rf_9_0 o9_114) ib_0_380 il_0 ?_
      refine VW.iconst (v := 1) d9_word_139 ic_1 ?_
      refine VW.isub d9_word_140 ?_
      exact VW.iret d9_word_141 hR (rIw hr)
    · replace hr := im hr c21
      refine VW.aload_n d9_word_91 0 rfl ?_
      refine VW.getR (k := 0) (r := 115) d9_word_92 (oo_9 o9_114) rfl fl_9_7 ck9 ?_
      refine VW.iload d9_word_95 1 rfl ?_
      refine VW.iconst (v := 2) d9_word_97 ic_2 ?_
      refine VW.iadd d9_word_98 ?_
      refine VW.iload d9_word_99 3 rfl ?_
      refine VW.iadd d9_word_101 ?_
      refine VW.iload d9_word_102 2 rfl ?_
      refine VW.bipush (v := 10) d9_word_104 bp_10 ?_
      refine VW.irem d9_word_106 (by decide) ?_
      refine VW.iconst (v := 1) d9_word_107 ic_1 ?_
      refine VW.isub d9_word_108 ?_
      obtain ⟨g24, hr⟩ := gdt hr
      obtain ⟨h25, e26, hr⟩ := hlt hr
      refine VW.iast (j := (ci ((x4 + 2) + x6))) d9_word_109 (rf_9_0 o9_114) g24 rfl ?_
      refine VW.heq e26 ?_
      refine VW.iload d9_word_110 2 rfl ?_
      refine VW.bipush (v := 10) d9_word_112 bp_10 ?_
      refine VW.idiv d9_word_114 (by decide) ?_
      refine VW.istore (lo' := [(5, .int (x5 / 10)), (0, .ref (γ.2.2.1 114)), (4, .int x4), (6, .int x6)]) d9_word_115 (by decide) rfl ?_
      refine VW.iinc (w := (-1)) (lo' := [(6, .int (x6 + (-1))), (5, .int (x5 / 10)), (0, .ref (γ.2.2.1 114)), (4, .int x4)]) d9_word_117 3 rfl ic_m1 (by decide) rfl ?_
      refine VW.goto 86 d9_word_120 (by decide) ?_
      exact VW.sub [2, 3, 1, 0] rfl (ih (x5 / 10) (x6 + (-1)) h25 hr)
set_option maxRecDepth 100000 in
set_option maxHeartbeats 4000000 in
theorem c_9_word {γ : Gm} {dd : Nat} {x1 : Int32} {x2 : Int32} {h : Hp} {r : Int32} {hz : Hp} (hd : 2 ≤ dd) (hr : f_9_word x1 x2 h = some (r, hz)) : MC γ dd yX9_word cX9_word 7 (some .int) [.ref (γ.2.2.1 114), .int x1, .int x2] h (QI r hz) := by
  unfold f_9_word at hr
  refine MC.of mi_9_word (Nat.le_of_ble_eq_true rfl) (fun ε hR => ?_)
  show VW γ ε cX9_word RX9 7 dd 0 [(0, .ref (γ.2.2.1 114)), (1, .int x1), (2, .int x2)] [] h
  refine VW.iload_n d9_word_0 1 rfl ?_
  obtain ⟨r2, e1, hr⟩ := bno hr
  refine VW.callS (As := [.int x1]) (st := []) d9_word_1 mi_9_syllablesOf cs_9_131 (by decide) (dl1 hd) _ rfl (Nat.le_of_ble_eq_true rfl) rfl (c_9_syllablesOf (dl hd rfl) e1) (kI ?_)
  refine VW.istore_n (lo' := [(3, .int r2), (0, .ref (γ.2.2.1 114)), (1, .int x1), (2, .int x2)]) d9_word_4 (by decide) rfl ?_
  refine VW.iload_n d9_word_5 0 rfl ?_
  refine VW.if_eq 21 d9_word_6 (by decide) (fun c3 => ?_) (fun c3 => ?_)
  · replace hr := ip hr c3
    refine VW.aload_n d9_word_21 1 rfl ?_
    refine VW.iconst (v := 1) d9_word_22 ic_1 ?_
    obtain ⟨r5, h6, e4, hr⟩ := bno2 hr
    refine VW.callV (As := [.int 1]) (st := []) d9_word_23 mi_9_finds cv_9_107 (oo_9 o9_114) ⟨rfl, rfl⟩ (by decide) (dl1 hd) _ rfl (Nat.le_of_ble_eq_true rfl) rfl (c_9_finds (dl hd rfl) e4) (kI ?_)
    exact VW.iret d9_word_26 hR (rIw hr)
  · replace hr := im hr c3
    refine VW.iload_n d9_word_9 3 rfl ?_
    refine VW.i2l d9_word_10 ?_
    refine VW.lconst (v := 0) d9_word_11 (by decide) ?_
    refine VW.ldc2 (v := 99) d9_word_12 kc_9_134 ?_
    refine VW.callS (As := [.long (Int32.toInt64 x2), .long 0, .long 99]) (st := []) d9_word_15 mi_9_in cs_9_44 (by decide) (dl1 hd) _ rfl (Nat.le_of_ble_eq_true rfl) rfl (c_9_in (dl hd rfl) rfl) (kI ?_)
    refine VW.if_ne 27 d9_word_18 (by decide) (fun c7 => ?_) (fun c7 => ?_)
    · replace hr := ip hr c7
      refine VW.aload_n d9_word_21 1 rfl ?_
      refine VW.iconst (v := 1) d9_word_22 ic_1 ?_
      obtain ⟨r9, h10, e8, hr⟩ := bno2 hr
      refine VW.callV (As := [.int 1]) (st := []) d9_word_23 mi_9_finds cv_9_107 (oo_9 o9_114) ⟨rfl, rfl⟩ (by decide) (dl1 hd) _ rfl (Nat.le_of_ble_eq_true rfl) rfl (c_9_finds (dl hd rfl) e8) (kI ?_)
      exact VW.iret d9_word_26 hR (rIw hr)
    · replace hr := im hr c7
      refine VW.aload_n d9_word_27 1 rfl ?_
      refine VW.getR (k := 0) (r := 115) d9_word_28 (oo_9 o9_114) rfl fl_9_7 ck9 ?_
      refine VW.iconst (v := 0) d9_word_31 ic_0 ?_
      refine VW.iald (j := 0) d9_word_32 (rf_9_0 o9_114) ib_0_380 il_0 ?_
      refine VW.bipush (v := 10) d9_word_33 bp_10 ?_
      refine VW.icmp_ne 44 d9_word_35 (by decide) (fun c11 => ?_) (fun c11 => ?_)
      · replace hr := ip hr c11
        refine VW.aload_n d9_word_38 1 rfl ?_
        refine VW.iconst (v := 4) d9_word_39 ic_4 ?_
        obtain ⟨r13, h14, e12, hr⟩ := bno2 hr
        refine VW.callV (As := [.int 4]) (st := []) d9_word_40 mi_9_finds cv_9_107 (oo_9 o9_114) ⟨rfl, rfl⟩ (by decide) (dl1 hd) _ rfl (Nat.le_of_ble_eq_true rfl) rfl (c_9_finds (dl hd rfl) e12) (kI ?_)
        exact VW.iret d9_word_43 hR (rIw hr)
      · replace hr := im hr c11
        refine VW.bipush (v := 84) d9_word_44 bp_84 ?_
        refine VW.bipush (v := 7) d9_word_46 bp_7 ?_
        refine VW.aload_n d9_word_48 1 rfl ?_
        refine VW.getR (k := 0) (r := 115) d9_word_49 (oo_9 o9_114) rfl fl_9_7 ck9 ?_
        refine VW.iconst (v := 0) d9_word_52 ic_0 ?_
        refine VW.iald (j := 0) d9_word_53 (rf_9_0 o9_114) ib_0_380 il_0 ?_
        refine VW.imul d9_word_54 ?_
        refine VW.iadd d9_word_55 ?_
        refine VW.istore (lo' := [(4, .int (84 + (7 * (h 115 0)))), (3, .int r2), (0, .ref (γ.2.2.1 114)), (1, .int x1), (2, .int x2)]) d9_word_56 (by decide) rfl ?_
        refine VW.aload_n d9_word_58 2 rfl ?_
        refine VW.getR (k := 0) (r := 115) d9_word_59 (oo_9 o9_114) rfl fl_9_7 ck9 ?_
        refine VW.iload d9_word_62 0 rfl ?_
        refine VW.iconst (v := 0) d9_word_64 ic_0 ?_
        refine VW.iadd d9_word_65 ?_
        refine VW.iload_n d9_word_66 1 rfl ?_
        obtain ⟨g15, hr⟩ := gdt hr
        obtain ⟨h16, e17, hr⟩ := hlt hr
        refine VW.iast (j := (ci ((84 + (7 * (h 115 0))) + 0))) d9_word_67 (rf_9_0 o9_114) g15 rfl ?_
        refine VW.heq e17 ?_
        refine VW.aload_n d9_word_68 2 rfl ?_
        refine VW.getR (k := 0) (r := 115) d9_word_69 (oo_9 o9_114) rfl fl_9_7 ck9 ?_
        refine VW.iload d9_word_72 0 rfl ?_
        refine VW.iconst (v := 1) d9_word_74 ic_1 ?_
        refine VW.iadd d9_word_75 ?_
        refine VW.iload_n d9_word_76 4 rfl ?_
        obtain ⟨g18, hr⟩ := gdt hr
        obtain ⟨h19, e20, hr⟩ := hlt hr
        refine VW.iast (j := (ci ((84 + (7 * (h 115 0))) + 1))) d9_word_77 (rf_9_0 o9_114) g18 rfl ?_
        refine VW.heq e20 ?_
        refine VW.iload_n d9_word_78 3 rfl ?_
        refine VW.istore (lo' := [(5, .int x1), (4, .int (84 + (7 * (h 115 0)))), (3, .int r2), (0, .ref (γ.2.2.1 114)), (1, .int x1), (2, .int x2)]) d9_word_79 (by decide) rfl ?_
        refine VW.iload_n d9_word_81 2 rfl ?_
        refine VW.iconst (v := 1) d9_word_82 ic_1 ?_
        refine VW.isub d9_word_83 ?_
        refine VW.istore (lo' := [(6, .int (r2 - 1)), (5, .int x1), (4, .int (84 + (7 * (h 115 0)))), (3, .int r2), (0, .ref (γ.2.2.1 114)), (1, .int x1), (2, .int x2)]) d9_word_84 (by decide) rfl ?_
        exact VW.sub [4, 2, 1, 0] rfl (s_9_word_86 hd hR FU x1 (r2 - 1) h19 hr)
