set_option maxRecDepth 100000 in
set_option maxHeartbeats 4000000 in
theorem c_8_line {γ : Gm} {dd : Nat} {x1 : Int32} {x2 : Int32} {x3 : Int32} {h : Hp} {r : Int32} {hz : Hp} (hd : 2 ≤ dd) (hr : f_8_line x1 x2 x3 h = some (r, hz)) : MC γ dd yX8_line cX8_line 4 (some .int) [.ref (γ.2.2.1 0), .int x1, .int x2, .int x3] h (QI r hz) := by
  unfold f_8_line at hr
  refine MC.of mi_8_line (Nat.le_of_ble_eq_true rfl) (fun ε hR => ?_)
  show VW γ ε cX8_line RX8 4 dd 0 [(0, .ref (γ.2.2.1 0)), (1, .int x1), (2, .int x2), (3, .int x3)] [] h
  refine VW.iload_n d8_line_0 1 rfl ?_
  refine VW.callS (As := [.int x1]) (st := []) d8_line_1 mi_8_isKindAndNumber cs_8_97 (by decide) (dl1 hd) _ rfl (Nat.le_of_ble_eq_true rfl) rfl (c_8_isKindAndNumber (dl hd rfl) rfl) (kI ?_)
  refine VW.if_eq 34 d8_line_4 (by decide) (fun c1 => ?_) (fun c1 => ?_)
  · replace hr := ip hr c1
    refine VW.aload_n d8_line_34 0 rfl ?_
    refine VW.iconst (v := 1) d8_line_35 ic_1 ?_
    obtain ⟨r3, h4, e2, hr⟩ := bno2 hr
    refine VW.callV (As := [.int 1]) (st := []) d8_line_36 mi_8_error cv_8_61 (oo_8 o8_0) ⟨rfl, rfl⟩ (by decide) (dl1 hd) _ rfl (Nat.le_of_ble_eq_true rfl) rfl (c_8_error (dl hd rfl) e2) (kI ?_)
    exact VW.iret d8_line_39 hR (rIw hr)
  · replace hr := im hr c1
    refine VW.iload_n d8_line_7 2 rfl ?_
    refine VW.iconst (v := 0) d8_line_8 ic_0 ?_
    refine VW.bipush (v := 59) d8_line_9 bp_59 ?_
    refine VW.callS (As := [.int x2, .int 0, .int 59]) (st := []) d8_line_11 mi_8_within cs_8_57 (by decide) (dl1 hd) _ rfl (Nat.le_of_ble_eq_true rfl) rfl (c_8_within (dl hd rfl) rfl) (kI ?_)
    refine VW.if_eq 34 d8_line_14 (by decide) (fun c5 => ?_) (fun c5 => ?_)
    · replace hr := ip hr c5
      refine VW.aload_n d8_line_34 0 rfl ?_
      refine VW.iconst (v := 1) d8_line_35 ic_1 ?_
      obtain ⟨r7, h8, e6, hr⟩ := bno2 hr
      refine VW.callV (As := [.int 1]) (st := []) d8_line_36 mi_8_error cv_8_61 (oo_8 o8_0) ⟨rfl, rfl⟩ (by decide) (dl1 hd) _ rfl (Nat.le_of_ble_eq_true rfl) rfl (c_8_error (dl hd rfl) e6) (kI ?_)
      exact VW.iret d8_line_39 hR (rIw hr)
    · replace hr := im hr c5
      refine VW.iload_n d8_line_17 3 rfl ?_
      refine VW.iconst (v := 1) d8_line_18 ic_1 ?_
      refine VW.bipush (v := 15) d8_line_19 bp_15 ?_
      refine VW.bipush (v := 60) d8_line_21 bp_60 ?_
      refine VW.iload_n d8_line_23 2 rfl ?_
      refine VW.isub d8_line_24 ?_
      refine VW.mmin d8_line_25 jl_8_100 (dl1 hd) (Nat.le_of_ble_eq_true rfl) ?_
      refine VW.callS (As := [.int x3, .int 1, .int (imin 15 (60 - x2))]) (st := []) d8_line_28 mi_8_within cs_8_57 (by decide) (dl1 hd) _ rfl (Nat.le_of_ble_eq_true rfl) rfl (c_8_within (dl hd rfl) rfl) (kI ?_)
      refine VW.if_ne 40 d8_line_31 (by decide) (fun c9 => ?_) (fun c9 => ?_)
      · replace hr := ip hr c9
        refine VW.aload_n d8_line_34 0 rfl ?_
        refine VW.iconst (v := 1) d8_line_35 ic_1 ?_
        obtain ⟨r11, h12, e10, hr⟩ := bno2 hr
        refine VW.callV (As := [.int 1]) (st := []) d8_line_36 mi_8_error cv_8_61 (oo_8 o8_0) ⟨rfl, rfl⟩ (by decide) (dl1 hd) _ rfl (Nat.le_of_ble_eq_true rfl) rfl (c_8_error (dl hd rfl) e10) (kI ?_)
        exact VW.iret d8_line_39 hR (rIw hr)
      · replace hr := im hr c9
        refine VW.aload_n d8_line_40 0 rfl ?_
        refine VW.getR (k := 0) (r := 1) d8_line_41 (oo_8 o8_0) rfl fl_8_10 ck8 ?_
        refine VW.getI (k := 11) d8_line_44 (oo_7 (rf_8_0 o8_0)) rfl fl_8_106 ck7 ?_
        refine VW.bipush (v := 6) d8_line_47 bp_6 ?_
        refine VW.icmp_lt 58 d8_line_49 (by decide) (fun c13 => ?_) (fun c13 => ?_)
        · replace hr := ip hr c13
          refine VW.aload_n d8_line_58 0 rfl ?_
          refine VW.getR (k := 0) (r := 1) d8_line_59 (oo_8 o8_0) rfl fl_8_10 ck8 ?_
          refine VW.getR (k := 2) (r := 4) d8_line_62 (oo_7 (rf_8_0 o8_0)) rfl fl_8_109 ck7 ?_
          refine VW.aload_n d8_line_65 0 rfl ?_
          refine VW.getR (k := 0) (r := 1) d8_line_66 (oo_8 o8_0) rfl fl_8_10 ck8 ?_
          refine VW.getI (k := 11) d8_line_69 (oo_7 (rf_8_0 o8_0)) rfl fl_8_106 ck7 ?_
          obtain ⟨g14, hr⟩ := gdt hr
          refine VW.aald (z := 36 + 2 * (ci (h 1 11))) d8_line_72 (rf_7_2 (rf_8_0 o8_0)) (by decide) (by decide) g14 rfl ?_
          refine VW.iload_n d8_line_73 1 rfl ?_
          refine VW.iload_n d8_line_74 2 rfl ?_
          refine VW.iload_n d8_line_75 3 rfl ?_
          obtain ⟨h16, e15, hr⟩ := bno hr
          refine VW.callV (As := [.int x1, .int x2, .int x3]) (st := []) d8_line_76 mi_0_begin cv_8_113 (oo_0 (re_7_2 (rf_8_0 o8_0) (inb_lt g14))) ⟨rfl, rfl⟩ (by decide) (dl1 hd) _ rfl (Nat.le_of_ble_eq_true rfl) rfl (c_0_begin (re_7_2 (rf_8_0 o8_0) (inb_lt g14)) (dl hd rfl) e15) (kV ?_)
          refine VW.aload_n d8_line_79 0 rfl ?_
          refine VW.getR (k := 0) (r := 1) d8_line_80 (oo_8 o8_0) rfl fl_8_10 ck8 ?_
          refine VW.dup d8_line_83 rfl ?_
          refine VW.getI (k := 11) d8_line_84 (oo_7 (rf_8_0 o8_0)) rfl fl_8_106 ck7 ?_
          refine VW.iconst (v := 1) d8_line_87 ic_1 ?_
          refine VW.iadd d8_line_88 ?_
          obtain ⟨h17, e18, hr⟩ := hlt hr
          refine VW.putI (k := 11) d8_line_89 (oo_7 (rf_8_0 o8_0)) rfl fl_8_106 ck7 rfl rfl rfl rfl ?_
          refine VW.heq e18 ?_
          refine VW.aload_n d8_line_92 0 rfl ?_
          refine VW.getR (k := 0) (r := 1) d8_line_93 (oo_8 o8_0) rfl fl_8_10 ck8 ?_
          refine VW.getI (k := 11) d8_line_96 (oo_7 (rf_8_0 o8_0)) rfl fl_8_106 ck7 ?_
          refine VW.iconst (v := 1) d8_line_99 ic_1 ?_
          refine VW.isub d8_line_100 ?_
          exact VW.iret d8_line_101 hR (rIw hr)
        · replace hr := im hr c13
          refine VW.aload_n d8_line_52 0 rfl ?_
          refine VW.iconst (v := 4) d8_line_53 ic_4 ?_
          obtain ⟨r20, h21, e19, hr⟩ := bno2 hr
          refine VW.callV (As := [.int 4]) (st := []) d8_line_54 mi_8_error cv_8_61 (oo_8 o8_0) ⟨rfl, rfl⟩ (by decide) (dl1 hd) _ rfl (Nat.le_of_ble_eq_true rfl) rfl (c_8_error (dl hd rfl) e19) (kI ?_)
          exact VW.iret d8_line_57 hR (rIw hr)
set_option maxRecDepth 100000 in
set_option maxHeartbeats 4000000 in
theorem s_8_matinees_46 {γ : Gm} {ε : En} {dd : Nat} (hd : 6 ≤ dd) {r : Int32} {hz : Hp} {x1 : Int32} (hR : RT γ ε (some .int) (QI r hz)) : ∀ (n : Nat) (x2 : Int32) (h : Hp), f_8_matinees_46 x1 n x2 h = some (r, hz) → VW γ ε cX8_matinees RX8 3 dd 46 [(0, .ref (γ.2.2.1 0)), (1, .int x1), (2, .int x2)] [] h := by
  intro n
  induction n with
  | zero =>
    intro x2 h hr
    exact nf hr
  | succ n ih =>
    intro x2 h hr
    rw [f_8_matinees_46] at hr
    refine VW.iload_n d8_matinees_46 2 rfl ?_
    refine VW.iload_n d8_matinees_47 1 rfl ?_
    refine VW.icmp_ge 64 d8_matinees_48 (by decide) (fun c8 => ?_) (fun c8 => ?_)
    · replace hr := ip hr c8
      refine VW.aload_n d8_matinees_64 0 rfl ?_
      refine VW.getR (k := 0) (r := 1) d8_matinees_65 (oo_8 o8_0) rfl fl_8_10 ck8 ?_
      refine VW.getI (k := 15) d8_matinees_68 (oo_7 (rf_8_0 o8_0)) rfl fl_8_211 ck7 ?_
      exact VW.iret d8_matinees_71 hR (rIw hr)
    · replace hr := im hr c8
      refine VW.aload_n d8_matinees_51 0 rfl ?_
      refine VW.getR (k := 0) (r := 1) d8_matinees_52 (oo_8 o8_0) rfl fl_8_10 ck8 ?_
      obtain ⟨h10, e9, hr⟩ := bno hr
      refine VW.callV (As := []) (st := []) d8_matinees_55 mi_7_matinee cv_8_208 (oo_7 (rf_8_0 o8_0)) ⟨rfl, rfl⟩ (by decide) (dl1 hd) _ rfl (Nat.le_of_ble_eq_true rfl) rfl (c_7_matinee (dl hd rfl) e9) (kV ?_)
      refine VW.iinc (w := 1) (lo' := [(2, .int (x2 + 1)), (0, .ref (γ.2.2.1 0)), (1, .int x1)]) d8_matinees_58 2 rfl ic_1 (by decide) rfl ?_
      refine VW.goto 46 d8_matinees_61 (by decide) ?_
      exact VW.sub [1, 2, 0] rfl (ih (x2 + 1) h10 hr)
set_option maxRecDepth 100000 in
set_option maxHeartbeats 4000000 in
theorem c_8_matinees {γ : Gm} {dd : Nat} {x1 : Int32} {h : Hp} {r : Int32} {hz : Hp} (hd : 6 ≤ dd) (hr : f_8_matinees x1 h = some (r, hz)) : MC γ dd yX8_matinees cX8_matinees 3 (some .int) [.ref (γ.2.2.1 0), .int x1] h (QI r hz) := by
  unfold f_8_matinees at hr
  refine MC.of mi_8_matinees (Nat.le_of_ble_eq_true rfl) (fun ε hR => ?_)
  show VW γ ε cX8_matinees RX8 3 dd 0 [(0, .ref (γ.2.2.1 0)), (1, .int x1)] [] h
  refine VW.iload_n d8_matinees_0 1 rfl ?_
  refine VW.iconst (v := 1) d8_matinees_1 ic_1 ?_
  refine VW.bipush (v := 100) d8_matinees_2 bp_100 ?_
  refine VW.callS (As := [.int x1, .int 1, .int 100]) (st := []) d8_matinees_4 mi_8_within cs_8_57 (by decide) (dl1 hd) _ rfl (Nat.le_of_ble_eq_true rfl) rfl (c_8_within (dl hd rfl) rfl) (kI ?_)
  refine VW.if_ne 16 d8_matinees_7 (by decide) (fun c1 => ?_) (fun c1 => ?_)
  · replace hr := ip hr c1
    refine VW.aload_n d8_matinees_10 0 rfl ?_
    refine VW.iconst (v := 1) d8_matinees_11 ic_1 ?_
    obtain ⟨r3, h4, e2, hr⟩ := bno2 hr
    refine VW.callV (As := [.int 1]) (st := []) d8_matinees_12 mi_8_error cv_8_61 (oo_8 o8_0) ⟨rfl, rfl⟩ (by decide) (dl1 hd) _ rfl (Nat.le_of_ble_eq_true rfl) rfl (c_8_error (dl hd rfl) e2) (kI ?_)
    exact VW.iret d8_matinees_15 hR (rIw hr)
  · replace hr := im hr c1
    refine VW.aload_n d8_matinees_16 0 rfl ?_
    refine VW.getR (k := 0) (r := 1) d8_matinees_17 (oo_8 o8_0) rfl fl_8_10 ck8 ?_
    refine VW.getI (k := 14) d8_matinees_20 (oo_7 (rf_8_0 o8_0)) rfl fl_8_146 ck7 ?_
    refine VW.iload_n d8_matinees_23 1 rfl ?_
    refine VW.iadd d8_matinees_24 ?_
    refine VW.sipush (v := 9999) d8_matinees_25 sp_9999 ?_
    refine VW.icmp_le 37 d8_matinees_28 (by decide) (fun c5 => ?_) (fun c5 => ?_)
    · replace hr := ip hr c5
      refine VW.aload_n d8_matinees_37 0 rfl ?_
      refine VW.getR (k := 0) (r := 1) d8_matinees_38 (oo_8 o8_0) rfl fl_8_10 ck8 ?_
      obtain ⟨h7, e6, hr⟩ := bno hr
      refine VW.callV (As := []) (st := []) d8_matinees_41 mi_7_weighLines cv_8_205 (oo_7 (rf_8_0 o8_0)) ⟨rfl, rfl⟩ (by decide) (dl1 hd) _ rfl (Nat.le_of_ble_eq_true rfl) rfl (c_7_weighLines (dl hd rfl) e6) (kV ?_)
      refine VW.iconst (v := 0) d8_matinees_44 ic_0 ?_
      refine VW.istore_n (lo' := [(2, .int 0), (0, .ref (γ.2.2.1 0)), (1, .int x1)]) d8_matinees_45 (by decide) rfl ?_
      exact VW.sub [1, 2, 0] rfl (s_8_matinees_46 hd hR FU 0 h7 hr)
    · replace hr := im hr c5
      refine VW.aload_n d8_matinees_31 0 rfl ?_
      refine VW.iconst (v := 3) d8_matinees_32 ic_3 ?_
      obtain ⟨r12, h13, e11, hr⟩ := bno2 hr
      refine VW.callV (As := [.int 3]) (st := []) d8_matinees_33 mi_8_error cv_8_61 (oo_8 o8_0) ⟨rfl, rfl⟩ (by decide) (dl1 hd) _ rfl (Nat.le_of_ble_eq_true rfl) rfl (c_8_error (dl hd rfl) e11) (kI ?_)
      exact VW.iret d8_matinees_36 hR (rIw hr)
set_option maxRecDepth 100000 in
set_option maxHeartbeats 4000000 in
theorem c_8_minutes {γ : Gm} {dd : Nat} {x1 : Int32} {h : Hp} {r : Int32} {hz : Hp} (hd : 2 ≤ dd) (hr : f_8_minutes x1 h = some (r, hz)) : MC γ dd yX8_minutes cX8_minutes 2 (some .int) [.ref (γ.2.2.1 0), .int x1] h (QI r hz) := by
  unfold f_8_minutes at hr
  refine MC.of mi_8_minutes (Nat.le_of_ble_eq_true rfl) (fun ε hR => ?_)
  show VW γ ε cX8_minutes RX8 2 dd 0 [(0, .ref (γ.2.2.1 0)), (1, .int x1)] [] h
  refine VW.iload_n d8_minutes_0 1 rfl ?_
  refine VW.iconst (v := 1) d8_minutes_1 ic_1 ?_
  refine VW.sipush (v := 500) d8_minutes_2 sp_500 ?_
  refine VW.callS (As := [.int x1, .int 1, .int 500]) (st := []) d8_minutes_5 mi_8_within cs_8_57 (by decide) (dl1 hd) _ rfl (Nat.le_of_ble_eq_true rfl) rfl (c_8_within (dl hd rfl) rfl) (kI ?_)
  refine VW.if_ne 17 d8_minutes_8 (by decide) (fun c1 => ?_) (fun c1 => ?_)
  · replace hr := ip hr c1
    refine VW.aload_n d8_minutes_11 0 rfl ?_
    refine VW.iconst (v := 1) d8_minutes_12 ic_1 ?_
    obtain ⟨r3, h4, e2, hr⟩ := bno2 hr
    refine VW.callV (As := [.int 1]) (st := []) d8_minutes_13 mi_8_error cv_8_61 (oo_8 o8_0) ⟨rfl, rfl⟩ (by decide) (dl1 hd) _ rfl (Nat.le_of_ble_eq_true rfl) rfl (c_8_error (dl hd rfl) e2) (kI ?_)
    exact VW.iret d8_minutes_16 hR (rIw hr)
  · replace hr := im hr c1
    refine VW.aload_n d8_minutes_17 0 rfl ?_
    refine VW.getR (k := 0) (r := 1) d8_minutes_18 (oo_8 o8_0) rfl fl_8_10 ck8 ?_
    refine VW.getI (k := 14) d8_minutes_21 (oo_7 (rf_8_0 o8_0)) rfl fl_8_146 ck7 ?_
    refine VW.iload_n d8_minutes_24 1 rfl ?_
    refine VW.iadd d8_minutes_25 ?_
    refine VW.sipush (v := 9999) d8_minutes_26 sp_9999 ?_
    refine VW.icmp_le 38 d8_minutes_29 (by decide) (fun c5 => ?_) (fun c5 => ?_)
    · replace hr := ip hr c5
      refine VW.aload_n d8_minutes_38 0 rfl ?_
      refine VW.getR (k := 0) (r := 1) d8_minutes_39 (oo_8 o8_0) rfl fl_8_10 ck8 ?_
      refine VW.dup d8_minutes_42 rfl ?_
      refine VW.getI (k := 14) d8_minutes_43 (oo_7 (rf_8_0 o8_0)) rfl fl_8_146 ck7 ?_
      refine VW.iload_n d8_minutes_46 1 rfl ?_
      refine VW.iadd d8_minutes_47 ?_
      obtain ⟨h6, e7, hr⟩ := hlt hr
      refine VW.putI (k := 14) d8_minutes_48 (oo_7 (rf_8_0 o8_0)) rfl fl_8_146 ck7 rfl rfl rfl rfl ?_
      refine VW.heq e7 ?_
      refine VW.aload_n d8_minutes_51 0 rfl ?_
      refine VW.getR (k := 0) (r := 1) d8_minutes_52 (oo_8 o8_0) rfl fl_8_10 ck8 ?_
      refine VW.getI (k := 14) d8_minutes_55 (oo_7 (rf_8_0 o8_0)) rfl fl_8_146 ck7 ?_
      exact VW.iret d8_minutes_58 hR (rIw hr)
    · replace hr := im hr c5
      refine VW.aload_n d8_minutes_32 0 rfl ?_
      refine VW.iconst (v := 3) d8_minutes_33 ic_3 ?_
      obtain ⟨r9, h10, e8, hr⟩ := bno2 hr
      refine VW.callV (As := [.int 3]) (st := []) d8_minutes_34 mi_8_error cv_8_61 (oo_8 o8_0) ⟨rfl, rfl⟩ (by decide) (dl1 hd) _ rfl (Nat.le_of_ble_eq_true rfl) rfl (c_8_error (dl hd rfl) e8) (kI ?_)
      exact VW.iret d8_minutes_37 hR (rIw hr)
set_option maxRecDepth 100000 in
set_option maxHeartbeats 4000000 in
theorem s_8_mouth_40 {γ : Gm} {ε : En} {dd : Nat} (hd : 2 ≤ dd) {r : Int32} {hz : Hp} {x1 : Int32} {x2 : Int32} {x3 : Int32} (hR : RT γ ε (some .int) (QI r hz)) : ∀ (n : Nat) (x4 : Int32) (h : Hp), f_8_mouth_40 x1 x2 x3 n x4 h = some (r, hz) → VW γ ε cX8_mouth RX8 5 dd 40 [(0, .ref (γ.2.2.1 0)), (1, .int x1), (2, .int x2), (3, .int x3), (4, .int x4)] [] h := by
  intro n
  induction n with
  | zero =>
    intro x4 h hr
    exact nf hr
  | succ n ih =>
    intro x4 h hr
    rw [f_8_mouth_40] at hr
    refine VW.iload d8_mouth_40 4 rfl ?_
    refine VW.iload_n d8_mouth_42 2 rfl ?_
    refine VW.icmp_ge 64 d8_mouth_43 (by decide) (fun c13 => ?_) (fun c13 => ?_)
    · replace hr := ip hr c13
      refine VW.iload_n d8_mouth_64 2 rfl ?_
      exact VW.iret d8_mouth_65 hR (rIw hr)
    · replace hr := im hr c13
      refine VW.aload_n d8_mouth_46 0 rfl ?_
      refine VW.getR (k := 0) (r := 1) d8_mouth_47 (oo_8 o8_0) rfl fl_8_10 ck8 ?_
      refine VW.iload_n d8_mouth_50 1 rfl ?_
      refine VW.iload d8_mouth_51 4 rfl ?_
      refine VW.iadd d8_mouth_53 ?_
      refine VW.iload_n d8_mouth_54 3 rfl ?_
      obtain ⟨h15, e14, hr⟩ := bno hr
      refine VW.callV (As := [.int (x1 + x4), .int x3]) (st := []) d8_mouth_55 mi_7_setFilm cv_8_65 (oo_7 (rf_8_0 o8_0)) ⟨rfl, rfl⟩ (by decide) (dl1 hd) _ rfl (Nat.le_of_ble_eq_true rfl) rfl (c_7_setFilm (dl hd rfl) e14) (kV ?_)
      refine VW.iinc (w := 1) (lo' := [(4, .int (x4 + 1)), (0, .ref (γ.2.2.1 0)), (1, .int x1), (2, .int x2), (3, .int x3)]) d8_mouth_58 4 rfl ic_1 (by decide) rfl ?_
      refine VW.goto 40 d8_mouth_61 (by decide) ?_
      exact VW.sub [1, 2, 3, 4, 0] rfl (ih (x4 + 1) h15 hr)
set_option maxRecDepth 100000 in
set_option maxHeartbeats 4000000 in
theorem c_8_mouth {γ : Gm} {dd : Nat} {x1 : Int32} {x2 : Int32} {x3 : Int32} {h : Hp} {r : Int32} {hz : Hp} (hd : 2 ≤ dd) (hr : f_8_mouth x1 x2 x3 h = some (r, hz)) : MC γ dd yX8_mouth cX8_mouth 5 (some .int) [.ref (γ.2.2.1 0), .int x1, .int x2, .int x3] h (QI r hz) := by
  unfold f_8_mouth at hr
  refine MC.of mi_8_mouth (Nat.le_of_ble_eq_true rfl) (fun ε hR => ?_)
  show VW γ ε cX8_mouth RX8 5 dd 0 [(0, .ref (γ.2.2.1 0)), (1, .int x1), (2, .int x2), (3, .int x3)] [] h
  refine VW.iload_n d8_mouth_0 1 rfl ?_
  refine VW.iconst (v := 0) d8_mouth_1 ic_0 ?_
  refine VW.bipush (v := 59) d8_mouth_2 bp_59 ?_
  refine VW.callS (As := [.int x1, .int 0, .int 59]) (st := []) d8_mouth_4 mi_8_within cs_8_57 (by decide) (dl1 hd) _ rfl (Nat.le_of_ble_eq_true rfl) rfl (c_8_within (dl hd rfl) rfl) (kI ?_)
  refine VW.if_eq 31 d8_mouth_7 (by decide) (fun c1 => ?_) (fun c1 => ?_)
  · replace hr := ip hr c1
    refine VW.aload_n d8_mouth_31 0 rfl ?_
    refine VW.iconst (v := 1) d8_mouth_32 ic_1 ?_
    obtain ⟨r3, h4, e2, hr⟩ := bno2 hr
    refine VW.callV (As := [.int 1]) (st := []) d8_mouth_33 mi_8_error cv_8_61 (oo_8 o8_0) ⟨rfl, rfl⟩ (by decide) (dl1 hd) _ rfl (Nat.le_of_ble_eq_true rfl) rfl (c_8_error (dl hd rfl) e2) (kI ?_)
    exact VW.iret d8_mouth_36 hR (rIw hr)
  · replace hr := im hr c1
    refine VW.iload_n d8_mouth_10 2 rfl ?_
    refine VW.iconst (v := 1) d8_mouth_11 ic_1 ?_
    refine VW.bipush (v := 60) d8_mouth_12 bp_60 ?_
    refine VW.iload_n d8_mouth_14 1 rfl ?_
    refine VW.isub d8_mouth_15 ?_
    refine VW.callS (As := [.int x2, .int 1, .int (60 - x1)]) (st := []) d8_mouth_16 mi_8_within cs_8_57 (by decide) (dl1 hd) _ rfl (Nat.le_of_ble_eq_true rfl) rfl (c_8_within (dl hd rfl) rfl) (kI ?_)
    refine VW.if_eq 31 d8_mouth_19 (by decide) (fun c5 => ?_) (fun c5 => ?_)
    · replace hr := ip hr c5
      refine VW.aload_n d8_mouth_31 0 rfl ?_
      refine VW.iconst (v := 1) d8_mouth_32 ic_1 ?_
      obtain ⟨r7, h8, e6, hr⟩ := bno2 hr
      refine VW.callV (As := [.int 1]) (st := []) d8_mouth_33 mi_8_error cv_8_61 (oo_8 o8_0) ⟨rfl, rfl⟩ (by decide) (dl1 hd) _ rfl (Nat.le_of_ble_eq_true rfl) rfl (c_8_error (dl hd rfl) e6) (kI ?_)
      exact VW.iret d8_mouth_36 hR (rIw hr)
    · replace hr := im hr c5
      refine VW.iload_n d8_mouth_22 3 rfl ?_
      refine VW.iconst (v := 0) d8_mouth_23 ic_0 ?_
      refine VW.iconst (v := 3) d8_mouth_24 ic_3 ?_
      refine VW.callS (As := [.int x3, .int 0, .int 3]) (st := []) d8_mouth_25 mi_8_within cs_8_57 (by decide) (dl1 hd) _ rfl (Nat.le_of_ble_eq_true rfl) rfl (c_8_within (dl hd rfl) rfl) (kI ?_)
      refine VW.if_ne 37 d8_mouth_28 (by decide) (fun c9 => ?_) (fun c9 => ?_)
      · replace hr := ip hr c9
        refine VW.aload_n d8_mouth_31 0 rfl ?_
        refine VW.iconst (v := 1) d8_mouth_32 ic_1 ?_
        obtain ⟨r11, h12, e10, hr⟩ := bno2 hr
        refine VW.callV (As := [.int 1]) (st := []) d8_mouth_33 mi_8_error cv_8_61 (oo_8 o8_0) ⟨rfl, rfl⟩ (by decide) (dl1 hd) _ rfl (Nat.le_of_ble_eq_true rfl) rfl (c_8_error (dl hd rfl) e10) (kI ?_)
        exact VW.iret d8_mouth_36 hR (rIw hr)
      · replace hr := im hr c9
        refine VW.iconst (v := 0) d8_mouth_37 ic_0 ?_
        refine VW.istore (lo' := [(4, .int 0), (0, .ref (γ.2.2.1 0)), (1, .int x1), (2, .int x2), (3, .int x3)]) d8_mouth_38 (by decide) rfl ?_
        exact VW.sub [1, 2, 3, 4, 0] rfl (s_8_mouth_40 hd hR FU 0 h hr)
set_option maxRecDepth 100000 in
set_option maxHeartbeats 4000000 in
theorem c_8_mouthAt {γ : Gm} {dd : Nat} {x1 : Int32} {h : Hp} {r : Int32} {hz : Hp} (hd : 2 ≤ dd) (hr : f_8_mouthAt x1 h = some (r, hz)) : MC γ dd yX8_mouthAt cX8_mouthAt 2 (some .int) [.ref (γ.2.2.1 0), .int x1] h (QI r hz) := by
  unfold f_8_mouthAt at hr
  refine MC.of mi_8_mouthAt (Nat.le_of_ble_eq_true rfl) (fun ε hR => ?_)
  show VW γ ε cX8_mouthAt RX8 2 dd 0 [(0, .ref (γ.2.2.1 0)), (1, .int x1)] [] h
  refine VW.iload_n d8_mouthAt_0 1 rfl ?_
  refine VW.iconst (v := 0) d8_mouthAt_1 ic_0 ?_
  refine VW.bipush (v := 59) d8_mouthAt_2 bp_59 ?_
  refine VW.callS (As := [.int x1, .int 0, .int 59]) (st := []) d8_mouthAt_4 mi_8_within cs_8_57 (by decide) (dl1 hd) _ rfl (Nat.le_of_ble_eq_true rfl) rfl (c_8_within (dl hd rfl) rfl) (kI ?_)
  refine VW.if_eq 21 d8_mouthAt_7 (by decide) (fun c1 => ?_) (fun c1 => ?_)
  · replace hr := ip hr c1
    refine VW.aload_n d8_mouthAt_21 0 rfl ?_
    refine VW.iconst (v := 1) d8_mouthAt_22 ic_1 ?_
    obtain ⟨r3, h4, e2, hr⟩ := bno2 hr
    refine VW.callV (As := [.int 1]) (st := []) d8_mouthAt_23 mi_8_error cv_8_61 (oo_8 o8_0) ⟨rfl, rfl⟩ (by decide) (dl1 hd) _ rfl (Nat.le_of_ble_eq_true rfl) rfl (c_8_error (dl hd rfl) e2) (kI ?_)
    exact VW.iret d8_mouthAt_26 hR (rIw hr)
  · replace hr := im hr c1
    refine VW.aload_n d8_mouthAt_10 0 rfl ?_
    refine VW.getR (k := 0) (r := 1) d8_mouthAt_11 (oo_8 o8_0) rfl fl_8_10 ck8 ?_
    refine VW.iload_n d8_mouthAt_14 1 rfl ?_
    obtain ⟨r6, e5, hr⟩ := bno hr
    refine VW.callV (As := [.int x1]) (st := []) d8_mouthAt_15 mi_7_filmAt cv_8_69 (oo_7 (rf_8_0 o8_0)) ⟨rfl, rfl⟩ (by decide) (dl1 hd) _ rfl (Nat.le_of_ble_eq_true rfl) rfl (c_7_filmAt (dl hd rfl) e5) (kI ?_)
    refine VW.goto 26 d8_mouthAt_18 (by decide) ?_
    exact VW.iret d8_mouthAt_26 hR (rIw hr)
set_option maxRecDepth 100000 in
set_option maxHeartbeats 4000000 in
theorem s_8_mouths_43 {γ : Gm} {ε : En} {dd : Nat} (hd : 2 ≤ dd) {r : Int32} {hz : Hp} {x1 : Int32} {x2 : Int32} (hR : RT γ ε (some .int) (QI r hz)) : ∀ (n : Nat) (x3 : Int32) (h : Hp), f_8_mouths_43 x1 x2 n x3 h = some (r, hz) → VW γ ε cX8_mouths RX8 5 dd 43 [(0, .ref (γ.2.2.1 0)), (1, .int x1), (2, .int x2), (3, .int x3)] [] h := by
  intro n
  induction n with
  | zero =>
    intro x3 h hr
    exact nf hr
  | succ n ih =>
    intro x3 h hr
    rw [f_8_mouths_43] at hr
    refine VW.iload_n d8_mouths_43 3 rfl ?_
    refine VW.iload_n d8_mouths_44 2 rfl ?_
    refine VW.icmp_ge 87 d8_mouths_45 (by decide) (fun c11 => ?_) (fun c11 => ?_)
    · replace hr := ip hr c11
      refine VW.iload_n d8_mouths_87 2 rfl ?_
      exact VW.iret d8_mouths_88 hR (rIw hr)
    · replace hr := im hr c11
      refine VW.aload_n d8_mouths_48 0 rfl ?_
      refine VW.getR (k := 5) (r := 105) d8_mouths_49 (oo_8 o8_0) rfl fl_8_45 ck8 ?_
      refine VW.iload_n d8_mouths_52 1 rfl ?_
      refine VW.iload_n d8_mouths_53 3 rfl ?_
      obtain ⟨r13, e12, hr⟩ := bno hr
      refine VW.callV (As := [.int x1, .int x3]) (st := []) d8_mouths_54 mi_3_at cv_8_282 (oo_3 (rf_8_5 o8_0)) ⟨rfl, rfl⟩ (by decide) (dl1 hd) _ rfl (Nat.le_of_ble_eq_true rfl) rfl (c_3_at (dl hd rfl) e12) (kI ?_)
      refine VW.istore (lo' := [(4, .int r13), (0, .ref (γ.2.2.1 0)), (1, .int x1), (2, .int x2), (3, .int x3)]) d8_mouths_57 (by decide) rfl ?_
      refine VW.iload d8_mouths_59 0 rfl ?_
      refine VW.iconst (v := 0) d8_mouths_61 ic_0 ?_
      refine VW.iconst (v := 3) d8_mouths_62 ic_3 ?_
      refine VW.callS (As := [.int r13, .int 0, .int 3]) (st := []) d8_mouths_63 mi_8_within cs_8_57 (by decide) (dl1 hd) _ rfl (Nat.le_of_ble_eq_true rfl) rfl (c_8_within (dl hd rfl) rfl) (kI ?_)
      refine VW.if_ne 71 d8_mouths_66 (by decide) (fun c14 => ?_) (fun c14 => ?_)
      · replace hr := ip hr c14
        refine VW.iload_n d8_mouths_69 4 rfl ?_
        exact VW.iret d8_mouths_70 hR (rIw hr)
      · replace hr := im hr c14
        refine VW.aload_n d8_mouths_71 1 rfl ?_
        refine VW.getR (k := 0) (r := 1) d8_mouths_72 (oo_8 o8_0) rfl fl_8_10 ck8 ?_
        refine VW.iload_n d8_mouths_75 4 rfl ?_
        refine VW.iload d8_mouths_76 0 rfl ?_
        obtain ⟨h16, e15, hr⟩ := bno hr
        refine VW.callV (As := [.int x3, .int r13]) (st := []) d8_mouths_78 mi_7_setFilm cv_8_65 (oo_7 (rf_8_0 o8_0)) ⟨rfl, rfl⟩ (by decide) (dl1 hd) _ rfl (Nat.le_of_ble_eq_true rfl) rfl (c_7_setFilm (dl hd rfl) e15) (kV ?_)
        refine VW.iinc (w := 1) (lo' := [(3, .int (x3 + 1)), (4, .int r13), (0, .ref (γ.2.2.1 0)), (1, .int x1), (2, .int x2)]) d8_mouths_81 4 rfl ic_1 (by decide) rfl ?_
        refine VW.goto 43 d8_mouths_84 (by decide) ?_
        exact VW.sub [2, 3, 4, 0] rfl (ih (x3 + 1) h16 hr)
set_option maxRecDepth 100000 in
set_option maxHeartbeats 4000000 in
theorem c_8_mouths {γ : Gm} {dd : Nat} {x1 : Int32} {h : Hp} {r : Int32} {hz : Hp} (hd : 2 ≤ dd) (hr : f_8_mouths x1 h = some (r, hz)) : MC γ dd yX8_mouths cX8_mouths 5 (some .int) [.ref (γ.2.2.1 0), .int x1] h (QI r hz) := by
  unfold f_8_mouths at hr
  refine MC.of mi_8_mouths (Nat.le_of_ble_eq_true rfl) (fun ε hR => ?_)
  show VW γ ε cX8_mouths RX8 5 dd 0 [(0, .ref (γ.2.2.1 0)), (1, .int x1)] [] h
  refine VW.iload_n d8_mouths_0 1 rfl ?_
  refine VW.callS (As := [.int x1]) (st := []) d8_mouths_1 mi_8_isSheet cs_8_256 (by decide) (dl1 hd) _ rfl (Nat.le_of_ble_eq_true rfl) rfl (c_8_isSheet (dl hd rfl) rfl) (kI ?_)
  refine VW.if_ne 13 d8_mouths_4 (by decide) (fun c1 => ?_) (fun c1 => ?_)
  · replace hr := ip hr c1
    refine VW.aload_n d8_mouths_7 0 rfl ?_
    refine VW.iconst (v := 1) d8_mouths_8 ic_1 ?_
    obtain ⟨r3, h4, e2, hr⟩ := bno2 hr
    refine VW.callV (As := [.int 1]) (st := []) d8_mouths_9 mi_8_error cv_8_61 (oo_8 o8_0) ⟨rfl, rfl⟩ (by decide) (dl1 hd) _ rfl (Nat.le_of_ble_eq_true rfl) rfl (c_8_error (dl hd rfl) e2) (kI ?_)
    exact VW.iret d8_mouths_12 hR (rIw hr)
  · replace hr := im hr c1
    refine VW.aload_n d8_mouths_13 0 rfl ?_
    refine VW.getR (k := 5) (r := 105) d8_mouths_14 (oo_8 o8_0) rfl fl_8_45 ck8 ?_
    refine VW.getR (k := 0) (r := 106) d8_mouths_17 (oo_3 (rf_8_5 o8_0)) rfl fl_8_260 ck3 ?_
    refine VW.iload_n d8_mouths_20 1 rfl ?_
    obtain ⟨g5, hr⟩ := gdt hr
    refine VW.iald (j := (ci x1)) d8_mouths_21 (rf_3_0 (rf_8_5 o8_0)) g5 rfl ?_
    refine VW.if_ne 31 d8_mouths_22 (by decide) (fun c6 => ?_) (fun c6 => ?_)
    · replace hr := ip hr c6
      refine VW.aload_n d8_mouths_25 0 rfl ?_
      refine VW.iconst (v := 2) d8_mouths_26 ic_2 ?_
      obtain ⟨r8, h9, e7, hr⟩ := bno2 hr
      refine VW.callV (As := [.int 2]) (st := []) d8_mouths_27 mi_8_error cv_8_61 (oo_8 o8_0) ⟨rfl, rfl⟩ (by decide) (dl1 hd) _ rfl (Nat.le_of_ble_eq_true rfl) rfl (c_8_error (dl hd rfl) e7) (kI ?_)
      exact VW.iret d8_mouths_30 hR (rIw hr)
    · replace hr := im hr c6
      refine VW.aload_n d8_mouths_31 0 rfl ?_
      refine VW.getR (k := 5) (r := 105) d8_mouths_32 (oo_8 o8_0) rfl fl_8_45 ck8 ?_
      refine VW.getR (k := 1) (r := 107) d8_mouths_35 (oo_3 (rf_8_5 o8_0)) rfl fl_8_263 ck3 ?_
      refine VW.iload_n d8_mouths_38 1 rfl ?_
      obtain ⟨g10, hr⟩ := gdt hr
      refine VW.iald (j := (ci x1)) d8_mouths_39 (rf_3_1 (rf_8_5 o8_0)) g10 rfl ?_
      refine VW.istore_n (lo' := [(2, .int (h 107 (ci x1))), (0, .ref (γ.2.2.1 0)), (1, .int x1)]) d8_mouths_40 (by decide) rfl ?_
      refine VW.iconst (v := 0) d8_mouths_41 ic_0 ?_
      refine VW.istore_n (lo' := [(3, .int 0), (2, .int (h 107 (ci x1))), (0, .ref (γ.2.2.1 0)), (1, .int x1)]) d8_mouths_42 (by decide) rfl ?_
      exact VW.sub [2, 3, 1, 0] rfl (s_8_mouths_43 hd hR FU 0 h hr)
set_option maxRecDepth 100000 in
set_option maxHeartbeats 4000000 in
theorem c_8_move {γ : Gm} {dd : Nat} {x1 : Int32} {x2 : Int32} {x3 : Int32} {x4 : Int32} {x5 : Int32} {h : Hp} {r : Int32} {hz : Hp} (hd : 2 ≤ dd) (hr : f_8_move x1 x2 x3 x4 x5 h = some (r, hz)) : MC γ dd yX8_move cX8_move 6 (some .int) [.ref (γ.2.2.1 0), .int x1, .int x2, .int x3, .int x4, .int x5] h (QI r hz) := by
  unfold f_8_move at hr
  refine MC.of mi_8_move (Nat.le_of_ble_eq_true rfl) (fun ε hR => ?_)
  show VW γ ε cX8_move RX8 6 dd 0 [(0, .ref (γ.2.2.1 0)), (1, .int x1), (2, .int x2), (3, .int x3), (4, .int x4), (5, .int x5)] [] h
  refine VW.iload_n d8_move_0 1 rfl ?_
  refine VW.callS (As := [.int x1]) (st := []) d8_move_1 mi_8_isSheet cs_8_256 (by decide) (dl1 hd) _ rfl (Nat.le_of_ble_eq_true rfl) rfl (c_8_isSheet (dl hd rfl) rfl) (kI ?_)
  refine VW.if_eq 14 d8_move_4 (by decide) (fun c1 => ?_) (fun c1 => ?_)
  · replace hr := ip hr c1
    refine VW.aload_n d8_move_14 0 rfl ?_
    refine VW.iconst (v := 1) d8_move_15 ic_1 ?_
    obtain ⟨r3, h4, e2, hr⟩ := bno2 hr
    refine VW.callV (As := [.int 1]) (st := []) d8_move_16 mi_8_error cv_8_61 (oo_8 o8_0) ⟨rfl, rfl⟩ (by decide) (dl1 hd) _ rfl (Nat.le_of_ble_eq_true rfl) rfl (c_8_error (dl hd rfl) e2) (kI ?_)
    exact VW.iret d8_move_19 hR (rIw hr)
  · replace hr := im hr c1
    refine VW.iload_n d8_move_7 3 rfl ?_
    refine VW.callS (As := [.int x3]) (st := []) d8_move_8 mi_8_isSheet cs_8_256 (by decide) (dl1 hd) _ rfl (Nat.le_of_ble_eq_true rfl) rfl (c_8_isSheet (dl hd rfl) rfl) (kI ?_)
    refine VW.if_ne 20 d8_move_11 (by decide) (fun c5 => ?_) (fun c5 => ?_)
    · replace hr := ip hr c5
      refine VW.aload_n d8_move_14 0 rfl ?_
      refine VW.iconst (v := 1) d8_move_15 ic_1 ?_
      obtain ⟨r7, h8, e6, hr⟩ := bno2 hr
      refine VW.callV (As := [.int 1]) (st := []) d8_move_16 mi_8_error cv_8_61 (oo_8 o8_0) ⟨rfl, rfl⟩ (by decide) (dl1 hd) _ rfl (Nat.le_of_ble_eq_true rfl) rfl (c_8_error (dl hd rfl) e6) (kI ?_)
      exact VW.iret d8_move_19 hR (rIw hr)
    · replace hr := im hr c5
      refine VW.aload_n d8_move_20 0 rfl ?_
      refine VW.getR (k := 5) (r := 105) d8_move_21 (oo_8 o8_0) rfl fl_8_45 ck8 ?_
      refine VW.getR (k := 0) (r := 106) d8_move_24 (oo_3 (rf_8_5 o8_0)) rfl fl_8_260 ck3 ?_
      refine VW.iload_n d8_move_27 1 rfl ?_
      obtain ⟨g9, hr⟩ := gdt hr
      refine VW.iald (j := (ci x1)) d8_move_28 (rf_3_0 (rf_8_5 o8_0)) g9 rfl ?_
      refine VW.if_eq 44 d8_move_29 (by decide) (fun c10 => ?_) (fun c10 => ?_)
      · replace hr := ip hr c10
        refine VW.aload_n d8_move_44 0 rfl ?_
        refine VW.iconst (v := 2) d8_move_45 ic_2 ?_
        obtain ⟨r12, h13, e11, hr⟩ := bno2 hr
        refine VW.callV (As := [.int 2]) (st := []) d8_move_46 mi_8_error cv_8_61 (oo_8 o8_0) ⟨rfl, rfl⟩ (by decide) (dl1 hd) _ rfl (Nat.le_of_ble_eq_true rfl) rfl (c_8_error (dl hd rfl) e11) (kI ?_)
        exact VW.iret d8_move_49 hR (rIw hr)
      · replace hr := im hr c10
        refine VW.aload_n d8_move_32 0 rfl ?_
        refine VW.getR (k := 5) (r := 105) d8_move_33 (oo_8 o8_0) rfl fl_8_45 ck8 ?_
        refine VW.getR (k := 0) (r := 106) d8_move_36 (oo_3 (rf_8_5 o8_0)) rfl fl_8_260 ck3 ?_
        refine VW.iload_n d8_move_39 3 rfl ?_
        obtain ⟨g14, hr⟩ := gdt hr
        refine VW.iald (j := (ci x3)) d8_move_40 (rf_3_0 (rf_8_5 o8_0)) g14 rfl ?_
        refine VW.if_ne 50 d8_move_41 (by decide) (fun c15 => ?_) (fun c15 => ?_)
        · replace hr := ip hr c15
          refine VW.aload_n d8_move_44 0 rfl ?_
          refine VW.iconst (v := 2) d8_move_45 ic_2 ?_
          obtain ⟨r17, h18, e16, hr⟩ := bno2 hr
          refine VW.callV (As := [.int 2]) (st := []) d8_move_46 mi_8_error cv_8_61 (oo_8 o8_0) ⟨rfl, rfl⟩ (by decide) (dl1 hd) _ rfl (Nat.le_of_ble_eq_true rfl) rfl (c_8_error (dl hd rfl) e16) (kI ?_)
          exact VW.iret d8_move_49 hR (rIw hr)
        · replace hr := im hr c15
          refine VW.aload_n d8_move_50 0 rfl ?_
          refine VW.getR (k := 5) (r := 105) d8_move_51 (oo_8 o8_0) rfl fl_8_45 ck8 ?_
          refine VW.getR (k := 0) (r := 106) d8_move_54 (oo_3 (rf_8_5 o8_0)) rfl fl_8_260 ck3 ?_
          refine VW.iload_n d8_move_57 1 rfl ?_
          obtain ⟨g19, hr⟩ := gdt hr
          refine VW.iald (j := (ci x1)) d8_move_58 (rf_3_0 (rf_8_5 o8_0)) g19 rfl ?_
          refine VW.aload_n d8_move_59 0 rfl ?_
          refine VW.getR (k := 5) (r := 105) d8_move_60 (oo_8 o8_0) rfl fl_8_45 ck8 ?_
          refine VW.getR (k := 0) (r := 106) d8_move_63 (oo_3 (rf_8_5 o8_0)) rfl fl_8_260 ck3 ?_
          refine VW.iload_n d8_move_66 3 rfl ?_
          obtain ⟨g20, hr⟩ := gdt hr
          refine VW.iald (j := (ci x3)) d8_move_67 (rf_3_0 (rf_8_5 o8_0)) g20 rfl ?_
          refine VW.icmp_eq 77 d8_move_68 (by decide) (fun c21 => ?_) (fun c21 => ?_)
          · replace hr := ip hr c21
            refine VW.aload_n d8_move_77 0 rfl ?_
            refine VW.getR (k := 5) (r := 105) d8_move_78 (oo_8 o8_0) rfl fl_8_45 ck8 ?_
            refine VW.iload_n d8_move_81 1 rfl ?_
            refine VW.iload_n d8_move_82 2 rfl ?_
            refine VW.iload d8_move_83 5 rfl ?_
            obtain ⟨r23, e22, hr⟩ := bno hr
            refine VW.callV (As := [.int x1, .int x2, .int x5]) (st := []) d8_move_85 mi_3_stand cv_8_269 (oo_3 (rf_8_5 o8_0)) ⟨rfl, rfl⟩ (by decide) (dl1 hd) _ rfl (Nat.le_of_ble_eq_true rfl) rfl (c_3_stand (dl hd rfl) e22) (kI ?_)
            refine VW.if_eq 106 d8_move_88 (by decide) (fun c24 => ?_) (fun c24 => ?_)
            · replace hr := ip hr c24
              refine VW.aload_n d8_move_106 0 rfl ?_
              refine VW.iconst (v := 1) d8_move_107 ic_1 ?_
              obtain ⟨r26, h27, e25, hr⟩ := bno2 hr
              refine VW.callV (As := [.int 1]) (st := []) d8_move_108 mi_8_error cv_8_61 (oo_8 o8_0) ⟨rfl, rfl⟩ (by decide) (dl1 hd) _ rfl (Nat.le_of_ble_eq_true rfl) rfl (c_8_error (dl hd rfl) e25) (kI ?_)
              exact VW.iret d8_move_111 hR (rIw hr)
            · replace hr := im hr c24
              refine VW.aload_n d8_move_91 0 rfl ?_
              refine VW.getR (k := 5) (r := 105) d8_move_92 (oo_8 o8_0) rfl fl_8_45 ck8 ?_
              refine VW.iload_n d8_move_95 3 rfl ?_
              refine VW.iload d8_move_96 4 rfl ?_
              refine VW.iload d8_move_98 5 rfl ?_
              obtain ⟨r29, e28, hr⟩ := bno hr
              refine VW.callV (As := [.int x3, .int x4, .int x5]) (st := []) d8_move_100 mi_3_stand cv_8_269 (oo_3 (rf_8_5 o8_0)) ⟨rfl, rfl⟩ (by decide) (dl1 hd) _ rfl (Nat.le_of_ble_eq_true rfl) rfl (c_3_stand (dl hd rfl) e28) (kI ?_)
              refine VW.if_ne 112 d8_move_103 (by decide) (fun c30 => ?_) (fun c30 => ?_)
              · replace hr := ip hr c30
                refine VW.aload_n d8_move_106 0 rfl ?_
                refine VW.iconst (v := 1) d8_move_107 ic_1 ?_
                obtain ⟨r32, h33, e31, hr⟩ := bno2 hr
                refine VW.callV (As := [.int 1]) (st := []) d8_move_108 mi_8_error cv_8_61 (oo_8 o8_0) ⟨rfl, rfl⟩ (by decide) (dl1 hd) _ rfl (Nat.le_of_ble_eq_true rfl) rfl (c_8_error (dl hd rfl) e31) (kI ?_)
                exact VW.iret d8_move_111 hR (rIw hr)
              · replace hr := im hr c30
                refine VW.aload_n d8_move_112 0 rfl ?_
                refine VW.getR (k := 5) (r := 105) d8_move_113 (oo_8 o8_0) rfl fl_8_45 ck8 ?_
                refine VW.getR (k := 2) (r := 108) d8_move_116 (oo_3 (rf_8_5 o8_0)) rfl fl_8_272 ck3 ?_
                refine VW.iload_n d8_move_119 1 rfl ?_
                obtain ⟨g34, hr⟩ := gdt hr
                refine VW.aald (z := 109 + (ci x1)) d8_move_120 (rf_3_2 (rf_8_5 o8_0)) (by decide) (by decide) g34 rfl ?_
                refine VW.iload_n d8_move_121 2 rfl ?_
                refine VW.aload_n d8_move_122 0 rfl ?_
                refine VW.getR (k := 5) (r := 105) d8_move_123 (oo_8 o8_0) rfl fl_8_45 ck8 ?_
                refine VW.getR (k := 2) (r := 108) d8_move_126 (oo_3 (rf_8_5 o8_0)) rfl fl_8_272 ck3 ?_
                refine VW.iload_n d8_move_129 3 rfl ?_
                obtain ⟨g35, hr⟩ := gdt hr
                refine VW.aald (z := 109 + (ci x3)) d8_move_130 (rf_3_2 (rf_8_5 o8_0)) (by decide) (by decide) g35 rfl ?_
                refine VW.iload d8_move_131 4 rfl ?_
                refine VW.iload d8_move_133 5 rfl ?_
                obtain ⟨g36, hr⟩ := gdt hr
                obtain ⟨h37, e38, hr⟩ := hlt hr
                refine VW.copy d8_move_135 al_8_276 (dl1 hd) (Nat.le_of_ble_eq_true rfl) (re_3_2 (rf_8_5 o8_0) (inb_lt g34)) (re_3_2 (rf_8_5 o8_0) (inb_lt g35)) g36 ?_
                refine VW.heq e38 ?_
                refine VW.iload d8_move_138 5 rfl ?_
                exact VW.iret d8_move_140 hR (rIw hr)
          · replace hr := im hr c21
            refine VW.aload_n d8_move_71 0 rfl ?_
            refine VW.iconst (v := 5) d8_move_72 ic_5 ?_
            obtain ⟨r40, h41, e39, hr⟩ := bno2 hr
            refine VW.callV (As := [.int 5]) (st := []) d8_move_73 mi_8_error cv_8_61 (oo_8 o8_0) ⟨rfl, rfl⟩ (by decide) (dl1 hd) _ rfl (Nat.le_of_ble_eq_true rfl) rfl (c_8_error (dl hd rfl) e39) (kI ?_)
            exact VW.iret d8_move_76 hR (rIw hr)
set_option maxRecDepth 100000 in
set_option maxHeartbeats 4000000 in
theorem s_8_must_29 {γ : Gm} {ε : En} {dd : Nat} (hd : 4 ≤ dd) {r : Int32} {hz : Hp} {p2 : Nat} (q2 : isO 0 p2) (hR : RT γ ε (some .int) (QI r hz)) : ∀ (n : Nat) (x3 : Int32) (x4 : Int32) (h : Hp), f_8_must_29 p2 n x3 x4 h = some (r, hz) → VW γ ε cX8_must RX8 5 dd 29 [(0, .ref (γ.2.2.1 0)), (2, .ref (γ.2.2.1 p2)), (3, .int x3), (4, .int x4)] [] h := by
  intro n
  induction n with
  | zero =>
    intro x3 x4 h hr
    exact nf hr
  | succ n ih =>
    intro x3 x4 h hr
    rw [f_8_must_29] at hr
    refine VW.iload d8_must_29 3 rfl ?_
    refine VW.aload_n d8_must_31 1 rfl ?_
    refine VW.getI (k := 5) d8_must_32 (oo_0 q2) rfl fl_8_130 ck0 ?_
    refine VW.icmp_ge 65 d8_must_35 (by decide) (fun c6 => ?_) (fun c6 => ?_)
    · replace hr := ip hr c6
      refine VW.iload_n d8_must_65 2 rfl ?_
      exact VW.iret d8_must_66 hR (rIw hr)
    · replace hr := im hr c6
      refine VW.aload_n d8_must_38 0 rfl ?_
      refine VW.getR (k := 0) (r := 1) d8_must_39 (oo_8 o8_0) rfl fl_8_10 ck8 ?_
      refine VW.aload_n d8_must_42 1 rfl ?_
      refine VW.iload d8_must_43 3 rfl ?_
      refine VW.iconst (v := 1) d8_must_45 ic_1 ?_
      obtain ⟨r8, h9, e7, hr⟩ := bno2 hr
      refine VW.callV (As := [.ref (γ.2.2.1 p2), .int x4, .int 1]) (st := []) d8_must_46 mi_7_seenAt cv_8_224 (oo_7 (rf_8_0 o8_0)) ⟨rfl, rfl⟩ (by decide) (dl1 hd) _ rfl (Nat.le_of_ble_eq_true rfl) rfl (c_7_seenAt q2 (dl hd rfl) e7) (kI ?_)
      refine VW.if_eq 59 d8_must_49 (by decide) (fun c10 => ?_) (fun c10 => ?_)
      · replace hr := ip hr c10
        refine VW.iinc (w := 1) (lo' := [(4, .int (x4 + 1)), (0, .ref (γ.2.2.1 0)), (2, .ref (γ.2.2.1 p2)), (3, .int x3)]) d8_must_59 3 rfl ic_1 (by decide) rfl ?_
        refine VW.goto 29 d8_must_62 (by decide) ?_
        exact VW.sub [1, 2, 3, 0] rfl (ih x3 (x4 + 1) h9 hr)
      · replace hr := im hr c10
        refine VW.iload_n d8_must_52 2 rfl ?_
        refine VW.iconst (v := 1) d8_must_53 ic_1 ?_
        refine VW.iload d8_must_54 3 rfl ?_
        refine VW.ishl d8_must_56 ?_
        refine VW.ior d8_must_57 ?_
        refine VW.istore_n (lo' := [(3, .int (x3 ||| (1 <<< (x4 &&& 31)))), (0, .ref (γ.2.2.1 0)), (2, .ref (γ.2.2.1 p2)), (4, .int x4)]) d8_must_58 (by decide) rfl ?_
        refine VW.iinc (w := 1) (lo' := [(4, .int (x4 + 1)), (3, .int (x3 ||| (1 <<< (x4 &&& 31)))), (0, .ref (γ.2.2.1 0)), (2, .ref (γ.2.2.1 p2))]) d8_must_59 3 rfl ic_1 (by decide) rfl ?_
        refine VW.goto 29 d8_must_62 (by decide) ?_
        exact VW.sub [2, 3, 1, 0] rfl (ih (x3 ||| (1 <<< (x4 &&& 31))) (x4 + 1) h9 hr)
set_option maxRecDepth 100000 in
set_option maxHeartbeats 4000000 in
theorem c_8_must {γ : Gm} {dd : Nat} {x1 : Int32} {h : Hp} {r : Int32} {hz : Hp} (hd : 4 ≤ dd) (hr : f_8_must x1 h = some (r, hz)) : MC γ dd yX8_must cX8_must 5 (some .int) [.ref (γ.2.2.1 0), .int x1] h (QI r hz) := by
  unfold f_8_must at hr
  refine MC.of mi_8_must (Nat.le_of_ble_eq_true rfl) (fun ε hR => ?_)
  show VW γ ε cX8_must RX8 5 dd 0 [(0, .ref (γ.2.2.1 0)), (1, .int x1)] [] h
  refine VW.aload_n d8_must_0 0 rfl ?_
  refine VW.iload_n d8_must_1 1 rfl ?_
  refine VW.callV (As := [.int x1]) (st := []) d8_must_2 mi_8_isLine cv_8_119 (oo_8 o8_0) ⟨rfl, rfl⟩ (by decide) (dl1 hd) _ rfl (Nat.le_of_ble_eq_true rfl) rfl (c_8_isLine (dl hd rfl) rfl) (kI ?_)
  refine VW.if_ne 14 d8_must_5 (by decide) (fun c1 => ?_) (fun c1 => ?_)
  · replace hr := ip hr c1
    refine VW.aload_n d8_must_8 0 rfl ?_
    refine VW.iconst (v := 1) d8_must_9 ic_1 ?_
    obtain ⟨r3, h4, e2, hr⟩ := bno2 hr
    refine VW.callV (As := [.int 1]) (st := []) d8_must_10 mi_8_error cv_8_61 (oo_8 o8_0) ⟨rfl, rfl⟩ (by decide) (dl1 hd) _ rfl (Nat.le_of_ble_eq_true rfl) rfl (c_8_error (dl hd rfl) e2) (kI ?_)
    exact VW.iret d8_must_13 hR (rIw hr)
  · replace hr := im hr c1
    refine VW.aload_n d8_must_14 0 rfl ?_
    refine VW.getR (k := 0) (r := 1) d8_must_15 (oo_8 o8_0) rfl fl_8_10 ck8 ?_
    refine VW.getR (k := 2) (r := 4) d8_must_18 (oo_7 (rf_8_0 o8_0)) rfl fl_8_109 ck7 ?_
    refine VW.iload_n d8_must_21 1 rfl ?_
    obtain ⟨g5, hr⟩ := gdt hr
    refine VW.aald (z := 36 + 2 * (ci x1)) d8_must_22 (rf_7_2 (rf_8_0 o8_0)) (by decide) (by decide) g5 rfl ?_
    refine VW.astore_n (lo' := [(2, .ref (γ.2.2.1 (36 + 2 * (ci x1)))), (0, .ref (γ.2.2.1 0)), (1, .int x1)]) d8_must_23 (by decide) rfl ?_
    refine VW.iconst (v := 0) d8_must_24 ic_0 ?_
    refine VW.istore_n (lo' := [(3, .int 0), (2, .ref (γ.2.2.1 (36 + 2 * (ci x1)))), (0, .ref (γ.2.2.1 0)), (1, .int x1)]) d8_must_25 (by decide) rfl ?_
    refine VW.iconst (v := 0) d8_must_26 ic_0 ?_
    refine VW.istore (lo' := [(4, .int 0), (3, .int 0), (2, .ref (γ.2.2.1 (36 + 2 * (ci x1)))), (0, .ref (γ.2.2.1 0)), (1, .int x1)]) d8_must_27 (by decide) rfl ?_
    exact VW.sub [3, 2, 1, 0] rfl (s_8_must_29 hd (re_7_2 (rf_8_0 o8_0) (inb_lt g5)) hR FU 0 0 h hr)
set_option maxRecDepth 100000 in
set_option maxHeartbeats 4000000 in
theorem c_8_ofLine {γ : Gm} {dd : Nat} {x1 : Int32} {x2 : Int32} {h : Hp} {r : Int32} {hz : Hp} (hd : 5 ≤ dd) (hr : f_8_ofLine x1 x2 h = some (r, hz)) : MC γ dd yX8_ofLine cX8_ofLine 4 (some .int) [.ref (γ.2.2.1 0), .int x1, .int x2] h (QI r hz) := by
  unfold f_8_ofLine at hr
  refine MC.of mi_8_ofLine (Nat.le_of_ble_eq_true rfl) (fun ε hR => ?_)
  show VW γ ε cX8_ofLine RX8 4 dd 0 [(0, .ref (γ.2.2.1 0)), (1, .int x1), (2, .int x2)] [] h
  refine VW.aload_n d8_ofLine_0 0 rfl ?_
  refine VW.iload_n d8_ofLine_1 1 rfl ?_
  refine VW.callV (As := [.int x1]) (st := []) d8_ofLine_2 mi_8_isLine cv_8_119 (oo_8 o8_0) ⟨rfl, rfl⟩ (by decide) (dl1 hd) _ rfl (Nat.le_of_ble_eq_true rfl) rfl (c_8_isLine (dl hd rfl) rfl) (kI ?_)
  refine VW.if_eq 18 d8_ofLine_5 (by decide) (fun c1 => ?_) (fun c1 => ?_)
  · replace hr := ip hr c1
    refine VW.aload_n d8_ofLine_18 0 rfl ?_
    refine VW.iconst (v := 1) d8_ofLine_19 ic_1 ?_
    obtain ⟨r3, h4, e2, hr⟩ := bno2 hr
    refine VW.callV (As := [.int 1]) (st := []) d8_ofLine_20 mi_8_error cv_8_61 (oo_8 o8_0) ⟨rfl, rfl⟩ (by decide) (dl1 hd) _ rfl (Nat.le_of_ble_eq_true rfl) rfl (c_8_error (dl hd rfl) e2) (kI ?_)
    exact VW.iret d8_ofLine_23 hR (rIw hr)
  · replace hr := im hr c1
    refine VW.iload_n d8_ofLine_8 2 rfl ?_
    refine VW.iconst (v := 0) d8_ofLine_9 ic_0 ?_
    refine VW.bipush (v := 9) d8_ofLine_10 bp_9 ?_
    refine VW.callS (As := [.int x2, .int 0, .int 9]) (st := []) d8_ofLine_12 mi_8_within cs_8_57 (by decide) (dl1 hd) _ rfl (Nat.le_of_ble_eq_true rfl) rfl (c_8_within (dl hd rfl) rfl) (kI ?_)
    refine VW.if_ne 24 d8_ofLine_15 (by decide) (fun c5 => ?_) (fun c5 => ?_)
    · replace hr := ip hr c5
      refine VW.aload_n d8_ofLine_18 0 rfl ?_
      refine VW.iconst (v := 1) d8_ofLine_19 ic_1 ?_
      obtain ⟨r7, h8, e6, hr⟩ := bno2 hr
      refine VW.callV (As := [.int 1]) (st := []) d8_ofLine_20 mi_8_error cv_8_61 (oo_8 o8_0) ⟨rfl, rfl⟩ (by decide) (dl1 hd) _ rfl (Nat.le_of_ble_eq_true rfl) rfl (c_8_error (dl hd rfl) e6) (kI ?_)
      exact VW.iret d8_ofLine_23 hR (rIw hr)
    · replace hr := im hr c5
      refine VW.aload_n d8_ofLine_24 0 rfl ?_
      refine VW.getR (k := 0) (r := 1) d8_ofLine_25 (oo_8 o8_0) rfl fl_8_10 ck8 ?_
      refine VW.getR (k := 2) (r := 4) d8_ofLine_28 (oo_7 (rf_8_0 o8_0)) rfl fl_8_109 ck7 ?_
      refine VW.iload_n d8_ofLine_31 1 rfl ?_
      obtain ⟨g9, hr⟩ := gdt hr
      refine VW.aald (z := 36 + 2 * (ci x1)) d8_ofLine_32 (rf_7_2 (rf_8_0 o8_0)) (by decide) (by decide) g9 rfl ?_
      refine VW.astore_n (lo' := [(3, .ref (γ.2.2.1 (36 + 2 * (ci x1)))), (0, .ref (γ.2.2.1 0)), (1, .int x1), (2, .int x2)]) d8_ofLine_33 (by decide) rfl ?_
      refine VW.iload_n d8_ofLine_34 3 rfl ?_
      by_cases c10 : x2 = 0
      · replace hr := ip hr c10
        refine VW.tableIn (off := 49) 84 d8_ofLine_35 (by rw [c10]; decide) (by rw [c10]; decide) (by rw [c10]; decide) (by decide) ?_
        refine VW.aload_n d8_ofLine_84 0 rfl ?_
        refine VW.getI (k := 2) d8_ofLine_85 (oo_0 (re_7_2 (rf_8_0 o8_0) (inb_lt g9))) rfl fl_8_122 ck0 ?_
        exact VW.iret d8_ofLine_88 hR (rIw hr)
      · replace hr := im hr c10
        by_cases c11 : x2 = 1
        · replace hr := ip hr c11
          refine VW.tableIn (off := 54) 89 d8_ofLine_35 (by rw [c11]; decide) (by rw [c11]; decide) (by rw [c11]; decide) (by decide) ?_
          refine VW.aload_n d8_ofLine_89 0 rfl ?_
          refine VW.getI (k := 3) d8_ofLine_90 (oo_0 (re_7_2 (rf_8_0 o8_0) (inb_lt g9))) rfl fl_8_125 ck0 ?_
          exact VW.iret d8_ofLine_93 hR (rIw hr)
        · replace hr := im hr c11
          by_cases c12 : x2 = 2
          · replace hr := ip hr c12
            refine VW.tableIn (off := 59) 94 d8_ofLine_35 (by rw [c12]; decide) (by rw [c12]; decide) (by rw [c12]; decide) (by decide) ?_
            refine VW.aload_n d8_ofLine_94 0 rfl ?_
            refine VW.getI (k := 4) d8_ofLine_95 (oo_0 (re_7_2 (rf_8_0 o8_0) (inb_lt g9))) rfl fl_8_128 ck0 ?_
            exact VW.iret d8_ofLine_98 hR (rIw hr)
          · replace hr := im hr c12
            by_cases c13 : x2 = 3
            · replace hr := ip hr c13
              refine VW.tableIn (off := 64) 99 d8_ofLine_35 (by rw [c13]; decide) (by rw [c13]; decide) (by rw [c13]; decide) (by decide) ?_
              refine VW.aload_n d8_ofLine_99 0 rfl ?_
              refine VW.getI (k := 5) d8_ofLine_100 (oo_0 (re_7_2 (rf_8_0 o8_0) (inb_lt g9))) rfl fl_8_130 ck0 ?_
              exact VW.iret d8_ofLine_103 hR (rIw hr)
            · replace hr := im hr c13
              by_cases c14 : x2 = 4
              · replace hr := ip hr c14
                refine VW.tableIn (off := 69) 104 d8_ofLine_35 (by rw [c14]; decide) (by rw [c14]; decide) (by rw [c14]; decide) (by decide) ?_
                refine VW.aload_n d8_ofLine_104 0 rfl ?_
                refine VW.getI (k := 6) d8_ofLine_105 (oo_0 (re_7_2 (rf_8_0 o8_0) (inb_lt g9))) rfl fl_8_133 ck0 ?_
                exact VW.iret d8_ofLine_108 hR (rIw hr)
              · replace hr := im hr c14
                by_cases c15 : x2 = 5
                · replace hr := ip hr c15
                  refine VW.tableIn (off := 74) 109 d8_ofLine_35 (by rw [c15]; decide) (by rw [c15]; decide) (by rw [c15]; decide) (by decide) ?_
                  refine VW.aload_n d8_ofLine_109 0 rfl ?_
                  refine VW.getI (k := 1) d8_ofLine_110 (oo_0 (re_7_2 (rf_8_0 o8_0) (inb_lt g9))) rfl fl_8_136 ck0 ?_
                  exact VW.iret d8_ofLine_113 hR (rIw hr)
                · replace hr := im hr c15
                  by_cases c16 : x2 = 6
                  · replace hr := ip hr c16
                    refine VW.tableIn (off := 79) 114 d8_ofLine_35 (by rw [c16]; decide) (by rw [c16]; decide) (by rw [c16]; decide) (by decide) ?_
                    refine VW.aload_n d8_ofLine_114 1 rfl ?_
                    refine VW.getR (k := 0) (r := 1) d8_ofLine_115 (oo_8 o8_0) rfl fl_8_10 ck8 ?_
                    refine VW.aload_n d8_ofLine_118 0 rfl ?_
                    obtain ⟨r18, h19, e17, hr⟩ := bno2 hr
                    refine VW.callV (As := [.ref (γ.2.2.1 (36 + 2 * (ci x1)))]) (st := []) d8_ofLine_119 mi_7_off cv_8_139 (oo_7 (rf_8_0 o8_0)) ⟨rfl, rfl⟩ (by decide) (dl1 hd) _ rfl (Nat.le_of_ble_eq_true rfl) rfl (c_7_off (re_7_2 (rf_8_0 o8_0) (inb_lt g9)) (dl hd rfl) e17) (kI ?_)
                    exact VW.iret d8_ofLine_122 hR (rIw hr)
                  · replace hr := im hr c16
                    by_cases c20 : x2 = 7
                    · replace hr := ip hr c20
                      refine VW.tableIn (off := 88) 123 d8_ofLine_35 (by rw [c20]; decide) (by rw [c20]; decide) (by rw [c20]; decide) (by decide) ?_
                      refine VW.aload_n d8_ofLine_123 1 rfl ?_
                      refine VW.getR (k := 0) (r := 1) d8_ofLine_124 (oo_8 o8_0) rfl fl_8_10 ck8 ?_
                      refine VW.aload_n d8_ofLine_127 0 rfl ?_
                      obtain ⟨r22, e21, hr⟩ := bno hr
                      refine VW.callV (As := [.ref (γ.2.2.1 (36 + 2 * (ci x1)))]) (st := []) d8_ofLine_128 mi_7_loss cv_8_143 (oo_7 (rf_8_0 o8_0)) ⟨rfl, rfl⟩ (by decide) (dl1 hd) _ rfl (Nat.le_of_ble_eq_true rfl) rfl (c_7_loss (re_7_2 (rf_8_0 o8_0) (inb_lt g9)) (dl hd rfl) e21) (kI ?_)
                      exact VW.iret d8_ofLine_131 hR (rIw hr)
                    · replace hr := im hr c20
                      by_cases c23 : x2 = 8
                      · replace hr := ip hr c23
                        refine VW.tableIn (off := 97) 132 d8_ofLine_35 (by rw [c23]; decide) (by rw [c23]; decide) (by rw [c23]; decide) (by decide) ?_
                        refine VW.aload_n d8_ofLine_132 1 rfl ?_
                        refine VW.getR (k := 0) (r := 1) d8_ofLine_133 (oo_8 o8_0) rfl fl_8_10 ck8 ?_
                        refine VW.aload_n d8_ofLine_136 1 rfl ?_
                        refine VW.getR (k := 0) (r := 1) d8_ofLine_137 (oo_8 o8_0) rfl fl_8_10 ck8 ?_
                        refine VW.aload_n d8_ofLine_140 0 rfl ?_
                        obtain ⟨r25, h26, e24, hr⟩ := bno2 hr
                        refine VW.callV (As := [.ref (γ.2.2.1 (36 + 2 * (ci x1)))]) (st := [.ref (γ.2.2.1 1)]) d8_ofLine_141 mi_7_off cv_8_139 (oo_7 (rf_8_0 o8_0)) ⟨rfl, rfl⟩ (by decide) (dl1 hd) _ rfl (Nat.le_of_ble_eq_true rfl) rfl (c_7_off (re_7_2 (rf_8_0 o8_0) (inb_lt g9)) (dl hd rfl) e24) (kI ?_)
                        refine VW.aload_n d8_ofLine_144 1 rfl ?_
                        refine VW.getR (k := 0) (r := 1) d8_ofLine_145 (oo_8 o8_0) rfl fl_8_10 ck8 ?_
                        refine VW.aload_n d8_ofLine_148 0 rfl ?_
                        obtain ⟨r28, e27, hr⟩ := bno hr
                        refine VW.callV (As := [.ref (γ.2.2.1 (36 + 2 * (ci x1)))]) (st := [.int r25, .ref (γ.2.2.1 1)]) d8_ofLine_149 mi_7_loss cv_8_143 (oo_7 (rf_8_0 o8_0)) ⟨rfl, rfl⟩ (by decide) (dl1 hd) _ rfl (Nat.le_of_ble_eq_true rfl) rfl (c_7_loss (re_7_2 (rf_8_0 o8_0) (inb_lt g9)) (dl hd rfl) e27) (kI ?_)
                        refine VW.aload_n d8_ofLine_152 1 rfl ?_
                        refine VW.getR (k := 0) (r := 1) d8_ofLine_153 (oo_8 o8_0) rfl fl_8_10 ck8 ?_
                        refine VW.getI (k := 14) d8_ofLine_156 (oo_7 (rf_8_0 o8_0)) rfl fl_8_146 ck7 ?_
                        obtain ⟨r30, h31, e29, hr⟩ := bno2 hr
                        refine VW.callV (As := [.int r25, .int r28, .int (h26 1 14)]) (st := []) d8_ofLine_159 mi_7_noticeBy cv_8_149 (oo_7 (rf_8_0 o8_0)) ⟨rfl, rfl⟩ (by decide) (dl1 hd) _ rfl (Nat.le_of_ble_eq_true rfl) rfl (c_7_noticeBy (dl hd rfl) e29) (kI ?_)
                        refine VW.if_eq 169 d8_ofLine_162 (by decide) (fun c32 => ?_) (fun c32 => ?_)
                        · replace hr := ip hr c32
                          refine VW.iconst (v := 0) d8_ofLine_169 ic_0 ?_
                          exact VW.iret d8_ofLine_170 hR (rIw hr)
                        · replace hr := im hr c32
                          refine VW.iconst (v := 1) d8_ofLine_165 ic_1 ?_
                          refine VW.goto 170 d8_ofLine_166 (by decide) ?_
                          exact VW.iret d8_ofLine_170 hR (rIw hr)
                      · replace hr := im hr c23
                        have tc10 := lv_neT c10 (by decide : (0 : Int32).toInt = 0)
                        have tc11 := lv_neT c11 (by decide : (1 : Int32).toInt = 1)
                        have tc12 := lv_neT c12 (by decide : (2 : Int32).toInt = 2)
                        have tc13 := lv_neT c13 (by decide : (3 : Int32).toInt = 3)
                        have tc14 := lv_neT c14 (by decide : (4 : Int32).toInt = 4)
                        have tc15 := lv_neT c15 (by decide : (5 : Int32).toInt = 5)
                        have tc16 := lv_neT c16 (by decide : (6 : Int32).toInt = 6)
                        have tc20 := lv_neT c20 (by decide : (7 : Int32).toInt = 7)
                        have tc23 := lv_neT c23 (by decide : (8 : Int32).toInt = 8)
                        refine VW.tableOut 171 d8_ofLine_35 (by omega) (by decide) ?_
                        refine VW.aload_n d8_ofLine_171 0 rfl ?_
                        refine VW.getI (k := 2) d8_ofLine_172 (oo_0 (re_7_2 (rf_8_0 o8_0) (inb_lt g9))) rfl fl_8_122 ck0 ?_
                        refine VW.aload_n d8_ofLine_175 0 rfl ?_
                        refine VW.getI (k := 3) d8_ofLine_176 (oo_0 (re_7_2 (rf_8_0 o8_0) (inb_lt g9))) rfl fl_8_125 ck0 ?_
                        refine VW.iconst (v := 2) d8_ofLine_179 ic_2 ?_
                        refine VW.callS (As := [.int (h (36 + 2 * (ci x1)) 2), .int (h (36 + 2 * (ci x1)) 3), .int 2]) (st := []) d8_ofLine_180 mi_8_endsOf cs_8_153 (by decide) (dl1 hd) _ rfl (Nat.le_of_ble_eq_true rfl) rfl (c_8_endsOf (dl hd rfl) rfl) (kI ?_)
                        exact VW.iret d8_ofLine_183 hR (rIw hr)
set_option maxRecDepth 100000 in
set_option maxHeartbeats 4000000 in
theorem c_8_ofWord {γ : Gm} {dd : Nat} {x1 : Int32} {x2 : Int32} {h : Hp} {r : Int32} {hz : Hp} (hd : 2 ≤ dd) (hr : f_8_ofWord x1 x2 h = some (r, hz)) : MC γ dd yX8_ofWord cX8_ofWord 4 (some .int) [.ref (γ.2.2.1 0), .int x1, .int x2] h (QI r hz) := by
  unfold f_8_ofWord at hr
  refine MC.of mi_8_ofWord (Nat.le_of_ble_eq_true rfl) (fun ε hR => ?_)
  show VW γ ε cX8_ofWord RX8 4 dd 0 [(0, .ref (γ.2.2.1 0)), (1, .int x1), (2, .int x2)] [] h
  refine VW.iload_n d8_ofWord_0 1 rfl ?_
  refine VW.iconst (v := 0) d8_ofWord_1 ic_0 ?_
  refine VW.aload_n d8_ofWord_2 0 rfl ?_
  refine VW.getR (k := 0) (r := 1) d8_ofWord_3 (oo_8 o8_0) rfl fl_8_10 ck8 ?_
  refine VW.getI (k := 10) d8_ofWord_6 (oo_7 (rf_8_0 o8_0)) rfl fl_8_76 ck7 ?_
  refine VW.iconst (v := 1) d8_ofWord_9 ic_1 ?_
  refine VW.isub d8_ofWord_10 ?_
  refine VW.callS (As := [.int x1, .int 0, .int ((h 1 10) - 1)]) (st := []) d8_ofWord_11 mi_8_within cs_8_57 (by decide) (dl1 hd) _ rfl (Nat.le_of_ble_eq_true rfl) rfl (c_8_within (dl hd rfl) rfl) (kI ?_)
  refine VW.if_eq 26 d8_ofWord_14 (by decide) (fun c1 => ?_) (fun c1 => ?_)
  · replace hr := ip hr c1
    refine VW.aload_n d8_ofWord_26 0 rfl ?_
    refine VW.iconst (v := 1) d8_ofWord_27 ic_1 ?_
    obtain ⟨r3, h4, e2, hr⟩ := bno2 hr
    refine VW.callV (As := [.int 1]) (st := []) d8_ofWord_28 mi_8_error cv_8_61 (oo_8 o8_0) ⟨rfl, rfl⟩ (by decide) (dl1 hd) _ rfl (Nat.le_of_ble_eq_true rfl) rfl (c_8_error (dl hd rfl) e2) (kI ?_)
    exact VW.iret d8_ofWord_31 hR (rIw hr)
  · replace hr := im hr c1
    refine VW.iload_n d8_ofWord_17 2 rfl ?_
    refine VW.iconst (v := 0) d8_ofWord_18 ic_0 ?_
    refine VW.iconst (v := 2) d8_ofWord_19 ic_2 ?_
    refine VW.callS (As := [.int x2, .int 0, .int 2]) (st := []) d8_ofWord_20 mi_8_within cs_8_57 (by decide) (dl1 hd) _ rfl (Nat.le_of_ble_eq_true rfl) rfl (c_8_within (dl hd rfl) rfl) (kI ?_)
    refine VW.if_ne 32 d8_ofWord_23 (by decide) (fun c5 => ?_) (fun c5 => ?_)
    · replace hr := ip hr c5
      refine VW.aload_n d8_ofWord_26 0 rfl ?_
      refine VW.iconst (v := 1) d8_ofWord_27 ic_1 ?_
      obtain ⟨r7, h8, e6, hr⟩ := bno2 hr
      refine VW.callV (As := [.int 1]) (st := []) d8_ofWord_28 mi_8_error cv_8_61 (oo_8 o8_0) ⟨rfl, rfl⟩ (by decide) (dl1 hd) _ rfl (Nat.le_of_ble_eq_true rfl) rfl (c_8_error (dl hd rfl) e6) (kI ?_)
      exact VW.iret d8_ofWord_31 hR (rIw hr)
    · replace hr := im hr c5
      refine VW.aload_n d8_ofWord_32 0 rfl ?_
      refine VW.getR (k := 0) (r := 1) d8_ofWord_33 (oo_8 o8_0) rfl fl_8_10 ck8 ?_
      refine VW.getR (k := 1) (r := 3) d8_ofWord_36 (oo_7 (rf_8_0 o8_0)) rfl fl_8_79 ck7 ?_
      refine VW.iload_n d8_ofWord_39 1 rfl ?_
      obtain ⟨g9, hr⟩ := gdt hr
      refine VW.aald (z := 16 + 2 * (ci x1)) d8_ofWord_40 (rf_7_1 (rf_8_0 o8_0)) (by decide) (by decide) g9 rfl ?_
      refine VW.astore_n (lo' := [(3, .ref (γ.2.2.1 (16 + 2 * (ci x1)))), (0, .ref (γ.2.2.1 0)), (1, .int x1), (2, .int x2)]) d8_ofWord_41 (by decide) rfl ?_
      refine VW.iload_n d8_ofWord_42 3 rfl ?_
      refine VW.if_ne 53 d8_ofWord_43 (by decide) (fun c10 => ?_) (fun c10 => ?_)
      · replace hr := ip hr c10
        refine VW.aload_n d8_ofWord_46 0 rfl ?_
        refine VW.getI (k := 1) d8_ofWord_47 (oo_6 (re_7_1 (rf_8_0 o8_0) (inb_lt g9))) rfl fl_8_88 ck6 ?_
        refine VW.goto 69 d8_ofWord_50 (by decide) ?_
        exact VW.iret d8_ofWord_69 hR (rIw hr)
      · replace hr := im hr c10
        refine VW.iload_n d8_ofWord_53 3 rfl ?_
        refine VW.iconst (v := 1) d8_ofWord_54 ic_1 ?_
        refine VW.icmp_ne 65 d8_ofWord_55 (by decide) (fun c11 => ?_) (fun c11 => ?_)
        · replace hr := ip hr c11
          refine VW.aload_n d8_ofWord_58 0 rfl ?_
          refine VW.getI (k := 2) d8_ofWord_59 (oo_6 (re_7_1 (rf_8_0 o8_0) (inb_lt g9))) rfl fl_8_91 ck6 ?_
          refine VW.goto 69 d8_ofWord_62 (by decide) ?_
          exact VW.iret d8_ofWord_69 hR (rIw hr)
        · replace hr := im hr c11
          refine VW.aload_n d8_ofWord_65 0 rfl ?_
          refine VW.getI (k := 3) d8_ofWord_66 (oo_6 (re_7_1 (rf_8_0 o8_0) (inb_lt g9))) rfl fl_8_94 ck6 ?_
          exact VW.iret d8_ofWord_69 hR (rIw hr)
set_option maxRecDepth 100000 in
set_option maxHeartbeats 4000000 in
theorem c_8_put {γ : Gm} {dd : Nat} {x1 : Int32} {x2 : Int32} {x3 : Int32} {h : Hp} {r : Int32} {hz : Hp} (hd : 2 ≤ dd) (hr : f_8_put x1 x2 x3 h = some (r, hz)) : MC γ dd yX8_put cX8_put 4 (some .int) [.ref (γ.2.2.1 0), .int x1, .int x2, .int x3] h (QI r hz) := by
  unfold f_8_put at hr
  refine MC.of mi_8_put (Nat.le_of_ble_eq_true rfl) (fun ε hR => ?_)
  show VW γ ε cX8_put RX8 4 dd 0 [(0, .ref (γ.2.2.1 0)), (1, .int x1), (2, .int x2), (3, .int x3)] [] h
  refine VW.iload_n d8_put_0 1 rfl ?_
  refine VW.callS (As := [.int x1]) (st := []) d8_put_1 mi_8_isSheet cs_8_256 (by decide) (dl1 hd) _ rfl (Nat.le_of_ble_eq_true rfl) rfl (c_8_isSheet (dl hd rfl) rfl) (kI ?_)
  refine VW.if_ne 13 d8_put_4 (by decide) (fun c1 => ?_) (fun c1 => ?_)
  · replace hr := ip hr c1
    refine VW.aload_n d8_put_7 0 rfl ?_
    refine VW.iconst (v := 1) d8_put_8 ic_1 ?_
    obtain ⟨r3, h4, e2, hr⟩ := bno2 hr
    refine VW.callV (As := [.int 1]) (st := []) d8_put_9 mi_8_error cv_8_61 (oo_8 o8_0) ⟨rfl, rfl⟩ (by decide) (dl1 hd) _ rfl (Nat.le_of_ble_eq_true rfl) rfl (c_8_error (dl hd rfl) e2) (kI ?_)
    exact VW.iret d8_put_12 hR (rIw hr)
  · replace hr := im hr c1
    refine VW.aload_n d8_put_13 0 rfl ?_
    refine VW.getR (k := 5) (r := 105) d8_put_14 (oo_8 o8_0) rfl fl_8_45 ck8 ?_
    refine VW.getR (k := 0) (r := 106) d8_put_17 (oo_3 (rf_8_5 o8_0)) rfl fl_8_260 ck3 ?_
    refine VW.iload_n d8_put_20 1 rfl ?_
    obtain ⟨g5, hr⟩ := gdt hr
    refine VW.iald (j := (ci x1)) d8_put_21 (rf_3_0 (rf_8_5 o8_0)) g5 rfl ?_
    refine VW.if_ne 31 d8_put_22 (by decide) (fun c6 => ?_) (fun c6 => ?_)
    · replace hr := ip hr c6
      refine VW.aload_n d8_put_25 0 rfl ?_
      refine VW.iconst (v := 2) d8_put_26 ic_2 ?_
      obtain ⟨r8, h9, e7, hr⟩ := bno2 hr
      refine VW.callV (As := [.int 2]) (st := []) d8_put_27 mi_8_error cv_8_61 (oo_8 o8_0) ⟨rfl, rfl⟩ (by decide) (dl1 hd) _ rfl (Nat.le_of_ble_eq_true rfl) rfl (c_8_error (dl hd rfl) e7) (kI ?_)
      exact VW.iret d8_put_30 hR (rIw hr)
    · replace hr := im hr c6
      refine VW.iload_n d8_put_31 2 rfl ?_
      refine VW.iconst (v := 0) d8_put_32 ic_0 ?_
      refine VW.aload_n d8_put_33 0 rfl ?_
      refine VW.getR (k := 5) (r := 105) d8_put_34 (oo_8 o8_0) rfl fl_8_45 ck8 ?_
      refine VW.getR (k := 1) (r := 107) d8_put_37 (oo_3 (rf_8_5 o8_0)) rfl fl_8_263 ck3 ?_
      refine VW.iload_n d8_put_40 1 rfl ?_
      obtain ⟨g10, hr⟩ := gdt hr
      refine VW.iald (j := (ci x1)) d8_put_41 (rf_3_1 (rf_8_5 o8_0)) g10 rfl ?_
      refine VW.iconst (v := 1) d8_put_42 ic_1 ?_
      refine VW.isub d8_put_43 ?_
      refine VW.callS (As := [.int x2, .int 0, .int ((h 107 (ci x1)) - 1)]) (st := []) d8_put_44 mi_8_within cs_8_57 (by decide) (dl1 hd) _ rfl (Nat.le_of_ble_eq_true rfl) rfl (c_8_within (dl hd rfl) rfl) (kI ?_)
      refine VW.if_ne 56 d8_put_47 (by decide) (fun c11 => ?_) (fun c11 => ?_)
      · replace hr := ip hr c11
        refine VW.aload_n d8_put_50 0 rfl ?_
        refine VW.iconst (v := 1) d8_put_51 ic_1 ?_
        obtain ⟨r13, h14, e12, hr⟩ := bno2 hr
        refine VW.callV (As := [.int 1]) (st := []) d8_put_52 mi_8_error cv_8_61 (oo_8 o8_0) ⟨rfl, rfl⟩ (by decide) (dl1 hd) _ rfl (Nat.le_of_ble_eq_true rfl) rfl (c_8_error (dl hd rfl) e12) (kI ?_)
        exact VW.iret d8_put_55 hR (rIw hr)
      · replace hr := im hr c11
        refine VW.aload_n d8_put_56 0 rfl ?_
        refine VW.getR (k := 5) (r := 105) d8_put_57 (oo_8 o8_0) rfl fl_8_45 ck8 ?_
        refine VW.iload_n d8_put_60 1 rfl ?_
        refine VW.iload_n d8_put_61 2 rfl ?_
        refine VW.iload_n d8_put_62 3 rfl ?_
        obtain ⟨h16, e15, hr⟩ := bno hr
        refine VW.callV (As := [.int x1, .int x2, .int x3]) (st := []) d8_put_63 mi_3_set cv_8_266 (oo_3 (rf_8_5 o8_0)) ⟨rfl, rfl⟩ (by decide) (dl1 hd) _ rfl (Nat.le_of_ble_eq_true rfl) rfl (c_3_set (dl hd rfl) e15) (kV ?_)
        refine VW.iconst (v := 1) d8_put_66 ic_1 ?_
        exact VW.iret d8_put_67 hR (rIw hr)
set_option maxRecDepth 100000 in
set_option maxHeartbeats 4000000 in
theorem c_8_restore {γ : Gm} {dd : Nat} {h : Hp} {r : Int32} {hz : Hp} (hd : 3 ≤ dd) (hr : f_8_restore h = some (r, hz)) : MC γ dd yX8_restore cX8_restore 1 (some .int) [.ref (γ.2.2.1 0)] h (QI r hz) := by
  unfold f_8_restore at hr
  refine MC.of mi_8_restore (Nat.le_of_ble_eq_true rfl) (fun ε hR => ?_)
  show VW γ ε cX8_restore RX8 1 dd 0 [(0, .ref (γ.2.2.1 0))] [] h
  refine VW.aload_n d8_restore_0 0 rfl ?_
  refine VW.getI (k := 7) d8_restore_1 (oo_8 o8_0) rfl fl_8_53 ck8 ?_
  refine VW.if_ne 13 d8_restore_4 (by decide) (fun c1 => ?_) (fun c1 => ?_)
  · replace hr := ip hr c1
    refine VW.aload_n d8_restore_7 0 rfl ?_
    refine VW.iconst (v := 2) d8_restore_8 ic_2 ?_
    obtain ⟨r3, h4, e2, hr⟩ := bno2 hr
    refine VW.callV (As := [.int 2]) (st := []) d8_restore_9 mi_8_error cv_8_61 (oo_8 o8_0) ⟨rfl, rfl⟩ (by decide) (dl1 hd) _ rfl (Nat.le_of_ble_eq_true rfl) rfl (c_8_error (dl hd rfl) e2) (kI ?_)
    exact VW.iret d8_restore_12 hR (rIw hr)
  · replace hr := im hr c1
    refine VW.aload_n d8_restore_13 0 rfl ?_
    refine VW.getR (k := 0) (r := 1) d8_restore_14 (oo_8 o8_0) rfl fl_8_10 ck8 ?_
    refine VW.aload_n d8_restore_17 0 rfl ?_
    refine VW.getR (k := 1) (r := 48) d8_restore_18 (oo_8 o8_0) rfl fl_8_16 ck8 ?_
    obtain ⟨h6, e5, hr⟩ := bno hr
    refine VW.callV (As := [.ref (γ.2.2.1 48)]) (st := []) d8_restore_21 mi_7_copy cv_8_285 (oo_7 (rf_8_0 o8_0)) ⟨rfl, rfl⟩ (by decide) (dl1 hd) _ rfl (Nat.le_of_ble_eq_true rfl) rfl (c_7_copy (rf_8_0 o8_0) (rf_8_1 o8_0) (dl hd rfl) e5) (kV ?_)
    refine VW.aload_n d8_restore_24 0 rfl ?_
    refine VW.getR (k := 0) (r := 1) d8_restore_25 (oo_8 o8_0) rfl fl_8_10 ck8 ?_
    refine VW.getI (k := 14) d8_restore_28 (oo_7 (rf_8_0 o8_0)) rfl fl_8_146 ck7 ?_
    exact VW.iret d8_restore_31 hR (rIw hr)
set_option maxRecDepth 100000 in
set_option maxHeartbeats 4000000 in
theorem c_8_said {γ : Gm} {dd : Nat} {x1 : Int32} {x2 : Int32} {h : Hp} {r : Int32} {hz : Hp} (hd : 2 ≤ dd) (hr : f_8_said x1 x2 h = some (r, hz)) : MC γ dd yX8_said cX8_said 4 (some .int) [.ref (γ.2.2.1 0), .int x1, .int x2] h (QI r hz) := by
  unfold f_8_said at hr
  refine MC.of mi_8_said (Nat.le_of_ble_eq_true rfl) (fun ε hR => ?_)
  show VW γ ε cX8_said RX8 4 dd 0 [(0, .ref (γ.2.2.1 0)), (1, .int x1), (2, .int x2)] [] h
  refine VW.aload_n d8_said_0 0 rfl ?_
  refine VW.iload_n d8_said_1 1 rfl ?_
  refine VW.callV (As := [.int x1]) (st := []) d8_said_2 mi_8_isLine cv_8_119 (oo_8 o8_0) ⟨rfl, rfl⟩ (by decide) (dl1 hd) _ rfl (Nat.le_of_ble_eq_true rfl) rfl (c_8_isLine (dl hd rfl) rfl) (kI ?_)
  refine VW.if_eq 17 d8_said_5 (by decide) (fun c1 => ?_) (fun c1 => ?_)
  · replace hr := ip hr c1
    refine VW.aload_n d8_said_17 0 rfl ?_
    refine VW.iconst (v := 1) d8_said_18 ic_1 ?_
    obtain ⟨r3, h4, e2, hr⟩ := bno2 hr
    refine VW.callV (As := [.int 1]) (st := []) d8_said_19 mi_8_error cv_8_61 (oo_8 o8_0) ⟨rfl, rfl⟩ (by decide) (dl1 hd) _ rfl (Nat.le_of_ble_eq_true rfl) rfl (c_8_error (dl hd rfl) e2) (kI ?_)
    exact VW.iret d8_said_22 hR (rIw hr)
  · replace hr := im hr c1
    refine VW.iload_n d8_said_8 2 rfl ?_
    refine VW.iconst (v := 0) d8_said_9 ic_0 ?_
    refine VW.iconst (v := 2) d8_said_10 ic_2 ?_
    refine VW.callS (As := [.int x2, .int 0, .int 2]) (st := []) d8_said_11 mi_8_within cs_8_57 (by decide) (dl1 hd) _ rfl (Nat.le_of_ble_eq_true rfl) rfl (c_8_within (dl hd rfl) rfl) (kI ?_)
    refine VW.if_ne 23 d8_said_14 (by decide) (fun c5 => ?_) (fun c5 => ?_)
    · replace hr := ip hr c5
      refine VW.aload_n d8_said_17 0 rfl ?_
      refine VW.iconst (v := 1) d8_said_18 ic_1 ?_
      obtain ⟨r7, h8, e6, hr⟩ := bno2 hr
      refine VW.callV (As := [.int 1]) (st := []) d8_said_19 mi_8_error cv_8_61 (oo_8 o8_0) ⟨rfl, rfl⟩ (by decide) (dl1 hd) _ rfl (Nat.le_of_ble_eq_true rfl) rfl (c_8_error (dl hd rfl) e6) (kI ?_)
      exact VW.iret d8_said_22 hR (rIw hr)
    · replace hr := im hr c5
      refine VW.aload_n d8_said_23 0 rfl ?_
      refine VW.getR (k := 0) (r := 1) d8_said_24 (oo_8 o8_0) rfl fl_8_10 ck8 ?_
      refine VW.getR (k := 2) (r := 4) d8_said_27 (oo_7 (rf_8_0 o8_0)) rfl fl_8_109 ck7 ?_
      refine VW.iload_n d8_said_30 1 rfl ?_
      obtain ⟨g9, hr⟩ := gdt hr
      refine VW.aald (z := 36 + 2 * (ci x1)) d8_said_31 (rf_7_2 (rf_8_0 o8_0)) (by decide) (by decide) g9 rfl ?_
      refine VW.astore_n (lo' := [(3, .ref (γ.2.2.1 (36 + 2 * (ci x1)))), (0, .ref (γ.2.2.1 0)), (1, .int x1), (2, .int x2)]) d8_said_32 (by decide) rfl ?_
      refine VW.iload_n d8_said_33 3 rfl ?_
      refine VW.aload_n d8_said_34 0 rfl ?_
      refine VW.getI (k := 1) d8_said_35 (oo_0 (re_7_2 (rf_8_0 o8_0) (inb_lt g9))) rfl fl_8_136 ck0 ?_
      refine VW.icmp_ge 50 d8_said_38 (by decide) (fun c10 => ?_) (fun c10 => ?_)
      · replace hr := ip hr c10
        refine VW.aload_n d8_said_50 1 rfl ?_
        refine VW.iconst (v := 2) d8_said_51 ic_2 ?_
        obtain ⟨r12, h13, e11, hr⟩ := bno2 hr
        refine VW.callV (As := [.int 2]) (st := []) d8_said_52 mi_8_error cv_8_61 (oo_8 o8_0) ⟨rfl, rfl⟩ (by decide) (dl1 hd) _ rfl (Nat.le_of_ble_eq_true rfl) rfl (c_8_error (dl hd rfl) e11) (kI ?_)
        exact VW.iret d8_said_55 hR (rIw hr)
      · replace hr := im hr c10
        refine VW.aload_n d8_said_41 0 rfl ?_
        refine VW.getR (k := 0) (r := ((36 + 2 * (ci x1)) + 1)) d8_said_42 (oo_0 (re_7_2 (rf_8_0 o8_0) (inb_lt g9))) rfl fl_8_156 ck0 ?_
        refine VW.iload_n d8_said_45 3 rfl ?_
        obtain ⟨g14, hr⟩ := gdt hr
        refine VW.iald (j := (ci x2)) d8_said_46 (rf_0_0 (re_7_2 (rf_8_0 o8_0) (inb_lt g9))) g14 rfl ?_
        refine VW.goto 55 d8_said_47 (by decide) ?_
        exact VW.iret d8_said_55 hR (rIw hr)
set_option maxRecDepth 100000 in
set_option maxHeartbeats 4000000 in
theorem c_8_say {γ : Gm} {dd : Nat} {x1 : Int32} {x2 : Int32} {x3 : Int32} {x4 : Int32} {x5 : Int32} {h : Hp} {r : Int32} {hz : Hp} (hd : 5 ≤ dd) (hr : f_8_say x1 x2 x3 x4 x5 h = some (r, hz)) : MC γ dd yX8_say cX8_say 6 (some .int) [.ref (γ.2.2.1 0), .int x1, .int x2, .int x3, .int x4, .int x5] h (QI r hz) := by
  unfold f_8_say at hr
  refine MC.of mi_8_say (Nat.le_of_ble_eq_true rfl) (fun ε hR => ?_)
  show VW γ ε cX8_say RX8 6 dd 0 [(0, .ref (γ.2.2.1 0)), (1, .int x1), (2, .int x2), (3, .int x3), (4, .int x4), (5, .int x5)] [] h
  refine VW.aload_n d8_say_0 0 rfl ?_
  refine VW.iload_n d8_say_1 1 rfl ?_
  refine VW.callV (As := [.int x1]) (st := []) d8_say_2 mi_8_isLine cv_8_119 (oo_8 o8_0) ⟨rfl, rfl⟩ (by decide) (dl1 hd) _ rfl (Nat.le_of_ble_eq_true rfl) rfl (c_8_isLine (dl hd rfl) rfl) (kI ?_)
  refine VW.if_eq 30 d8_say_5 (by decide) (fun c1 => ?_) (fun c1 => ?_)
  · replace hr := ip hr c1
    refine VW.aload_n d8_say_30 0 rfl ?_
    refine VW.iconst (v := 1) d8_say_31 ic_1 ?_
    obtain ⟨r3, h4, e2, hr⟩ := bno2 hr
    refine VW.callV (As := [.int 1]) (st := []) d8_say_32 mi_8_error cv_8_61 (oo_8 o8_0) ⟨rfl, rfl⟩ (by decide) (dl1 hd) _ rfl (Nat.le_of_ble_eq_true rfl) rfl (c_8_error (dl hd rfl) e2) (kI ?_)
    exact VW.iret d8_say_35 hR (rIw hr)
  · replace hr := im hr c1
    refine VW.iload_n d8_say_8 2 rfl ?_
    refine VW.iconst (v := 0) d8_say_9 ic_0 ?_
    refine VW.iconst (v := 3) d8_say_10 ic_3 ?_
    refine VW.callS (As := [.int x2, .int 0, .int 3]) (st := []) d8_say_11 mi_8_within cs_8_57 (by decide) (dl1 hd) _ rfl (Nat.le_of_ble_eq_true rfl) rfl (c_8_within (dl hd rfl) rfl) (kI ?_)
    refine VW.if_eq 30 d8_say_14 (by decide) (fun c5 => ?_) (fun c5 => ?_)
    · replace hr := ip hr c5
      refine VW.aload_n d8_say_30 0 rfl ?_
      refine VW.iconst (v := 1) d8_say_31 ic_1 ?_
      obtain ⟨r7, h8, e6, hr⟩ := bno2 hr
      refine VW.callV (As := [.int 1]) (st := []) d8_say_32 mi_8_error cv_8_61 (oo_8 o8_0) ⟨rfl, rfl⟩ (by decide) (dl1 hd) _ rfl (Nat.le_of_ble_eq_true rfl) rfl (c_8_error (dl hd rfl) e6) (kI ?_)
      exact VW.iret d8_say_35 hR (rIw hr)
    · replace hr := im hr c5
      refine VW.aload_n d8_say_17 0 rfl ?_
      refine VW.iload_n d8_say_18 2 rfl ?_
      refine VW.iload_n d8_say_19 3 rfl ?_
      refine VW.iload d8_say_20 4 rfl ?_
      refine VW.iload d8_say_22 5 rfl ?_
      refine VW.callV (As := [.int x2, .int x3, .int x4, .int x5]) (st := []) d8_say_24 mi_8_areWords cv_8_167 (oo_8 o8_0) ⟨rfl, rfl⟩ (by decide) (dl1 hd) _ rfl (Nat.le_of_ble_eq_true rfl) rfl (c_8_areWords (dl hd rfl) rfl) (kI ?_)
      refine VW.if_ne 36 d8_say_27 (by decide) (fun c9 => ?_) (fun c9 => ?_)
      · replace hr := ip hr c9
        refine VW.aload_n d8_say_30 0 rfl ?_
        refine VW.iconst (v := 1) d8_say_31 ic_1 ?_
        obtain ⟨r11, h12, e10, hr⟩ := bno2 hr
        refine VW.callV (As := [.int 1]) (st := []) d8_say_32 mi_8_error cv_8_61 (oo_8 o8_0) ⟨rfl, rfl⟩ (by decide) (dl1 hd) _ rfl (Nat.le_of_ble_eq_true rfl) rfl (c_8_error (dl hd rfl) e10) (kI ?_)
        exact VW.iret d8_say_35 hR (rIw hr)
      · replace hr := im hr c9
        refine VW.aload_n d8_say_36 0 rfl ?_
        refine VW.getR (k := 0) (r := 1) d8_say_37 (oo_8 o8_0) rfl fl_8_10 ck8 ?_
        refine VW.getR (k := 2) (r := 4) d8_say_40 (oo_7 (rf_8_0 o8_0)) rfl fl_8_109 ck7 ?_
        refine VW.iload_n d8_say_43 1 rfl ?_
        obtain ⟨g13, hr⟩ := gdt hr
        refine VW.aald (z := 36 + 2 * (ci x1)) d8_say_44 (rf_7_2 (rf_8_0 o8_0)) (by decide) (by decide) g13 rfl ?_
        refine VW.iload_n d8_say_45 2 rfl ?_
        refine VW.iload_n d8_say_46 3 rfl ?_
        refine VW.iload d8_say_47 4 rfl ?_
        refine VW.iload d8_say_49 5 rfl ?_
        obtain ⟨h15, e14, hr⟩ := bno hr
        refine VW.callV (As := [.int x2, .int x3, .int x4, .int x5]) (st := []) d8_say_51 mi_0_setRow cv_8_171 (oo_0 (re_7_2 (rf_8_0 o8_0) (inb_lt g13))) ⟨rfl, rfl⟩ (by decide) (dl1 hd) _ rfl (Nat.le_of_ble_eq_true rfl) rfl (c_0_setRow (re_7_2 (rf_8_0 o8_0) (inb_lt g13)) (dl hd rfl) e14) (kV ?_)
        refine VW.aload_n d8_say_54 0 rfl ?_
        refine VW.getR (k := 0) (r := 1) d8_say_55 (oo_8 o8_0) rfl fl_8_10 ck8 ?_
        refine VW.aload_n d8_say_58 0 rfl ?_
        refine VW.getR (k := 0) (r := 1) d8_say_59 (oo_8 o8_0) rfl fl_8_10 ck8 ?_
        refine VW.getR (k := 2) (r := 4) d8_say_62 (oo_7 (rf_8_0 o8_0)) rfl fl_8_109 ck7 ?_
        refine VW.iload_n d8_say_65 1 rfl ?_
        obtain ⟨g16, hr⟩ := gdt hr
        refine VW.aald (z := 36 + 2 * (ci x1)) d8_say_66 (rf_7_2 (rf_8_0 o8_0)) (by decide) (by decide) g16 rfl ?_
        obtain ⟨r18, h19, e17, hr⟩ := bno2 hr
        refine VW.callV (As := [.ref (γ.2.2.1 (36 + 2 * (ci x1)))]) (st := []) d8_say_67 mi_7_off cv_8_139 (oo_7 (rf_8_0 o8_0)) ⟨rfl, rfl⟩ (by decide) (dl1 hd) _ rfl (Nat.le_of_ble_eq_true rfl) rfl (c_7_off (re_7_2 (rf_8_0 o8_0) (inb_lt g16)) (dl hd rfl) e17) (kI ?_)
        exact VW.iret d8_say_70 hR (rIw hr)
set_option maxRecDepth 100000 in
set_option maxHeartbeats 4000000 in
theorem c_8_seed {γ : Gm} {dd : Nat} {x1 : Int32} {h : Hp} {r : Int32} {hz : Hp} (hd : 0 ≤ dd) (hr : f_8_seed x1 h = some (r, hz)) : MC γ dd yX8_seed cX8_seed 3 (some .int) [.ref (γ.2.2.1 0), .int x1] h (QI r hz) := by
  unfold f_8_seed at hr
  refine MC.of mi_8_seed (Nat.le_of_ble_eq_true rfl) (fun ε hR => ?_)
  show VW γ ε cX8_seed RX8 3 dd 0 [(0, .ref (γ.2.2.1 0)), (1, .int x1)] [] h
  refine VW.aload_n d8_seed_0 0 rfl ?_
  refine VW.getR (k := 0) (r := 1) d8_seed_1 (oo_8 o8_0) rfl fl_8_10 ck8 ?_
  refine VW.getI (k := 16) d8_seed_4 (oo_7 (rf_8_0 o8_0)) rfl fl_8_245 ck7 ?_
  refine VW.istore_n (lo' := [(2, .int (h 1 16)), (0, .ref (γ.2.2.1 0)), (1, .int x1)]) d8_seed_7 (by decide) rfl ?_
  refine VW.aload_n d8_seed_8 1 rfl ?_
  refine VW.getR (k := 0) (r := 1) d8_seed_9 (oo_8 o8_0) rfl fl_8_10 ck8 ?_
  refine VW.iload_n d8_seed_12 2 rfl ?_
  obtain ⟨h1, e2, hr⟩ := hlt hr
  refine VW.putI (k := 16) d8_seed_13 (oo_7 (rf_8_0 o8_0)) rfl fl_8_245 ck7 rfl rfl rfl rfl ?_
  refine VW.heq e2 ?_
  refine VW.iload_n d8_seed_16 0 rfl ?_
  exact VW.iret d8_seed_17 hR (rIw hr)
set_option maxRecDepth 100000 in
set_option maxHeartbeats 4000000 in
theorem c_8_sheet {γ : Gm} {dd : Nat} {x1 : Int32} {x2 : Int32} {x3 : Int32} {h : Hp} {r : Int32} {hz : Hp} (hd : 2 ≤ dd) (hr : f_8_sheet x1 x2 x3 h = some (r, hz)) : MC γ dd yX8_sheet cX8_sheet 4 (some .int) [.ref (γ.2.2.1 0), .int x1, .int x2, .int x3] h (QI r hz) := by
  unfold f_8_sheet at hr
  refine MC.of mi_8_sheet (Nat.le_of_ble_eq_true rfl) (fun ε hR => ?_)
  show VW γ ε cX8_sheet RX8 4 dd 0 [(0, .ref (γ.2.2.1 0)), (1, .int x1), (2, .int x2), (3, .int x3)] [] h
  refine VW.iload_n d8_sheet_0 1 rfl ?_
  refine VW.callS (As := [.int x1]) (st := []) d8_sheet_1 mi_8_isSheet cs_8_256 (by decide) (dl1 hd) _ rfl (Nat.le_of_ble_eq_true rfl) rfl (c_8_isSheet (dl hd rfl) rfl) (kI ?_)
  refine VW.if_eq 29 d8_sheet_4 (by decide) (fun c1 => ?_) (fun c1 => ?_)
  · replace hr := ip hr c1
    refine VW.aload_n d8_sheet_29 0 rfl ?_
    refine VW.iconst (v := 1) d8_sheet_30 ic_1 ?_
    obtain ⟨r3, h4, e2, hr⟩ := bno2 hr
    refine VW.callV (As := [.int 1]) (st := []) d8_sheet_31 mi_8_error cv_8_61 (oo_8 o8_0) ⟨rfl, rfl⟩ (by decide) (dl1 hd) _ rfl (Nat.le_of_ble_eq_true rfl) rfl (c_8_error (dl hd rfl) e2) (kI ?_)
    exact VW.iret d8_sheet_34 hR (rIw hr)
  · replace hr := im hr c1
    refine VW.iload_n d8_sheet_7 2 rfl ?_
    refine VW.if_eq 35 d8_sheet_8 (by decide) (fun c5 => ?_) (fun c5 => ?_)
    · replace hr := ip hr c5
      refine VW.iload_n d8_sheet_35 2 rfl ?_
      refine VW.if_eq 49 d8_sheet_36 (by decide) (fun c6 => ?_) (fun c6 => ?_)
      · replace hr := ip hr c6
        refine VW.iload_n d8_sheet_49 2 rfl ?_
        refine VW.if_eq 65 d8_sheet_50 (by decide) (fun c7 => ?_) (fun c7 => ?_)
        · replace hr := ip hr c7
          refine VW.aload_n d8_sheet_65 0 rfl ?_
          refine VW.getR (k := 5) (r := 105) d8_sheet_66 (oo_8 o8_0) rfl fl_8_45 ck8 ?_
          refine VW.iload_n d8_sheet_69 1 rfl ?_
          refine VW.iload_n d8_sheet_70 2 rfl ?_
          refine VW.iload_n d8_sheet_71 2 rfl ?_
          refine VW.if_ne 79 d8_sheet_72 (by decide) (fun c8 => ?_) (fun c8 => ?_)
          · replace hr := ip hr c8
            refine VW.iconst (v := 0) d8_sheet_75 ic_0 ?_
            refine VW.goto 80 d8_sheet_76 (by decide) ?_
            obtain ⟨h10, e9, hr⟩ := bno hr
            refine VW.callV (As := [.int x1, .int x2, .int 0]) (st := []) d8_sheet_80 mi_3_begin cv_8_259 (oo_3 (rf_8_5 o8_0)) ⟨rfl, rfl⟩ (by decide) (dl1 hd) _ rfl (Nat.le_of_ble_eq_true rfl) rfl (c_3_begin (dl hd rfl) e9) (kV ?_)
            refine VW.iconst (v := 1) d8_sheet_83 ic_1 ?_
            exact VW.iret d8_sheet_84 hR (rIw hr)
          · replace hr := im hr c8
            refine VW.iload_n d8_sheet_79 3 rfl ?_
            obtain ⟨h12, e11, hr⟩ := bno hr
            refine VW.callV (As := [.int x1, .int x2, .int x3]) (st := []) d8_sheet_80 mi_3_begin cv_8_259 (oo_3 (rf_8_5 o8_0)) ⟨rfl, rfl⟩ (by decide) (dl1 hd) _ rfl (Nat.le_of_ble_eq_true rfl) rfl (c_3_begin (dl hd rfl) e11) (kV ?_)
            refine VW.iconst (v := 1) d8_sheet_83 ic_1 ?_
            exact VW.iret d8_sheet_84 hR (rIw hr)
        · replace hr := im hr c7
          refine VW.iload_n d8_sheet_53 3 rfl ?_
          refine VW.bipush (v := 40) d8_sheet_54 bp_40 ?_
          refine VW.icmp_le 65 d8_sheet_56 (by decide) (fun c13 => ?_) (fun c13 => ?_)
          · replace hr := ip hr c13
            refine VW.aload_n d8_sheet_65 0 rfl ?_
            refine VW.getR (k := 5) (r := 105) d8_sheet_66 (oo_8 o8_0) rfl fl_8_45 ck8 ?_
            refine VW.iload_n d8_sheet_69 1 rfl ?_
            refine VW.iload_n d8_sheet_70 2 rfl ?_
            refine VW.iload_n d8_sheet_71 2 rfl ?_
            refine VW.if_ne 79 d8_sheet_72 (by decide) (fun c14 => ?_) (fun c14 => ?_)
            · replace hr := ip hr c14
              refine VW.iconst (v := 0) d8_sheet_75 ic_0 ?_
              refine VW.goto 80 d8_sheet_76 (by decide) ?_
              obtain ⟨h16, e15, hr⟩ := bno hr
              refine VW.callV (As := [.int x1, .int x2, .int 0]) (st := []) d8_sheet_80 mi_3_begin cv_8_259 (oo_3 (rf_8_5 o8_0)) ⟨rfl, rfl⟩ (by decide) (dl1 hd) _ rfl (Nat.le_of_ble_eq_true rfl) rfl (c_3_begin (dl hd rfl) e15) (kV ?_)
              refine VW.iconst (v := 1) d8_sheet_83 ic_1 ?_
              exact VW.iret d8_sheet_84 hR (rIw hr)
            · replace hr := im hr c14
              refine VW.iload_n d8_sheet_79 3 rfl ?_
              obtain ⟨h18, e17, hr⟩ := bno hr
              refine VW.callV (As := [.int x1, .int x2, .int x3]) (st := []) d8_sheet_80 mi_3_begin cv_8_259 (oo_3 (rf_8_5 o8_0)) ⟨rfl, rfl⟩ (by decide) (dl1 hd) _ rfl (Nat.le_of_ble_eq_true rfl) rfl (c_3_begin (dl hd rfl) e17) (kV ?_)
              refine VW.iconst (v := 1) d8_sheet_83 ic_1 ?_
              exact VW.iret d8_sheet_84 hR (rIw hr)
          · replace hr := im hr c13
            refine VW.aload_n d8_sheet_59 0 rfl ?_
            refine VW.iconst (v := 1) d8_sheet_60 ic_1 ?_
            obtain ⟨r20, h21, e19, hr⟩ := bno2 hr
            refine VW.callV (As := [.int 1]) (st := []) d8_sheet_61 mi_8_error cv_8_61 (oo_8 o8_0) ⟨rfl, rfl⟩ (by decide) (dl1 hd) _ rfl (Nat.le_of_ble_eq_true rfl) rfl (c_8_error (dl hd rfl) e19) (kI ?_)
            exact VW.iret d8_sheet_64 hR (rIw hr)
      · replace hr := im hr c6
        refine VW.iload_n d8_sheet_39 3 rfl ?_
        refine VW.if_ge 49 d8_sheet_40 (by decide) (fun c22 => ?_) (fun c22 => ?_)
        · replace hr := ip hr c22
          refine VW.iload_n d8_sheet_49 2 rfl ?_
          refine VW.if_eq 65 d8_sheet_50 (by decide) (fun c23 => ?_) (fun c23 => ?_)
          · replace hr := ip hr c23
            refine VW.aload_n d8_sheet_65 0 rfl ?_
            refine VW.getR (k := 5) (r := 105) d8_sheet_66 (oo_8 o8_0) rfl fl_8_45 ck8 ?_
            refine VW.iload_n d8_sheet_69 1 rfl ?_
            refine VW.iload_n d8_sheet_70 2 rfl ?_
            refine VW.iload_n d8_sheet_71 2 rfl ?_
            refine VW.if_ne 79 d8_sheet_72 (by decide) (fun c24 => ?_) (fun c24 => ?_)
            · replace hr := ip hr c24
              refine VW.iconst (v := 0) d8_sheet_75 ic_0 ?_
              refine VW.goto 80 d8_sheet_76 (by decide) ?_
              obtain ⟨h26, e25, hr⟩ := bno hr
              refine VW.callV (As := [.int x1, .int x2, .int 0]) (st := []) d8_sheet_80 mi_3_begin cv_8_259 (oo_3 (rf_8_5 o8_0)) ⟨rfl, rfl⟩ (by decide) (dl1 hd) _ rfl (Nat.le_of_ble_eq_true rfl) rfl (c_3_begin (dl hd rfl) e25) (kV ?_)
              refine VW.iconst (v := 1) d8_sheet_83 ic_1 ?_
              exact VW.iret d8_sheet_84 hR (rIw hr)
            · replace hr := im hr c24
              refine VW.iload_n d8_sheet_79 3 rfl ?_
              obtain ⟨h28, e27, hr⟩ := bno hr
              refine VW.callV (As := [.int x1, .int x2, .int x3]) (st := []) d8_sheet_80 mi_3_begin cv_8_259 (oo_3 (rf_8_5 o8_0)) ⟨rfl, rfl⟩ (by decide) (dl1 hd) _ rfl (Nat.le_of_ble_eq_true rfl) rfl (c_3_begin (dl hd rfl) e27) (kV ?_)
              refine VW.iconst (v := 1) d8_sheet_83 ic_1 ?_
              exact VW.iret d8_sheet_84 hR (rIw hr)
          · replace hr := im hr c23
            refine VW.iload_n d8_sheet_53 3 rfl ?_
            refine VW.bipush (v := 40) d8_sheet_54 bp_40 ?_
            refine VW.icmp_le 65 d8_sheet_56 (by decide) (fun c29 => ?_) (fun c29 => ?_)
            · replace hr := ip hr c29
              refine VW.aload_n d8_sheet_65 0 rfl ?_
              refine VW.getR (k := 5) (r := 105) d8_sheet_66 (oo_8 o8_0) rfl fl_8_45 ck8 ?_
              refine VW.iload_n d8_sheet_69 1 rfl ?_
              refine VW.iload_n d8_sheet_70 2 rfl ?_
              refine VW.iload_n d8_sheet_71 2 rfl ?_
              refine VW.if_ne 79 d8_sheet_72 (by decide) (fun c30 => ?_) (fun c30 => ?_)
              · replace hr := ip hr c30
                refine VW.iconst (v := 0) d8_sheet_75 ic_0 ?_
                refine VW.goto 80 d8_sheet_76 (by decide) ?_
                obtain ⟨h32, e31, hr⟩ := bno hr
                refine VW.callV (As := [.int x1, .int x2, .int 0]) (st := []) d8_sheet_80 mi_3_begin cv_8_259 (oo_3 (rf_8_5 o8_0)) ⟨rfl, rfl⟩ (by decide) (dl1 hd) _ rfl (Nat.le_of_ble_eq_true rfl) rfl (c_3_begin (dl hd rfl) e31) (kV ?_)
                refine VW.iconst (v := 1) d8_sheet_83 ic_1 ?_
                exact VW.iret d8_sheet_84 hR (rIw hr)
              · replace hr := im hr c30
                refine VW.iload_n d8_sheet_79 3 rfl ?_
                obtain ⟨h34, e33, hr⟩ := bno hr
                refine VW.callV (As := [.int x1, .int x2, .int x3]) (st := []) d8_sheet_80 mi_3_begin cv_8_259 (oo_3 (rf_8_5 o8_0)) ⟨rfl, rfl⟩ (by decide) (dl1 hd) _ rfl (Nat.le_of_ble_eq_true rfl) rfl (c_3_begin (dl hd rfl) e33) (kV ?_)
                refine VW.iconst (v := 1) d8_sheet_83 ic_1 ?_
                exact VW.iret d8_sheet_84 hR (rIw hr)
            · replace hr := im hr c29
              refine VW.aload_n d8_sheet_59 0 rfl ?_
              refine VW.iconst (v := 1) d8_sheet_60 ic_1 ?_
              obtain ⟨r36, h37, e35, hr⟩ := bno2 hr
              refine VW.callV (As := [.int 1]) (st := []) d8_sheet_61 mi_8_error cv_8_61 (oo_8 o8_0) ⟨rfl, rfl⟩ (by decide) (dl1 hd) _ rfl (Nat.le_of_ble_eq_true rfl) rfl (c_8_error (dl hd rfl) e35) (kI ?_)
              exact VW.iret d8_sheet_64 hR (rIw hr)
        · replace hr := im hr c22
          refine VW.aload_n d8_sheet_43 0 rfl ?_
          refine VW.iconst (v := 3) d8_sheet_44 ic_3 ?_
          obtain ⟨r39, h40, e38, hr⟩ := bno2 hr
          refine VW.callV (As := [.int 3]) (st := []) d8_sheet_45 mi_8_error cv_8_61 (oo_8 o8_0) ⟨rfl, rfl⟩ (by decide) (dl1 hd) _ rfl (Nat.le_of_ble_eq_true rfl) rfl (c_8_error (dl hd rfl) e38) (kI ?_)
          exact VW.iret d8_sheet_48 hR (rIw hr)
    · replace hr := im hr c5
      refine VW.iload_n d8_sheet_11 2 rfl ?_
      refine VW.bipush (v := 8) d8_sheet_12 bp_8 ?_
      refine VW.icmp_eq 35 d8_sheet_14 (by decide) (fun c41 => ?_) (fun c41 => ?_)
      · replace hr := ip hr c41
        refine VW.iload_n d8_sheet_35 2 rfl ?_
        refine VW.if_eq 49 d8_sheet_36 (by decide) (fun c42 => ?_) (fun c42 => ?_)
        · replace hr := ip hr c42
          refine VW.iload_n d8_sheet_49 2 rfl ?_
          refine VW.if_eq 65 d8_sheet_50 (by decide) (fun c43 => ?_) (fun c43 => ?_)
          · replace hr := ip hr c43
            refine VW.aload_n d8_sheet_65 0 rfl ?_
            refine VW.getR (k := 5) (r := 105) d8_sheet_66 (oo_8 o8_0) rfl fl_8_45 ck8 ?_
            refine VW.iload_n d8_sheet_69 1 rfl ?_
            refine VW.iload_n d8_sheet_70 2 rfl ?_
            refine VW.iload_n d8_sheet_71 2 rfl ?_
            refine VW.if_ne 79 d8_sheet_72 (by decide) (fun c44 => ?_) (fun c44 => ?_)
            · replace hr := ip hr c44
              refine VW.iconst (v := 0) d8_sheet_75 ic_0 ?_
              refine VW.goto 80 d8_sheet_76 (by decide) ?_
              obtain ⟨h46, e45, hr⟩ := bno hr
              refine VW.callV (As := [.int x1, .int x2, .int 0]) (st := []) d8_sheet_80 mi_3_begin cv_8_259 (oo_3 (rf_8_5 o8_0)) ⟨rfl, rfl⟩ (by decide) (dl1 hd) _ rfl (Nat.le_of_ble_eq_true rfl) rfl (c_3_begin (dl hd rfl) e45) (kV ?_)
              refine VW.iconst (v := 1) d8_sheet_83 ic_1 ?_
              exact VW.iret d8_sheet_84 hR (rIw hr)
            · replace hr := im hr c44
              refine VW.iload_n d8_sheet_79 3 rfl ?_
              obtain ⟨h48, e47, hr⟩ := bno hr
              refine VW.callV (As := [.int x1, .int x2, .int x3]) (st := []) d8_sheet_80 mi_3_begin cv_8_259 (oo_3 (rf_8_5 o8_0)) ⟨rfl, rfl⟩ (by decide) (dl1 hd) _ rfl (Nat.le_of_ble_eq_true rfl) rfl (c_3_begin (dl hd rfl) e47) (kV ?_)
              refine VW.iconst (v := 1) d8_sheet_83 ic_1 ?_
              exact VW.iret d8_sheet_84 hR (rIw hr)
          · replace hr := im hr c43
            refine VW.iload_n d8_sheet_53 3 rfl ?_
            refine VW.bipush (v := 40) d8_sheet_54 bp_40 ?_
            refine VW.icmp_le 65 d8_sheet_56 (by decide) (fun c49 => ?_) (fun c49 => ?_)
            · replace hr := ip hr c49
              refine VW.aload_n d8_sheet_65 0 rfl ?_
              refine VW.getR (k := 5) (r := 105) d8_sheet_66 (oo_8 o8_0) rfl fl_8_45 ck8 ?_
              refine VW.iload_n d8_sheet_69 1 rfl ?_
              refine VW.iload_n d8_sheet_70 2 rfl ?_
              refine VW.iload_n d8_sheet_71 2 rfl ?_
              refine VW.if_ne 79 d8_sheet_72 (by decide) (fun c50 => ?_) (fun c50 => ?_)
              · replace hr := ip hr c50
                refine VW.iconst (v := 0) d8_sheet_75 ic_0 ?_
                refine VW.goto 80 d8_sheet_76 (by decide) ?_
                obtain ⟨h52, e51, hr⟩ := bno hr
                refine VW.callV (As := [.int x1, .int x2, .int 0]) (st := []) d8_sheet_80 mi_3_begin cv_8_259 (oo_3 (rf_8_5 o8_0)) ⟨rfl, rfl⟩ (by decide) (dl1 hd) _ rfl (Nat.le_of_ble_eq_true rfl) rfl (c_3_begin (dl hd rfl) e51) (kV ?_)
                refine VW.iconst (v := 1) d8_sheet_83 ic_1 ?_
                exact VW.iret d8_sheet_84 hR (rIw hr)
              · replace hr := im hr c50
                refine VW.iload_n d8_sheet_79 3 rfl ?_
                obtain ⟨h54, e53, hr⟩ := bno hr
                refine VW.callV (As := [.int x1, .int x2, .int x3]) (st := []) d8_sheet_80 mi_3_begin cv_8_259 (oo_3 (rf_8_5 o8_0)) ⟨rfl, rfl⟩ (by decide) (dl1 hd) _ rfl (Nat.le_of_ble_eq_true rfl) rfl (c_3_begin (dl hd rfl) e53) (kV ?_)
                refine VW.iconst (v := 1) d8_sheet_83 ic_1 ?_
                exact VW.iret d8_sheet_84 hR (rIw hr)
            · replace hr := im hr c49
              refine VW.aload_n d8_sheet_59 0 rfl ?_
              refine VW.iconst (v := 1) d8_sheet_60 ic_1 ?_
              obtain ⟨r56, h57, e55, hr⟩ := bno2 hr
              refine VW.callV (As := [.int 1]) (st := []) d8_sheet_61 mi_8_error cv_8_61 (oo_8 o8_0) ⟨rfl, rfl⟩ (by decide) (dl1 hd) _ rfl (Nat.le_of_ble_eq_true rfl) rfl (c_8_error (dl hd rfl) e55) (kI ?_)
              exact VW.iret d8_sheet_64 hR (rIw hr)
        · replace hr := im hr c42
          refine VW.iload_n d8_sheet_39 3 rfl ?_
          refine VW.if_ge 49 d8_sheet_40 (by decide) (fun c58 => ?_) (fun c58 => ?_)
          · replace hr := ip hr c58
            refine VW.iload_n d8_sheet_49 2 rfl ?_
            refine VW.if_eq 65 d8_sheet_50 (by decide) (fun c59 => ?_) (fun c59 => ?_)
            · replace hr := ip hr c59
              refine VW.aload_n d8_sheet_65 0 rfl ?_
              refine VW.getR (k := 5) (r := 105) d8_sheet_66 (oo_8 o8_0) rfl fl_8_45 ck8 ?_
              refine VW.iload_n d8_sheet_69 1 rfl ?_
              refine VW.iload_n d8_sheet_70 2 rfl ?_
              refine VW.iload_n d8_sheet_71 2 rfl ?_
              refine VW.if_ne 79 d8_sheet_72 (by decide) (fun c60 => ?_) (fun c60 => ?_)
              · replace hr := ip hr c60
                refine VW.iconst (v := 0) d8_sheet_75 ic_0 ?_
                refine VW.goto 80 d8_sheet_76 (by decide) ?_
                obtain ⟨h62, e61, hr⟩ := bno hr
                refine VW.callV (As := [.int x1, .int x2, .int 0]) (st := []) d8_sheet_80 mi_3_begin cv_8_259 (oo_3 (rf_8_5 o8_0)) ⟨rfl, rfl⟩ (by decide) (dl1 hd) _ rfl (Nat.le_of_ble_eq_true rfl) rfl (c_3_begin (dl hd rfl) e61) (kV ?_)
                refine VW.iconst (v := 1) d8_sheet_83 ic_1 ?_
                exact VW.iret d8_sheet_84 hR (rIw hr)
              · replace hr := im hr c60
                refine VW.iload_n d8_sheet_79 3 rfl ?_
                obtain ⟨h64, e63, hr⟩ := bno hr
                refine VW.callV (As := [.int x1, .int x2, .int x3]) (st := []) d8_sheet_80 mi_3_begin cv_8_259 (oo_3 (rf_8_5 o8_0)) ⟨rfl, rfl⟩ (by decide) (dl1 hd) _ rfl (Nat.le_of_ble_eq_true rfl) rfl (c_3_begin (dl hd rfl) e63) (kV ?_)
                refine VW.iconst (v := 1) d8_sheet_83 ic_1 ?_
                exact VW.iret d8_sheet_84 hR (rIw hr)
            · replace hr := im hr c59
              refine VW.iload_n d8_sheet_53 3 rfl ?_
              refine VW.bipush (v := 40) d8_sheet_54 bp_40 ?_
              refine VW.icmp_le 65 d8_sheet_56 (by decide) (fun c65 => ?_) (fun c65 => ?_)
              · replace hr := ip hr c65
                refine VW.aload_n d8_sheet_65 0 rfl ?_
                refine VW.getR (k := 5) (r := 105) d8_sheet_66 (oo_8 o8_0) rfl fl_8_45 ck8 ?_
                refine VW.iload_n d8_sheet_69 1 rfl ?_
                refine VW.iload_n d8_sheet_70 2 rfl ?_
                refine VW.iload_n d8_sheet_71 2 rfl ?_
                refine VW.if_ne 79 d8_sheet_72 (by decide) (fun c66 => ?_) (fun c66 => ?_)
                · replace hr := ip hr c66
                  refine VW.iconst (v := 0) d8_sheet_75 ic_0 ?_
                  refine VW.goto 80 d8_sheet_76 (by decide) ?_
                  obtain ⟨h68, e67, hr⟩ := bno hr
                  refine VW.callV (As := [.int x1, .int x2, .int 0]) (st := []) d8_sheet_80 mi_3_begin cv_8_259 (oo_3 (rf_8_5 o8_0)) ⟨rfl, rfl⟩ (by decide) (dl1 hd) _ rfl (Nat.le_of_ble_eq_true rfl) rfl (c_3_begin (dl hd rfl) e67) (kV ?_)
                  refine VW.iconst (v := 1) d8_sheet_83 ic_1 ?_
                  exact VW.iret d8_sheet_84 hR (rIw hr)
                · replace hr := im hr c66
                  refine VW.iload_n d8_sheet_79 3 rfl ?_
                  obtain ⟨h70, e69, hr⟩ := bno hr
                  refine VW.callV (As := [.int x1, .int x2, .int x3]) (st := []) d8_sheet_80 mi_3_begin cv_8_259 (oo_3 (rf_8_5 o8_0)) ⟨rfl, rfl⟩ (by decide) (dl1 hd) _ rfl (Nat.le_of_ble_eq_true rfl) rfl (c_3_begin (dl hd rfl) e69) (kV ?_)
                  refine VW.iconst (v := 1) d8_sheet_83 ic_1 ?_
                  exact VW.iret d8_sheet_84 hR (rIw hr)
              · replace hr := im hr c65
                refine VW.aload_n d8_sheet_59 0 rfl ?_
                refine VW.iconst (v := 1) d8_sheet_60 ic_1 ?_
                obtain ⟨r72, h73, e71, hr⟩ := bno2 hr
                refine VW.callV (As := [.int 1]) (st := []) d8_sheet_61 mi_8_error cv_8_61 (oo_8 o8_0) ⟨rfl, rfl⟩ (by decide) (dl1 hd) _ rfl (Nat.le_of_ble_eq_true rfl) rfl (c_8_error (dl hd rfl) e71) (kI ?_)
                exact VW.iret d8_sheet_64 hR (rIw hr)
          · replace hr := im hr c58
            refine VW.aload_n d8_sheet_43 0 rfl ?_
            refine VW.iconst (v := 3) d8_sheet_44 ic_3 ?_
            obtain ⟨r75, h76, e74, hr⟩ := bno2 hr
            refine VW.callV (As := [.int 3]) (st := []) d8_sheet_45 mi_8_error cv_8_61 (oo_8 o8_0) ⟨rfl, rfl⟩ (by decide) (dl1 hd) _ rfl (Nat.le_of_ble_eq_true rfl) rfl (c_8_error (dl hd rfl) e74) (kI ?_)
            exact VW.iret d8_sheet_48 hR (rIw hr)
      · replace hr := im hr c41
        refine VW.iload_n d8_sheet_17 2 rfl ?_
        refine VW.bipush (v := 16) d8_sheet_18 bp_16 ?_
        refine VW.icmp_eq 35 d8_sheet_20 (by decide) (fun c77 => ?_) (fun c77 => ?_)
        · replace hr := ip hr c77
          refine VW.iload_n d8_sheet_35 2 rfl ?_
          refine VW.if_eq 49 d8_sheet_36 (by decide) (fun c78 => ?_) (fun c78 => ?_)
          · replace hr := ip hr c78
            refine VW.iload_n d8_sheet_49 2 rfl ?_
            refine VW.if_eq 65 d8_sheet_50 (by decide) (fun c79 => ?_) (fun c79 => ?_)
            · replace hr := ip hr c79
              refine VW.aload_n d8_sheet_65 0 rfl ?_
              refine VW.getR (k := 5) (r := 105) d8_sheet_66 (oo_8 o8_0) rfl fl_8_45 ck8 ?_
              refine VW.iload_n d8_sheet_69 1 rfl ?_
              refine VW.iload_n d8_sheet_70 2 rfl ?_
              refine VW.iload_n d8_sheet_71 2 rfl ?_
              refine VW.if_ne 79 d8_sheet_72 (by decide) (fun c80 => ?_) (fun c80 => ?_)
              · replace hr := ip hr c80
                refine VW.iconst (v := 0) d8_sheet_75 ic_0 ?_
                refine VW.goto 80 d8_sheet_76 (by decide) ?_
                obtain ⟨h82, e81, hr⟩ := bno hr
                refine VW.callV (As := [.int x1, .int x2, .int 0]) (st := []) d8_sheet_80 mi_3_begin cv_8_259 (oo_3 (rf_8_5 o8_0)) ⟨rfl, rfl⟩ (by decide) (dl1 hd) _ rfl (Nat.le_of_ble_eq_true rfl) rfl (c_3_begin (dl hd rfl) e81) (kV ?_)
                refine VW.iconst (v := 1) d8_sheet_83 ic_1 ?_
                exact VW.iret d8_sheet_84 hR (rIw hr)
              · replace hr := im hr c80
                refine VW.iload_n d8_sheet_79 3 rfl ?_
                obtain ⟨h84, e83, hr⟩ := bno hr
                refine VW.callV (As := [.int x1, .int x2, .int x3]) (st := []) d8_sheet_80 mi_3_begin cv_8_259 (oo_3 (rf_8_5 o8_0)) ⟨rfl, rfl⟩ (by decide) (dl1 hd) _ rfl (Nat.le_of_ble_eq_true rfl) rfl (c_3_begin (dl hd rfl) e83) (kV ?_)
                refine VW.iconst (v := 1) d8_sheet_83 ic_1 ?_
                exact VW.iret d8_sheet_84 hR (rIw hr)
            · replace hr := im hr c79
              refine VW.iload_n d8_sheet_53 3 rfl ?_
              refine VW.bipush (v := 40) d8_sheet_54 bp_40 ?_
              refine VW.icmp_le 65 d8_sheet_56 (by decide) (fun c85 => ?_) (fun c85 => ?_)
              · replace hr := ip hr c85
                refine VW.aload_n d8_sheet_65 0 rfl ?_
                refine VW.getR (k := 5) (r := 105) d8_sheet_66 (oo_8 o8_0) rfl fl_8_45 ck8 ?_
                refine VW.iload_n d8_sheet_69 1 rfl ?_
                refine VW.iload_n d8_sheet_70 2 rfl ?_
                refine VW.iload_n d8_sheet_71 2 rfl ?_
                refine VW.if_ne 79 d8_sheet_72 (by decide) (fun c86 => ?_) (fun c86 => ?_)
                · replace hr := ip hr c86
                  refine VW.iconst (v := 0) d8_sheet_75 ic_0 ?_
                  refine VW.goto 80 d8_sheet_76 (by decide) ?_
                  obtain ⟨h88, e87, hr⟩ := bno hr
                  refine VW.callV (As := [.int x1, .int x2, .int 0]) (st := []) d8_sheet_80 mi_3_begin cv_8_259 (oo_3 (rf_8_5 o8_0)) ⟨rfl, rfl⟩ (by decide) (dl1 hd) _ rfl (Nat.le_of_ble_eq_true rfl) rfl (c_3_begin (dl hd rfl) e87) (kV ?_)
                  refine VW.iconst (v := 1) d8_sheet_83 ic_1 ?_
                  exact VW.iret d8_sheet_84 hR (rIw hr)
                · replace hr := im hr c86
                  refine VW.iload_n d8_sheet_79 3 rfl ?_
                  obtain ⟨h90, e89, hr⟩ := bno hr
                  refine VW.callV (As := [.int x1, .int x2, .int x3]) (st := []) d8_sheet_80 mi_3_begin cv_8_259 (oo_3 (rf_8_5 o8_0)) ⟨rfl, rfl⟩ (by decide) (dl1 hd) _ rfl (Nat.le_of_ble_eq_true rfl) rfl (c_3_begin (dl hd rfl) e89) (kV ?_)
                  refine VW.iconst (v := 1) d8_sheet_83 ic_1 ?_
                  exact VW.iret d8_sheet_84 hR (rIw hr)
              · replace hr := im hr c85
                refine VW.aload_n d8_sheet_59 0 rfl ?_
                refine VW.iconst (v := 1) d8_sheet_60 ic_1 ?_
                obtain ⟨r92, h93, e91, hr⟩ := bno2 hr
                refine VW.callV (As := [.int 1]) (st := []) d8_sheet_61 mi_8_error cv_8_61 (oo_8 o8_0) ⟨rfl, rfl⟩ (by decide) (dl1 hd) _ rfl (Nat.le_of_ble_eq_true rfl) rfl (c_8_error (dl hd rfl) e91) (kI ?_)
                exact VW.iret d8_sheet_64 hR (rIw hr)
          · replace hr := im hr c78
            refine VW.iload_n d8_sheet_39 3 rfl ?_
            refine VW.if_ge 49 d8_sheet_40 (by decide) (fun c94 => ?_) (fun c94 => ?_)
            · replace hr := ip hr c94
              refine VW.iload_n d8_sheet_49 2 rfl ?_
              refine VW.if_eq 65 d8_sheet_50 (by decide) (fun c95 => ?_) (fun c95 => ?_)
              · replace hr := ip hr c95
                refine VW.aload_n d8_sheet_65 0 rfl ?_
                refine VW.getR (k := 5) (r := 105) d8_sheet_66 (oo_8 o8_0) rfl fl_8_45 ck8 ?_
                refine VW.iload_n d8_sheet_69 1 rfl ?_
                refine VW.iload_n d8_sheet_70 2 rfl ?_
                refine VW.iload_n d8_sheet_71 2 rfl ?_
                refine VW.if_ne 79 d8_sheet_72 (by decide) (fun c96 => ?_) (fun c96 => ?_)
                · replace hr := ip hr c96
                  refine VW.iconst (v := 0) d8_sheet_75 ic_0 ?_
                  refine VW.goto 80 d8_sheet_76 (by decide) ?_
                  obtain ⟨h98, e97, hr⟩ := bno hr
                  refine VW.callV (As := [.int x1, .int x2, .int 0]) (st := []) d8_sheet_80 mi_3_begin cv_8_259 (oo_3 (rf_8_5 o8_0)) ⟨rfl, rfl⟩ (by decide) (dl1 hd) _ rfl (Nat.le_of_ble_eq_true rfl) rfl (c_3_begin (dl hd rfl) e97) (kV ?_)
                  refine VW.iconst (v := 1) d8_sheet_83 ic_1 ?_
                  exact VW.iret d8_sheet_84 hR (rIw hr)
                · replace hr := im hr c96
                  refine VW.iload_n d8_sheet_79 3 rfl ?_
                  obtain ⟨h100, e99, hr⟩ := bno hr
                  refine VW.callV (As := [.int x1, .int x2, .int x3]) (st := []) d8_sheet_80 mi_3_begin cv_8_259 (oo_3 (rf_8_5 o8_0)) ⟨rfl, rfl⟩ (by decide) (dl1 hd) _ rfl (Nat.le_of_ble_eq_true rfl) rfl (c_3_begin (dl hd rfl) e99) (kV ?_)
                  refine VW.iconst (v := 1) d8_sheet_83 ic_1 ?_
                  exact VW.iret d8_sheet_84 hR (rIw hr)
              · replace hr := im hr c95
                refine VW.iload_n d8_sheet_53 3 rfl ?_
                refine VW.bipush (v := 40) d8_sheet_54 bp_40 ?_
                refine VW.icmp_le 65 d8_sheet_56 (by decide) (fun c101 => ?_) (fun c101 => ?_)
                · replace hr := ip hr c101
                  refine VW.aload_n d8_sheet_65 0 rfl ?_
                  refine VW.getR (k := 5) (r := 105) d8_sheet_66 (oo_8 o8_0) rfl fl_8_45 ck8 ?_
                  refine VW.iload_n d8_sheet_69 1 rfl ?_
                  refine VW.iload_n d8_sheet_70 2 rfl ?_
                  refine VW.iload_n d8_sheet_71 2 rfl ?_
                  refine VW.if_ne 79 d8_sheet_72 (by decide) (fun c102 => ?_) (fun c102 => ?_)
                  · replace hr := ip hr c102
                    refine VW.iconst (v := 0) d8_sheet_75 ic_0 ?_
                    refine VW.goto 80 d8_sheet_76 (by decide) ?_
                    obtain ⟨h104, e103, hr⟩ := bno hr
                    refine VW.callV (As := [.int x1, .int x2, .int 0]) (st := []) d8_sheet_80 mi_3_begin cv_8_259 (oo_3 (rf_8_5 o8_0)) ⟨rfl, rfl⟩ (by decide) (dl1 hd) _ rfl (Nat.le_of_ble_eq_true rfl) rfl (c_3_begin (dl hd rfl) e103) (kV ?_)
                    refine VW.iconst (v := 1) d8_sheet_83 ic_1 ?_
                    exact VW.iret d8_sheet_84 hR (rIw hr)
                  · replace hr := im hr c102
                    refine VW.iload_n d8_sheet_79 3 rfl ?_
                    obtain ⟨h106, e105, hr⟩ := bno hr
                    refine VW.callV (As := [.int x1, .int x2, .int x3]) (st := []) d8_sheet_80 mi_3_begin cv_8_259 (oo_3 (rf_8_5 o8_0)) ⟨rfl, rfl⟩ (by decide) (dl1 hd) _ rfl (Nat.le_of_ble_eq_true rfl) rfl (c_3_begin (dl hd rfl) e105) (kV ?_)
                    refine VW.iconst (v := 1) d8_sheet_83 ic_1 ?_
                    exact VW.iret d8_sheet_84 hR (rIw hr)
                · replace hr := im hr c101
                  refine VW.aload_n d8_sheet_59 0 rfl ?_
                  refine VW.iconst (v := 1) d8_sheet_60 ic_1 ?_
                  obtain ⟨r108, h109, e107, hr⟩ := bno2 hr
                  refine VW.callV (As := [.int 1]) (st := []) d8_sheet_61 mi_8_error cv_8_61 (oo_8 o8_0) ⟨rfl, rfl⟩ (by decide) (dl1 hd) _ rfl (Nat.le_of_ble_eq_true rfl) rfl (c_8_error (dl hd rfl) e107) (kI ?_)
                  exact VW.iret d8_sheet_64 hR (rIw hr)
            · replace hr := im hr c94
              refine VW.aload_n d8_sheet_43 0 rfl ?_
              refine VW.iconst (v := 3) d8_sheet_44 ic_3 ?_
              obtain ⟨r111, h112, e110, hr⟩ := bno2 hr
              refine VW.callV (As := [.int 3]) (st := []) d8_sheet_45 mi_8_error cv_8_61 (oo_8 o8_0) ⟨rfl, rfl⟩ (by decide) (dl1 hd) _ rfl (Nat.le_of_ble_eq_true rfl) rfl (c_8_error (dl hd rfl) e110) (kI ?_)
              exact VW.iret d8_sheet_48 hR (rIw hr)
        · replace hr := im hr c77
          refine VW.iload_n d8_sheet_23 2 rfl ?_
          refine VW.bipush (v := 32) d8_sheet_24 bp_32 ?_
          refine VW.icmp_eq 35 d8_sheet_26 (by decide) (fun c113 => ?_) (fun c113 => ?_)
          · replace hr := ip hr c113
            refine VW.iload_n d8_sheet_35 2 rfl ?_
            refine VW.if_eq 49 d8_sheet_36 (by decide) (fun c114 => ?_) (fun c114 => ?_)
            · replace hr := ip hr c114
              refine VW.iload_n d8_sheet_49 2 rfl ?_
              refine VW.if_eq 65 d8_sheet_50 (by decide) (fun c115 => ?_) (fun c115 => ?_)
              · replace hr := ip hr c115
                refine VW.aload_n d8_sheet_65 0 rfl ?_
                refine VW.getR (k := 5) (r := 105) d8_sheet_66 (oo_8 o8_0) rfl fl_8_45 ck8 ?_
                refine VW.iload_n d8_sheet_69 1 rfl ?_
                refine VW.iload_n d8_sheet_70 2 rfl ?_
                refine VW.iload_n d8_sheet_71 2 rfl ?_
                refine VW.if_ne 79 d8_sheet_72 (by decide) (fun c116 => ?_) (fun c116 => ?_)
                · replace hr := ip hr c116
                  refine VW.iconst (v := 0) d8_sheet_75 ic_0 ?_
                  refine VW.goto 80 d8_sheet_76 (by decide) ?_
                  obtain ⟨h118, e117, hr⟩ := bno hr
                  refine VW.callV (As := [.int x1, .int x2, .int 0]) (st := []) d8_sheet_80 mi_3_begin cv_8_259 (oo_3 (rf_8_5 o8_0)) ⟨rfl, rfl⟩ (by decide) (dl1 hd) _ rfl (Nat.le_of_ble_eq_true rfl) rfl (c_3_begin (dl hd rfl) e117) (kV ?_)
                  refine VW.iconst (v := 1) d8_sheet_83 ic_1 ?_
                  exact VW.iret d8_sheet_84 hR (rIw hr)
                · replace hr := im hr c116
                  refine VW.iload_n d8_sheet_79 3 rfl ?_
                  obtain ⟨h120, e119, hr⟩ := bno hr
                  refine VW.callV (As := [.int x1, .int x2, .int x3]) (st := []) d8_sheet_80 mi_3_begin cv_8_259 (oo_3 (rf_8_5 o8_0)) ⟨rfl, rfl⟩ (by decide) (dl1 hd) _ rfl (Nat.le_of_ble_eq_true rfl) rfl (c_3_begin (dl hd rfl) e119) (kV ?_)
                  refine VW.iconst (v := 1) d8_sheet_83 ic_1 ?_
                  exact VW.iret d8_sheet_84 hR (rIw hr)
              · replace hr := im hr c115
                refine VW.iload_n d8_sheet_53 3 rfl ?_
                refine VW.bipush (v := 40) d8_sheet_54 bp_40 ?_
                refine VW.icmp_le 65 d8_sheet_56 (by decide) (fun c121 => ?_) (fun c121 => ?_)
                · replace hr := ip hr c121
                  refine VW.aload_n d8_sheet_65 0 rfl ?_
                  refine VW.getR (k := 5) (r := 105) d8_sheet_66 (oo_8 o8_0) rfl fl_8_45 ck8 ?_
                  refine VW.iload_n d8_sheet_69 1 rfl ?_
                  refine VW.iload_n d8_sheet_70 2 rfl ?_
                  refine VW.iload_n d8_sheet_71 2 rfl ?_
                  refine VW.if_ne 79 d8_sheet_72 (by decide) (fun c122 => ?_) (fun c122 => ?_)
                  · replace hr := ip hr c122
                    refine VW.iconst (v := 0) d8_sheet_75 ic_0 ?_
                    refine VW.goto 80 d8_sheet_76 (by decide) ?_
                    obtain ⟨h124, e123, hr⟩ := bno hr
                    refine VW.callV (As := [.int x1, .int x2, .int 0]) (st := []) d8_sheet_80 mi_3_begin cv_8_259 (oo_3 (rf_8_5 o8_0)) ⟨rfl, rfl⟩ (by decide) (dl1 hd) _ rfl (Nat.le_of_ble_eq_true rfl) rfl (c_3_begin (dl hd rfl) e123) (kV ?_)
                    refine VW.iconst (v := 1) d8_sheet_83 ic_1 ?_
                    exact VW.iret d8_sheet_84 hR (rIw hr)
                  · replace hr := im hr c122
                    refine VW.iload_n d8_sheet_79 3 rfl ?_
                    obtain ⟨h126, e125, hr⟩ := bno hr
                    refine VW.callV (As := [.int x1, .int x2, .int x3]) (st := []) d8_sheet_80 mi_3_begin cv_8_259 (oo_3 (rf_8_5 o8_0)) ⟨rfl, rfl⟩ (by decide) (dl1 hd) _ rfl (Nat.le_of_ble_eq_true rfl) rfl (c_3_begin (dl hd rfl) e125) (kV ?_)
                    refine VW.iconst (v := 1) d8_sheet_83 ic_1 ?_
                    exact VW.iret d8_sheet_84 hR (rIw hr)
                · replace hr := im hr c121
                  refine VW.aload_n d8_sheet_59 0 rfl ?_
                  refine VW.iconst (v := 1) d8_sheet_60 ic_1 ?_
                  obtain ⟨r128, h129, e127, hr⟩ := bno2 hr
                  refine VW.callV (As := [.int 1]) (st := []) d8_sheet_61 mi_8_error cv_8_61 (oo_8 o8_0) ⟨rfl, rfl⟩ (by decide) (dl1 hd) _ rfl (Nat.le_of_ble_eq_true rfl) rfl (c_8_error (dl hd rfl) e127) (kI ?_)
                  exact VW.iret d8_sheet_64 hR (rIw hr)
            · replace hr := im hr c114
              refine VW.iload_n d8_sheet_39 3 rfl ?_
              refine VW.if_ge 49 d8_sheet_40 (by decide) (fun c130 => ?_) (fun c130 => ?_)
              · replace hr := ip hr c130
                refine VW.iload_n d8_sheet_49 2 rfl ?_
                refine VW.if_eq 65 d8_sheet_50 (by decide) (fun c131 => ?_) (fun c131 => ?_)
                · replace hr := ip hr c131
                  refine VW.aload_n d8_sheet_65 0 rfl ?_
                  refine VW.getR (k := 5) (r := 105) d8_sheet_66 (oo_8 o8_0) rfl fl_8_45 ck8 ?_
                  refine VW.iload_n d8_sheet_69 1 rfl ?_
                  refine VW.iload_n d8_sheet_70 2 rfl ?_
                  refine VW.iload_n d8_sheet_71 2 rfl ?_
                  refine VW.if_ne 79 d8_sheet_72 (by decide) (fun c132 => ?_) (fun c132 => ?_)
                  · replace hr := ip hr c132
                    refine VW.iconst (v := 0) d8_sheet_75 ic_0 ?_
                    refine VW.goto 80 d8_sheet_76 (by decide) ?_
                    obtain ⟨h134, e133, hr⟩ := bno hr
                    refine VW.callV (As := [.int x1, .int x2, .int 0]) (st := []) d8_sheet_80 mi_3_begin cv_8_259 (oo_3 (rf_8_5 o8_0)) ⟨rfl, rfl⟩ (by decide) (dl1 hd) _ rfl (Nat.le_of_ble_eq_true rfl) rfl (c_3_begin (dl hd rfl) e133) (kV ?_)
                    refine VW.iconst (v := 1) d8_sheet_83 ic_1 ?_
                    exact VW.iret d8_sheet_84 hR (rIw hr)
                  · replace hr := im hr c132
                    refine VW.iload_n d8_sheet_79 3 rfl ?_
                    obtain ⟨h136, e135, hr⟩ := bno hr
                    refine VW.callV (As := [.int x1, .int x2, .int x3]) (st := []) d8_sheet_80 mi_3_begin cv_8_259 (oo_3 (rf_8_5 o8_0)) ⟨rfl, rfl⟩ (by decide) (dl1 hd) _ rfl (Nat.le_of_ble_eq_true rfl) rfl (c_3_begin (dl hd rfl) e135) (kV ?_)
                    refine VW.iconst (v := 1) d8_sheet_83 ic_1 ?_
                    exact VW.iret d8_sheet_84 hR (rIw hr)
                · replace hr := im hr c131
                  refine VW.iload_n d8_sheet_53 3 rfl ?_
                  refine VW.bipush (v := 40) d8_sheet_54 bp_40 ?_
                  refine VW.icmp_le 65 d8_sheet_56 (by decide) (fun c137 => ?_) (fun c137 => ?_)
                  · replace hr := ip hr c137
                    refine VW.aload_n d8_sheet_65 0 rfl ?_
                    refine VW.getR (k := 5) (r := 105) d8_sheet_66 (oo_8 o8_0) rfl fl_8_45 ck8 ?_
                    refine VW.iload_n d8_sheet_69 1 rfl ?_
                    refine VW.iload_n d8_sheet_70 2 rfl ?_
                    refine VW.iload_n d8_sheet_71 2 rfl ?_
                    refine VW.if_ne 79 d8_sheet_72 (by decide) (fun c138 => ?_) (fun c138 => ?_)
                    · replace hr := ip hr c138
                      refine VW.iconst (v := 0) d8_sheet_75 ic_0 ?_
                      refine VW.goto 80 d8_sheet_76 (by decide) ?_
                      obtain ⟨h140, e139, hr⟩ := bno hr
                      refine VW.callV (As := [.int x1, .int x2, .int 0]) (st := []) d8_sheet_80 mi_3_begin cv_8_259 (oo_3 (rf_8_5 o8_0)) ⟨rfl, rfl⟩ (by decide) (dl1 hd) _ rfl (Nat.le_of_ble_eq_true rfl) rfl (c_3_begin (dl hd rfl) e139) (kV ?_)
                      refine VW.iconst (v := 1) d8_sheet_83 ic_1 ?_
                      exact VW.iret d8_sheet_84 hR (rIw hr)
                    · replace hr := im hr c138
                      refine VW.iload_n d8_sheet_79 3 rfl ?_
                      obtain ⟨h142, e141, hr⟩ := bno hr
                      refine VW.callV (As := [.int x1, .int x2, .int x3]) (st := []) d8_sheet_80 mi_3_begin cv_8_259 (oo_3 (rf_8_5 o8_0)) ⟨rfl, rfl⟩ (by decide) (dl1 hd) _ rfl (Nat.le_of_ble_eq_true rfl) rfl (c_3_begin (dl hd rfl) e141) (kV ?_)
                      refine VW.iconst (v := 1) d8_sheet_83 ic_1 ?_
                      exact VW.iret d8_sheet_84 hR (rIw hr)
                  · replace hr := im hr c137
                    refine VW.aload_n d8_sheet_59 0 rfl ?_
                    refine VW.iconst (v := 1) d8_sheet_60 ic_1 ?_
                    obtain ⟨r144, h145, e143, hr⟩ := bno2 hr
                    refine VW.callV (As := [.int 1]) (st := []) d8_sheet_61 mi_8_error cv_8_61 (oo_8 o8_0) ⟨rfl, rfl⟩ (by decide) (dl1 hd) _ rfl (Nat.le_of_ble_eq_true rfl) rfl (c_8_error (dl hd rfl) e143) (kI ?_)
                    exact VW.iret d8_sheet_64 hR (rIw hr)
              · replace hr := im hr c130
                refine VW.aload_n d8_sheet_43 0 rfl ?_
                refine VW.iconst (v := 3) d8_sheet_44 ic_3 ?_
                obtain ⟨r147, h148, e146, hr⟩ := bno2 hr
                refine VW.callV (As := [.int 3]) (st := []) d8_sheet_45 mi_8_error cv_8_61 (oo_8 o8_0) ⟨rfl, rfl⟩ (by decide) (dl1 hd) _ rfl (Nat.le_of_ble_eq_true rfl) rfl (c_8_error (dl hd rfl) e146) (kI ?_)
                exact VW.iret d8_sheet_48 hR (rIw hr)
          · replace hr := im hr c113
            refine VW.aload_n d8_sheet_29 0 rfl ?_
            refine VW.iconst (v := 1) d8_sheet_30 ic_1 ?_
            obtain ⟨r150, h151, e149, hr⟩ := bno2 hr
            refine VW.callV (As := [.int 1]) (st := []) d8_sheet_31 mi_8_error cv_8_61 (oo_8 o8_0) ⟨rfl, rfl⟩ (by decide) (dl1 hd) _ rfl (Nat.le_of_ble_eq_true rfl) rfl (c_8_error (dl hd rfl) e149) (kI ?_)
            exact VW.iret d8_sheet_34 hR (rIw hr)
set_option maxRecDepth 100000 in
set_option maxHeartbeats 4000000 in
theorem s_8_takes_62 {γ : Gm} {ε : En} {dd : Nat} (hd : 2 ≤ dd) {r : Int64} {hz : Hp} {x3 : Int32} (hR : RT γ ε (some .long) (QL r hz)) : ∀ (n : Nat) (x4 : Int64) (x6 : Int64) (x8 : Int32) (h : Hp), f_8_takes_62 x3 n x4 x6 x8 h = some (r, hz) → VW γ ε cX8_takes RX8 9 dd 62 [(3, .int x3), (4, .long x4), (6, .long x6), (8, .int x8)] [] h := by
  intro n
  induction n with
  | zero =>
    intro x4 x6 x8 h hr
    exact nf hr
  | succ n ih =>
    intro x4 x6 x8 h hr
    rw [f_8_takes_62] at hr
    refine VW.iload d8_takes_62 3 rfl ?_
    refine VW.bipush (v := 24) d8_takes_64 bp_24 ?_
    refine VW.icmp_ge 113 d8_takes_66 (by decide) (fun c17 => ?_) (fun c17 => ?_)
    · replace hr := ip hr c17
      refine VW.iload_n d8_takes_113 0 rfl ?_
      refine VW.if_ne 122 d8_takes_114 (by decide) (fun c18 => ?_) (fun c18 => ?_)
      · replace hr := ip hr c18
        refine VW.lload d8_takes_117 2 rfl ?_
        refine VW.goto 124 d8_takes_119 (by decide) ?_
        exact VW.lret d8_takes_124 hR (rLw hr)
      · replace hr := im hr c18
        refine VW.lload d8_takes_122 1 rfl ?_
        exact VW.lret d8_takes_124 hR (rLw hr)
    · replace hr := im hr c17
      refine VW.lload d8_takes_69 2 rfl ?_
      refine VW.ldc2 (v := 2) d8_takes_71 kc_8_243 ?_
      refine VW.lrem d8_takes_74 (by decide) ?_
      refine VW.lconst (v := 0) d8_takes_75 (by decide) ?_
      refine VW.lcmp d8_takes_76 ?_
      refine VW.if_ne 113 d8_takes_77 (by decide) (fun c19 => ?_) (fun c19 => ?_)
      · replace hr := ip hr c19
        refine VW.lload d8_takes_80 1 rfl ?_
        refine VW.ldc2 (v := 2) d8_takes_82 kc_8_243 ?_
        refine VW.lrem d8_takes_85 (by decide) ?_
        refine VW.lconst (v := 0) d8_takes_86 (by decide) ?_
        refine VW.lcmp d8_takes_87 ?_
        refine VW.if_ne 113 d8_takes_88 (by decide) (fun c20 => ?_) (fun c20 => ?_)
        · replace hr := ip hr c20
          refine VW.lload d8_takes_91 2 rfl ?_
          refine VW.ldc2 (v := 2) d8_takes_93 kc_8_243 ?_
          refine VW.ldiv d8_takes_96 (by decide) ?_
          refine VW.lstore (lo' := [(6, .long (x6 / 2)), (3, .int x3), (4, .long x4), (8, .int x8)]) d8_takes_97 (by decide) rfl ?_
          refine VW.lload d8_takes_99 2 rfl ?_
          refine VW.ldc2 (v := 2) d8_takes_101 kc_8_243 ?_
          refine VW.ldiv d8_takes_104 (by decide) ?_
          refine VW.lstore (lo' := [(4, .long (x4 / 2)), (6, .long (x6 / 2)), (3, .int x3), (8, .int x8)]) d8_takes_105 (by decide) rfl ?_
          refine VW.iinc (w := 1) (lo' := [(8, .int (x8 + 1)), (4, .long (x4 / 2)), (6, .long (x6 / 2)), (3, .int x3)]) d8_takes_107 3 rfl ic_1 (by decide) rfl ?_
          refine VW.goto 62 d8_takes_110 (by decide) ?_
          exact VW.sub [3, 1, 2, 0] rfl (ih (x4 / 2) (x6 / 2) (x8 + 1) h hr)
        · replace hr := im hr c20
          refine VW.iload_n d8_takes_113 0 rfl ?_
          refine VW.if_ne 122 d8_takes_114 (by decide) (fun c21 => ?_) (fun c21 => ?_)
          · replace hr := ip hr c21
            refine VW.lload d8_takes_117 2 rfl ?_
            refine VW.goto 124 d8_takes_119 (by decide) ?_
            exact VW.lret d8_takes_124 hR (rLw hr)
          · replace hr := im hr c21
            refine VW.lload d8_takes_122 1 rfl ?_
            exact VW.lret d8_takes_124 hR (rLw hr)
      · replace hr := im hr c19
        refine VW.iload_n d8_takes_113 0 rfl ?_
        refine VW.if_ne 122 d8_takes_114 (by decide) (fun c22 => ?_) (fun c22 => ?_)
        · replace hr := ip hr c22
          refine VW.lload d8_takes_117 2 rfl ?_
          refine VW.goto 124 d8_takes_119 (by decide) ?_
          exact VW.lret d8_takes_124 hR (rLw hr)
        · replace hr := im hr c22
          refine VW.lload d8_takes_122 1 rfl ?_
          exact VW.lret d8_takes_124 hR (rLw hr)
set_option maxRecDepth 100000 in
set_option maxHeartbeats 4000000 in
theorem c_8_takes {γ : Gm} {dd : Nat} {x1 : Int32} {x2 : Int32} {x3 : Int32} {h : Hp} {r : Int64} {hz : Hp} (hd : 2 ≤ dd) (hr : f_8_takes x1 x2 x3 h = some (r, hz)) : MC γ dd yX8_takes cX8_takes 9 (some .long) [.ref (γ.2.2.1 0), .int x1, .int x2, .int x3] h (QL r hz) := by
  unfold f_8_takes at hr
  refine MC.of mi_8_takes (Nat.le_of_ble_eq_true rfl) (fun ε hR => ?_)
  show VW γ ε cX8_takes RX8 9 dd 0 [(0, .ref (γ.2.2.1 0)), (1, .int x1), (2, .int x2), (3, .int x3)] [] h
  refine VW.iload_n d8_takes_0 1 rfl ?_
  refine VW.iconst (v := 1) d8_takes_1 ic_1 ?_
  refine VW.bipush (v := 16) d8_takes_2 bp_16 ?_
  refine VW.callS (As := [.int x1, .int 1, .int 16]) (st := []) d8_takes_4 mi_8_within cs_8_57 (by decide) (dl1 hd) _ rfl (Nat.le_of_ble_eq_true rfl) rfl (c_8_within (dl hd rfl) rfl) (kI ?_)
  refine VW.if_eq 29 d8_takes_7 (by decide) (fun c1 => ?_) (fun c1 => ?_)
  · replace hr := ip hr c1
    refine VW.aload_n d8_takes_29 0 rfl ?_
    refine VW.iconst (v := 1) d8_takes_30 ic_1 ?_
    obtain ⟨r3, h4, e2, hr⟩ := bno2 hr
    refine VW.callV (As := [.int 1]) (st := []) d8_takes_31 mi_8_error cv_8_61 (oo_8 o8_0) ⟨rfl, rfl⟩ (by decide) (dl1 hd) _ rfl (Nat.le_of_ble_eq_true rfl) rfl (c_8_error (dl hd rfl) e2) (kI ?_)
    refine VW.i2l d8_takes_34 ?_
    exact VW.lret d8_takes_35 hR (rLw hr)
  · replace hr := im hr c1
    refine VW.iload_n d8_takes_10 2 rfl ?_
    refine VW.iconst (v := 0) d8_takes_11 ic_0 ?_
    refine VW.bipush (v := 6) d8_takes_12 bp_6 ?_
    refine VW.callS (As := [.int x2, .int 0, .int 6]) (st := []) d8_takes_14 mi_8_within cs_8_57 (by decide) (dl1 hd) _ rfl (Nat.le_of_ble_eq_true rfl) rfl (c_8_within (dl hd rfl) rfl) (kI ?_)
    refine VW.if_eq 29 d8_takes_17 (by decide) (fun c5 => ?_) (fun c5 => ?_)
    · replace hr := ip hr c5
      refine VW.aload_n d8_takes_29 0 rfl ?_
      refine VW.iconst (v := 1) d8_takes_30 ic_1 ?_
      obtain ⟨r7, h8, e6, hr⟩ := bno2 hr
      refine VW.callV (As := [.int 1]) (st := []) d8_takes_31 mi_8_error cv_8_61 (oo_8 o8_0) ⟨rfl, rfl⟩ (by decide) (dl1 hd) _ rfl (Nat.le_of_ble_eq_true rfl) rfl (c_8_error (dl hd rfl) e6) (kI ?_)
      refine VW.i2l d8_takes_34 ?_
      exact VW.lret d8_takes_35 hR (rLw hr)
    · replace hr := im hr c5
      refine VW.iload_n d8_takes_20 3 rfl ?_
      refine VW.iconst (v := 0) d8_takes_21 ic_0 ?_
      refine VW.iconst (v := 1) d8_takes_22 ic_1 ?_
      refine VW.callS (As := [.int x3, .int 0, .int 1]) (st := []) d8_takes_23 mi_8_within cs_8_57 (by decide) (dl1 hd) _ rfl (Nat.le_of_ble_eq_true rfl) rfl (c_8_within (dl hd rfl) rfl) (kI ?_)
      refine VW.if_ne 36 d8_takes_26 (by decide) (fun c9 => ?_) (fun c9 => ?_)
      · replace hr := ip hr c9
        refine VW.aload_n d8_takes_29 0 rfl ?_
        refine VW.iconst (v := 1) d8_takes_30 ic_1 ?_
        obtain ⟨r11, h12, e10, hr⟩ := bno2 hr
        refine VW.callV (As := [.int 1]) (st := []) d8_takes_31 mi_8_error cv_8_61 (oo_8 o8_0) ⟨rfl, rfl⟩ (by decide) (dl1 hd) _ rfl (Nat.le_of_ble_eq_true rfl) rfl (c_8_error (dl hd rfl) e10) (kI ?_)
        refine VW.i2l d8_takes_34 ?_
        exact VW.lret d8_takes_35 hR (rLw hr)
      · replace hr := im hr c9
        refine VW.ldc2 (v := 16) d8_takes_36 kc_8_237 ?_
        refine VW.iload_n d8_takes_39 2 rfl ?_
        obtain ⟨r14, e13, hr⟩ := bno hr
        refine VW.callS (As := [.long 16, .int x2]) (st := []) d8_takes_40 mi_8_power cs_8_239 (by decide) (dl1 hd) _ rfl (Nat.le_of_ble_eq_true rfl) rfl (c_8_power (dl hd rfl) e13) (kL ?_)
        refine VW.lstore (lo' := [(4, .long r14), (0, .ref (γ.2.2.1 0)), (1, .int x1), (2, .int x2), (3, .int x3)]) d8_takes_43 (by decide) rfl ?_
        refine VW.lload d8_takes_45 0 rfl ?_
        refine VW.bipush (v := 16) d8_takes_47 bp_16 ?_
        refine VW.iload_n d8_takes_49 2 rfl ?_
        refine VW.isub d8_takes_50 ?_
        refine VW.i2l d8_takes_51 ?_
        refine VW.iload_n d8_takes_52 3 rfl ?_
        obtain ⟨r16, e15, hr⟩ := bno hr
        refine VW.callS (As := [.long (Int32.toInt64 (16 - x1)), .int x2]) (st := [.long r14]) d8_takes_53 mi_8_power cs_8_239 (by decide) (dl1 hd) _ rfl (Nat.le_of_ble_eq_true rfl) rfl (c_8_power (dl hd rfl) e15) (kL ?_)
        refine VW.lsub d8_takes_56 ?_
        refine VW.lstore (lo' := [(6, .long (r14 - r16)), (4, .long r14), (0, .ref (γ.2.2.1 0)), (1, .int x1), (2, .int x2), (3, .int x3)]) d8_takes_57 (by decide) rfl ?_
        refine VW.iconst (v := 0) d8_takes_59 ic_0 ?_
        refine VW.istore (lo' := [(8, .int 0), (6, .long (r14 - r16)), (4, .long r14), (0, .ref (γ.2.2.1 0)), (1, .int x1), (2, .int x2), (3, .int x3)]) d8_takes_60 (by decide) rfl ?_
        exact VW.sub [6, 2, 1, 0] rfl (s_8_takes_62 hd hR FU r14 (r14 - r16) 0 h hr)
