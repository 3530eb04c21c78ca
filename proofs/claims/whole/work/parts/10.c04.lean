set_option maxRecDepth 100000 in
set_option maxHeartbeats 4000000 in
theorem c_8_tell {γ : Gm} {dd : Nat} {x1 : Int32} {h : Hp} {r : Int32} {hz : Hp} (hd : 2 ≤ dd) (hr : f_8_tell x1 h = some (r, hz)) : MC γ dd yX8_tell cX8_tell 2 (some .int) [.ref (γ.2.2.1 0), .int x1] h (QI r hz) := by
  unfold f_8_tell at hr
  refine MC.of mi_8_tell (Nat.le_of_ble_eq_true rfl) (fun ε hR => ?_)
  show VW γ ε cX8_tell RX8 2 dd 0 [(0, .ref (γ.2.2.1 0)), (1, .int x1)] [] h
  refine VW.aload_n d8_tell_0 0 rfl ?_
  refine VW.getR (k := 0) (r := 1) d8_tell_1 (oo_8 o8_0) rfl fl_8_10 ck8 ?_
  refine VW.getI (k := 13) d8_tell_4 (oo_7 (rf_8_0 o8_0)) rfl fl_8_288 ck7 ?_
  refine VW.bipush (v := 20) d8_tell_7 bp_20 ?_
  refine VW.icmp_lt 18 d8_tell_9 (by decide) (fun c1 => ?_) (fun c1 => ?_)
  · replace hr := ip hr c1
    refine VW.aload_n d8_tell_18 0 rfl ?_
    refine VW.getR (k := 0) (r := 1) d8_tell_19 (oo_8 o8_0) rfl fl_8_10 ck8 ?_
    refine VW.getR (k := 7) (r := 13) d8_tell_22 (oo_7 (rf_8_0 o8_0)) rfl fl_8_291 ck7 ?_
    refine VW.aload_n d8_tell_25 0 rfl ?_
    refine VW.getR (k := 0) (r := 1) d8_tell_26 (oo_8 o8_0) rfl fl_8_10 ck8 ?_
    refine VW.getI (k := 13) d8_tell_29 (oo_7 (rf_8_0 o8_0)) rfl fl_8_288 ck7 ?_
    refine VW.iload_n d8_tell_32 1 rfl ?_
    obtain ⟨g2, hr⟩ := gdt hr
    obtain ⟨h3, e4, hr⟩ := hlt hr
    refine VW.iast (j := (ci (h 1 13))) d8_tell_33 (rf_7_7 (rf_8_0 o8_0)) g2 rfl ?_
    refine VW.heq e4 ?_
    refine VW.aload_n d8_tell_34 0 rfl ?_
    refine VW.getR (k := 0) (r := 1) d8_tell_35 (oo_8 o8_0) rfl fl_8_10 ck8 ?_
    refine VW.dup d8_tell_38 rfl ?_
    refine VW.getI (k := 13) d8_tell_39 (oo_7 (rf_8_0 o8_0)) rfl fl_8_288 ck7 ?_
    refine VW.iconst (v := 1) d8_tell_42 ic_1 ?_
    refine VW.iadd d8_tell_43 ?_
    obtain ⟨h5, e6, hr⟩ := hlt hr
    refine VW.putI (k := 13) d8_tell_44 (oo_7 (rf_8_0 o8_0)) rfl fl_8_288 ck7 rfl rfl rfl rfl ?_
    refine VW.heq e6 ?_
    refine VW.aload_n d8_tell_47 0 rfl ?_
    refine VW.getR (k := 0) (r := 1) d8_tell_48 (oo_8 o8_0) rfl fl_8_10 ck8 ?_
    refine VW.getI (k := 13) d8_tell_51 (oo_7 (rf_8_0 o8_0)) rfl fl_8_288 ck7 ?_
    exact VW.iret d8_tell_54 hR (rIw hr)
  · replace hr := im hr c1
    refine VW.aload_n d8_tell_12 0 rfl ?_
    refine VW.iconst (v := 4) d8_tell_13 ic_4 ?_
    obtain ⟨r8, h9, e7, hr⟩ := bno2 hr
    refine VW.callV (As := [.int 4]) (st := []) d8_tell_14 mi_8_error cv_8_61 (oo_8 o8_0) ⟨rfl, rfl⟩ (by decide) (dl1 hd) _ rfl (Nat.le_of_ble_eq_true rfl) rfl (c_8_error (dl hd rfl) e7) (kI ?_)
    exact VW.iret d8_tell_17 hR (rIw hr)
set_option maxRecDepth 100000 in
set_option maxHeartbeats 4000000 in
theorem c_8_text {γ : Gm} {dd : Nat} {x1 : Int32} {h : Hp} {r : Int32} {hz : Hp} (hd : 69 ≤ dd) (hr : f_8_text x1 h = some (r, hz)) : MC γ dd yX8_text cX8_text 3 (some .int) [.ref (γ.2.2.1 0), .int x1] h (QI r hz) := by
  unfold f_8_text at hr
  refine MC.of mi_8_text (Nat.le_of_ble_eq_true rfl) (fun ε hR => ?_)
  show VW γ ε cX8_text RX8 3 dd 0 [(0, .ref (γ.2.2.1 0)), (1, .int x1)] [] h
  refine VW.iload_n d8_text_0 1 rfl ?_
  refine VW.iconst (v := 0) d8_text_1 ic_0 ?_
  refine VW.iconst (v := 1) d8_text_2 ic_1 ?_
  refine VW.callS (As := [.int x1, .int 0, .int 1]) (st := []) d8_text_3 mi_8_within cs_8_57 (by decide) (dl1 hd) _ rfl (Nat.le_of_ble_eq_true rfl) rfl (c_8_within (dl hd rfl) rfl) (kI ?_)
  refine VW.if_ne 15 d8_text_6 (by decide) (fun c1 => ?_) (fun c1 => ?_)
  · replace hr := ip hr c1
    refine VW.aload_n d8_text_9 0 rfl ?_
    refine VW.iconst (v := 1) d8_text_10 ic_1 ?_
    obtain ⟨r3, h4, e2, hr⟩ := bno2 hr
    refine VW.callV (As := [.int 1]) (st := []) d8_text_11 mi_8_error cv_8_61 (oo_8 o8_0) ⟨rfl, rfl⟩ (by decide) (dl1 hd) _ rfl (Nat.le_of_ble_eq_true rfl) rfl (c_8_error (dl hd rfl) e2) (kI ?_)
    exact VW.iret d8_text_14 hR (rIw hr)
  · replace hr := im hr c1
    refine VW.aload_n d8_text_15 0 rfl ?_
    refine VW.getR (k := 3) (r := 100) d8_text_16 (oo_8 o8_0) rfl fl_8_31 ck8 ?_
    refine VW.aload_n d8_text_19 0 rfl ?_
    refine VW.getR (k := 0) (r := 1) d8_text_20 (oo_8 o8_0) rfl fl_8_10 ck8 ?_
    refine VW.getR (k := 3) (r := 5) d8_text_23 (oo_7 (rf_8_0 o8_0)) rfl fl_8_181 ck7 ?_
    refine VW.aload_n d8_text_26 0 rfl ?_
    refine VW.getR (k := 0) (r := 1) d8_text_27 (oo_8 o8_0) rfl fl_8_10 ck8 ?_
    refine VW.getI (k := 12) d8_text_30 (oo_7 (rf_8_0 o8_0)) rfl fl_8_175 ck7 ?_
    refine VW.iload_n d8_text_33 1 rfl ?_
    obtain ⟨r6, h7, e5, hr⟩ := bno2 hr
    refine VW.callV (As := [.ref (γ.2.2.1 5), .int (h 1 12), .int x1]) (st := []) d8_text_34 mi_1_read cv_8_184 (oo_1 (rf_8_3 o8_0)) ⟨rfl, rfl⟩ (by decide) (dl1 hd) _ rfl (Nat.le_of_ble_eq_true rfl) rfl (c_1_read (rf_7_3 (rf_8_0 o8_0)) (dl hd rfl) e5) (kI ?_)
    refine VW.istore_n (lo' := [(2, .int r6), (0, .ref (γ.2.2.1 0)), (1, .int x1)]) d8_text_37 (by decide) rfl ?_
    refine VW.aload_n d8_text_38 1 rfl ?_
    refine VW.getR (k := 0) (r := 1) d8_text_39 (oo_8 o8_0) rfl fl_8_10 ck8 ?_
    refine VW.iconst (v := 0) d8_text_42 ic_0 ?_
    obtain ⟨h8, e9, hr⟩ := hlt hr
    refine VW.putI (k := 12) d8_text_43 (oo_7 (rf_8_0 o8_0)) rfl fl_8_175 ck7 rfl rfl rfl rfl ?_
    refine VW.heq e9 ?_
    refine VW.iload_n d8_text_46 0 rfl ?_
    refine VW.if_lt 55 d8_text_47 (by decide) (fun c10 => ?_) (fun c10 => ?_)
    · replace hr := ip hr c10
      refine VW.aload_n d8_text_55 1 rfl ?_
      refine VW.getR (k := 0) (r := 1) d8_text_56 (oo_8 o8_0) rfl fl_8_10 ck8 ?_
      refine VW.iload_n d8_text_59 2 rfl ?_
      refine VW.callV (As := [.int x1]) (st := []) d8_text_60 mi_7_textOf cv_8_188 (oo_7 (rf_8_0 o8_0)) ⟨rfl, rfl⟩ (by decide) (dl1 hd) _ rfl (Nat.le_of_ble_eq_true rfl) rfl (c_7_textOf (dl hd rfl) rfl) (kR ?_)
      refine VW.aload_n d8_text_63 1 rfl ?_
      refine VW.getR (k := 3) (r := 100) d8_text_64 (oo_8 o8_0) rfl fl_8_31 ck8 ?_
      refine VW.getR (k := 0) (r := 101) d8_text_67 (oo_1 (rf_8_3 o8_0)) rfl fl_8_192 ck1 ?_
      refine VW.aload_n d8_text_70 1 rfl ?_
      refine VW.getR (k := 3) (r := 100) d8_text_71 (oo_8 o8_0) rfl fl_8_31 ck8 ?_
      refine VW.getI (k := 1) d8_text_74 (oo_1 (rf_8_3 o8_0)) rfl fl_8_195 ck1 ?_
      obtain ⟨h12, e11, hr⟩ := bno hr
      refine VW.callV (As := [.ref (γ.2.2.1 101), .int (h8 100 1)]) (st := []) d8_text_77 mi_5_hold cv_8_196 (oo_5 (co_7_textOf x1 )) ⟨rfl, rfl⟩ (by decide) (dl1 hd) _ rfl (Nat.le_of_ble_eq_true rfl) rfl (c_5_hold (co_7_textOf x1 ) (rf_1_0 (rf_8_3 o8_0)) (dl hd rfl) e11) (kV ?_)
      refine VW.iconst (v := 1) d8_text_80 ic_1 ?_
      exact VW.iret d8_text_81 hR (rIw hr)
    · replace hr := im hr c10
      refine VW.bipush (v := (-10)) d8_text_50 bp_m10 ?_
      refine VW.iload_n d8_text_52 0 rfl ?_
      refine VW.isub d8_text_53 ?_
      exact VW.iret d8_text_54 hR (rIw hr)
set_option maxRecDepth 100000 in
set_option maxHeartbeats 4000000 in
theorem c_8_told {γ : Gm} {dd : Nat} {x1 : Int32} {h : Hp} {r : Int32} {hz : Hp} (hd : 2 ≤ dd) (hr : f_8_told x1 h = some (r, hz)) : MC γ dd yX8_told cX8_told 2 (some .int) [.ref (γ.2.2.1 0), .int x1] h (QI r hz) := by
  unfold f_8_told at hr
  refine MC.of mi_8_told (Nat.le_of_ble_eq_true rfl) (fun ε hR => ?_)
  show VW γ ε cX8_told RX8 2 dd 0 [(0, .ref (γ.2.2.1 0)), (1, .int x1)] [] h
  refine VW.iload_n d8_told_0 1 rfl ?_
  refine VW.iconst (v := 1) d8_told_1 ic_1 ?_
  refine VW.iconst (v := 5) d8_told_2 ic_5 ?_
  refine VW.callS (As := [.int x1, .int 1, .int 5]) (st := []) d8_told_3 mi_8_within cs_8_57 (by decide) (dl1 hd) _ rfl (Nat.le_of_ble_eq_true rfl) rfl (c_8_within (dl hd rfl) rfl) (kI ?_)
  refine VW.if_eq 18 d8_told_6 (by decide) (fun c1 => ?_) (fun c1 => ?_)
  · replace hr := ip hr c1
    refine VW.aload_n d8_told_18 0 rfl ?_
    refine VW.iconst (v := 1) d8_told_19 ic_1 ?_
    obtain ⟨r3, h4, e2, hr⟩ := bno2 hr
    refine VW.callV (As := [.int 1]) (st := []) d8_told_20 mi_8_error cv_8_61 (oo_8 o8_0) ⟨rfl, rfl⟩ (by decide) (dl1 hd) _ rfl (Nat.le_of_ble_eq_true rfl) rfl (c_8_error (dl hd rfl) e2) (kI ?_)
    exact VW.iret d8_told_23 hR (rIw hr)
  · replace hr := im hr c1
    refine VW.aload_n d8_told_9 0 rfl ?_
    refine VW.getR (k := 6) (r := 113) d8_told_10 (oo_8 o8_0) rfl fl_8_49 ck8 ?_
    refine VW.iload_n d8_told_13 1 rfl ?_
    obtain ⟨g5, hr⟩ := gdt hr
    refine VW.iald (j := (ci x1)) d8_told_14 (rf_8_6 o8_0) g5 rfl ?_
    refine VW.goto 23 d8_told_15 (by decide) ?_
    exact VW.iret d8_told_23 hR (rIw hr)
set_option maxRecDepth 100000 in
set_option maxHeartbeats 4000000 in
theorem c_8_trace {γ : Gm} {dd : Nat} {x1 : Int32} {h : Hp} {r : Int32} {hz : Hp} (hd : 2 ≤ dd) (hr : f_8_trace x1 h = some (r, hz)) : MC γ dd yX8_trace cX8_trace 2 (some .int) [.ref (γ.2.2.1 0), .int x1] h (QI r hz) := by
  unfold f_8_trace at hr
  refine MC.of mi_8_trace (Nat.le_of_ble_eq_true rfl) (fun ε hR => ?_)
  show VW γ ε cX8_trace RX8 2 dd 0 [(0, .ref (γ.2.2.1 0)), (1, .int x1)] [] h
  refine VW.iload_n d8_trace_0 1 rfl ?_
  refine VW.iconst (v := 0) d8_trace_1 ic_0 ?_
  refine VW.aload_n d8_trace_2 0 rfl ?_
  refine VW.getR (k := 4) (r := 103) d8_trace_3 (oo_8 o8_0) rfl fl_8_38 ck8 ?_
  refine VW.getI (k := 1) d8_trace_6 (oo_4 (rf_8_4 o8_0)) rfl fl_8_252 ck4 ?_
  refine VW.iconst (v := 1) d8_trace_9 ic_1 ?_
  refine VW.isub d8_trace_10 ?_
  refine VW.callS (As := [.int x1, .int 0, .int ((h 103 1) - 1)]) (st := []) d8_trace_11 mi_8_within cs_8_57 (by decide) (dl1 hd) _ rfl (Nat.le_of_ble_eq_true rfl) rfl (c_8_within (dl hd rfl) rfl) (kI ?_)
  refine VW.if_eq 29 d8_trace_14 (by decide) (fun c1 => ?_) (fun c1 => ?_)
  · replace hr := ip hr c1
    refine VW.aload_n d8_trace_29 0 rfl ?_
    refine VW.iconst (v := 2) d8_trace_30 ic_2 ?_
    obtain ⟨r3, h4, e2, hr⟩ := bno2 hr
    refine VW.callV (As := [.int 2]) (st := []) d8_trace_31 mi_8_error cv_8_61 (oo_8 o8_0) ⟨rfl, rfl⟩ (by decide) (dl1 hd) _ rfl (Nat.le_of_ble_eq_true rfl) rfl (c_8_error (dl hd rfl) e2) (kI ?_)
    exact VW.iret d8_trace_34 hR (rIw hr)
  · replace hr := im hr c1
    refine VW.aload_n d8_trace_17 0 rfl ?_
    refine VW.getR (k := 4) (r := 103) d8_trace_18 (oo_8 o8_0) rfl fl_8_38 ck8 ?_
    refine VW.getR (k := 0) (r := 104) d8_trace_21 (oo_4 (rf_8_4 o8_0)) rfl fl_8_253 ck4 ?_
    refine VW.iload_n d8_trace_24 1 rfl ?_
    obtain ⟨g5, hr⟩ := gdt hr
    refine VW.iald (j := (ci x1)) d8_trace_25 (rf_4_0 (rf_8_4 o8_0)) g5 rfl ?_
    refine VW.goto 34 d8_trace_26 (by decide) ?_
    exact VW.iret d8_trace_34 hR (rIw hr)
set_option maxRecDepth 100000 in
set_option maxHeartbeats 4000000 in
theorem c_8_voice {γ : Gm} {dd : Nat} {x1 : Int32} {x2 : Int32} {x3 : Int32} {h : Hp} {r : Int32} {hz : Hp} (hd : 69 ≤ dd) (hr : f_8_voice x1 x2 x3 h = some (r, hz)) : MC γ dd yX8_voice cX8_voice 4 (some .int) [.ref (γ.2.2.1 0), .int x1, .int x2, .int x3] h (QI r hz) := by
  unfold f_8_voice at hr
  refine MC.of mi_8_voice (Nat.le_of_ble_eq_true rfl) (fun ε hR => ?_)
  show VW γ ε cX8_voice RX8 4 dd 0 [(0, .ref (γ.2.2.1 0)), (1, .int x1), (2, .int x2), (3, .int x3)] [] h
  refine VW.aload_n d8_voice_0 0 rfl ?_
  refine VW.iload_n d8_voice_1 1 rfl ?_
  refine VW.callV (As := [.int x1]) (st := []) d8_voice_2 mi_8_isLine cv_8_119 (oo_8 o8_0) ⟨rfl, rfl⟩ (by decide) (dl1 hd) _ rfl (Nat.le_of_ble_eq_true rfl) rfl (c_8_isLine (dl hd rfl) rfl) (kI ?_)
  refine VW.if_eq 17 d8_voice_5 (by decide) (fun c1 => ?_) (fun c1 => ?_)
  · replace hr := ip hr c1
    refine VW.aload_n d8_voice_17 0 rfl ?_
    refine VW.iconst (v := 1) d8_voice_18 ic_1 ?_
    obtain ⟨r3, h4, e2, hr⟩ := bno2 hr
    refine VW.callV (As := [.int 1]) (st := []) d8_voice_19 mi_8_error cv_8_61 (oo_8 o8_0) ⟨rfl, rfl⟩ (by decide) (dl1 hd) _ rfl (Nat.le_of_ble_eq_true rfl) rfl (c_8_error (dl hd rfl) e2) (kI ?_)
    exact VW.iret d8_voice_22 hR (rIw hr)
  · replace hr := im hr c1
    refine VW.iload_n d8_voice_8 2 rfl ?_
    refine VW.iconst (v := 0) d8_voice_9 ic_0 ?_
    refine VW.iconst (v := 3) d8_voice_10 ic_3 ?_
    refine VW.callS (As := [.int x2, .int 0, .int 3]) (st := []) d8_voice_11 mi_8_within cs_8_57 (by decide) (dl1 hd) _ rfl (Nat.le_of_ble_eq_true rfl) rfl (c_8_within (dl hd rfl) rfl) (kI ?_)
    refine VW.if_ne 23 d8_voice_14 (by decide) (fun c5 => ?_) (fun c5 => ?_)
    · replace hr := ip hr c5
      refine VW.aload_n d8_voice_17 0 rfl ?_
      refine VW.iconst (v := 1) d8_voice_18 ic_1 ?_
      obtain ⟨r7, h8, e6, hr⟩ := bno2 hr
      refine VW.callV (As := [.int 1]) (st := []) d8_voice_19 mi_8_error cv_8_61 (oo_8 o8_0) ⟨rfl, rfl⟩ (by decide) (dl1 hd) _ rfl (Nat.le_of_ble_eq_true rfl) rfl (c_8_error (dl hd rfl) e6) (kI ?_)
      exact VW.iret d8_voice_22 hR (rIw hr)
    · replace hr := im hr c5
      refine VW.aload_n d8_voice_23 0 rfl ?_
      refine VW.getR (k := 4) (r := 103) d8_voice_24 (oo_8 o8_0) rfl fl_8_38 ck8 ?_
      refine VW.aload_n d8_voice_27 0 rfl ?_
      refine VW.getR (k := 0) (r := 1) d8_voice_28 (oo_8 o8_0) rfl fl_8_10 ck8 ?_
      refine VW.getR (k := 2) (r := 4) d8_voice_31 (oo_7 (rf_8_0 o8_0)) rfl fl_8_109 ck7 ?_
      refine VW.iload_n d8_voice_34 1 rfl ?_
      obtain ⟨g9, hr⟩ := gdt hr
      refine VW.aald (z := 36 + 2 * (ci x1)) d8_voice_35 (rf_7_2 (rf_8_0 o8_0)) (by decide) (by decide) g9 rfl ?_
      refine VW.iload_n d8_voice_36 1 rfl ?_
      refine VW.iload_n d8_voice_37 2 rfl ?_
      refine VW.iload_n d8_voice_38 3 rfl ?_
      obtain ⟨r11, h12, e10, hr⟩ := bno2 hr
      refine VW.callV (As := [.ref (γ.2.2.1 (36 + 2 * (ci x1))), .int x1, .int x2, .int x3]) (st := []) d8_voice_39 mi_4_play cv_8_248 (oo_4 (rf_8_4 o8_0)) ⟨rfl, rfl⟩ (by decide) (dl1 hd) _ rfl (Nat.le_of_ble_eq_true rfl) rfl (c_4_play (re_7_2 (rf_8_0 o8_0) (inb_lt g9)) (dl hd rfl) e10) (kI ?_)
      exact VW.iret d8_voice_42 hR (rIw hr)
set_option maxRecDepth 100000 in
set_option maxHeartbeats 4000000 in
theorem c_8_wanted {γ : Gm} {dd : Nat} {x1 : Int32} {x2 : Int32} {h : Hp} {r : Int32} {hz : Hp} (hd : 2 ≤ dd) (hr : f_8_wanted x1 x2 h = some (r, hz)) : MC γ dd yX8_wanted cX8_wanted 4 (some .int) [.ref (γ.2.2.1 0), .int x1, .int x2] h (QI r hz) := by
  unfold f_8_wanted at hr
  refine MC.of mi_8_wanted (Nat.le_of_ble_eq_true rfl) (fun ε hR => ?_)
  show VW γ ε cX8_wanted RX8 4 dd 0 [(0, .ref (γ.2.2.1 0)), (1, .int x1), (2, .int x2)] [] h
  refine VW.aload_n d8_wanted_0 0 rfl ?_
  refine VW.iload_n d8_wanted_1 1 rfl ?_
  refine VW.callV (As := [.int x1]) (st := []) d8_wanted_2 mi_8_isLine cv_8_119 (oo_8 o8_0) ⟨rfl, rfl⟩ (by decide) (dl1 hd) _ rfl (Nat.le_of_ble_eq_true rfl) rfl (c_8_isLine (dl hd rfl) rfl) (kI ?_)
  refine VW.if_eq 18 d8_wanted_5 (by decide) (fun c1 => ?_) (fun c1 => ?_)
  · replace hr := ip hr c1
    refine VW.aload_n d8_wanted_18 0 rfl ?_
    refine VW.iconst (v := 1) d8_wanted_19 ic_1 ?_
    obtain ⟨r3, h4, e2, hr⟩ := bno2 hr
    refine VW.callV (As := [.int 1]) (st := []) d8_wanted_20 mi_8_error cv_8_61 (oo_8 o8_0) ⟨rfl, rfl⟩ (by decide) (dl1 hd) _ rfl (Nat.le_of_ble_eq_true rfl) rfl (c_8_error (dl hd rfl) e2) (kI ?_)
    exact VW.iret d8_wanted_23 hR (rIw hr)
  · replace hr := im hr c1
    refine VW.iload_n d8_wanted_8 2 rfl ?_
    refine VW.iconst (v := 0) d8_wanted_9 ic_0 ?_
    refine VW.bipush (v := 99) d8_wanted_10 bp_99 ?_
    refine VW.callS (As := [.int x2, .int 0, .int 99]) (st := []) d8_wanted_12 mi_8_within cs_8_57 (by decide) (dl1 hd) _ rfl (Nat.le_of_ble_eq_true rfl) rfl (c_8_within (dl hd rfl) rfl) (kI ?_)
    refine VW.if_ne 24 d8_wanted_15 (by decide) (fun c5 => ?_) (fun c5 => ?_)
    · replace hr := ip hr c5
      refine VW.aload_n d8_wanted_18 0 rfl ?_
      refine VW.iconst (v := 1) d8_wanted_19 ic_1 ?_
      obtain ⟨r7, h8, e6, hr⟩ := bno2 hr
      refine VW.callV (As := [.int 1]) (st := []) d8_wanted_20 mi_8_error cv_8_61 (oo_8 o8_0) ⟨rfl, rfl⟩ (by decide) (dl1 hd) _ rfl (Nat.le_of_ble_eq_true rfl) rfl (c_8_error (dl hd rfl) e6) (kI ?_)
      exact VW.iret d8_wanted_23 hR (rIw hr)
    · replace hr := im hr c5
      refine VW.aload_n d8_wanted_24 0 rfl ?_
      refine VW.getR (k := 0) (r := 1) d8_wanted_25 (oo_8 o8_0) rfl fl_8_10 ck8 ?_
      refine VW.getR (k := 2) (r := 4) d8_wanted_28 (oo_7 (rf_8_0 o8_0)) rfl fl_8_109 ck7 ?_
      refine VW.iload_n d8_wanted_31 1 rfl ?_
      obtain ⟨g9, hr⟩ := gdt hr
      refine VW.aald (z := 36 + 2 * (ci x1)) d8_wanted_32 (rf_7_2 (rf_8_0 o8_0)) (by decide) (by decide) g9 rfl ?_
      refine VW.getI (k := 6) d8_wanted_33 (oo_0 (re_7_2 (rf_8_0 o8_0) (inb_lt g9))) rfl fl_8_133 ck0 ?_
      refine VW.istore_n (lo' := [(3, .int (h (36 + 2 * (ci x1)) 6)), (0, .ref (γ.2.2.1 0)), (1, .int x1), (2, .int x2)]) d8_wanted_36 (by decide) rfl ?_
      refine VW.aload_n d8_wanted_37 1 rfl ?_
      refine VW.getR (k := 0) (r := 1) d8_wanted_38 (oo_8 o8_0) rfl fl_8_10 ck8 ?_
      refine VW.getR (k := 2) (r := 4) d8_wanted_41 (oo_7 (rf_8_0 o8_0)) rfl fl_8_109 ck7 ?_
      refine VW.iload_n d8_wanted_44 2 rfl ?_
      obtain ⟨g10, hr⟩ := gdt hr
      refine VW.aald (z := 36 + 2 * (ci x1)) d8_wanted_45 (rf_7_2 (rf_8_0 o8_0)) (by decide) (by decide) g10 rfl ?_
      refine VW.iload_n d8_wanted_46 3 rfl ?_
      obtain ⟨h11, e12, hr⟩ := hlt hr
      refine VW.putI (k := 6) d8_wanted_47 (oo_0 (re_7_2 (rf_8_0 o8_0) (inb_lt g10))) rfl fl_8_133 ck0 rfl rfl rfl rfl ?_
      refine VW.heq e12 ?_
      refine VW.iload_n d8_wanted_50 0 rfl ?_
      exact VW.iret d8_wanted_51 hR (rIw hr)
set_option maxRecDepth 100000 in
set_option maxHeartbeats 4000000 in
theorem c_8_word {γ : Gm} {dd : Nat} {x1 : Int32} {x2 : Int32} {h : Hp} {r : Int32} {hz : Hp} (hd : 2 ≤ dd) (hr : f_8_word x1 x2 h = some (r, hz)) : MC γ dd yX8_word cX8_word 3 (some .int) [.ref (γ.2.2.1 0), .int x1, .int x2] h (QI r hz) := by
  unfold f_8_word at hr
  refine MC.of mi_8_word (Nat.le_of_ble_eq_true rfl) (fun ε hR => ?_)
  show VW γ ε cX8_word RX8 3 dd 0 [(0, .ref (γ.2.2.1 0)), (1, .int x1), (2, .int x2)] [] h
  refine VW.iload_n d8_word_0 1 rfl ?_
  obtain ⟨r2, e1, hr⟩ := bno hr
  refine VW.callS (As := [.int x1]) (st := []) d8_word_1 mi_8_areSyllables cs_8_72 (by decide) (dl1 hd) _ rfl (Nat.le_of_ble_eq_true rfl) rfl (c_8_areSyllables (dl hd rfl) e1) (kI ?_)
  refine VW.if_eq 17 d8_word_4 (by decide) (fun c3 => ?_) (fun c3 => ?_)
  · replace hr := ip hr c3
    refine VW.aload_n d8_word_17 0 rfl ?_
    refine VW.iconst (v := 1) d8_word_18 ic_1 ?_
    obtain ⟨r5, h6, e4, hr⟩ := bno2 hr
    refine VW.callV (As := [.int 1]) (st := []) d8_word_19 mi_8_error cv_8_61 (oo_8 o8_0) ⟨rfl, rfl⟩ (by decide) (dl1 hd) _ rfl (Nat.le_of_ble_eq_true rfl) rfl (c_8_error (dl hd rfl) e4) (kI ?_)
    exact VW.iret d8_word_22 hR (rIw hr)
  · replace hr := im hr c3
    refine VW.iload_n d8_word_7 2 rfl ?_
    refine VW.iconst (v := 0) d8_word_8 ic_0 ?_
    refine VW.bipush (v := 99) d8_word_9 bp_99 ?_
    refine VW.callS (As := [.int x2, .int 0, .int 99]) (st := []) d8_word_11 mi_8_within cs_8_57 (by decide) (dl1 hd) _ rfl (Nat.le_of_ble_eq_true rfl) rfl (c_8_within (dl hd rfl) rfl) (kI ?_)
    refine VW.if_ne 23 d8_word_14 (by decide) (fun c7 => ?_) (fun c7 => ?_)
    · replace hr := ip hr c7
      refine VW.aload_n d8_word_17 0 rfl ?_
      refine VW.iconst (v := 1) d8_word_18 ic_1 ?_
      obtain ⟨r9, h10, e8, hr⟩ := bno2 hr
      refine VW.callV (As := [.int 1]) (st := []) d8_word_19 mi_8_error cv_8_61 (oo_8 o8_0) ⟨rfl, rfl⟩ (by decide) (dl1 hd) _ rfl (Nat.le_of_ble_eq_true rfl) rfl (c_8_error (dl hd rfl) e8) (kI ?_)
      exact VW.iret d8_word_22 hR (rIw hr)
    · replace hr := im hr c7
      refine VW.aload_n d8_word_23 0 rfl ?_
      refine VW.getR (k := 0) (r := 1) d8_word_24 (oo_8 o8_0) rfl fl_8_10 ck8 ?_
      refine VW.getI (k := 10) d8_word_27 (oo_7 (rf_8_0 o8_0)) rfl fl_8_76 ck7 ?_
      refine VW.bipush (v := 10) d8_word_30 bp_10 ?_
      refine VW.icmp_lt 41 d8_word_32 (by decide) (fun c11 => ?_) (fun c11 => ?_)
      · replace hr := ip hr c11
        refine VW.aload_n d8_word_41 0 rfl ?_
        refine VW.getR (k := 0) (r := 1) d8_word_42 (oo_8 o8_0) rfl fl_8_10 ck8 ?_
        refine VW.getR (k := 1) (r := 3) d8_word_45 (oo_7 (rf_8_0 o8_0)) rfl fl_8_79 ck7 ?_
        refine VW.aload_n d8_word_48 0 rfl ?_
        refine VW.getR (k := 0) (r := 1) d8_word_49 (oo_8 o8_0) rfl fl_8_10 ck8 ?_
        refine VW.getI (k := 10) d8_word_52 (oo_7 (rf_8_0 o8_0)) rfl fl_8_76 ck7 ?_
        obtain ⟨g12, hr⟩ := gdt hr
        refine VW.aald (z := 16 + 2 * (ci (h 1 10))) d8_word_55 (rf_7_1 (rf_8_0 o8_0)) (by decide) (by decide) g12 rfl ?_
        refine VW.iload_n d8_word_56 1 rfl ?_
        refine VW.iload_n d8_word_57 2 rfl ?_
        obtain ⟨h14, e13, hr⟩ := bno hr
        refine VW.callV (As := [.int x1, .int x2]) (st := []) d8_word_58 mi_6_spell cv_8_83 (oo_6 (re_7_1 (rf_8_0 o8_0) (inb_lt g12))) ⟨rfl, rfl⟩ (by decide) (dl1 hd) _ rfl (Nat.le_of_ble_eq_true rfl) rfl (c_6_spell (re_7_1 (rf_8_0 o8_0) (inb_lt g12)) (dl hd rfl) e13) (kV ?_)
        refine VW.aload_n d8_word_61 0 rfl ?_
        refine VW.getR (k := 0) (r := 1) d8_word_62 (oo_8 o8_0) rfl fl_8_10 ck8 ?_
        refine VW.dup d8_word_65 rfl ?_
        refine VW.getI (k := 10) d8_word_66 (oo_7 (rf_8_0 o8_0)) rfl fl_8_76 ck7 ?_
        refine VW.iconst (v := 1) d8_word_69 ic_1 ?_
        refine VW.iadd d8_word_70 ?_
        obtain ⟨h15, e16, hr⟩ := hlt hr
        refine VW.putI (k := 10) d8_word_71 (oo_7 (rf_8_0 o8_0)) rfl fl_8_76 ck7 rfl rfl rfl rfl ?_
        refine VW.heq e16 ?_
        refine VW.aload_n d8_word_74 0 rfl ?_
        refine VW.getR (k := 0) (r := 1) d8_word_75 (oo_8 o8_0) rfl fl_8_10 ck8 ?_
        refine VW.getI (k := 10) d8_word_78 (oo_7 (rf_8_0 o8_0)) rfl fl_8_76 ck7 ?_
        refine VW.iconst (v := 1) d8_word_81 ic_1 ?_
        refine VW.isub d8_word_82 ?_
        exact VW.iret d8_word_83 hR (rIw hr)
      · replace hr := im hr c11
        refine VW.aload_n d8_word_35 0 rfl ?_
        refine VW.iconst (v := 4) d8_word_36 ic_4 ?_
        obtain ⟨r18, h19, e17, hr⟩ := bno2 hr
        refine VW.callV (As := [.int 4]) (st := []) d8_word_37 mi_8_error cv_8_61 (oo_8 o8_0) ⟨rfl, rfl⟩ (by decide) (dl1 hd) _ rfl (Nat.le_of_ble_eq_true rfl) rfl (c_8_error (dl hd rfl) e17) (kI ?_)
        exact VW.iret d8_word_40 hR (rIw hr)
set_option maxRecDepth 100000 in
set_option maxHeartbeats 4000000 in
theorem c_9_above {γ : Gm} {dd : Nat} {x0 : Int32} {h : Hp} {r : Int32} (hd : 0 ≤ dd) (hr : f_9_above x0 = r) : MC γ dd yX9_above cX9_above 1 (some .int) [.int x0] h (QI r h) := by
  unfold f_9_above at hr
  refine MC.of mi_9_above (Nat.le_of_ble_eq_true rfl) (fun ε hR => ?_)
  show VW γ ε cX9_above RX9 1 dd 0 [(0, .int x0)] [] h
  refine VW.iload_n d9_above_0 0 rfl ?_
  refine VW.iconst (v := 4) d9_above_1 ic_4 ?_
  refine VW.icmp_ge 9 d9_above_2 (by decide) (fun c1 => ?_) (fun c1 => ?_)
  · replace hr := ip hr c1
    refine VW.iload_n d9_above_9 0 rfl ?_
    refine VW.iconst (v := 3) d9_above_10 ic_3 ?_
    refine VW.isub d9_above_11 ?_
    exact VW.iret d9_above_12 hR (rIt hr)
  · replace hr := im hr c1
    refine VW.iconst (v := 0) d9_above_5 ic_0 ?_
    refine VW.goto 12 d9_above_6 (by decide) ?_
    exact VW.iret d9_above_12 hR (rIt hr)
set_option maxRecDepth 100000 in
set_option maxHeartbeats 4000000 in
theorem c_9_finds {γ : Gm} {dd : Nat} {x1 : Int32} {h : Hp} {r : Int32} {hz : Hp} (hd : 0 ≤ dd) (hr : f_9_finds x1 h = some (r, hz)) : MC γ dd yX9_finds cX9_finds 2 (some .int) [.ref (γ.2.2.1 114), .int x1] h (QI r hz) := by
  unfold f_9_finds at hr
  refine MC.of mi_9_finds (Nat.le_of_ble_eq_true rfl) (fun ε hR => ?_)
  show VW γ ε cX9_finds RX9 2 dd 0 [(0, .ref (γ.2.2.1 114)), (1, .int x1)] [] h
  refine VW.aload_n d9_finds_0 0 rfl ?_
  refine VW.getR (k := 3) (r := 117) d9_finds_1 (oo_9 o9_114) rfl fl_9_16 ck9 ?_
  refine VW.iload_n d9_finds_4 1 rfl ?_
  refine VW.dup2 d9_finds_5 rfl rfl ?_
  obtain ⟨g1, hr⟩ := gdt hr
  refine VW.iald (j := (ci x1)) d9_finds_6 (rf_9_3 o9_114) g1 rfl ?_
  refine VW.iconst (v := 1) d9_finds_7 ic_1 ?_
  refine VW.iadd d9_finds_8 ?_
  obtain ⟨g2, hr⟩ := gdt hr
  obtain ⟨h3, e4, hr⟩ := hlt hr
  refine VW.iast (j := (ci x1)) d9_finds_9 (rf_9_3 o9_114) g2 rfl ?_
  refine VW.heq e4 ?_
  refine VW.ldc (v := (-1000000000)) d9_finds_10 kc_9_43 ?_
  refine VW.iload_n d9_finds_12 1 rfl ?_
  refine VW.isub d9_finds_13 ?_
  exact VW.iret d9_finds_14 hR (rIw hr)
theorem nz_9_in (x0 : Int64) (x2 : Int64) (x4 : Int64) : narrow .boolean (.int (f_9_in x0 x2 x4)) = .int (f_9_in x0 x2 x4) := by
  unfold f_9_in
  (repeat' split) <;> first | rfl
set_option maxRecDepth 100000 in
set_option maxHeartbeats 4000000 in
theorem c_9_in {γ : Gm} {dd : Nat} {x0 : Int64} {x2 : Int64} {x4 : Int64} {h : Hp} {r : Int32} (hd : 0 ≤ dd) (hr : f_9_in x0 x2 x4 = r) : MC γ dd yX9_in cX9_in 6 (some .boolean) [.long x0, .long x2, .long x4] h (QI r h) := by
  unfold f_9_in at hr
  refine MC.of mi_9_in (Nat.le_of_ble_eq_true rfl) (fun ε hR => ?_)
  show VW γ ε cX9_in RX9 6 dd 0 [(0, .long x0), (2, .long x2), (4, .long x4)] [] h
  refine VW.lload_n d9_in_0 0 rfl ?_
  refine VW.lload_n d9_in_1 1 rfl ?_
  refine VW.lcmp d9_in_2 ?_
  refine VW.if_lt 17 d9_in_3 (by decide) (fun c1 => ?_) (fun c1 => ?_)
  · replace hr := ip hr c1
    refine VW.iconst (v := 0) d9_in_17 ic_0 ?_
    exact VW.zret d9_in_18 hR rfl (rIt hr)
  · replace hr := im hr c1
    refine VW.lload_n d9_in_6 0 rfl ?_
    refine VW.lload d9_in_7 2 rfl ?_
    refine VW.lcmp d9_in_9 ?_
    refine VW.if_gt 17 d9_in_10 (by decide) (fun c2 => ?_) (fun c2 => ?_)
    · replace hr := ip hr c2
      refine VW.iconst (v := 0) d9_in_17 ic_0 ?_
      exact VW.zret d9_in_18 hR rfl (rIt hr)
    · replace hr := im hr c2
      refine VW.iconst (v := 1) d9_in_13 ic_1 ?_
      refine VW.goto 18 d9_in_14 (by decide) ?_
      exact VW.zret d9_in_18 hR rfl (rIt hr)
set_option maxRecDepth 100000 in
set_option maxHeartbeats 4000000 in
theorem c_9_isLine {γ : Gm} {dd : Nat} {x1 : Int32} {h : Hp} {r : Int32} (hd : 1 ≤ dd) (hr : f_9_isLine x1 h = some r) : MC γ dd yX9_isLine cX9_isLine 2 (some .boolean) [.ref (γ.2.2.1 114), .int x1] h (QI r h) := by
  unfold f_9_isLine at hr
  refine MC.of mi_9_isLine (Nat.le_of_ble_eq_true rfl) (fun ε hR => ?_)
  show VW γ ε cX9_isLine RX9 2 dd 0 [(0, .ref (γ.2.2.1 114)), (1, .int x1)] [] h
  refine VW.iload_n d9_isLine_0 1 rfl ?_
  refine VW.i2l d9_isLine_1 ?_
  refine VW.lconst (v := 0) d9_isLine_2 (by decide) ?_
  refine VW.aload_n d9_isLine_3 0 rfl ?_
  refine VW.getR (k := 0) (r := 115) d9_isLine_4 (oo_9 o9_114) rfl fl_9_7 ck9 ?_
  refine VW.iconst (v := 1) d9_isLine_7 ic_1 ?_
  refine VW.iald (j := 1) d9_isLine_8 (rf_9_0 o9_114) ib_1_380 il_1 ?_
  refine VW.iconst (v := 1) d9_isLine_9 ic_1 ?_
  refine VW.isub d9_isLine_10 ?_
  refine VW.i2l d9_isLine_11 ?_
  refine VW.callS (As := [.long (Int32.toInt64 x1), .long 0, .long (Int32.toInt64 ((h 115 1) - 1))]) (st := []) d9_isLine_12 mi_9_in cs_9_44 (by decide) (dl1 hd) _ rfl (Nat.le_of_ble_eq_true rfl) rfl (c_9_in (dl hd rfl) rfl) (kI ?_)
  exact VW.zret d9_isLine_15 hR (nz_9_in (Int32.toInt64 x1) 0 (Int32.toInt64 ((h 115 1) - 1))) (rIf hr)
set_option maxRecDepth 100000 in
set_option maxHeartbeats 4000000 in
theorem c_9_of {γ : Gm} {dd : Nat} {x1 : Int32} {x2 : Int32} {h : Hp} {r : Int32} (hd : 0 ≤ dd) (hr : f_9_of x1 x2 h = some r) : MC γ dd yX9_of cX9_of 3 (some .int) [.ref (γ.2.2.1 114), .int x1, .int x2] h (QI r h) := by
  unfold f_9_of at hr
  refine MC.of mi_9_of (Nat.le_of_ble_eq_true rfl) (fun ε hR => ?_)
  show VW γ ε cX9_of RX9 3 dd 0 [(0, .ref (γ.2.2.1 114)), (1, .int x1), (2, .int x2)] [] h
  refine VW.aload_n d9_of_0 0 rfl ?_
  refine VW.getR (k := 0) (r := 115) d9_of_1 (oo_9 o9_114) rfl fl_9_7 ck9 ?_
  refine VW.sipush (v := 154) d9_of_4 sp_154 ?_
  refine VW.bipush (v := 9) d9_of_7 bp_9 ?_
  refine VW.iload_n d9_of_9 1 rfl ?_
  refine VW.imul d9_of_10 ?_
  refine VW.iadd d9_of_11 ?_
  refine VW.iload_n d9_of_12 2 rfl ?_
  refine VW.iadd d9_of_13 ?_
  obtain ⟨g1, hr⟩ := gdt hr
  refine VW.iald (j := (ci ((154 + (9 * x1)) + x2))) d9_of_14 (rf_9_0 o9_114) g1 rfl ?_
  exact VW.iret d9_of_15 hR (rIf hr)
set_option maxRecDepth 100000 in
set_option maxHeartbeats 4000000 in
theorem c_9_as {γ : Gm} {dd : Nat} {x1 : Int32} {x2 : Int32} {h : Hp} {r : Int32} {hz : Hp} (hd : 2 ≤ dd) (hr : f_9_as x1 x2 h = some (r, hz)) : MC γ dd yX9_as cX9_as 4 (some .int) [.ref (γ.2.2.1 114), .int x1, .int x2] h (QI r hz) := by
  unfold f_9_as at hr
  refine MC.of mi_9_as (Nat.le_of_ble_eq_true rfl) (fun ε hR => ?_)
  show VW γ ε cX9_as RX9 4 dd 0 [(0, .ref (γ.2.2.1 114)), (1, .int x1), (2, .int x2)] [] h
  refine VW.aload_n d9_as_0 0 rfl ?_
  refine VW.iload_n d9_as_1 1 rfl ?_
  obtain ⟨r2, e1, hr⟩ := bno hr
  refine VW.callV (As := [.int x1]) (st := []) d9_as_2 mi_9_isLine cv_9_184 (oo_9 o9_114) ⟨rfl, rfl⟩ (by decide) (dl1 hd) _ rfl (Nat.le_of_ble_eq_true rfl) rfl (c_9_isLine (dl hd rfl) e1) (kI ?_)
  refine VW.if_eq 20 d9_as_5 (by decide) (fun c3 => ?_) (fun c3 => ?_)
  · replace hr := ip hr c3
    refine VW.aload_n d9_as_20 0 rfl ?_
    refine VW.iconst (v := 1) d9_as_21 ic_1 ?_
    obtain ⟨r5, h6, e4, hr⟩ := bno2 hr
    refine VW.callV (As := [.int 1]) (st := []) d9_as_22 mi_9_finds cv_9_107 (oo_9 o9_114) ⟨rfl, rfl⟩ (by decide) (dl1 hd) _ rfl (Nat.le_of_ble_eq_true rfl) rfl (c_9_finds (dl hd rfl) e4) (kI ?_)
    exact VW.iret d9_as_25 hR (rIw hr)
  · replace hr := im hr c3
    refine VW.iload_n d9_as_8 2 rfl ?_
    refine VW.i2l d9_as_9 ?_
    refine VW.lconst (v := 0) d9_as_10 (by decide) ?_
    refine VW.ldc2 (v := 6) d9_as_11 kc_9_193 ?_
    refine VW.callS (As := [.long (Int32.toInt64 x2), .long 0, .long 6]) (st := []) d9_as_14 mi_9_in cs_9_44 (by decide) (dl1 hd) _ rfl (Nat.le_of_ble_eq_true rfl) rfl (c_9_in (dl hd rfl) rfl) (kI ?_)
    refine VW.if_ne 26 d9_as_17 (by decide) (fun c7 => ?_) (fun c7 => ?_)
    · replace hr := ip hr c7
      refine VW.aload_n d9_as_20 0 rfl ?_
      refine VW.iconst (v := 1) d9_as_21 ic_1 ?_
      obtain ⟨r9, h10, e8, hr⟩ := bno2 hr
      refine VW.callV (As := [.int 1]) (st := []) d9_as_22 mi_9_finds cv_9_107 (oo_9 o9_114) ⟨rfl, rfl⟩ (by decide) (dl1 hd) _ rfl (Nat.le_of_ble_eq_true rfl) rfl (c_9_finds (dl hd rfl) e8) (kI ?_)
      exact VW.iret d9_as_25 hR (rIw hr)
    · replace hr := im hr c7
      refine VW.aload_n d9_as_26 0 rfl ?_
      refine VW.iload_n d9_as_27 1 rfl ?_
      refine VW.iconst (v := 0) d9_as_28 ic_0 ?_
      obtain ⟨r12, e11, hr⟩ := bno hr
      refine VW.callV (As := [.int x1, .int 0]) (st := []) d9_as_29 mi_9_of cv_9_145 (oo_9 o9_114) ⟨rfl, rfl⟩ (by decide) (dl1 hd) _ rfl (Nat.le_of_ble_eq_true rfl) rfl (c_9_of (dl hd rfl) e11) (kI ?_)
      refine VW.istore_n (lo' := [(3, .int r12), (0, .ref (γ.2.2.1 114)), (1, .int x1), (2, .int x2)]) d9_as_32 (by decide) rfl ?_
      refine VW.iload_n d9_as_33 3 rfl ?_
      refine VW.if_eq 50 d9_as_34 (by decide) (fun c13 => ?_) (fun c13 => ?_)
      · replace hr := ip hr c13
        refine VW.aload_n d9_as_50 1 rfl ?_
        refine VW.iload_n d9_as_51 2 rfl ?_
        refine VW.iconst (v := 1) d9_as_52 ic_1 ?_
        obtain ⟨r15, e14, hr⟩ := bno hr
        refine VW.callV (As := [.int x1, .int 1]) (st := []) d9_as_53 mi_9_of cv_9_145 (oo_9 o9_114) ⟨rfl, rfl⟩ (by decide) (dl1 hd) _ rfl (Nat.le_of_ble_eq_true rfl) rfl (c_9_of (dl hd rfl) e14) (kI ?_)
        refine VW.goto 64 d9_as_56 (by decide) ?_
        exact VW.iret d9_as_64 hR (rIw hr)
      · replace hr := im hr c13
        refine VW.iload_n d9_as_37 3 rfl ?_
        refine VW.iload_n d9_as_38 0 rfl ?_
        refine VW.icmp_eq 50 d9_as_39 (by decide) (fun c16 => ?_) (fun c16 => ?_)
        · replace hr := ip hr c16
          refine VW.aload_n d9_as_50 1 rfl ?_
          refine VW.iload_n d9_as_51 2 rfl ?_
          refine VW.iconst (v := 1) d9_as_52 ic_1 ?_
          obtain ⟨r18, e17, hr⟩ := bno hr
          refine VW.callV (As := [.int x1, .int 1]) (st := []) d9_as_53 mi_9_of cv_9_145 (oo_9 o9_114) ⟨rfl, rfl⟩ (by decide) (dl1 hd) _ rfl (Nat.le_of_ble_eq_true rfl) rfl (c_9_of (dl hd rfl) e17) (kI ?_)
          refine VW.goto 64 d9_as_56 (by decide) ?_
          exact VW.iret d9_as_64 hR (rIw hr)
        · replace hr := im hr c16
          refine VW.iload_n d9_as_42 3 rfl ?_
          refine VW.iload_n d9_as_43 0 rfl ?_
          refine VW.callS (As := [.int r12]) (st := [.int x2]) d9_as_44 mi_9_above cs_9_195 (by decide) (dl1 hd) _ rfl (Nat.le_of_ble_eq_true rfl) rfl (c_9_above (dl hd rfl) rfl) (kI ?_)
          refine VW.icmp_ne 59 d9_as_47 (by decide) (fun c19 => ?_) (fun c19 => ?_)
          · replace hr := ip hr c19
            refine VW.aload_n d9_as_50 1 rfl ?_
            refine VW.iload_n d9_as_51 2 rfl ?_
            refine VW.iconst (v := 1) d9_as_52 ic_1 ?_
            obtain ⟨r21, e20, hr⟩ := bno hr
            refine VW.callV (As := [.int x1, .int 1]) (st := []) d9_as_53 mi_9_of cv_9_145 (oo_9 o9_114) ⟨rfl, rfl⟩ (by decide) (dl1 hd) _ rfl (Nat.le_of_ble_eq_true rfl) rfl (c_9_of (dl hd rfl) e20) (kI ?_)
            refine VW.goto 64 d9_as_56 (by decide) ?_
            exact VW.iret d9_as_64 hR (rIw hr)
          · replace hr := im hr c19
            refine VW.aload_n d9_as_59 1 rfl ?_
            refine VW.iconst (v := 5) d9_as_60 ic_5 ?_
            obtain ⟨r23, h24, e22, hr⟩ := bno2 hr
            refine VW.callV (As := [.int 5]) (st := []) d9_as_61 mi_9_finds cv_9_107 (oo_9 o9_114) ⟨rfl, rfl⟩ (by decide) (dl1 hd) _ rfl (Nat.le_of_ble_eq_true rfl) rfl (c_9_finds (dl hd rfl) e22) (kI ?_)
            exact VW.iret d9_as_64 hR (rIw hr)
set_option maxRecDepth 100000 in
set_option maxHeartbeats 4000000 in
theorem c_9_sets {γ : Gm} {dd : Nat} {x1 : Int32} {x2 : Int32} {x3 : Int32} {h : Hp} {hz : Hp} (hd : 0 ≤ dd) (hr : f_9_sets x1 x2 x3 h = some hz) : MC γ dd yX9_sets cX9_sets 4 none [.ref (γ.2.2.1 114), .int x1, .int x2, .int x3] h (QV hz) := by
  unfold f_9_sets at hr
  refine MC.of mi_9_sets (Nat.le_of_ble_eq_true rfl) (fun ε hR => ?_)
  show VW γ ε cX9_sets RX9 4 dd 0 [(0, .ref (γ.2.2.1 114)), (1, .int x1), (2, .int x2), (3, .int x3)] [] h
  refine VW.aload_n d9_sets_0 0 rfl ?_
  refine VW.getR (k := 0) (r := 115) d9_sets_1 (oo_9 o9_114) rfl fl_9_7 ck9 ?_
  refine VW.sipush (v := 154) d9_sets_4 sp_154 ?_
  refine VW.bipush (v := 9) d9_sets_7 bp_9 ?_
  refine VW.iload_n d9_sets_9 1 rfl ?_
  refine VW.imul d9_sets_10 ?_
  refine VW.iadd d9_sets_11 ?_
  refine VW.iload_n d9_sets_12 2 rfl ?_
  refine VW.iadd d9_sets_13 ?_
  refine VW.iload_n d9_sets_14 3 rfl ?_
  obtain ⟨g1, hr⟩ := gdt hr
  obtain ⟨h2, e3, hr⟩ := hlt hr
  refine VW.iast (j := (ci ((154 + (9 * x1)) + x2))) d9_sets_15 (rf_9_0 o9_114) g1 rfl ?_
  refine VW.heq e3 ?_
  exact VW.vret d9_sets_16 hR (rV hr)
set_option maxRecDepth 100000 in
set_option maxHeartbeats 4000000 in
theorem c_9_become {γ : Gm} {dd : Nat} {x1 : Int32} {x2 : Int32} {h : Hp} {r : Int32} {hz : Hp} (hd : 2 ≤ dd) (hr : f_9_become x1 x2 h = some (r, hz)) : MC γ dd yX9_become cX9_become 4 (some .int) [.ref (γ.2.2.1 114), .int x1, .int x2] h (QI r hz) := by
  unfold f_9_become at hr
  refine MC.of mi_9_become (Nat.le_of_ble_eq_true rfl) (fun ε hR => ?_)
  show VW γ ε cX9_become RX9 4 dd 0 [(0, .ref (γ.2.2.1 114)), (1, .int x1), (2, .int x2)] [] h
  refine VW.aload_n d9_become_0 0 rfl ?_
  refine VW.iload_n d9_become_1 1 rfl ?_
  obtain ⟨r2, e1, hr⟩ := bno hr
  refine VW.callV (As := [.int x1]) (st := []) d9_become_2 mi_9_isLine cv_9_184 (oo_9 o9_114) ⟨rfl, rfl⟩ (by decide) (dl1 hd) _ rfl (Nat.le_of_ble_eq_true rfl) rfl (c_9_isLine (dl hd rfl) e1) (kI ?_)
  refine VW.if_eq 20 d9_become_5 (by decide) (fun c3 => ?_) (fun c3 => ?_)
  · replace hr := ip hr c3
    refine VW.aload_n d9_become_20 0 rfl ?_
    refine VW.iconst (v := 1) d9_become_21 ic_1 ?_
    obtain ⟨r5, h6, e4, hr⟩ := bno2 hr
    refine VW.callV (As := [.int 1]) (st := []) d9_become_22 mi_9_finds cv_9_107 (oo_9 o9_114) ⟨rfl, rfl⟩ (by decide) (dl1 hd) _ rfl (Nat.le_of_ble_eq_true rfl) rfl (c_9_finds (dl hd rfl) e4) (kI ?_)
    exact VW.iret d9_become_25 hR (rIw hr)
  · replace hr := im hr c3
    refine VW.iload_n d9_become_8 2 rfl ?_
    refine VW.i2l d9_become_9 ?_
    refine VW.lconst (v := 0) d9_become_10 (by decide) ?_
    refine VW.ldc2 (v := 69) d9_become_11 kc_9_176 ?_
    refine VW.callS (As := [.long (Int32.toInt64 x2), .long 0, .long 69]) (st := []) d9_become_14 mi_9_in cs_9_44 (by decide) (dl1 hd) _ rfl (Nat.le_of_ble_eq_true rfl) rfl (c_9_in (dl hd rfl) rfl) (kI ?_)
    refine VW.if_ne 26 d9_become_17 (by decide) (fun c7 => ?_) (fun c7 => ?_)
    · replace hr := ip hr c7
      refine VW.aload_n d9_become_20 0 rfl ?_
      refine VW.iconst (v := 1) d9_become_21 ic_1 ?_
      obtain ⟨r9, h10, e8, hr⟩ := bno2 hr
      refine VW.callV (As := [.int 1]) (st := []) d9_become_22 mi_9_finds cv_9_107 (oo_9 o9_114) ⟨rfl, rfl⟩ (by decide) (dl1 hd) _ rfl (Nat.le_of_ble_eq_true rfl) rfl (c_9_finds (dl hd rfl) e8) (kI ?_)
      exact VW.iret d9_become_25 hR (rIw hr)
    · replace hr := im hr c7
      refine VW.aload_n d9_become_26 0 rfl ?_
      refine VW.iload_n d9_become_27 1 rfl ?_
      refine VW.iconst (v := 0) d9_become_28 ic_0 ?_
      obtain ⟨r12, e11, hr⟩ := bno hr
      refine VW.callV (As := [.int x1, .int 0]) (st := []) d9_become_29 mi_9_of cv_9_145 (oo_9 o9_114) ⟨rfl, rfl⟩ (by decide) (dl1 hd) _ rfl (Nat.le_of_ble_eq_true rfl) rfl (c_9_of (dl hd rfl) e11) (kI ?_)
      refine VW.istore_n (lo' := [(3, .int r12), (0, .ref (γ.2.2.1 114)), (1, .int x1), (2, .int x2)]) d9_become_32 (by decide) rfl ?_
      refine VW.aload_n d9_become_33 1 rfl ?_
      refine VW.iload_n d9_become_34 2 rfl ?_
      refine VW.iconst (v := 0) d9_become_35 ic_0 ?_
      refine VW.iload_n d9_become_36 3 rfl ?_
      refine VW.bipush (v := 10) d9_become_37 bp_10 ?_
      refine VW.idiv d9_become_39 (by decide) ?_
      obtain ⟨h14, e13, hr⟩ := bno hr
      refine VW.callV (As := [.int x1, .int 0, .int (x2 / 10)]) (st := []) d9_become_40 mi_9_sets cv_9_180 (oo_9 o9_114) ⟨rfl, rfl⟩ (by decide) (dl1 hd) _ rfl (Nat.le_of_ble_eq_true rfl) rfl (c_9_sets (dl hd rfl) e13) (kV ?_)
      refine VW.aload_n d9_become_43 1 rfl ?_
      refine VW.iload_n d9_become_44 2 rfl ?_
      refine VW.iconst (v := 1) d9_become_45 ic_1 ?_
      refine VW.iload_n d9_become_46 3 rfl ?_
      refine VW.bipush (v := 10) d9_become_47 bp_10 ?_
      refine VW.irem d9_become_49 (by decide) ?_
      obtain ⟨h16, e15, hr⟩ := bno hr
      refine VW.callV (As := [.int x1, .int 1, .int (irm x2 10)]) (st := []) d9_become_50 mi_9_sets cv_9_180 (oo_9 o9_114) ⟨rfl, rfl⟩ (by decide) (dl1 hd) _ rfl (Nat.le_of_ble_eq_true rfl) rfl (c_9_sets (dl hd rfl) e15) (kV ?_)
      refine VW.iload_n d9_become_53 0 rfl ?_
      exact VW.iret d9_become_54 hR (rIw hr)
set_option maxRecDepth 100000 in
set_option maxHeartbeats 4000000 in
theorem c_9_foundTold {γ : Gm} {dd : Nat} {x1 : Int32} {h : Hp} {r : Int32} {hz : Hp} (hd : 1 ≤ dd) (hr : f_9_foundTold x1 h = some (r, hz)) : MC γ dd yX9_foundTold cX9_foundTold 2 (some .int) [.ref (γ.2.2.1 114), .int x1] h (QI r hz) := by
  unfold f_9_foundTold at hr
  refine MC.of mi_9_foundTold (Nat.le_of_ble_eq_true rfl) (fun ε hR => ?_)
  show VW γ ε cX9_foundTold RX9 2 dd 0 [(0, .ref (γ.2.2.1 114)), (1, .int x1)] [] h
  refine VW.aload_n d9_foundTold_0 0 rfl ?_
  refine VW.getI (k := 14) d9_foundTold_1 (oo_9 o9_114) rfl fl_9_212 ck9 ?_
  refine VW.if_eq 15 d9_foundTold_4 (by decide) (fun c1 => ?_) (fun c1 => ?_)
  · replace hr := ip hr c1
    refine VW.aload_n d9_foundTold_15 0 rfl ?_
    refine VW.iconst (v := 2) d9_foundTold_16 ic_2 ?_
    obtain ⟨r3, h4, e2, hr⟩ := bno2 hr
    refine VW.callV (As := [.int 2]) (st := []) d9_foundTold_17 mi_9_finds cv_9_107 (oo_9 o9_114) ⟨rfl, rfl⟩ (by decide) (dl1 hd) _ rfl (Nat.le_of_ble_eq_true rfl) rfl (c_9_finds (dl hd rfl) e2) (kI ?_)
    exact VW.iret d9_foundTold_20 hR (rIw hr)
  · replace hr := im hr c1
    refine VW.iload_n d9_foundTold_7 1 rfl ?_
    refine VW.aload_n d9_foundTold_8 0 rfl ?_
    refine VW.getI (k := 14) d9_foundTold_9 (oo_9 o9_114) rfl fl_9_212 ck9 ?_
    refine VW.icmp_lt 21 d9_foundTold_12 (by decide) (fun c5 => ?_) (fun c5 => ?_)
    · replace hr := ip hr c5
      refine VW.iload_n d9_foundTold_21 1 rfl ?_
      refine VW.bipush (v := (-2)) d9_foundTold_22 bp_m2 ?_
      refine VW.icmp_ne 34 d9_foundTold_24 (by decide) (fun c6 => ?_) (fun c6 => ?_)
      · replace hr := ip hr c6
        refine VW.aload_n d9_foundTold_27 0 rfl ?_
        refine VW.getI (k := 16) d9_foundTold_28 (oo_9 o9_114) rfl fl_9_215 ck9 ?_
        refine VW.goto 51 d9_foundTold_31 (by decide) ?_
        exact VW.iret d9_foundTold_51 hR (rIw hr)
      · replace hr := im hr c6
        refine VW.iload_n d9_foundTold_34 1 rfl ?_
        refine VW.if_ge 45 d9_foundTold_35 (by decide) (fun c7 => ?_) (fun c7 => ?_)
        · replace hr := ip hr c7
          refine VW.aload_n d9_foundTold_45 0 rfl ?_
          refine VW.getR (k := 15) (r := 120) d9_foundTold_46 (oo_9 o9_114) rfl fl_9_25 ck9 ?_
          refine VW.iload_n d9_foundTold_49 1 rfl ?_
          obtain ⟨g8, hr⟩ := gdt hr
          refine VW.iald (j := (ci x1)) d9_foundTold_50 (rf_9_15 o9_114) g8 rfl ?_
          exact VW.iret d9_foundTold_51 hR (rIw hr)
        · replace hr := im hr c7
          refine VW.aload_n d9_foundTold_38 0 rfl ?_
          refine VW.getI (k := 14) d9_foundTold_39 (oo_9 o9_114) rfl fl_9_212 ck9 ?_
          refine VW.goto 51 d9_foundTold_42 (by decide) ?_
          exact VW.iret d9_foundTold_51 hR (rIw hr)
    · replace hr := im hr c5
      refine VW.aload_n d9_foundTold_15 0 rfl ?_
      refine VW.iconst (v := 2) d9_foundTold_16 ic_2 ?_
      obtain ⟨r10, h11, e9, hr⟩ := bno2 hr
      refine VW.callV (As := [.int 2]) (st := []) d9_foundTold_17 mi_9_finds cv_9_107 (oo_9 o9_114) ⟨rfl, rfl⟩ (by decide) (dl1 hd) _ rfl (Nat.le_of_ble_eq_true rfl) rfl (c_9_finds (dl hd rfl) e9) (kI ?_)
      exact VW.iret d9_foundTold_20 hR (rIw hr)
set_option maxRecDepth 100000 in
set_option maxHeartbeats 4000000 in
theorem c_9_its {γ : Gm} {dd : Nat} {x1 : Int32} {x2 : Int32} {h : Hp} {r : Int32} (hd : 0 ≤ dd) (hr : f_9_its x1 x2 h = some r) : MC γ dd yX9_its cX9_its 3 (some .int) [.ref (γ.2.2.1 114), .int x1, .int x2] h (QI r h) := by
  unfold f_9_its at hr
  refine MC.of mi_9_its (Nat.le_of_ble_eq_true rfl) (fun ε hR => ?_)
  show VW γ ε cX9_its RX9 3 dd 0 [(0, .ref (γ.2.2.1 114)), (1, .int x1), (2, .int x2)] [] h
  refine VW.aload_n d9_its_0 0 rfl ?_
  refine VW.getR (k := 0) (r := 115) d9_its_1 (oo_9 o9_114) rfl fl_9_7 ck9 ?_
  refine VW.bipush (v := 84) d9_its_4 bp_84 ?_
  refine VW.bipush (v := 7) d9_its_6 bp_7 ?_
  refine VW.iload_n d9_its_8 1 rfl ?_
  refine VW.imul d9_its_9 ?_
  refine VW.iadd d9_its_10 ?_
  refine VW.iload_n d9_its_11 2 rfl ?_
  refine VW.iadd d9_its_12 ?_
  obtain ⟨g1, hr⟩ := gdt hr
  refine VW.iald (j := (ci ((84 + (7 * x1)) + x2))) d9_its_13 (rf_9_0 o9_114) g1 rfl ?_
  exact VW.iret d9_its_14 hR (rIf hr)
set_option maxRecDepth 100000 in
set_option maxHeartbeats 4000000 in
theorem c_9_endsOf {γ : Gm} {dd : Nat} {x1 : Int32} {x2 : Int32} {h : Hp} {r : Int32} (hd : 1 ≤ dd) (hr : f_9_endsOf x1 x2 h = some r) : MC γ dd yX9_endsOf cX9_endsOf 4 (some .int) [.ref (γ.2.2.1 114), .int x1, .int x2] h (QI r h) := by
  unfold f_9_endsOf at hr
  refine MC.of mi_9_endsOf (Nat.le_of_ble_eq_true rfl) (fun ε hR => ?_)
  show VW γ ε cX9_endsOf RX9 4 dd 0 [(0, .ref (γ.2.2.1 114)), (1, .int x1), (2, .int x2)] [] h
  refine VW.iload_n d9_endsOf_0 2 rfl ?_
  refine VW.iconst (v := 1) d9_endsOf_1 ic_1 ?_
  refine VW.icmp_ge 9 d9_endsOf_2 (by decide) (fun c1 => ?_) (fun c1 => ?_)
  · replace hr := ip hr c1
    refine VW.iload_n d9_endsOf_9 2 rfl ?_
    refine VW.iconst (v := 1) d9_endsOf_10 ic_1 ?_
    refine VW.isub d9_endsOf_11 ?_
    refine VW.istore_n (lo' := [(3, .int (x2 - 1)), (0, .ref (γ.2.2.1 114)), (1, .int x1), (2, .int x2)]) d9_endsOf_12 (by decide) rfl ?_
    refine VW.aload_n d9_endsOf_13 1 rfl ?_
    refine VW.iload_n d9_endsOf_14 2 rfl ?_
    refine VW.iconst (v := 0) d9_endsOf_15 ic_0 ?_
    obtain ⟨r3, e2, hr⟩ := bno hr
    refine VW.callV (As := [.int x1, .int 0]) (st := []) d9_endsOf_16 mi_9_of cv_9_145 (oo_9 o9_114) ⟨rfl, rfl⟩ (by decide) (dl1 hd) _ rfl (Nat.le_of_ble_eq_true rfl) rfl (c_9_of (dl hd rfl) e2) (kI ?_)
    by_cases c4 : r3 = 1
    · replace hr := ip hr c4
      refine VW.tableIn (off := 37) 56 d9_endsOf_19 (by rw [c4]; decide) (by rw [c4]; decide) (by rw [c4]; decide) (by decide) ?_
      refine VW.iconst (v := 3) d9_endsOf_56 ic_3 ?_
      refine VW.iload_n d9_endsOf_57 3 rfl ?_
      refine VW.imul d9_endsOf_58 ?_
      exact VW.iret d9_endsOf_59 hR (rIf hr)
    · replace hr := im hr c4
      by_cases c5 : r3 = 2
      · replace hr := ip hr c5
        refine VW.tableIn (off := 69) 88 d9_endsOf_19 (by rw [c5]; decide) (by rw [c5]; decide) (by rw [c5]; decide) (by decide) ?_
        refine VW.iload_n d9_endsOf_88 3 rfl ?_
        exact VW.iret d9_endsOf_89 hR (rIf hr)
      · replace hr := im hr c5
        by_cases c6 : r3 = 3
        · replace hr := ip hr c6
          refine VW.tableIn (off := 41) 60 d9_endsOf_19 (by rw [c6]; decide) (by rw [c6]; decide) (by rw [c6]; decide) (by decide) ?_
          refine VW.iload_n d9_endsOf_60 0 rfl ?_
          exact VW.iret d9_endsOf_61 hR (rIf hr)
        · replace hr := im hr c6
          by_cases c7 : r3 = 4
          · replace hr := ip hr c7
            refine VW.tableIn (off := 43) 62 d9_endsOf_19 (by rw [c7]; decide) (by rw [c7]; decide) (by rw [c7]; decide) (by decide) ?_
            refine VW.iload_n d9_endsOf_62 3 rfl ?_
            refine VW.iconst (v := 1) d9_endsOf_63 ic_1 ?_
            refine VW.icmp_le 73 d9_endsOf_64 (by decide) (fun c8 => ?_) (fun c8 => ?_)
            · replace hr := ip hr c8
              refine VW.iconst (v := 0) d9_endsOf_73 ic_0 ?_
              exact VW.iret d9_endsOf_74 hR (rIf hr)
            · replace hr := im hr c8
              refine VW.iconst (v := 3) d9_endsOf_67 ic_3 ?_
              refine VW.iload_n d9_endsOf_68 3 rfl ?_
              refine VW.imul d9_endsOf_69 ?_
              refine VW.goto 74 d9_endsOf_70 (by decide) ?_
              exact VW.iret d9_endsOf_74 hR (rIf hr)
          · replace hr := im hr c7
            by_cases c9 : r3 = 5
            · replace hr := ip hr c9
              refine VW.tableIn (off := 56) 75 d9_endsOf_19 (by rw [c9]; decide) (by rw [c9]; decide) (by rw [c9]; decide) (by decide) ?_
              refine VW.iload_n d9_endsOf_75 3 rfl ?_
              refine VW.aload_n d9_endsOf_76 1 rfl ?_
              refine VW.iload_n d9_endsOf_77 2 rfl ?_
              refine VW.iconst (v := 1) d9_endsOf_78 ic_1 ?_
              obtain ⟨r11, e10, hr⟩ := bno hr
              refine VW.callV (As := [.int x1, .int 1]) (st := [.int x2]) d9_endsOf_79 mi_9_of cv_9_145 (oo_9 o9_114) ⟨rfl, rfl⟩ (by decide) (dl1 hd) _ rfl (Nat.le_of_ble_eq_true rfl) rfl (c_9_of (dl hd rfl) e10) (kI ?_)
              refine VW.iadd d9_endsOf_82 ?_
              exact VW.iret d9_endsOf_83 hR (rIf hr)
            · replace hr := im hr c9
              by_cases c12 : r3 = 6
              · replace hr := ip hr c12
                refine VW.tableIn (off := 65) 84 d9_endsOf_19 (by rw [c12]; decide) (by rw [c12]; decide) (by rw [c12]; decide) (by decide) ?_
                refine VW.iload_n d9_endsOf_84 0 rfl ?_
                refine VW.iconst (v := 2) d9_endsOf_85 ic_2 ?_
                refine VW.idiv d9_endsOf_86 (by decide) ?_
                exact VW.iret d9_endsOf_87 hR (rIf hr)
              · replace hr := im hr c12
                have tc4 := lv_neT c4 (by decide : (1 : Int32).toInt = 1)
                have tc5 := lv_neT c5 (by decide : (2 : Int32).toInt = 2)
                have tc6 := lv_neT c6 (by decide : (3 : Int32).toInt = 3)
                have tc7 := lv_neT c7 (by decide : (4 : Int32).toInt = 4)
                have tc9 := lv_neT c9 (by decide : (5 : Int32).toInt = 5)
                have tc12 := lv_neT c12 (by decide : (6 : Int32).toInt = 6)
                refine VW.tableOut 88 d9_endsOf_19 (by omega) (by decide) ?_
                refine VW.iload_n d9_endsOf_88 3 rfl ?_
                exact VW.iret d9_endsOf_89 hR (rIf hr)
  · replace hr := im hr c1
    refine VW.iconst (v := 0) d9_endsOf_5 ic_0 ?_
    refine VW.goto 12 d9_endsOf_6 (by decide) ?_
    refine VW.istore_n (lo' := [(3, .int 0), (0, .ref (γ.2.2.1 114)), (1, .int x1), (2, .int x2)]) d9_endsOf_12 (by decide) rfl ?_
    refine VW.aload_n d9_endsOf_13 1 rfl ?_
    refine VW.iload_n d9_endsOf_14 2 rfl ?_
    refine VW.iconst (v := 0) d9_endsOf_15 ic_0 ?_
    obtain ⟨r14, e13, hr⟩ := bno hr
    refine VW.callV (As := [.int x1, .int 0]) (st := []) d9_endsOf_16 mi_9_of cv_9_145 (oo_9 o9_114) ⟨rfl, rfl⟩ (by decide) (dl1 hd) _ rfl (Nat.le_of_ble_eq_true rfl) rfl (c_9_of (dl hd rfl) e13) (kI ?_)
    by_cases c15 : r14 = 1
    · replace hr := ip hr c15
      refine VW.tableIn (off := 37) 56 d9_endsOf_19 (by rw [c15]; decide) (by rw [c15]; decide) (by rw [c15]; decide) (by decide) ?_
      refine VW.iconst (v := 3) d9_endsOf_56 ic_3 ?_
      refine VW.iload_n d9_endsOf_57 3 rfl ?_
      refine VW.imul d9_endsOf_58 ?_
      exact VW.iret d9_endsOf_59 hR (rIf hr)
    · replace hr := im hr c15
      by_cases c16 : r14 = 2
      · replace hr := ip hr c16
        refine VW.tableIn (off := 69) 88 d9_endsOf_19 (by rw [c16]; decide) (by rw [c16]; decide) (by rw [c16]; decide) (by decide) ?_
        refine VW.iload_n d9_endsOf_88 3 rfl ?_
        exact VW.iret d9_endsOf_89 hR (rIf hr)
      · replace hr := im hr c16
        by_cases c17 : r14 = 3
        · replace hr := ip hr c17
          refine VW.tableIn (off := 41) 60 d9_endsOf_19 (by rw [c17]; decide) (by rw [c17]; decide) (by rw [c17]; decide) (by decide) ?_
          refine VW.iload_n d9_endsOf_60 0 rfl ?_
          exact VW.iret d9_endsOf_61 hR (rIf hr)
        · replace hr := im hr c17
          by_cases c18 : r14 = 4
          · replace hr := ip hr c18
            refine VW.tableIn (off := 43) 62 d9_endsOf_19 (by rw [c18]; decide) (by rw [c18]; decide) (by rw [c18]; decide) (by decide) ?_
            refine VW.iload_n d9_endsOf_62 3 rfl ?_
            refine VW.iconst (v := 1) d9_endsOf_63 ic_1 ?_
            refine VW.icmp_le 73 d9_endsOf_64 (by decide) (fun c19 => ?_) (fun c19 => ?_)
            · replace hr := ip hr c19
              refine VW.iconst (v := 0) d9_endsOf_73 ic_0 ?_
              exact VW.iret d9_endsOf_74 hR (rIf hr)
            · replace hr := im hr c19
              refine VW.iconst (v := 3) d9_endsOf_67 ic_3 ?_
              refine VW.iload_n d9_endsOf_68 3 rfl ?_
              refine VW.imul d9_endsOf_69 ?_
              refine VW.goto 74 d9_endsOf_70 (by decide) ?_
              exact VW.iret d9_endsOf_74 hR (rIf hr)
          · replace hr := im hr c18
            by_cases c20 : r14 = 5
            · replace hr := ip hr c20
              refine VW.tableIn (off := 56) 75 d9_endsOf_19 (by rw [c20]; decide) (by rw [c20]; decide) (by rw [c20]; decide) (by decide) ?_
              refine VW.iload_n d9_endsOf_75 3 rfl ?_
              refine VW.aload_n d9_endsOf_76 1 rfl ?_
              refine VW.iload_n d9_endsOf_77 2 rfl ?_
              refine VW.iconst (v := 1) d9_endsOf_78 ic_1 ?_
              obtain ⟨r22, e21, hr⟩ := bno hr
              refine VW.callV (As := [.int x1, .int 1]) (st := [.int x2]) d9_endsOf_79 mi_9_of cv_9_145 (oo_9 o9_114) ⟨rfl, rfl⟩ (by decide) (dl1 hd) _ rfl (Nat.le_of_ble_eq_true rfl) rfl (c_9_of (dl hd rfl) e21) (kI ?_)
              refine VW.iadd d9_endsOf_82 ?_
              exact VW.iret d9_endsOf_83 hR (rIf hr)
            · replace hr := im hr c20
              by_cases c23 : r14 = 6
              · replace hr := ip hr c23
                refine VW.tableIn (off := 65) 84 d9_endsOf_19 (by rw [c23]; decide) (by rw [c23]; decide) (by rw [c23]; decide) (by decide) ?_
                refine VW.iload_n d9_endsOf_84 0 rfl ?_
                refine VW.iconst (v := 2) d9_endsOf_85 ic_2 ?_
                refine VW.idiv d9_endsOf_86 (by decide) ?_
                exact VW.iret d9_endsOf_87 hR (rIf hr)
              · replace hr := im hr c23
                have tc15 := lv_neT c15 (by decide : (1 : Int32).toInt = 1)
                have tc16 := lv_neT c16 (by decide : (2 : Int32).toInt = 2)
                have tc17 := lv_neT c17 (by decide : (3 : Int32).toInt = 3)
                have tc18 := lv_neT c18 (by decide : (4 : Int32).toInt = 4)
                have tc20 := lv_neT c20 (by decide : (5 : Int32).toInt = 5)
                have tc23 := lv_neT c23 (by decide : (6 : Int32).toInt = 6)
                refine VW.tableOut 88 d9_endsOf_19 (by omega) (by decide) ?_
                refine VW.iload_n d9_endsOf_88 3 rfl ?_
                exact VW.iret d9_endsOf_89 hR (rIf hr)
set_option maxRecDepth 100000 in
set_option maxHeartbeats 4000000 in
theorem c_9_seen {γ : Gm} {dd : Nat} {x1 : Int32} {x2 : Int32} {h : Hp} {r : Int32} (hd : 1 ≤ dd) (hr : f_9_seen x1 x2 h = some r) : MC γ dd yX9_seen cX9_seen 4 (some .int) [.ref (γ.2.2.1 114), .int x1, .int x2] h (QI r h) := by
  unfold f_9_seen at hr
  refine MC.of mi_9_seen (Nat.le_of_ble_eq_true rfl) (fun ε hR => ?_)
  show VW γ ε cX9_seen RX9 4 dd 0 [(0, .ref (γ.2.2.1 114)), (1, .int x1), (2, .int x2)] [] h
  refine VW.aload_n d9_seen_0 0 rfl ?_
  refine VW.iload_n d9_seen_1 1 rfl ?_
  refine VW.iconst (v := 1) d9_seen_2 ic_1 ?_
  obtain ⟨r2, e1, hr⟩ := bno hr
  refine VW.callV (As := [.int x1, .int 1]) (st := []) d9_seen_3 mi_9_of cv_9_145 (oo_9 o9_114) ⟨rfl, rfl⟩ (by decide) (dl1 hd) _ rfl (Nat.le_of_ble_eq_true rfl) rfl (c_9_of (dl hd rfl) e1) (kI ?_)
  refine VW.istore_n (lo' := [(3, .int r2), (0, .ref (γ.2.2.1 114)), (1, .int x1), (2, .int x2)]) d9_seen_6 (by decide) rfl ?_
  refine VW.aload_n d9_seen_7 1 rfl ?_
  refine VW.iload_n d9_seen_8 2 rfl ?_
  refine VW.iconst (v := 0) d9_seen_9 ic_0 ?_
  obtain ⟨r4, e3, hr⟩ := bno hr
  refine VW.callV (As := [.int x1, .int 0]) (st := []) d9_seen_10 mi_9_of cv_9_145 (oo_9 o9_114) ⟨rfl, rfl⟩ (by decide) (dl1 hd) _ rfl (Nat.le_of_ble_eq_true rfl) rfl (c_9_of (dl hd rfl) e3) (kI ?_)
  by_cases c5 : r4 = 1
  · replace hr := ip hr c5
    refine VW.tableIn (off := 39) 52 d9_seen_13 (by rw [c5]; decide) (by rw [c5]; decide) (by rw [c5]; decide) (by decide) ?_
    refine VW.iconst (v := 2) d9_seen_52 ic_2 ?_
    refine VW.iload_n d9_seen_53 3 rfl ?_
    refine VW.imul d9_seen_54 ?_
    exact VW.iret d9_seen_55 hR (rIf hr)
  · replace hr := im hr c5
    by_cases c6 : r4 = 2
    · replace hr := ip hr c6
      refine VW.tableIn (off := 43) 56 d9_seen_13 (by rw [c6]; decide) (by rw [c6]; decide) (by rw [c6]; decide) (by decide) ?_
      refine VW.iload_n d9_seen_56 3 rfl ?_
      refine VW.iconst (v := 2) d9_seen_57 ic_2 ?_
      refine VW.idiv d9_seen_58 (by decide) ?_
      exact VW.iret d9_seen_59 hR (rIf hr)
    · replace hr := im hr c6
      by_cases c7 : r4 = 3
      · replace hr := ip hr c7
        refine VW.tableIn (off := 47) 60 d9_seen_13 (by rw [c7]; decide) (by rw [c7]; decide) (by rw [c7]; decide) (by decide) ?_
        refine VW.iconst (v := 0) d9_seen_60 ic_0 ?_
        exact VW.iret d9_seen_61 hR (rIf hr)
      · replace hr := im hr c7
        by_cases c8 : r4 = 4
        · replace hr := ip hr c8
          refine VW.tableIn (off := 49) 62 d9_seen_13 (by rw [c8]; decide) (by rw [c8]; decide) (by rw [c8]; decide) (by decide) ?_
          refine VW.iconst (v := 2) d9_seen_62 ic_2 ?_
          refine VW.iload_n d9_seen_63 3 rfl ?_
          refine VW.imul d9_seen_64 ?_
          refine VW.iload_n d9_seen_65 0 rfl ?_
          refine VW.iadd d9_seen_66 ?_
          exact VW.iret d9_seen_67 hR (rIf hr)
        · replace hr := im hr c8
          by_cases c9 : r4 = 5
          · replace hr := ip hr c9
            refine VW.tableIn (off := 55) 68 d9_seen_13 (by rw [c9]; decide) (by rw [c9]; decide) (by rw [c9]; decide) (by decide) ?_
            refine VW.iload_n d9_seen_68 3 rfl ?_
            refine VW.iconst (v := 2) d9_seen_69 ic_2 ?_
            refine VW.idiv d9_seen_70 (by decide) ?_
            refine VW.iload_n d9_seen_71 0 rfl ?_
            refine VW.icmp_ge 79 d9_seen_72 (by decide) (fun c10 => ?_) (fun c10 => ?_)
            · replace hr := ip hr c10
              refine VW.iload_n d9_seen_79 3 rfl ?_
              refine VW.iconst (v := 2) d9_seen_80 ic_2 ?_
              refine VW.idiv d9_seen_81 (by decide) ?_
              exact VW.iret d9_seen_82 hR (rIf hr)
            · replace hr := im hr c10
              refine VW.iconst (v := 0) d9_seen_75 ic_0 ?_
              refine VW.goto 82 d9_seen_76 (by decide) ?_
              exact VW.iret d9_seen_82 hR (rIf hr)
          · replace hr := im hr c9
            by_cases c11 : r4 = 6
            · replace hr := ip hr c11
              refine VW.tableIn (off := 70) 83 d9_seen_13 (by rw [c11]; decide) (by rw [c11]; decide) (by rw [c11]; decide) (by decide) ?_
              refine VW.iload_n d9_seen_83 3 rfl ?_
              refine VW.if_ne 91 d9_seen_84 (by decide) (fun c12 => ?_) (fun c12 => ?_)
              · replace hr := ip hr c12
                refine VW.iconst (v := 0) d9_seen_87 ic_0 ?_
                refine VW.goto 92 d9_seen_88 (by decide) ?_
                exact VW.iret d9_seen_92 hR (rIf hr)
              · replace hr := im hr c12
                refine VW.iconst (v := 1) d9_seen_91 ic_1 ?_
                exact VW.iret d9_seen_92 hR (rIf hr)
            · replace hr := im hr c11
              have tc5 := lv_neT c5 (by decide : (1 : Int32).toInt = 1)
              have tc6 := lv_neT c6 (by decide : (2 : Int32).toInt = 2)
              have tc7 := lv_neT c7 (by decide : (3 : Int32).toInt = 3)
              have tc8 := lv_neT c8 (by decide : (4 : Int32).toInt = 4)
              have tc9 := lv_neT c9 (by decide : (5 : Int32).toInt = 5)
              have tc11 := lv_neT c11 (by decide : (6 : Int32).toInt = 6)
              refine VW.tableOut 93 d9_seen_13 (by omega) (by decide) ?_
              refine VW.iload_n d9_seen_93 3 rfl ?_
              exact VW.iret d9_seen_94 hR (rIf hr)
set_option maxRecDepth 100000 in
set_option maxHeartbeats 4000000 in
theorem c_9_held {γ : Gm} {dd : Nat} {x0 : Int32} {x1 : Int32} {x2 : Int32} {h : Hp} {r : Int32} (hd : 0 ≤ dd) (hr : f_9_held x0 x1 x2 = r) : MC γ dd yX9_held cX9_held 3 (some .int) [.int x0, .int x1, .int x2] h (QI r h) := by
  unfold f_9_held at hr
  refine MC.of mi_9_held (Nat.le_of_ble_eq_true rfl) (fun ε hR => ?_)
  show VW γ ε cX9_held RX9 3 dd 0 [(0, .int x0), (1, .int x1), (2, .int x2)] [] h
  refine VW.iload_n d9_held_0 0 rfl ?_
  refine VW.iload_n d9_held_1 1 rfl ?_
  refine VW.icmp_ge 9 d9_held_2 (by decide) (fun c1 => ?_) (fun c1 => ?_)
  · replace hr := ip hr c1
    refine VW.iload_n d9_held_9 0 rfl ?_
    refine VW.iload_n d9_held_10 2 rfl ?_
    refine VW.icmp_le 18 d9_held_11 (by decide) (fun c2 => ?_) (fun c2 => ?_)
    · replace hr := ip hr c2
      refine VW.iload_n d9_held_18 0 rfl ?_
      exact VW.iret d9_held_19 hR (rIt hr)
    · replace hr := im hr c2
      refine VW.iload_n d9_held_14 2 rfl ?_
      refine VW.goto 19 d9_held_15 (by decide) ?_
      exact VW.iret d9_held_19 hR (rIt hr)
  · replace hr := im hr c1
    refine VW.iload_n d9_held_5 1 rfl ?_
    refine VW.goto 19 d9_held_6 (by decide) ?_
    exact VW.iret d9_held_19 hR (rIt hr)
set_option maxRecDepth 100000 in
set_option maxHeartbeats 4000000 in
theorem c_9_here {γ : Gm} {dd : Nat} {h : Hp} {r : Int32} (hd : 0 ≤ dd) (hr : f_9_here h = some r) : MC γ dd yX9_here cX9_here 1 (some .int) [.ref (γ.2.2.1 114)] h (QI r h) := by
  unfold f_9_here at hr
  refine MC.of mi_9_here (Nat.le_of_ble_eq_true rfl) (fun ε hR => ?_)
  show VW γ ε cX9_here RX9 1 dd 0 [(0, .ref (γ.2.2.1 114))] [] h
  refine VW.aload_n d9_here_0 0 rfl ?_
  refine VW.getI (k := 5) d9_here_1 (oo_9 o9_114) rfl fl_9_48 ck9 ?_
  refine VW.aload_n d9_here_4 0 rfl ?_
  refine VW.getI (k := 6) d9_here_5 (oo_9 o9_114) rfl fl_9_52 ck9 ?_
  refine VW.icmp_ge 35 d9_here_8 (by decide) (fun c1 => ?_) (fun c1 => ?_)
  · replace hr := ip hr c1
    refine VW.iconst (v := (-1)) d9_here_35 ic_m1 ?_
    exact VW.iret d9_here_36 hR (rIf hr)
  · replace hr := im hr c1
    refine VW.aload_n d9_here_11 0 rfl ?_
    refine VW.getI (k := 7) d9_here_12 (oo_9 o9_114) rfl fl_9_55 ck9 ?_
    refine VW.if_ge 35 d9_here_15 (by decide) (fun c2 => ?_) (fun c2 => ?_)
    · replace hr := ip hr c2
      refine VW.iconst (v := (-1)) d9_here_35 ic_m1 ?_
      exact VW.iret d9_here_36 hR (rIf hr)
    · replace hr := im hr c2
      refine VW.aload_n d9_here_18 0 rfl ?_
      refine VW.getR (k := 0) (r := 115) d9_here_19 (oo_9 o9_114) rfl fl_9_7 ck9 ?_
      refine VW.aload_n d9_here_22 0 rfl ?_
      refine VW.getI (k := 4) d9_here_23 (oo_9 o9_114) rfl fl_9_58 ck9 ?_
      refine VW.aload_n d9_here_26 0 rfl ?_
      refine VW.getI (k := 5) d9_here_27 (oo_9 o9_114) rfl fl_9_48 ck9 ?_
      refine VW.iadd d9_here_30 ?_
      obtain ⟨g3, hr⟩ := gdt hr
      refine VW.iald (j := (ci ((h 114 4) + (h 114 5)))) d9_here_31 (rf_9_0 o9_114) g3 rfl ?_
      refine VW.goto 36 d9_here_32 (by decide) ?_
      exact VW.iret d9_here_36 hR (rIf hr)
set_option maxRecDepth 100000 in
set_option maxHeartbeats 4000000 in
theorem c_9_takes {γ : Gm} {dd : Nat} {x1 : Int32} {h : Hp} {r : Int32} {hz : Hp} (hd : 1 ≤ dd) (hr : f_9_takes x1 h = some (r, hz)) : MC γ dd yX9_takes cX9_takes 2 (some .boolean) [.ref (γ.2.2.1 114), .int x1] h (QI r hz) := by
  unfold f_9_takes at hr
  refine MC.of mi_9_takes (Nat.le_of_ble_eq_true rfl) (fun ε hR => ?_)
  show VW γ ε cX9_takes RX9 2 dd 0 [(0, .ref (γ.2.2.1 114)), (1, .int x1)] [] h
  refine VW.aload_n d9_takes_0 0 rfl ?_
  obtain ⟨r2, e1, hr⟩ := bno hr
  refine VW.callV (As := []) (st := []) d9_takes_1 mi_9_here cv_9_61 (oo_9 o9_114) ⟨rfl, rfl⟩ (by decide) (dl1 hd) _ rfl (Nat.le_of_ble_eq_true rfl) rfl (c_9_here (dl hd rfl) e1) (kI ?_)
  refine VW.iload_n d9_takes_4 1 rfl ?_
  refine VW.icmp_eq 10 d9_takes_5 (by decide) (fun c3 => ?_) (fun c3 => ?_)
  · replace hr := ip hr c3
    refine VW.aload_n d9_takes_10 0 rfl ?_
    refine VW.dup d9_takes_11 rfl ?_
    refine VW.getI (k := 5) d9_takes_12 (oo_9 o9_114) rfl fl_9_48 ck9 ?_
    refine VW.iconst (v := 1) d9_takes_15 ic_1 ?_
    refine VW.iadd d9_takes_16 ?_
    obtain ⟨h4, e5, hr⟩ := hlt hr
    refine VW.putI (k := 5) d9_takes_17 (oo_9 o9_114) rfl fl_9_48 ck9 rfl rfl rfl rfl ?_
    refine VW.heq e5 ?_
    refine VW.iconst (v := 1) d9_takes_20 ic_1 ?_
    exact VW.zret d9_takes_21 hR rfl (rIw hr)
  · replace hr := im hr c3
    refine VW.iconst (v := 0) d9_takes_8 ic_0 ?_
    exact VW.zret d9_takes_9 hR rfl (rIw hr)
set_option maxRecDepth 100000 in
set_option maxHeartbeats 4000000 in
theorem c_9_nameOf {γ : Gm} {dd : Nat} {x1 : Int32} {h : Hp} {r : Int32} (hd : 0 ≤ dd) (hr : f_9_nameOf x1 h = r) : MC γ dd yX9_nameOf cX9_nameOf 2 (some .int) [.ref (γ.2.2.1 114), .int x1] h (QI r h) := by
  unfold f_9_nameOf at hr
  refine MC.of mi_9_nameOf (Nat.le_of_ble_eq_true rfl) (fun ε hR => ?_)
  show VW γ ε cX9_nameOf RX9 2 dd 0 [(0, .ref (γ.2.2.1 114)), (1, .int x1)] [] h
  refine VW.aload_n d9_nameOf_0 0 rfl ?_
  refine VW.getI (k := 9) d9_nameOf_1 (oo_9 o9_114) rfl fl_9_65 ck9 ?_
  refine VW.if_eq 39 d9_nameOf_4 (by decide) (fun c1 => ?_) (fun c1 => ?_)
  · replace hr := ip hr c1
    refine VW.iload_n d9_nameOf_39 1 rfl ?_
    refine VW.bipush (v := 102) d9_nameOf_40 bp_102 ?_
    refine VW.icmp_ne 49 d9_nameOf_42 (by decide) (fun c2 => ?_) (fun c2 => ?_)
    · replace hr := ip hr c2
      refine VW.iconst (v := 0) d9_nameOf_45 ic_0 ?_
      refine VW.goto 70 d9_nameOf_46 (by decide) ?_
      exact VW.iret d9_nameOf_70 hR (rIt hr)
    · replace hr := im hr c2
      refine VW.iload_n d9_nameOf_49 1 rfl ?_
      refine VW.bipush (v := 119) d9_nameOf_50 bp_119 ?_
      refine VW.icmp_ne 59 d9_nameOf_52 (by decide) (fun c3 => ?_) (fun c3 => ?_)
      · replace hr := ip hr c3
        refine VW.iconst (v := 1) d9_nameOf_55 ic_1 ?_
        refine VW.goto 70 d9_nameOf_56 (by decide) ?_
        exact VW.iret d9_nameOf_70 hR (rIt hr)
      · replace hr := im hr c3
        refine VW.iload_n d9_nameOf_59 1 rfl ?_
        refine VW.bipush (v := 110) d9_nameOf_60 bp_110 ?_
        refine VW.icmp_ne 69 d9_nameOf_62 (by decide) (fun c4 => ?_) (fun c4 => ?_)
        · replace hr := ip hr c4
          refine VW.iconst (v := 2) d9_nameOf_65 ic_2 ?_
          refine VW.goto 70 d9_nameOf_66 (by decide) ?_
          exact VW.iret d9_nameOf_70 hR (rIt hr)
        · replace hr := im hr c4
          refine VW.iconst (v := (-1)) d9_nameOf_69 ic_m1 ?_
          exact VW.iret d9_nameOf_70 hR (rIt hr)
  · replace hr := im hr c1
    refine VW.iload_n d9_nameOf_7 1 rfl ?_
    refine VW.bipush (v := 111) d9_nameOf_8 bp_111 ?_
    refine VW.icmp_ne 17 d9_nameOf_10 (by decide) (fun c5 => ?_) (fun c5 => ?_)
    · replace hr := ip hr c5
      refine VW.iconst (v := 0) d9_nameOf_13 ic_0 ?_
      refine VW.goto 38 d9_nameOf_14 (by decide) ?_
      exact VW.iret d9_nameOf_38 hR (rIt hr)
    · replace hr := im hr c5
      refine VW.iload_n d9_nameOf_17 1 rfl ?_
      refine VW.bipush (v := 108) d9_nameOf_18 bp_108 ?_
      refine VW.icmp_ne 27 d9_nameOf_20 (by decide) (fun c6 => ?_) (fun c6 => ?_)
      · replace hr := ip hr c6
        refine VW.iconst (v := 1) d9_nameOf_23 ic_1 ?_
        refine VW.goto 38 d9_nameOf_24 (by decide) ?_
        exact VW.iret d9_nameOf_38 hR (rIt hr)
      · replace hr := im hr c6
        refine VW.iload_n d9_nameOf_27 1 rfl ?_
        refine VW.bipush (v := 116) d9_nameOf_28 bp_116 ?_
        refine VW.icmp_ne 37 d9_nameOf_30 (by decide) (fun c7 => ?_) (fun c7 => ?_)
        · replace hr := ip hr c7
          refine VW.iconst (v := 2) d9_nameOf_33 ic_2 ?_
          refine VW.goto 38 d9_nameOf_34 (by decide) ?_
          exact VW.iret d9_nameOf_38 hR (rIt hr)
        · replace hr := im hr c7
          refine VW.iconst (v := (-1)) d9_nameOf_37 ic_m1 ?_
          exact VW.iret d9_nameOf_38 hR (rIt hr)
set_option maxRecDepth 100000 in
set_option maxHeartbeats 4000000 in
theorem c_9_wrong {γ : Gm} {dd : Nat} {h : Hp} {r : Int32} {hz : Hp} (hd : 0 ≤ dd) (hr : f_9_wrong h = some (r, hz)) : MC γ dd yX9_wrong cX9_wrong 1 (some .int) [.ref (γ.2.2.1 114)] h (QI r hz) := by
  unfold f_9_wrong at hr
  refine MC.of mi_9_wrong (Nat.le_of_ble_eq_true rfl) (fun ε hR => ?_)
  show VW γ ε cX9_wrong RX9 1 dd 0 [(0, .ref (γ.2.2.1 114))] [] h
  refine VW.aload_n d9_wrong_0 0 rfl ?_
  refine VW.aload_n d9_wrong_1 0 rfl ?_
  refine VW.getI (k := 7) d9_wrong_2 (oo_9 o9_114) rfl fl_9_55 ck9 ?_
  refine VW.if_ge 15 d9_wrong_5 (by decide) (fun c1 => ?_) (fun c1 => ?_)
  · replace hr := ip hr c1
    refine VW.aload_n d9_wrong_15 0 rfl ?_
    refine VW.getI (k := 7) d9_wrong_16 (oo_9 o9_114) rfl fl_9_55 ck9 ?_
    obtain ⟨h2, e3, hr⟩ := hlt hr
    refine VW.putI (k := 7) d9_wrong_19 (oo_9 o9_114) rfl fl_9_55 ck9 rfl rfl rfl rfl ?_
    refine VW.heq e3 ?_
    refine VW.iconst (v := 0) d9_wrong_22 ic_0 ?_
    exact VW.iret d9_wrong_23 hR (rIw hr)
  · replace hr := im hr c1
    refine VW.aload_n d9_wrong_8 0 rfl ?_
    refine VW.getI (k := 5) d9_wrong_9 (oo_9 o9_114) rfl fl_9_48 ck9 ?_
    refine VW.goto 19 d9_wrong_12 (by decide) ?_
    obtain ⟨h4, e5, hr⟩ := hlt hr
    refine VW.putI (k := 7) d9_wrong_19 (oo_9 o9_114) rfl fl_9_55 ck9 rfl rfl rfl rfl ?_
    refine VW.heq e5 ?_
    refine VW.iconst (v := 0) d9_wrong_22 ic_0 ?_
    exact VW.iret d9_wrong_23 hR (rIw hr)
