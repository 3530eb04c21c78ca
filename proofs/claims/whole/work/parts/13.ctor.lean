theorem sp_150 : (Int16.ofInt (150)).toInt32 = 150 := by decide
theorem sp_160 : (Int16.ofInt (160)).toInt32 = 160 := by decide
theorem xo_8_1 : Cond.methodLink RX8 1 objectInit ∈ lt := wm 77 (by decide +kernel) (by decide +kernel)
theorem xi_8_9 : cxi RX8 9 yX7_init 0 := ⟨wm 82 (by decide +kernel) (by decide +kernel), wm 83 (by decide +kernel) (by decide +kernel), wm 61 (by decide +kernel) (by decide +kernel), rfl, by decide +kernel⟩
theorem xi_8_21 : cxi RX8 21 yX2_init 1 := ⟨wm 251 (by decide +kernel) (by decide +kernel), wm 252 (by decide +kernel) (by decide +kernel), wm 65 (by decide +kernel) (by decide +kernel), rfl, by decide +kernel⟩
theorem xo_0_3 : Cond.methodLink RX0 3 objectInit ∈ lt := wm 140 (by decide +kernel) (by decide +kernel)
theorem xo_1_3 : Cond.methodLink RX1 3 objectInit ∈ lt := wm 288 (by decide +kernel) (by decide +kernel)
theorem xo_2_3 : Cond.methodLink RX2 3 objectInit ∈ lt := wm 254 (by decide +kernel) (by decide +kernel)
theorem xo_3_3 : Cond.methodLink RX3 3 objectInit ∈ lt := wm 342 (by decide +kernel) (by decide +kernel)
theorem xo_4_3 : Cond.methodLink RX4 3 objectInit ∈ lt := wm 318 (by decide +kernel) (by decide +kernel)
theorem xo_5_3 : Cond.methodLink RX5 3 objectInit ∈ lt := wm 95 (by decide +kernel) (by decide +kernel)
theorem xo_6_3 : Cond.methodLink RX6 3 objectInit ∈ lt := wm 113 (by decide +kernel) (by decide +kernel)
theorem xo_7_3 : Cond.methodLink RX7 3 objectInit ∈ lt := wm 85 (by decide +kernel) (by decide +kernel)
theorem xi_RL_9 : cxi "LipsThatFitLaw" 9 yX8_init 0 := ⟨wm 74 (by decide +kernel) (by decide +kernel), wm 75 (by decide +kernel) (by decide +kernel), wm 60 (by decide +kernel) (by decide +kernel), rfl, by decide +kernel⟩
theorem xi_RL_12 : cxi "LipsThatFitLaw" 12 yX9_init 0 := ⟨wm 858 (by decide +kernel) (by decide +kernel), wm 859 (by decide +kernel) (by decide +kernel), wm 69 (by decide +kernel) (by decide +kernel), rfl, by decide +kernel⟩
theorem xo_9_1 : Cond.methodLink RX9 1 objectInit ∈ lt := wm 861 (by decide +kernel) (by decide +kernel)
theorem xn_8_30 : cxn RX8 30 yX1_init "LipsThatFit" 0 := ⟨by decide +kernel, wm 286 (by decide +kernel) (by decide +kernel), wm 66 (by decide +kernel) (by decide +kernel), rfl, by decide +kernel⟩
theorem xn_8_37 : cxn RX8 37 yX4_init "LipsThatFit" 0 := ⟨by decide +kernel, wm 316 (by decide +kernel) (by decide +kernel), wm 67 (by decide +kernel) (by decide +kernel), rfl, by decide +kernel⟩
theorem xn_8_44 : cxn RX8 44 yX3_init "LipsThatFit" 0 := ⟨by decide +kernel, wm 340 (by decide +kernel) (by decide +kernel), wm 68 (by decide +kernel) (by decide +kernel), rfl, by decide +kernel⟩
theorem xn_7_32 : cxn RX7 32 yX5_init "LipsThatFit" 0 := ⟨by decide +kernel, wm 93 (by decide +kernel) (by decide +kernel), wm 62 (by decide +kernel) (by decide +kernel), rfl, by decide +kernel⟩
theorem xn_7_74 : cxn RX7 74 yX6_init "LipsThatFit" 0 := ⟨by decide +kernel, wm 111 (by decide +kernel) (by decide +kernel), wm 63 (by decide +kernel) (by decide +kernel), rfl, by decide +kernel⟩
theorem xn_7_75 : cxn RX7 75 yX0_init "LipsThatFit" 0 := ⟨by decide +kernel, wm 138 (by decide +kernel) (by decide +kernel), wm 64 (by decide +kernel) (by decide +kernel), rfl, by decide +kernel⟩
theorem xob : Cond.instanceMethod objectInit ∈ lt := wm 78 (by decide +kernel) (by decide +kernel)
theorem xoc : Cond.code objectInit ⟨#[0xb1]⟩ 1 none ∈ lt := wm 79 (by decide +kernel) (by decide +kernel)
theorem xai : Cond.arrayClass .int ∈ lt := wm 108 (by decide +kernel) (by decide +kernel)
theorem xt_8 : Cond.initialized (cR 8).1 ∈ lt := wm 60 (by decide +kernel) (by decide +kernel)
theorem xt_7 : Cond.initialized (cR 7).1 ∈ lt := wm 61 (by decide +kernel) (by decide +kernel)
theorem xt_5 : Cond.initialized (cR 5).1 ∈ lt := wm 62 (by decide +kernel) (by decide +kernel)
theorem xt_6 : Cond.initialized (cR 6).1 ∈ lt := wm 63 (by decide +kernel) (by decide +kernel)
theorem xt_0 : Cond.initialized (cR 0).1 ∈ lt := wm 64 (by decide +kernel) (by decide +kernel)
theorem xt_2 : Cond.initialized (cR 2).1 ∈ lt := wm 65 (by decide +kernel) (by decide +kernel)
theorem xt_1 : Cond.initialized (cR 1).1 ∈ lt := wm 66 (by decide +kernel) (by decide +kernel)
theorem xt_4 : Cond.initialized (cR 4).1 ∈ lt := wm 67 (by decide +kernel) (by decide +kernel)
theorem xt_3 : Cond.initialized (cR 3).1 ∈ lt := wm 68 (by decide +kernel) (by decide +kernel)
theorem xt_9 : Cond.initialized (cR 9).1 ∈ lt := wm 69 (by decide +kernel) (by decide +kernel)
theorem xc_RL_7 : Cond.classLink "LipsThatFitLaw" 7 (cR 8).1 ∈ lt := wm 72 (by decide +kernel) (by decide +kernel)
theorem xs_8 : Cond.instantiable (cR 8).1 (cR 8).2.2 ∈ lt := wm 73 (by decide +kernel) (by decide +kernel)
theorem xc_8_7 : Cond.classLink RX8 7 (cR 7).1 ∈ lt := wm 80 (by decide +kernel) (by decide +kernel)
theorem xs_7 : Cond.instantiable (cR 7).1 (cR 7).2.2 ∈ lt := wm 81 (by decide +kernel) (by decide +kernel)
theorem xc_7_15 : Cond.classLink RX7 15 (cR 6).1 ∈ lt := wm 86 (by decide +kernel) (by decide +kernel)
theorem xc_7_21 : Cond.classLink RX7 21 (cR 0).1 ∈ lt := wm 88 (by decide +kernel) (by decide +kernel)
theorem xc_7_30 : Cond.classLink RX7 30 (cR 5).1 ∈ lt := wm 90 (by decide +kernel) (by decide +kernel)
theorem xs_5 : Cond.instantiable (cR 5).1 (cR 5).2.2 ∈ lt := wm 91 (by decide +kernel) (by decide +kernel)
theorem xs_6 : Cond.instantiable (cR 6).1 (cR 6).2.2 ∈ lt := wm 109 (by decide +kernel) (by decide +kernel)
theorem xs_0 : Cond.instantiable (cR 0).1 (cR 0).2.2 ∈ lt := wm 136 (by decide +kernel) (by decide +kernel)
theorem xc_8_19 : Cond.classLink RX8 19 (cR 2).1 ∈ lt := wm 249 (by decide +kernel) (by decide +kernel)
theorem xs_2 : Cond.instantiable (cR 2).1 (cR 2).2.2 ∈ lt := wm 250 (by decide +kernel) (by decide +kernel)
theorem xc_8_28 : Cond.classLink RX8 28 (cR 1).1 ∈ lt := wm 283 (by decide +kernel) (by decide +kernel)
theorem xs_1 : Cond.instantiable (cR 1).1 (cR 1).2.2 ∈ lt := wm 284 (by decide +kernel) (by decide +kernel)
theorem xc_8_35 : Cond.classLink RX8 35 (cR 4).1 ∈ lt := wm 313 (by decide +kernel) (by decide +kernel)
theorem xs_4 : Cond.instantiable (cR 4).1 (cR 4).2.2 ∈ lt := wm 314 (by decide +kernel) (by decide +kernel)
theorem xc_8_42 : Cond.classLink RX8 42 (cR 3).1 ∈ lt := wm 337 (by decide +kernel) (by decide +kernel)
theorem xs_3 : Cond.instantiable (cR 3).1 (cR 3).2.2 ∈ lt := wm 338 (by decide +kernel) (by decide +kernel)
theorem xc_3_18 : Cond.classLink RX3 18 "[[I" ∈ lt := wm 343 (by decide +kernel) (by decide +kernel)
theorem xc_RL_10 : Cond.classLink "LipsThatFitLaw" 10 (cR 9).1 ∈ lt := wm 856 (by decide +kernel) (by decide +kernel)
theorem xs_9 : Cond.instantiable (cR 9).1 (cR 9).2.2 ∈ lt := wm 857 (by decide +kernel) (by decide +kernel)
theorem xf_0 : ∀ j, j < (cR 0).2.2 → defaultValue (cT 0 j) = vp_V [.null, .int 0, .int 0, .int 0, .int 0, .int 0, .int 0] j := by
  intro j hj
  have hj : j < 7 := hj
  rcases (show j = 0 ∨ j = 1 ∨ j = 2 ∨ j = 3 ∨ j = 4 ∨ j = 5 ∨ j = 6 by omega) with rfl | rfl | rfl | rfl | rfl | rfl | rfl <;> rfl
theorem xf_1 : ∀ j, j < (cR 1).2.2 → defaultValue (cT 1 j) = vp_V [.null, .int 0, .null, .int 0, .int 0, .int 0, .int 0] j := by
  intro j hj
  have hj : j < 7 := hj
  rcases (show j = 0 ∨ j = 1 ∨ j = 2 ∨ j = 3 ∨ j = 4 ∨ j = 5 ∨ j = 6 by omega) with rfl | rfl | rfl | rfl | rfl | rfl | rfl <;> rfl
theorem xf_2 : ∀ j, j < (cR 2).2.2 → defaultValue (cT 2 j) = vp_V [.null, .null, .null, .null, .null, .int 0, .int 0, .int 0] j := by
  intro j hj
  have hj : j < 8 := hj
  rcases (show j = 0 ∨ j = 1 ∨ j = 2 ∨ j = 3 ∨ j = 4 ∨ j = 5 ∨ j = 6 ∨ j = 7 by omega) with rfl | rfl | rfl | rfl | rfl | rfl | rfl | rfl <;> rfl
theorem xf_3 : ∀ j, j < (cR 3).2.2 → defaultValue (cT 3 j) = vp_V [.null, .null, .null] j := by
  intro j hj
  have hj : j < 3 := hj
  rcases (show j = 0 ∨ j = 1 ∨ j = 2 by omega) with rfl | rfl | rfl <;> rfl
theorem xf_4 : ∀ j, j < (cR 4).2.2 → defaultValue (cT 4 j) = vp_V [.null, .int 0, .int 0, .int 0, .int 0] j := by
  intro j hj
  have hj : j < 5 := hj
  rcases (show j = 0 ∨ j = 1 ∨ j = 2 ∨ j = 3 ∨ j = 4 by omega) with rfl | rfl | rfl | rfl | rfl <;> rfl
theorem xf_5 : ∀ j, j < (cR 5).2.2 → defaultValue (cT 5 j) = vp_V [.null, .null, .int 0] j := by
  intro j hj
  have hj : j < 3 := hj
  rcases (show j = 0 ∨ j = 1 ∨ j = 2 by omega) with rfl | rfl | rfl <;> rfl
theorem xf_6 : ∀ j, j < (cR 6).2.2 → defaultValue (cT 6 j) = vp_V [.null, .int 0, .int 0, .int 0] j := by
  intro j hj
  have hj : j < 4 := hj
  rcases (show j = 0 ∨ j = 1 ∨ j = 2 ∨ j = 3 by omega) with rfl | rfl | rfl | rfl <;> rfl
theorem xf_7 : ∀ j, j < (cR 7).2.2 → defaultValue (cT 7 j) = vp_V [.null, .null, .null, .null, .null, .null, .null, .null, .null, .null, .int 0, .int 0, .int 0, .int 0, .int 0, .int 0, .int 0] j := by
  intro j hj
  have hj : j < 17 := hj
  rcases (show j = 0 ∨ j = 1 ∨ j = 2 ∨ j = 3 ∨ j = 4 ∨ j = 5 ∨ j = 6 ∨ j = 7 ∨ j = 8 ∨ j = 9 ∨ j = 10 ∨ j = 11 ∨ j = 12 ∨ j = 13 ∨ j = 14 ∨ j = 15 ∨ j = 16 by omega) with rfl | rfl | rfl | rfl | rfl | rfl | rfl | rfl | rfl | rfl | rfl | rfl | rfl | rfl | rfl | rfl | rfl <;> rfl
theorem xf_8 : ∀ j, j < (cR 8).2.2 → defaultValue (cT 8 j) = vp_V [.null, .null, .null, .null, .null, .null, .null, .int 0] j := by
  intro j hj
  have hj : j < 8 := hj
  rcases (show j = 0 ∨ j = 1 ∨ j = 2 ∨ j = 3 ∨ j = 4 ∨ j = 5 ∨ j = 6 ∨ j = 7 by omega) with rfl | rfl | rfl | rfl | rfl | rfl | rfl | rfl <;> rfl
theorem xf_9 : ∀ j, j < (cR 9).2.2 → defaultValue (cT 9 j) = vp_V [.null, .null, .int 0, .null, .int 0, .int 0, .int 0, .int 0, .int 0, .int 0, .null, .int 0, .null, .int 0, .int 0, .null, .int 0, .int 0, .null, .int 0, .int 0, .null, .null, .null, .null] j := by
  intro j hj
  have hj : j < 25 := hj
  rcases (show j = 0 ∨ j = 1 ∨ j = 2 ∨ j = 3 ∨ j = 4 ∨ j = 5 ∨ j = 6 ∨ j = 7 ∨ j = 8 ∨ j = 9 ∨ j = 10 ∨ j = 11 ∨ j = 12 ∨ j = 13 ∨ j = 14 ∨ j = 15 ∨ j = 16 ∨ j = 17 ∨ j = 18 ∨ j = 19 ∨ j = 20 ∨ j = 21 ∨ j = 22 ∨ j = 23 ∨ j = 24 by omega) with rfl | rfl | rfl | rfl | rfl | rfl | rfl | rfl | rfl | rfl | rfl | rfl | rfl | rfl | rfl | rfl | rfl | rfl | rfl | rfl | rfl | rfl | rfl | rfl | rfl <;> rfl
theorem ga {ws l : va_W} {i : Nat} {x : Nat × va_E} (h : ws[i]? = some x) : (ws ++ l)[i]? = some x := by
  rw [List.getElem?_append_left (List.getElem?_eq_some_iff.mp h).1]; exact h
theorem gs {ws l : va_W} {i : Nat} {x e : Nat × va_E} (h : ws[i]? = some x) : (ws.set i e ++ l)[i]? = some e := by
  have hl := (List.getElem?_eq_some_iff.mp h).1
  rw [List.getElem?_append_left (by rw [List.length_set]; exact hl), List.getElem?_set_self hl]
theorem sa {ws l : va_W} {i : Nat} {x e : Nat × va_E} (h : ws[i]? = some x) : (ws ++ l).set i e = ws.set i e ++ l := by
  rw [List.set_append, if_pos (List.getElem?_eq_some_iff.mp h).1]
theorem ss {ws l : va_W} {i : Nat} {x e f : Nat × va_E} (h : ws[i]? = some x) : (ws.set i e ++ l).set i f = ws.set i f ++ l := by
  have hl := (List.getElem?_eq_some_iff.mp h).1
  rw [List.set_append, if_pos (by rw [List.length_set]; exact hl), List.set_set]
theorem VX.weq {γ : Gm} {ε : Ex} {cc : ByteArray} {own : String} {nl dd RC RS pc : Nat} {lo : List (Nat × Value)} {st : List Value} {ws ws' : va_W} {kc ks : Nat} (e : ws = ws') (k : VX γ ε cc own nl dd RC RS pc lo st ws' kc ks) : VX γ ε cc own nl dd RC RS pc lo st ws kc ks := e ▸ k
theorem dz {k d : Nat} (h : k + 1 ≤ d) {j : Nat} (q : Nat.ble j k = true) : j ≤ d - 1 := by
  have := Nat.le_of_ble_eq_true q
  omega
set_option maxRecDepth 100000 in
set_option maxHeartbeats 4000000 in
theorem x_0_init {γ : Gm} {dd : Nat} (hd : 2 ≤ dd) {h0 i : Nat} {ws : va_W} (hi : ws[i]? = some (h0, .inr (0, [.null, .int 0, .int 0, .int 0, .int 0, .int 0, .int 0]))) : MX γ dd yX0_init cX0_init 1 [.ref h0] ws (fun w => ∃ q0 : Nat, w = ws.set i (h0, .inr (0, [.ref q0, .int 0, .int 0, .int 0, .int 0, .int 1, .int 0])) ++ [(q0, eA γ 3)]) 1 3 := by
  refine MX.of mi_0_init (Nat.le_of_ble_eq_true rfl) rfl (fun ε hR hI => ?_)
  show VX γ ε cX0_init RX0 1 dd 1 3 0 [(0, .ref h0)] [] ws 0 0
  refine VX.aload_n d0_init_0 0 rfl ?_
  refine VX.objInit d0_init_1 xo_0_3 xob xoc (dl1 hd) (Nat.le_of_ble_eq_true rfl) ?_
  refine VX.aload_n d0_init_4 0 rfl ?_
  refine VX.iconst (v := 3) d0_init_5 ic_3 ?_
  refine VX.newa (N := 3) d0_init_6 xai (by decide) (by decide) (Nat.le_of_ble_eq_true rfl) (Nat.le_of_ble_eq_true rfl) (Nat.le_of_ble_eq_true rfl) (fun q0 => ?_)
  refine VX.putF hI (k := 0) (ty := .array .int) (ws' := ws.set i (h0, .inr (0, [.ref q0, .int 0, .int 0, .int 0, .int 0, .int 0, .int 0])) ++ [(q0, eA γ 3)]) d0_init_8 (ga hi) fl_0_9 ck0 rfl rfl rfl rfl rfl (Nat.le_of_ble_eq_true rfl) (sa hi) ?_
  refine VX.aload_n d0_init_11 0 rfl ?_
  refine VX.iconst (v := 0) d0_init_12 ic_0 ?_
  refine VX.put (k := 1) (ty := .int) (ws' := ws.set i (h0, .inr (0, [.ref q0, .int 0, .int 0, .int 0, .int 0, .int 0, .int 0])) ++ [(q0, eA γ 3)]) d0_init_13 (gs hi) fl_0_15 ck0 rfl rfl rfl rfl (Nat.le_of_ble_eq_true rfl) (ss hi) ?_
  refine VX.aload_n d0_init_16 0 rfl ?_
  refine VX.iconst (v := 0) d0_init_17 ic_0 ?_
  refine VX.put (k := 2) (ty := .int) (ws' := ws.set i (h0, .inr (0, [.ref q0, .int 0, .int 0, .int 0, .int 0, .int 0, .int 0])) ++ [(q0, eA γ 3)]) d0_init_18 (gs hi) fl_0_19 ck0 rfl rfl rfl rfl (Nat.le_of_ble_eq_true rfl) (ss hi) ?_
  refine VX.aload_n d0_init_21 0 rfl ?_
  refine VX.iconst (v := 0) d0_init_22 ic_0 ?_
  refine VX.put (k := 3) (ty := .int) (ws' := ws.set i (h0, .inr (0, [.ref q0, .int 0, .int 0, .int 0, .int 0, .int 0, .int 0])) ++ [(q0, eA γ 3)]) d0_init_23 (gs hi) fl_0_22 ck0 rfl rfl rfl rfl (Nat.le_of_ble_eq_true rfl) (ss hi) ?_
  refine VX.aload_n d0_init_26 0 rfl ?_
  refine VX.iconst (v := 0) d0_init_27 ic_0 ?_
  refine VX.put (k := 4) (ty := .int) (ws' := ws.set i (h0, .inr (0, [.ref q0, .int 0, .int 0, .int 0, .int 0, .int 0, .int 0])) ++ [(q0, eA γ 3)]) d0_init_28 (gs hi) fl_0_25 ck0 rfl rfl rfl rfl (Nat.le_of_ble_eq_true rfl) (ss hi) ?_
  refine VX.aload_n d0_init_31 0 rfl ?_
  refine VX.iconst (v := 1) d0_init_32 ic_1 ?_
  refine VX.put (k := 5) (ty := .int) (ws' := ws.set i (h0, .inr (0, [.ref q0, .int 0, .int 0, .int 0, .int 0, .int 1, .int 0])) ++ [(q0, eA γ 3)]) d0_init_33 (gs hi) fl_0_28 ck0 rfl rfl rfl rfl (Nat.le_of_ble_eq_true rfl) (ss hi) ?_
  refine VX.aload_n d0_init_36 0 rfl ?_
  refine VX.iconst (v := 0) d0_init_37 ic_0 ?_
  refine VX.put (k := 6) (ty := .int) (ws' := ws.set i (h0, .inr (0, [.ref q0, .int 0, .int 0, .int 0, .int 0, .int 1, .int 0])) ++ [(q0, eA γ 3)]) d0_init_38 (gs hi) fl_0_31 ck0 rfl rfl rfl rfl (Nat.le_of_ble_eq_true rfl) (ss hi) ?_
  exact VX.vret d0_init_41 hR ⟨q0, rfl⟩
set_option maxRecDepth 100000 in
set_option maxHeartbeats 4000000 in
theorem x_5_init {γ : Gm} {dd : Nat} (hd : 2 ≤ dd) {h0 i : Nat} {ws : va_W} (hi : ws[i]? = some (h0, .inr (5, [.null, .null, .int 0]))) : MX γ dd yX5_init cX5_init 1 [.ref h0] ws (fun w => ∃ q0 q1 : Nat, w = ws.set i (h0, .inr (5, [.ref q0, .ref q1, .int 0])) ++ [(q0, eA γ 50), (q1, eA γ 50)]) 2 100 := by
  refine MX.of mi_5_init (Nat.le_of_ble_eq_true rfl) rfl (fun ε hR hI => ?_)
  show VX γ ε cX5_init RX5 1 dd 2 100 0 [(0, .ref h0)] [] ws 0 0
  refine VX.aload_n d5_init_0 0 rfl ?_
  refine VX.objInit d5_init_1 xo_5_3 xob xoc (dl1 hd) (Nat.le_of_ble_eq_true rfl) ?_
  refine VX.aload_n d5_init_4 0 rfl ?_
  refine VX.bipush (v := 50) d5_init_5 bp_50 ?_
  refine VX.newa (N := 50) d5_init_7 xai (by decide) (by decide) (Nat.le_of_ble_eq_true rfl) (Nat.le_of_ble_eq_true rfl) (Nat.le_of_ble_eq_true rfl) (fun q0 => ?_)
  refine VX.putF hI (k := 0) (ty := .array .int) (ws' := ws.set i (h0, .inr (5, [.ref q0, .null, .int 0])) ++ [(q0, eA γ 50)]) d5_init_9 (ga hi) fl_5_9 ck5 rfl rfl rfl rfl rfl (Nat.le_of_ble_eq_true rfl) (sa hi) ?_
  refine VX.aload_n d5_init_12 0 rfl ?_
  refine VX.bipush (v := 50) d5_init_13 bp_50 ?_
  refine VX.newa (N := 50) d5_init_15 xai (by decide) (by decide) (Nat.le_of_ble_eq_true rfl) (Nat.le_of_ble_eq_true rfl) (Nat.le_of_ble_eq_true rfl) (fun q1 => ?_)
  refine VX.weq (ws' := ws.set i (h0, .inr (5, [.ref q0, .null, .int 0])) ++ [(q0, eA γ 50), (q1, eA γ 50)]) (List.append_assoc _ _ _) ?_
  refine VX.putF hI (k := 1) (ty := .array .int) (ws' := ws.set i (h0, .inr (5, [.ref q0, .ref q1, .int 0])) ++ [(q0, eA γ 50), (q1, eA γ 50)]) d5_init_17 (gs hi) fl_5_15 ck5 rfl rfl rfl rfl rfl (Nat.le_of_ble_eq_true rfl) (ss hi) ?_
  refine VX.aload_n d5_init_20 0 rfl ?_
  refine VX.iconst (v := 0) d5_init_21 ic_0 ?_
  refine VX.put (k := 2) (ty := .int) (ws' := ws.set i (h0, .inr (5, [.ref q0, .ref q1, .int 0])) ++ [(q0, eA γ 50), (q1, eA γ 50)]) d5_init_22 (gs hi) fl_5_18 ck5 rfl rfl rfl rfl (Nat.le_of_ble_eq_true rfl) (ss hi) ?_
  exact VX.vret d5_init_25 hR ⟨q0, q1, rfl⟩
set_option maxRecDepth 100000 in
set_option maxHeartbeats 4000000 in
theorem x_6_init {γ : Gm} {dd : Nat} (hd : 2 ≤ dd) {h0 i : Nat} {ws : va_W} (hi : ws[i]? = some (h0, .inr (6, [.null, .int 0, .int 0, .int 0]))) : MX γ dd yX6_init cX6_init 1 [.ref h0] ws (fun w => ∃ q0 : Nat, w = ws.set i (h0, .inr (6, [.ref q0, .int 0, .int 0, .int 0])) ++ [(q0, eA γ 5)]) 1 5 := by
  refine MX.of mi_6_init (Nat.le_of_ble_eq_true rfl) rfl (fun ε hR hI => ?_)
  show VX γ ε cX6_init RX6 1 dd 1 5 0 [(0, .ref h0)] [] ws 0 0
  refine VX.aload_n d6_init_0 0 rfl ?_
  refine VX.objInit d6_init_1 xo_6_3 xob xoc (dl1 hd) (Nat.le_of_ble_eq_true rfl) ?_
  refine VX.aload_n d6_init_4 0 rfl ?_
  refine VX.iconst (v := 5) d6_init_5 ic_5 ?_
  refine VX.newa (N := 5) d6_init_6 xai (by decide) (by decide) (Nat.le_of_ble_eq_true rfl) (Nat.le_of_ble_eq_true rfl) (Nat.le_of_ble_eq_true rfl) (fun q0 => ?_)
  refine VX.putF hI (k := 0) (ty := .array .int) (ws' := ws.set i (h0, .inr (6, [.ref q0, .int 0, .int 0, .int 0])) ++ [(q0, eA γ 5)]) d6_init_8 (ga hi) fl_6_9 ck6 rfl rfl rfl rfl rfl (Nat.le_of_ble_eq_true rfl) (sa hi) ?_
  refine VX.aload_n d6_init_11 0 rfl ?_
  refine VX.iconst (v := 0) d6_init_12 ic_0 ?_
  refine VX.put (k := 1) (ty := .int) (ws' := ws.set i (h0, .inr (6, [.ref q0, .int 0, .int 0, .int 0])) ++ [(q0, eA γ 5)]) d6_init_13 (gs hi) fl_6_15 ck6 rfl rfl rfl rfl (Nat.le_of_ble_eq_true rfl) (ss hi) ?_
  refine VX.aload_n d6_init_16 0 rfl ?_
  refine VX.iconst (v := 0) d6_init_17 ic_0 ?_
  refine VX.put (k := 2) (ty := .int) (ws' := ws.set i (h0, .inr (6, [.ref q0, .int 0, .int 0, .int 0])) ++ [(q0, eA γ 5)]) d6_init_18 (gs hi) fl_6_19 ck6 rfl rfl rfl rfl (Nat.le_of_ble_eq_true rfl) (ss hi) ?_
  refine VX.aload_n d6_init_21 0 rfl ?_
  refine VX.iconst (v := 0) d6_init_22 ic_0 ?_
  refine VX.put (k := 3) (ty := .int) (ws' := ws.set i (h0, .inr (6, [.ref q0, .int 0, .int 0, .int 0])) ++ [(q0, eA γ 5)]) d6_init_23 (gs hi) fl_6_22 ck6 rfl rfl rfl rfl (Nat.le_of_ble_eq_true rfl) (ss hi) ?_
  exact VX.vret d6_init_26 hR ⟨q0, rfl⟩
set_option maxRecDepth 100000 in
set_option maxHeartbeats 4000000 in
theorem x_2_init {γ : Gm} {dd : Nat} (hd : 2 ≤ dd) {h0 i p1 : Nat} {ws : va_W} (hi : ws[i]? = some (h0, .inr (2, [.null, .null, .null, .null, .null, .int 0, .int 0, .int 0]))) : MX γ dd yX2_init cX2_init 2 [.ref h0, .ref p1] ws (fun w => ∃ q0 q1 q2 q3 : Nat, w = ws.set i (h0, .inr (2, [.ref p1, .ref q0, .ref q1, .ref q2, .ref q3, .int 0, .int 0, .int 0])) ++ [(q0, eA γ 45), (q1, eA γ 150), (q2, eA γ 3), (q3, eA γ 3)]) 4 201 := by
  refine MX.of mi_2_init (Nat.le_of_ble_eq_true rfl) rfl (fun ε hR hI => ?_)
  show VX γ ε cX2_init RX2 2 dd 4 201 0 [(0, .ref h0), (1, .ref p1)] [] ws 0 0
  refine VX.aload_n d2_init_0 0 rfl ?_
  refine VX.objInit d2_init_1 xo_2_3 xob xoc (dl1 hd) (Nat.le_of_ble_eq_true rfl) ?_
  refine VX.aload_n d2_init_4 0 rfl ?_
  refine VX.bipush (v := 45) d2_init_5 bp_45 ?_
  refine VX.newa (N := 45) d2_init_7 xai (by decide) (by decide) (Nat.le_of_ble_eq_true rfl) (Nat.le_of_ble_eq_true rfl) (Nat.le_of_ble_eq_true rfl) (fun q0 => ?_)
  refine VX.putF hI (k := 1) (ty := .array .int) (ws' := ws.set i (h0, .inr (2, [.null, .ref q0, .null, .null, .null, .int 0, .int 0, .int 0])) ++ [(q0, eA γ 45)]) d2_init_9 (ga hi) fl_2_9 ck2 rfl rfl rfl rfl rfl (Nat.le_of_ble_eq_true rfl) (sa hi) ?_
  refine VX.aload_n d2_init_12 0 rfl ?_
  refine VX.sipush (v := 150) d2_init_13 sp_150 ?_
  refine VX.newa (N := 150) d2_init_16 xai (by decide) (by decide) (Nat.le_of_ble_eq_true rfl) (Nat.le_of_ble_eq_true rfl) (Nat.le_of_ble_eq_true rfl) (fun q1 => ?_)
  refine VX.weq (ws' := ws.set i (h0, .inr (2, [.null, .ref q0, .null, .null, .null, .int 0, .int 0, .int 0])) ++ [(q0, eA γ 45), (q1, eA γ 150)]) (List.append_assoc _ _ _) ?_
  refine VX.putF hI (k := 2) (ty := .array .int) (ws' := ws.set i (h0, .inr (2, [.null, .ref q0, .ref q1, .null, .null, .int 0, .int 0, .int 0])) ++ [(q0, eA γ 45), (q1, eA γ 150)]) d2_init_18 (gs hi) fl_2_15 ck2 rfl rfl rfl rfl rfl (Nat.le_of_ble_eq_true rfl) (ss hi) ?_
  refine VX.aload_n d2_init_21 0 rfl ?_
  refine VX.iconst (v := 3) d2_init_22 ic_3 ?_
  refine VX.newa (N := 3) d2_init_23 xai (by decide) (by decide) (Nat.le_of_ble_eq_true rfl) (Nat.le_of_ble_eq_true rfl) (Nat.le_of_ble_eq_true rfl) (fun q2 => ?_)
  refine VX.weq (ws' := ws.set i (h0, .inr (2, [.null, .ref q0, .ref q1, .null, .null, .int 0, .int 0, .int 0])) ++ [(q0, eA γ 45), (q1, eA γ 150), (q2, eA γ 3)]) (List.append_assoc _ _ _) ?_
  refine VX.putF hI (k := 3) (ty := .array .int) (ws' := ws.set i (h0, .inr (2, [.null, .ref q0, .ref q1, .ref q2, .null, .int 0, .int 0, .int 0])) ++ [(q0, eA γ 45), (q1, eA γ 150), (q2, eA γ 3)]) d2_init_25 (gs hi) fl_2_18 ck2 rfl rfl rfl rfl rfl (Nat.le_of_ble_eq_true rfl) (ss hi) ?_
  refine VX.aload_n d2_init_28 0 rfl ?_
  refine VX.iconst (v := 3) d2_init_29 ic_3 ?_
  refine VX.newa (N := 3) d2_init_30 xai (by decide) (by decide) (Nat.le_of_ble_eq_true rfl) (Nat.le_of_ble_eq_true rfl) (Nat.le_of_ble_eq_true rfl) (fun q3 => ?_)
  refine VX.weq (ws' := ws.set i (h0, .inr (2, [.null, .ref q0, .ref q1, .ref q2, .null, .int 0, .int 0, .int 0])) ++ [(q0, eA γ 45), (q1, eA γ 150), (q2, eA γ 3), (q3, eA γ 3)]) (List.append_assoc _ _ _) ?_
  refine VX.putF hI (k := 4) (ty := .array .int) (ws' := ws.set i (h0, .inr (2, [.null, .ref q0, .ref q1, .ref q2, .ref q3, .int 0, .int 0, .int 0])) ++ [(q0, eA γ 45), (q1, eA γ 150), (q2, eA γ 3), (q3, eA γ 3)]) d2_init_32 (gs hi) fl_2_21 ck2 rfl rfl rfl rfl rfl (Nat.le_of_ble_eq_true rfl) (ss hi) ?_
  refine VX.aload_n d2_init_35 0 rfl ?_
  refine VX.iconst (v := 0) d2_init_36 ic_0 ?_
  refine VX.put (k := 5) (ty := .int) (ws' := ws.set i (h0, .inr (2, [.null, .ref q0, .ref q1, .ref q2, .ref q3, .int 0, .int 0, .int 0])) ++ [(q0, eA γ 45), (q1, eA γ 150), (q2, eA γ 3), (q3, eA γ 3)]) d2_init_37 (gs hi) fl_2_24 ck2 rfl rfl rfl rfl (Nat.le_of_ble_eq_true rfl) (ss hi) ?_
  refine VX.aload_n d2_init_40 0 rfl ?_
  refine VX.iconst (v := 0) d2_init_41 ic_0 ?_
  refine VX.put (k := 6) (ty := .int) (ws' := ws.set i (h0, .inr (2, [.null, .ref q0, .ref q1, .ref q2, .ref q3, .int 0, .int 0, .int 0])) ++ [(q0, eA γ 45), (q1, eA γ 150), (q2, eA γ 3), (q3, eA γ 3)]) d2_init_42 (gs hi) fl_2_28 ck2 rfl rfl rfl rfl (Nat.le_of_ble_eq_true rfl) (ss hi) ?_
  refine VX.aload_n d2_init_45 0 rfl ?_
  refine VX.iconst (v := 0) d2_init_46 ic_0 ?_
  refine VX.put (k := 7) (ty := .int) (ws' := ws.set i (h0, .inr (2, [.null, .ref q0, .ref q1, .ref q2, .ref q3, .int 0, .int 0, .int 0])) ++ [(q0, eA γ 45), (q1, eA γ 150), (q2, eA γ 3), (q3, eA γ 3)]) d2_init_47 (gs hi) fl_2_31 ck2 rfl rfl rfl rfl (Nat.le_of_ble_eq_true rfl) (ss hi) ?_
  refine VX.aload_n d2_init_50 0 rfl ?_
  refine VX.aload_n d2_init_51 1 rfl ?_
  refine VX.putF hI (k := 0) (ty := .object "LipsThatFit$World") (ws' := ws.set i (h0, .inr (2, [.ref p1, .ref q0, .ref q1, .ref q2, .ref q3, .int 0, .int 0, .int 0])) ++ [(q0, eA γ 45), (q1, eA γ 150), (q2, eA γ 3), (q3, eA γ 3)]) d2_init_52 (gs hi) fl_2_34 ck2 rfl rfl rfl rfl rfl (Nat.le_of_ble_eq_true rfl) (ss hi) ?_
  exact VX.vret d2_init_55 hR ⟨q0, q1, q2, q3, rfl⟩
set_option maxRecDepth 100000 in
set_option maxHeartbeats 4000000 in
theorem x_1_init {γ : Gm} {dd : Nat} (hd : 2 ≤ dd) {h0 i : Nat} {ws : va_W} (hi : ws[i]? = some (h0, .inr (1, [.null, .int 0, .null, .int 0, .int 0, .int 0, .int 0]))) : MX γ dd yX1_init cX1_init 1 [.ref h0] ws (fun w => ∃ q0 q1 : Nat, w = ws.set i (h0, .inr (1, [.ref q0, .int 0, .ref q1, .int 0, .int 0, .int 0, .int 0])) ++ [(q0, eA γ 50), (q1, eA γ 50)]) 2 100 := by
  refine MX.of mi_1_init (Nat.le_of_ble_eq_true rfl) rfl (fun ε hR hI => ?_)
  show VX γ ε cX1_init RX1 1 dd 2 100 0 [(0, .ref h0)] [] ws 0 0
  refine VX.aload_n d1_init_0 0 rfl ?_
  refine VX.objInit d1_init_1 xo_1_3 xob xoc (dl1 hd) (Nat.le_of_ble_eq_true rfl) ?_
  refine VX.aload_n d1_init_4 0 rfl ?_
  refine VX.bipush (v := 50) d1_init_5 bp_50 ?_
  refine VX.newa (N := 50) d1_init_7 xai (by decide) (by decide) (Nat.le_of_ble_eq_true rfl) (Nat.le_of_ble_eq_true rfl) (Nat.le_of_ble_eq_true rfl) (fun q0 => ?_)
  refine VX.putF hI (k := 0) (ty := .array .int) (ws' := ws.set i (h0, .inr (1, [.ref q0, .int 0, .null, .int 0, .int 0, .int 0, .int 0])) ++ [(q0, eA γ 50)]) d1_init_9 (ga hi) fl_1_9 ck1 rfl rfl rfl rfl rfl (Nat.le_of_ble_eq_true rfl) (sa hi) ?_
  refine VX.aload_n d1_init_12 0 rfl ?_
  refine VX.iconst (v := 0) d1_init_13 ic_0 ?_
  refine VX.put (k := 1) (ty := .int) (ws' := ws.set i (h0, .inr (1, [.ref q0, .int 0, .null, .int 0, .int 0, .int 0, .int 0])) ++ [(q0, eA γ 50)]) d1_init_14 (gs hi) fl_1_15 ck1 rfl rfl rfl rfl (Nat.le_of_ble_eq_true rfl) (ss hi) ?_
  refine VX.aload_n d1_init_17 0 rfl ?_
  refine VX.bipush (v := 50) d1_init_18 bp_50 ?_
  refine VX.newa (N := 50) d1_init_20 xai (by decide) (by decide) (Nat.le_of_ble_eq_true rfl) (Nat.le_of_ble_eq_true rfl) (Nat.le_of_ble_eq_true rfl) (fun q1 => ?_)
  refine VX.weq (ws' := ws.set i (h0, .inr (1, [.ref q0, .int 0, .null, .int 0, .int 0, .int 0, .int 0])) ++ [(q0, eA γ 50), (q1, eA γ 50)]) (List.append_assoc _ _ _) ?_
  refine VX.putF hI (k := 2) (ty := .array .int) (ws' := ws.set i (h0, .inr (1, [.ref q0, .int 0, .ref q1, .int 0, .int 0, .int 0, .int 0])) ++ [(q0, eA γ 50), (q1, eA γ 50)]) d1_init_22 (gs hi) fl_1_19 ck1 rfl rfl rfl rfl rfl (Nat.le_of_ble_eq_true rfl) (ss hi) ?_
  refine VX.aload_n d1_init_25 0 rfl ?_
  refine VX.iconst (v := 0) d1_init_26 ic_0 ?_
  refine VX.put (k := 3) (ty := .int) (ws' := ws.set i (h0, .inr (1, [.ref q0, .int 0, .ref q1, .int 0, .int 0, .int 0, .int 0])) ++ [(q0, eA γ 50), (q1, eA γ 50)]) d1_init_27 (gs hi) fl_1_22 ck1 rfl rfl rfl rfl (Nat.le_of_ble_eq_true rfl) (ss hi) ?_
  refine VX.aload_n d1_init_30 0 rfl ?_
  refine VX.iconst (v := 0) d1_init_31 ic_0 ?_
  refine VX.put (k := 4) (ty := .int) (ws' := ws.set i (h0, .inr (1, [.ref q0, .int 0, .ref q1, .int 0, .int 0, .int 0, .int 0])) ++ [(q0, eA γ 50), (q1, eA γ 50)]) d1_init_32 (gs hi) fl_1_25 ck1 rfl rfl rfl rfl (Nat.le_of_ble_eq_true rfl) (ss hi) ?_
  refine VX.aload_n d1_init_35 0 rfl ?_
  refine VX.iconst (v := 0) d1_init_36 ic_0 ?_
  refine VX.put (k := 5) (ty := .int) (ws' := ws.set i (h0, .inr (1, [.ref q0, .int 0, .ref q1, .int 0, .int 0, .int 0, .int 0])) ++ [(q0, eA γ 50), (q1, eA γ 50)]) d1_init_37 (gs hi) fl_1_28 ck1 rfl rfl rfl rfl (Nat.le_of_ble_eq_true rfl) (ss hi) ?_
  refine VX.aload_n d1_init_40 0 rfl ?_
  refine VX.iconst (v := 0) d1_init_41 ic_0 ?_
  refine VX.put (k := 6) (ty := .boolean) (ws' := ws.set i (h0, .inr (1, [.ref q0, .int 0, .ref q1, .int 0, .int 0, .int 0, .int 0])) ++ [(q0, eA γ 50), (q1, eA γ 50)]) d1_init_42 (gs hi) fl_1_31 ck1 rfl rfl (by decide) rfl (Nat.le_of_ble_eq_true rfl) (ss hi) ?_
  exact VX.vret d1_init_45 hR ⟨q0, q1, rfl⟩
set_option maxRecDepth 100000 in
set_option maxHeartbeats 4000000 in
theorem x_4_init {γ : Gm} {dd : Nat} (hd : 2 ≤ dd) {h0 i : Nat} {ws : va_W} (hi : ws[i]? = some (h0, .inr (4, [.null, .int 0, .int 0, .int 0, .int 0]))) : MX γ dd yX4_init cX4_init 1 [.ref h0] ws (fun w => ∃ q0 : Nat, w = ws.set i (h0, .inr (4, [.ref q0, .int 0, .int 0, .int 0, .int 0])) ++ [(q0, eA γ 40)]) 1 40 := by
  refine MX.of mi_4_init (Nat.le_of_ble_eq_true rfl) rfl (fun ε hR hI => ?_)
  show VX γ ε cX4_init RX4 1 dd 1 40 0 [(0, .ref h0)] [] ws 0 0
  refine VX.aload_n d4_init_0 0 rfl ?_
  refine VX.objInit d4_init_1 xo_4_3 xob xoc (dl1 hd) (Nat.le_of_ble_eq_true rfl) ?_
  refine VX.aload_n d4_init_4 0 rfl ?_
  refine VX.bipush (v := 40) d4_init_5 bp_40 ?_
  refine VX.newa (N := 40) d4_init_7 xai (by decide) (by decide) (Nat.le_of_ble_eq_true rfl) (Nat.le_of_ble_eq_true rfl) (Nat.le_of_ble_eq_true rfl) (fun q0 => ?_)
  refine VX.putF hI (k := 0) (ty := .array .int) (ws' := ws.set i (h0, .inr (4, [.ref q0, .int 0, .int 0, .int 0, .int 0])) ++ [(q0, eA γ 40)]) d4_init_9 (ga hi) fl_4_9 ck4 rfl rfl rfl rfl rfl (Nat.le_of_ble_eq_true rfl) (sa hi) ?_
  refine VX.aload_n d4_init_12 0 rfl ?_
  refine VX.iconst (v := 0) d4_init_13 ic_0 ?_
  refine VX.put (k := 1) (ty := .int) (ws' := ws.set i (h0, .inr (4, [.ref q0, .int 0, .int 0, .int 0, .int 0])) ++ [(q0, eA γ 40)]) d4_init_14 (gs hi) fl_4_15 ck4 rfl rfl rfl rfl (Nat.le_of_ble_eq_true rfl) (ss hi) ?_
  refine VX.aload_n d4_init_17 0 rfl ?_
  refine VX.iconst (v := 0) d4_init_18 ic_0 ?_
  refine VX.put (k := 2) (ty := .int) (ws' := ws.set i (h0, .inr (4, [.ref q0, .int 0, .int 0, .int 0, .int 0])) ++ [(q0, eA γ 40)]) d4_init_19 (gs hi) fl_4_19 ck4 rfl rfl rfl rfl (Nat.le_of_ble_eq_true rfl) (ss hi) ?_
  refine VX.aload_n d4_init_22 0 rfl ?_
  refine VX.iconst (v := 0) d4_init_23 ic_0 ?_
  refine VX.put (k := 3) (ty := .int) (ws' := ws.set i (h0, .inr (4, [.ref q0, .int 0, .int 0, .int 0, .int 0])) ++ [(q0, eA γ 40)]) d4_init_24 (gs hi) fl_4_22 ck4 rfl rfl rfl rfl (Nat.le_of_ble_eq_true rfl) (ss hi) ?_
  refine VX.aload_n d4_init_27 0 rfl ?_
  refine VX.iconst (v := 0) d4_init_28 ic_0 ?_
  refine VX.put (k := 4) (ty := .int) (ws' := ws.set i (h0, .inr (4, [.ref q0, .int 0, .int 0, .int 0, .int 0])) ++ [(q0, eA γ 40)]) d4_init_29 (gs hi) fl_4_25 ck4 rfl rfl rfl rfl (Nat.le_of_ble_eq_true rfl) (ss hi) ?_
  exact VX.vret d4_init_32 hR ⟨q0, rfl⟩
set_option maxRecDepth 100000 in
set_option maxHeartbeats 4000000 in
theorem x_3_init {γ : Gm} {dd : Nat} (hd : 2 ≤ dd) {h0 i : Nat} {ws : va_W} (hi : ws[i]? = some (h0, .inr (3, [.null, .null, .null]))) : MX γ dd yX3_init cX3_init 1 [.ref h0] ws (fun w => ∃ q0 q1 q2 q3 q4 q5 q6 : Nat, ∃ f : Nat → Option Nat, (∀ j, f j = ([q3, q4, q5, q6][j]?)) ∧ w = ws.set i (h0, .inr (3, [.ref q0, .ref q1, .ref q2])) ++ [(q0, eA γ 4), (q1, eA γ 4), (q2, eR γ 3 4 f), (q3, eA γ 40), (q4, eA γ 40), (q5, eA γ 40), (q6, eA γ 40)]) 7 172 := by
  refine MX.of mi_3_init (Nat.le_of_ble_eq_true rfl) rfl (fun ε hR hI => ?_)
  show VX γ ε cX3_init RX3 1 dd 7 172 0 [(0, .ref h0)] [] ws 0 0
  refine VX.aload_n d3_init_0 0 rfl ?_
  refine VX.objInit d3_init_1 xo_3_3 xob xoc (dl1 hd) (Nat.le_of_ble_eq_true rfl) ?_
  refine VX.aload_n d3_init_4 0 rfl ?_
  refine VX.iconst (v := 4) d3_init_5 ic_4 ?_
  refine VX.newa (N := 4) d3_init_6 xai (by decide) (by decide) (Nat.le_of_ble_eq_true rfl) (Nat.le_of_ble_eq_true rfl) (Nat.le_of_ble_eq_true rfl) (fun q0 => ?_)
  refine VX.putF hI (k := 0) (ty := .array .int) (ws' := ws.set i (h0, .inr (3, [.ref q0, .null, .null])) ++ [(q0, eA γ 4)]) d3_init_8 (ga hi) fl_3_9 ck3 rfl rfl rfl rfl rfl (Nat.le_of_ble_eq_true rfl) (sa hi) ?_
  refine VX.aload_n d3_init_11 0 rfl ?_
  refine VX.iconst (v := 4) d3_init_12 ic_4 ?_
  refine VX.newa (N := 4) d3_init_13 xai (by decide) (by decide) (Nat.le_of_ble_eq_true rfl) (Nat.le_of_ble_eq_true rfl) (Nat.le_of_ble_eq_true rfl) (fun q1 => ?_)
  refine VX.weq (ws' := ws.set i (h0, .inr (3, [.ref q0, .null, .null])) ++ [(q0, eA γ 4), (q1, eA γ 4)]) (List.append_assoc _ _ _) ?_
  refine VX.putF hI (k := 1) (ty := .array .int) (ws' := ws.set i (h0, .inr (3, [.ref q0, .ref q1, .null])) ++ [(q0, eA γ 4), (q1, eA γ 4)]) d3_init_15 (gs hi) fl_3_15 ck3 rfl rfl rfl rfl rfl (Nat.le_of_ble_eq_true rfl) (ss hi) ?_
  refine VX.aload_n d3_init_18 0 rfl ?_
  refine VX.iconst (v := 4) d3_init_19 ic_4 ?_
  refine VX.bipush (v := 40) d3_init_20 bp_40 ?_
  refine VX.mna d3_init_22 xc_3_18 xai rfl rfl (Nat.le_of_ble_eq_true rfl) (Nat.le_of_ble_eq_true rfl) (fun q2 q3 q4 q5 q6 f hf => ?_)
  refine VX.weq (ws' := ws.set i (h0, .inr (3, [.ref q0, .ref q1, .null])) ++ [(q0, eA γ 4), (q1, eA γ 4), (q2, eR γ 3 4 f), (q3, eA γ 40), (q4, eA γ 40), (q5, eA γ 40), (q6, eA γ 40)]) (List.append_assoc _ _ _) ?_
  refine VX.putF hI (k := 2) (ty := .array (.array .int)) (ws' := ws.set i (h0, .inr (3, [.ref q0, .ref q1, .ref q2])) ++ [(q0, eA γ 4), (q1, eA γ 4), (q2, eR γ 3 4 f), (q3, eA γ 40), (q4, eA γ 40), (q5, eA γ 40), (q6, eA γ 40)]) d3_init_26 (gs hi) fl_3_20 ck3 rfl rfl rfl rfl rfl (Nat.le_of_ble_eq_true rfl) (ss hi) ?_
  exact VX.vret d3_init_29 hR ⟨q0, q1, q2, q3, q4, q5, q6, f, hf, rfl⟩
