set_option maxRecDepth 100000 in
set_option maxHeartbeats 4000000 in
theorem s_9_both_5 {γ : Gm} {ε : En} {dd : Nat} {NN : Nat} {R_9_both : Hp → Option (Int32 × Hp)} {R_9_compared : Hp → Option (Int32 × Hp)} {R_9_either : Hp → Option (Int32 × Hp)} {R_9_product : Hp → Option (Int32 × Hp)} {R_9_sum : Hp → Option (Int32 × Hp)} {R_9_unit : Hp → Option (Int32 × Hp)} (hN : 2 ≤ NN) (H_9_both : ∀ (dd : Nat), NN ≤ dd → ∀ (h : Hp) (r : Int32) (hz : Hp), R_9_both h = some (r, hz) → MC γ dd yX9_both cX9_both 3 (some .int) [.ref (γ.2.2.1 114)] h (QI r hz)) (H_9_compared : ∀ (dd : Nat), NN ≤ dd → ∀ (h : Hp) (r : Int32) (hz : Hp), R_9_compared h = some (r, hz) → MC γ dd yX9_compared cX9_compared 4 (some .int) [.ref (γ.2.2.1 114)] h (QI r hz)) (H_9_either : ∀ (dd : Nat), NN ≤ dd → ∀ (h : Hp) (r : Int32) (hz : Hp), R_9_either h = some (r, hz) → MC γ dd yX9_either cX9_either 3 (some .int) [.ref (γ.2.2.1 114)] h (QI r hz)) (H_9_product : ∀ (dd : Nat), NN ≤ dd → ∀ (h : Hp) (r : Int32) (hz : Hp), R_9_product h = some (r, hz) → MC γ dd yX9_product cX9_product 4 (some .int) [.ref (γ.2.2.1 114)] h (QI r hz)) (H_9_sum : ∀ (dd : Nat), NN ≤ dd → ∀ (h : Hp) (r : Int32) (hz : Hp), R_9_sum h = some (r, hz) → MC γ dd yX9_sum cX9_sum 4 (some .int) [.ref (γ.2.2.1 114)] h (QI r hz)) (H_9_unit : ∀ (dd : Nat), NN ≤ dd → ∀ (h : Hp) (r : Int32) (hz : Hp), R_9_unit h = some (r, hz) → MC γ dd yX9_unit cX9_unit 5 (some .int) [.ref (γ.2.2.1 114)] h (QI r hz)) (hd : NN + 1 ≤ dd) {r : Int32} {hz : Hp} (hR : RT γ ε (some .int) (QI r hz)) : ∀ (n : Nat) (x1 : Int32) (h : Hp), f_9_both_5 R_9_both R_9_compared R_9_either R_9_product R_9_sum R_9_unit n x1 h = some (r, hz) → VW γ ε cX9_both RX9 3 dd 5 [(0, .ref (γ.2.2.1 114)), (1, .int x1)] [] h := by
  intro n
  induction n with
  | zero =>
    intro x1 h hr
    exact nf hr
  | succ n ih =>
    intro x1 h hr
    rw [f_9_both_5] at hr
    refine VW.aload_n d9_both_5 0 rfl ?_
    refine VW.bipush (v := 38) d9_both_6 bp_38 ?_
    obtain ⟨r5, h6, e4, hr⟩ := bno2 hr
    refine VW.callV (As := [.int 38]) (st := []) d9_both_8 mi_9_takes cv_9_72 (oo_9 o9_114) ⟨rfl, rfl⟩ (by decide) (dl1r hd) _ rfl (Nat.le_of_ble_eq_true rfl) rfl (c_9_takes (dlr hd hN (Nat.le_of_ble_eq_true rfl)) e4) (kI ?_)
    refine VW.if_eq 36 d9_both_11 (by decide) (fun c7 => ?_) (fun c7 => ?_)
    · replace hr := ip hr c7
      refine VW.iload_n d9_both_36 1 rfl ?_
      exact VW.iret d9_both_37 hR (rIw hr)
    · replace hr := im hr c7
      refine VW.aload_n d9_both_14 0 rfl ?_
      obtain ⟨r9, h10, e8, hr⟩ := bno2 hr
      refine VW.callV (As := []) (st := []) d9_both_15 mi_9_compared cv_9_76 (oo_9 o9_114) ⟨rfl, rfl⟩ (by decide) (dl1r hd) _ rfl (Nat.le_of_ble_eq_true rfl) rfl (H_9_compared (dd - 1) (dr hd) h6 _ _ e8) (kI ?_)
      refine VW.istore_n (lo' := [(2, .int r9), (0, .ref (γ.2.2.1 114)), (1, .int x1)]) d9_both_18 (by decide) rfl ?_
      refine VW.iload_n d9_both_19 2 rfl ?_
      refine VW.if_eq 31 d9_both_20 (by decide) (fun c11 => ?_) (fun c11 => ?_)
      · replace hr := ip hr c11
        refine VW.iconst (v := 0) d9_both_31 ic_0 ?_
        refine VW.istore_n (lo' := [(1, .int 0), (2, .int r9), (0, .ref (γ.2.2.1 114))]) d9_both_32 (by decide) rfl ?_
        refine VW.goto 5 d9_both_33 (by decide) ?_
        exact VW.sub [2, 0] rfl (ih 0 h10 hr)
      · replace hr := im hr c11
        refine VW.iload_n d9_both_23 0 rfl ?_
        refine VW.if_eq 31 d9_both_24 (by decide) (fun c12 => ?_) (fun c12 => ?_)
        · replace hr := ip hr c12
          refine VW.iconst (v := 0) d9_both_31 ic_0 ?_
          refine VW.istore_n (lo' := [(1, .int 0), (2, .int r9), (0, .ref (γ.2.2.1 114))]) d9_both_32 (by decide) rfl ?_
          refine VW.goto 5 d9_both_33 (by decide) ?_
          exact VW.sub [2, 0] rfl (ih 0 h10 hr)
        · replace hr := im hr c12
          refine VW.iconst (v := 1) d9_both_27 ic_1 ?_
          refine VW.goto 32 d9_both_28 (by decide) ?_
          refine VW.istore_n (lo' := [(1, .int 1), (2, .int r9), (0, .ref (γ.2.2.1 114))]) d9_both_32 (by decide) rfl ?_
          refine VW.goto 5 d9_both_33 (by decide) ?_
          exact VW.sub [2, 0] rfl (ih 1 h10 hr)
set_option maxRecDepth 100000 in
set_option maxHeartbeats 4000000 in
theorem cb_9_both {γ : Gm} {dd : Nat} {NN : Nat} {R_9_both : Hp → Option (Int32 × Hp)} {R_9_compared : Hp → Option (Int32 × Hp)} {R_9_either : Hp → Option (Int32 × Hp)} {R_9_product : Hp → Option (Int32 × Hp)} {R_9_sum : Hp → Option (Int32 × Hp)} {R_9_unit : Hp → Option (Int32 × Hp)} (hN : 2 ≤ NN) (H_9_both : ∀ (dd : Nat), NN ≤ dd → ∀ (h : Hp) (r : Int32) (hz : Hp), R_9_both h = some (r, hz) → MC γ dd yX9_both cX9_both 3 (some .int) [.ref (γ.2.2.1 114)] h (QI r hz)) (H_9_compared : ∀ (dd : Nat), NN ≤ dd → ∀ (h : Hp) (r : Int32) (hz : Hp), R_9_compared h = some (r, hz) → MC γ dd yX9_compared cX9_compared 4 (some .int) [.ref (γ.2.2.1 114)] h (QI r hz)) (H_9_either : ∀ (dd : Nat), NN ≤ dd → ∀ (h : Hp) (r : Int32) (hz : Hp), R_9_either h = some (r, hz) → MC γ dd yX9_either cX9_either 3 (some .int) [.ref (γ.2.2.1 114)] h (QI r hz)) (H_9_product : ∀ (dd : Nat), NN ≤ dd → ∀ (h : Hp) (r : Int32) (hz : Hp), R_9_product h = some (r, hz) → MC γ dd yX9_product cX9_product 4 (some .int) [.ref (γ.2.2.1 114)] h (QI r hz)) (H_9_sum : ∀ (dd : Nat), NN ≤ dd → ∀ (h : Hp) (r : Int32) (hz : Hp), R_9_sum h = some (r, hz) → MC γ dd yX9_sum cX9_sum 4 (some .int) [.ref (γ.2.2.1 114)] h (QI r hz)) (H_9_unit : ∀ (dd : Nat), NN ≤ dd → ∀ (h : Hp) (r : Int32) (hz : Hp), R_9_unit h = some (r, hz) → MC γ dd yX9_unit cX9_unit 5 (some .int) [.ref (γ.2.2.1 114)] h (QI r hz)) {h : Hp} {r : Int32} {hz : Hp} (hd : NN + 1 ≤ dd) (hr : b_9_both R_9_both R_9_compared R_9_either R_9_product R_9_sum R_9_unit h = some (r, hz)) : MC γ dd yX9_both cX9_both 3 (some .int) [.ref (γ.2.2.1 114)] h (QI r hz) := by
  unfold b_9_both at hr
  refine MC.of mi_9_both (Nat.le_of_ble_eq_true rfl) (fun ε hR => ?_)
  show VW γ ε cX9_both RX9 3 dd 0 [(0, .ref (γ.2.2.1 114))] [] h
  refine VW.aload_n d9_both_0 0 rfl ?_
  obtain ⟨r2, h3, e1, hr⟩ := bno2 hr
  refine VW.callV (As := []) (st := []) d9_both_1 mi_9_compared cv_9_76 (oo_9 o9_114) ⟨rfl, rfl⟩ (by decide) (dl1r hd) _ rfl (Nat.le_of_ble_eq_true rfl) rfl (H_9_compared (dd - 1) (dr hd) h _ _ e1) (kI ?_)
  refine VW.istore_n (lo' := [(1, .int r2), (0, .ref (γ.2.2.1 114))]) d9_both_4 (by decide) rfl ?_
  exact VW.sub [1, 0] rfl (s_9_both_5 hN H_9_both H_9_compared H_9_either H_9_product H_9_sum H_9_unit hd hR FU r2 h3 hr)
set_option maxRecDepth 100000 in
set_option maxHeartbeats 4000000 in
theorem cb_9_compared {γ : Gm} {dd : Nat} {NN : Nat} {R_9_both : Hp → Option (Int32 × Hp)} {R_9_compared : Hp → Option (Int32 × Hp)} {R_9_either : Hp → Option (Int32 × Hp)} {R_9_product : Hp → Option (Int32 × Hp)} {R_9_sum : Hp → Option (Int32 × Hp)} {R_9_unit : Hp → Option (Int32 × Hp)} (hN : 2 ≤ NN) (H_9_both : ∀ (dd : Nat), NN ≤ dd → ∀ (h : Hp) (r : Int32) (hz : Hp), R_9_both h = some (r, hz) → MC γ dd yX9_both cX9_both 3 (some .int) [.ref (γ.2.2.1 114)] h (QI r hz)) (H_9_compared : ∀ (dd : Nat), NN ≤ dd → ∀ (h : Hp) (r : Int32) (hz : Hp), R_9_compared h = some (r, hz) → MC γ dd yX9_compared cX9_compared 4 (some .int) [.ref (γ.2.2.1 114)] h (QI r hz)) (H_9_either : ∀ (dd : Nat), NN ≤ dd → ∀ (h : Hp) (r : Int32) (hz : Hp), R_9_either h = some (r, hz) → MC γ dd yX9_either cX9_either 3 (some .int) [.ref (γ.2.2.1 114)] h (QI r hz)) (H_9_product : ∀ (dd : Nat), NN ≤ dd → ∀ (h : Hp) (r : Int32) (hz : Hp), R_9_product h = some (r, hz) → MC γ dd yX9_product cX9_product 4 (some .int) [.ref (γ.2.2.1 114)] h (QI r hz)) (H_9_sum : ∀ (dd : Nat), NN ≤ dd → ∀ (h : Hp) (r : Int32) (hz : Hp), R_9_sum h = some (r, hz) → MC γ dd yX9_sum cX9_sum 4 (some .int) [.ref (γ.2.2.1 114)] h (QI r hz)) (H_9_unit : ∀ (dd : Nat), NN ≤ dd → ∀ (h : Hp) (r : Int32) (hz : Hp), R_9_unit h = some (r, hz) → MC γ dd yX9_unit cX9_unit 5 (some .int) [.ref (γ.2.2.1 114)] h (QI r hz)) {h : Hp} {r : Int32} {hz : Hp} (hd : NN + 1 ≤ dd) (hr : b_9_compared R_9_both R_9_compared R_9_either R_9_product R_9_sum R_9_unit h = some (r, hz)) : MC γ dd yX9_compared cX9_compared 4 (some .int) [.ref (γ.2.2.1 114)] h (QI r hz) := by
  unfold b_9_compared at hr
  refine MC.of mi_9_compared (Nat.le_of_ble_eq_true rfl) (fun ε hR => ?_)
  show VW γ ε cX9_compared RX9 4 dd 0 [(0, .ref (γ.2.2.1 114))] [] h
  refine VW.aload_n d9_compared_0 0 rfl ?_
  obtain ⟨r2, h3, e1, hr⟩ := bno2 hr
  refine VW.callV (As := []) (st := []) d9_compared_1 mi_9_sum cv_9_79 (oo_9 o9_114) ⟨rfl, rfl⟩ (by decide) (dl1r hd) _ rfl (Nat.le_of_ble_eq_true rfl) rfl (H_9_sum (dd - 1) (dr hd) h _ _ e1) (kI ?_)
  refine VW.istore_n (lo' := [(1, .int r2), (0, .ref (γ.2.2.1 114))]) d9_compared_4 (by decide) rfl ?_
  refine VW.aload_n d9_compared_5 1 rfl ?_
  obtain ⟨r5, e4, hr⟩ := bno hr
  refine VW.callV (As := []) (st := []) d9_compared_6 mi_9_here cv_9_61 (oo_9 o9_114) ⟨rfl, rfl⟩ (by decide) (dl1r hd) _ rfl (Nat.le_of_ble_eq_true rfl) rfl (c_9_here (dlr hd hN (Nat.le_of_ble_eq_true rfl)) e4) (kI ?_)
  refine VW.istore_n (lo' := [(2, .int r5), (1, .int r2), (0, .ref (γ.2.2.1 114))]) d9_compared_9 (by decide) rfl ?_
  refine VW.iload_n d9_compared_10 0 rfl ?_
  refine VW.bipush (v := 60) d9_compared_11 bp_60 ?_
  refine VW.icmp_eq 30 d9_compared_13 (by decide) (fun c6 => ?_) (fun c6 => ?_)
  · replace hr := ip hr c6
    refine VW.aload_n d9_compared_30 2 rfl ?_
    refine VW.dup d9_compared_31 rfl ?_
    refine VW.getI (k := 5) d9_compared_32 (oo_9 o9_114) rfl fl_9_48 ck9 ?_
    refine VW.iconst (v := 1) d9_compared_35 ic_1 ?_
    refine VW.iadd d9_compared_36 ?_
    obtain ⟨h7, e8, hr⟩ := hlt hr
    refine VW.putI (k := 5) d9_compared_37 (oo_9 o9_114) rfl fl_9_48 ck9 rfl rfl rfl rfl ?_
    refine VW.heq e8 ?_
    refine VW.aload_n d9_compared_40 2 rfl ?_
    obtain ⟨r10, h11, e9, hr⟩ := bno2 hr
    refine VW.callV (As := []) (st := []) d9_compared_41 mi_9_sum cv_9_79 (oo_9 o9_114) ⟨rfl, rfl⟩ (by decide) (dl1r hd) _ rfl (Nat.le_of_ble_eq_true rfl) rfl (H_9_sum (dd - 1) (dr hd) h7 _ _ e9) (kI ?_)
    refine VW.istore_n (lo' := [(3, .int r10), (2, .int r5), (1, .int r2), (0, .ref (γ.2.2.1 114))]) d9_compared_44 (by decide) rfl ?_
    refine VW.iload_n d9_compared_45 1 rfl ?_
    refine VW.bipush (v := 60) d9_compared_46 bp_60 ?_
    refine VW.icmp_ne 59 d9_compared_48 (by decide) (fun c12 => ?_) (fun c12 => ?_)
    · replace hr := ip hr c12
      refine VW.iload_n d9_compared_51 2 rfl ?_
      refine VW.iload_n d9_compared_52 0 rfl ?_
      refine VW.icmp_ge 82 d9_compared_53 (by decide) (fun c13 => ?_) (fun c13 => ?_)
      · replace hr := ip hr c13
        refine VW.iconst (v := 0) d9_compared_82 ic_0 ?_
        exact VW.iret d9_compared_83 hR (rIw hr)
      · replace hr := im hr c13
        refine VW.goto 78 d9_compared_56 (by decide) ?_
        refine VW.iconst (v := 1) d9_compared_78 ic_1 ?_
        refine VW.goto 83 d9_compared_79 (by decide) ?_
        exact VW.iret d9_compared_83 hR (rIw hr)
    · replace hr := im hr c12
      refine VW.iload_n d9_compared_59 1 rfl ?_
      refine VW.bipush (v := 61) d9_compared_60 bp_61 ?_
      refine VW.icmp_ne 73 d9_compared_62 (by decide) (fun c14 => ?_) (fun c14 => ?_)
      · replace hr := ip hr c14
        refine VW.iload_n d9_compared_65 2 rfl ?_
        refine VW.iload_n d9_compared_66 0 rfl ?_
        refine VW.icmp_ne 82 d9_compared_67 (by decide) (fun c15 => ?_) (fun c15 => ?_)
        · replace hr := ip hr c15
          refine VW.goto 78 d9_compared_70 (by decide) ?_
          refine VW.iconst (v := 1) d9_compared_78 ic_1 ?_
          refine VW.goto 83 d9_compared_79 (by decide) ?_
          exact VW.iret d9_compared_83 hR (rIw hr)
        · replace hr := im hr c15
          refine VW.iconst (v := 0) d9_compared_82 ic_0 ?_
          exact VW.iret d9_compared_83 hR (rIw hr)
      · replace hr := im hr c14
        refine VW.iload_n d9_compared_73 2 rfl ?_
        refine VW.iload_n d9_compared_74 0 rfl ?_
        refine VW.icmp_le 82 d9_compared_75 (by decide) (fun c16 => ?_) (fun c16 => ?_)
        · replace hr := ip hr c16
          refine VW.iconst (v := 0) d9_compared_82 ic_0 ?_
          exact VW.iret d9_compared_83 hR (rIw hr)
        · replace hr := im hr c16
          refine VW.iconst (v := 1) d9_compared_78 ic_1 ?_
          refine VW.goto 83 d9_compared_79 (by decide) ?_
          exact VW.iret d9_compared_83 hR (rIw hr)
  · replace hr := im hr c6
    refine VW.iload_n d9_compared_16 0 rfl ?_
    refine VW.bipush (v := 61) d9_compared_17 bp_61 ?_
    refine VW.icmp_eq 30 d9_compared_19 (by decide) (fun c17 => ?_) (fun c17 => ?_)
    · replace hr := ip hr c17
      refine VW.aload_n d9_compared_30 2 rfl ?_
      refine VW.dup d9_compared_31 rfl ?_
      refine VW.getI (k := 5) d9_compared_32 (oo_9 o9_114) rfl fl_9_48 ck9 ?_
      refine VW.iconst (v := 1) d9_compared_35 ic_1 ?_
      refine VW.iadd d9_compared_36 ?_
      obtain ⟨h18, e19, hr⟩ := hlt hr
      refine VW.putI (k := 5) d9_compared_37 (oo_9 o9_114) rfl fl_9_48 ck9 rfl rfl rfl rfl ?_
      refine VW.heq e19 ?_
      refine VW.aload_n d9_compared_40 2 rfl ?_
      obtain ⟨r21, h22, e20, hr⟩ := bno2 hr
      refine VW.callV (As := []) (st := []) d9_compared_41 mi_9_sum cv_9_79 (oo_9 o9_114) ⟨rfl, rfl⟩ (by decide) (dl1r hd) _ rfl (Nat.le_of_ble_eq_true rfl) rfl (H_9_sum (dd - 1) (dr hd) h18 _ _ e20) (kI ?_)
      refine VW.istore_n (lo' := [(3, .int r21), (2, .int r5), (1, .int r2), (0, .ref (γ.2.2.1 114))]) d9_compared_44 (by decide) rfl ?_
      refine VW.iload_n d9_compared_45 1 rfl ?_
      refine VW.bipush (v := 60) d9_compared_46 bp_60 ?_
      refine VW.icmp_ne 59 d9_compared_48 (by decide) (fun c23 => ?_) (fun c23 => ?_)
      · replace hr := ip hr c23
        refine VW.iload_n d9_compared_51 2 rfl ?_
        refine VW.iload_n d9_compared_52 0 rfl ?_
        refine VW.icmp_ge 82 d9_compared_53 (by decide) (fun c24 => ?_) (fun c24 => ?_)
        · replace hr := ip hr c24
          refine VW.iconst (v := 0) d9_compared_82 ic_0 ?_
          exact VW.iret d9_compared_83 hR (rIw hr)
        · replace hr := im hr c24
          refine VW.goto 78 d9_compared_56 (by decide) ?_
          refine VW.iconst (v := 1) d9_compared_78 ic_1 ?_
          refine VW.goto 83 d9_compared_79 (by decide) ?_
          exact VW.iret d9_compared_83 hR (rIw hr)
      · replace hr := im hr c23
        refine VW.iload_n d9_compared_59 1 rfl ?_
        refine VW.bipush (v := 61) d9_compared_60 bp_61 ?_
        refine VW.icmp_ne 73 d9_compared_62 (by decide) (fun c25 => ?_) (fun c25 => ?_)
        · replace hr := ip hr c25
          refine VW.iload_n d9_compared_65 2 rfl ?_
          refine VW.iload_n d9_compared_66 0 rfl ?_
          refine VW.icmp_ne 82 d9_compared_67 (by decide) (fun c26 => ?_) (fun c26 => ?_)
          · replace hr := ip hr c26
            refine VW.goto 78 d9_compared_70 (by decide) ?_
            refine VW.iconst (v := 1) d9_compared_78 ic_1 ?_
            refine VW.goto 83 d9_compared_79 (by decide) ?_
            exact VW.iret d9_compared_83 hR (rIw hr)
          · replace hr := im hr c26
            refine VW.iconst (v := 0) d9_compared_82 ic_0 ?_
            exact VW.iret d9_compared_83 hR (rIw hr)
        · replace hr := im hr c25
          refine VW.iload_n d9_compared_73 2 rfl ?_
          refine VW.iload_n d9_compared_74 0 rfl ?_
          refine VW.icmp_le 82 d9_compared_75 (by decide) (fun c27 => ?_) (fun c27 => ?_)
          · replace hr := ip hr c27
            refine VW.iconst (v := 0) d9_compared_82 ic_0 ?_
            exact VW.iret d9_compared_83 hR (rIw hr)
          · replace hr := im hr c27
            refine VW.iconst (v := 1) d9_compared_78 ic_1 ?_
            refine VW.goto 83 d9_compared_79 (by decide) ?_
            exact VW.iret d9_compared_83 hR (rIw hr)
    · replace hr := im hr c17
      refine VW.iload_n d9_compared_22 0 rfl ?_
      refine VW.bipush (v := 62) d9_compared_23 bp_62 ?_
      refine VW.icmp_eq 30 d9_compared_25 (by decide) (fun c28 => ?_) (fun c28 => ?_)
      · replace hr := ip hr c28
        refine VW.aload_n d9_compared_30 2 rfl ?_
        refine VW.dup d9_compared_31 rfl ?_
        refine VW.getI (k := 5) d9_compared_32 (oo_9 o9_114) rfl fl_9_48 ck9 ?_
        refine VW.iconst (v := 1) d9_compared_35 ic_1 ?_
        refine VW.iadd d9_compared_36 ?_
        obtain ⟨h29, e30, hr⟩ := hlt hr
        refine VW.putI (k := 5) d9_compared_37 (oo_9 o9_114) rfl fl_9_48 ck9 rfl rfl rfl rfl ?_
        refine VW.heq e30 ?_
        refine VW.aload_n d9_compared_40 2 rfl ?_
        obtain ⟨r32, h33, e31, hr⟩ := bno2 hr
        refine VW.callV (As := []) (st := []) d9_compared_41 mi_9_sum cv_9_79 (oo_9 o9_114) ⟨rfl, rfl⟩ (by decide) (dl1r hd) _ rfl (Nat.le_of_ble_eq_true rfl) rfl (H_9_sum (dd - 1) (dr hd) h29 _ _ e31) (kI ?_)
        refine VW.istore_n (lo' := [(3, .int r32), (2, .int r5), (1, .int r2), (0, .ref (γ.2.2.1 114))]) d9_compared_44 (by decide) rfl ?_
        refine VW.iload_n d9_compared_45 1 rfl ?_
        refine VW.bipush (v := 60) d9_compared_46 bp_60 ?_
        refine VW.icmp_ne 59 d9_compared_48 (by decide) (fun c34 => ?_) (fun c34 => ?_)
        · replace hr := ip hr c34
          refine VW.iload_n d9_compared_51 2 rfl ?_
          refine VW.iload_n d9_compared_52 0 rfl ?_
          refine VW.icmp_ge 82 d9_compared_53 (by decide) (fun c35 => ?_) (fun c35 => ?_)
          · replace hr := ip hr c35
            refine VW.iconst (v := 0) d9_compared_82 ic_0 ?_
            exact VW.iret d9_compared_83 hR (rIw hr)
          · replace hr := im hr c35
            refine VW.goto 78 d9_compared_56 (by decide) ?_
            refine VW.iconst (v := 1) d9_compared_78 ic_1 ?_
            refine VW.goto 83 d9_compared_79 (by decide) ?_
            exact VW.iret d9_compared_83 hR (rIw hr)
        · replace hr := im hr c34
          refine VW.iload_n d9_compared_59 1 rfl ?_
          refine VW.bipush (v := 61) d9_compared_60 bp_61 ?_
          refine VW.icmp_ne 73 d9_compared_62 (by decide) (fun c36 => ?_) (fun c36 => ?_)
          · replace hr := ip hr c36
            refine VW.iload_n d9_compared_65 2 rfl ?_
            refine VW.iload_n d9_compared_66 0 rfl ?_
            refine VW.icmp_ne 82 d9_compared_67 (by decide) (fun c37 => ?_) (fun c37 => ?_)
            · replace hr := ip hr c37
              refine VW.goto 78 d9_compared_70 (by decide) ?_
              refine VW.iconst (v := 1) d9_compared_78 ic_1 ?_
              refine VW.goto 83 d9_compared_79 (by decide) ?_
              exact VW.iret d9_compared_83 hR (rIw hr)
            · replace hr := im hr c37
              refine VW.iconst (v := 0) d9_compared_82 ic_0 ?_
              exact VW.iret d9_compared_83 hR (rIw hr)
          · replace hr := im hr c36
            refine VW.iload_n d9_compared_73 2 rfl ?_
            refine VW.iload_n d9_compared_74 0 rfl ?_
            refine VW.icmp_le 82 d9_compared_75 (by decide) (fun c38 => ?_) (fun c38 => ?_)
            · replace hr := ip hr c38
              refine VW.iconst (v := 0) d9_compared_82 ic_0 ?_
              exact VW.iret d9_compared_83 hR (rIw hr)
            · replace hr := im hr c38
              refine VW.iconst (v := 1) d9_compared_78 ic_1 ?_
              refine VW.goto 83 d9_compared_79 (by decide) ?_
              exact VW.iret d9_compared_83 hR (rIw hr)
      · replace hr := im hr c28
        refine VW.iload_n d9_compared_28 1 rfl ?_
        exact VW.iret d9_compared_29 hR (rIw hr)
set_option maxRecDepth 100000 in
set_option maxHeartbeats 4000000 in
theorem s_9_either_5 {γ : Gm} {ε : En} {dd : Nat} {NN : Nat} {R_9_both : Hp → Option (Int32 × Hp)} {R_9_compared : Hp → Option (Int32 × Hp)} {R_9_either : Hp → Option (Int32 × Hp)} {R_9_product : Hp → Option (Int32 × Hp)} {R_9_sum : Hp → Option (Int32 × Hp)} {R_9_unit : Hp → Option (Int32 × Hp)} (hN : 2 ≤ NN) (H_9_both : ∀ (dd : Nat), NN ≤ dd → ∀ (h : Hp) (r : Int32) (hz : Hp), R_9_both h = some (r, hz) → MC γ dd yX9_both cX9_both 3 (some .int) [.ref (γ.2.2.1 114)] h (QI r hz)) (H_9_compared : ∀ (dd : Nat), NN ≤ dd → ∀ (h : Hp) (r : Int32) (hz : Hp), R_9_compared h = some (r, hz) → MC γ dd yX9_compared cX9_compared 4 (some .int) [.ref (γ.2.2.1 114)] h (QI r hz)) (H_9_either : ∀ (dd : Nat), NN ≤ dd → ∀ (h : Hp) (r : Int32) (hz : Hp), R_9_either h = some (r, hz) → MC γ dd yX9_either cX9_either 3 (some .int) [.ref (γ.2.2.1 114)] h (QI r hz)) (H_9_product : ∀ (dd : Nat), NN ≤ dd → ∀ (h : Hp) (r : Int32) (hz : Hp), R_9_product h = some (r, hz) → MC γ dd yX9_product cX9_product 4 (some .int) [.ref (γ.2.2.1 114)] h (QI r hz)) (H_9_sum : ∀ (dd : Nat), NN ≤ dd → ∀ (h : Hp) (r : Int32) (hz : Hp), R_9_sum h = some (r, hz) → MC γ dd yX9_sum cX9_sum 4 (some .int) [.ref (γ.2.2.1 114)] h (QI r hz)) (H_9_unit : ∀ (dd : Nat), NN ≤ dd → ∀ (h : Hp) (r : Int32) (hz : Hp), R_9_unit h = some (r, hz) → MC γ dd yX9_unit cX9_unit 5 (some .int) [.ref (γ.2.2.1 114)] h (QI r hz)) (hd : NN + 1 ≤ dd) {r : Int32} {hz : Hp} (hR : RT γ ε (some .int) (QI r hz)) : ∀ (n : Nat) (x1 : Int32) (h : Hp), f_9_either_5 R_9_both R_9_compared R_9_either R_9_product R_9_sum R_9_unit n x1 h = some (r, hz) → VW γ ε cX9_either RX9 3 dd 5 [(0, .ref (γ.2.2.1 114)), (1, .int x1)] [] h := by
  intro n
  induction n with
  | zero =>
    intro x1 h hr
    exact nf hr
  | succ n ih =>
    intro x1 h hr
    rw [f_9_either_5] at hr
    refine VW.aload_n d9_either_5 0 rfl ?_
    refine VW.bipush (v := 124) d9_either_6 bp_124 ?_
    obtain ⟨r5, h6, e4, hr⟩ := bno2 hr
    refine VW.callV (As := [.int 124]) (st := []) d9_either_8 mi_9_takes cv_9_72 (oo_9 o9_114) ⟨rfl, rfl⟩ (by decide) (dl1r hd) _ rfl (Nat.le_of_ble_eq_true rfl) rfl (c_9_takes (dlr hd hN (Nat.le_of_ble_eq_true rfl)) e4) (kI ?_)
    refine VW.if_eq 36 d9_either_11 (by decide) (fun c7 => ?_) (fun c7 => ?_)
    · replace hr := ip hr c7
      refine VW.iload_n d9_either_36 1 rfl ?_
      exact VW.iret d9_either_37 hR (rIw hr)
    · replace hr := im hr c7
      refine VW.aload_n d9_either_14 0 rfl ?_
      obtain ⟨r9, h10, e8, hr⟩ := bno2 hr
      refine VW.callV (As := []) (st := []) d9_either_15 mi_9_both cv_9_69 (oo_9 o9_114) ⟨rfl, rfl⟩ (by decide) (dl1r hd) _ rfl (Nat.le_of_ble_eq_true rfl) rfl (H_9_both (dd - 1) (dr hd) h6 _ _ e8) (kI ?_)
      refine VW.istore_n (lo' := [(2, .int r9), (0, .ref (γ.2.2.1 114)), (1, .int x1)]) d9_either_18 (by decide) rfl ?_
      refine VW.iload_n d9_either_19 2 rfl ?_
      refine VW.if_ne 27 d9_either_20 (by decide) (fun c11 => ?_) (fun c11 => ?_)
      · replace hr := ip hr c11
        refine VW.iload_n d9_either_23 0 rfl ?_
        refine VW.if_eq 31 d9_either_24 (by decide) (fun c12 => ?_) (fun c12 => ?_)
        · replace hr := ip hr c12
          refine VW.iconst (v := 0) d9_either_31 ic_0 ?_
          refine VW.istore_n (lo' := [(1, .int 0), (2, .int r9), (0, .ref (γ.2.2.1 114))]) d9_either_32 (by decide) rfl ?_
          refine VW.goto 5 d9_either_33 (by decide) ?_
          exact VW.sub [2, 0] rfl (ih 0 h10 hr)
        · replace hr := im hr c12
          refine VW.iconst (v := 1) d9_either_27 ic_1 ?_
          refine VW.goto 32 d9_either_28 (by decide) ?_
          refine VW.istore_n (lo' := [(1, .int 1), (2, .int r9), (0, .ref (γ.2.2.1 114))]) d9_either_32 (by decide) rfl ?_
          refine VW.goto 5 d9_either_33 (by decide) ?_
          exact VW.sub [2, 0] rfl (ih 1 h10 hr)
      · replace hr := im hr c11
        refine VW.iconst (v := 1) d9_either_27 ic_1 ?_
        refine VW.goto 32 d9_either_28 (by decide) ?_
        refine VW.istore_n (lo' := [(1, .int 1), (2, .int r9), (0, .ref (γ.2.2.1 114))]) d9_either_32 (by decide) rfl ?_
        refine VW.goto 5 d9_either_33 (by decide) ?_
        exact VW.sub [2, 0] rfl (ih 1 h10 hr)
set_option maxRecDepth 100000 in
set_option maxHeartbeats 4000000 in
theorem cb_9_either {γ : Gm} {dd : Nat} {NN : Nat} {R_9_both : Hp → Option (Int32 × Hp)} {R_9_compared : Hp → Option (Int32 × Hp)} {R_9_either : Hp → Option (Int32 × Hp)} {R_9_product : Hp → Option (Int32 × Hp)} {R_9_sum : Hp → Option (Int32 × Hp)} {R_9_unit : Hp → Option (Int32 × Hp)} (hN : 2 ≤ NN) (H_9_both : ∀ (dd : Nat), NN ≤ dd → ∀ (h : Hp) (r : Int32) (hz : Hp), R_9_both h = some (r, hz) → MC γ dd yX9_both cX9_both 3 (some .int) [.ref (γ.2.2.1 114)] h (QI r hz)) (H_9_compared : ∀ (dd : Nat), NN ≤ dd → ∀ (h : Hp) (r : Int32) (hz : Hp), R_9_compared h = some (r, hz) → MC γ dd yX9_compared cX9_compared 4 (some .int) [.ref (γ.2.2.1 114)] h (QI r hz)) (H_9_either : ∀ (dd : Nat), NN ≤ dd → ∀ (h : Hp) (r : Int32) (hz : Hp), R_9_either h = some (r, hz) → MC γ dd yX9_either cX9_either 3 (some .int) [.ref (γ.2.2.1 114)] h (QI r hz)) (H_9_product : ∀ (dd : Nat), NN ≤ dd → ∀ (h : Hp) (r : Int32) (hz : Hp), R_9_product h = some (r, hz) → MC γ dd yX9_product cX9_product 4 (some .int) [.ref (γ.2.2.1 114)] h (QI r hz)) (H_9_sum : ∀ (dd : Nat), NN ≤ dd → ∀ (h : Hp) (r : Int32) (hz : Hp), R_9_sum h = some (r, hz) → MC γ dd yX9_sum cX9_sum 4 (some .int) [.ref (γ.2.2.1 114)] h (QI r hz)) (H_9_unit : ∀ (dd : Nat), NN ≤ dd → ∀ (h : Hp) (r : Int32) (hz : Hp), R_9_unit h = some (r, hz) → MC γ dd yX9_unit cX9_unit 5 (some .int) [.ref (γ.2.2.1 114)] h (QI r hz)) {h : Hp} {r : Int32} {hz : Hp} (hd : NN + 1 ≤ dd) (hr : b_9_either R_9_both R_9_compared R_9_either R_9_product R_9_sum R_9_unit h = some (r, hz)) : MC γ dd yX9_either cX9_either 3 (some .int) [.ref (γ.2.2.1 114)] h (QI r hz) := by
  unfold b_9_either at hr
  refine MC.of mi_9_either (Nat.le_of_ble_eq_true rfl) (fun ε hR => ?_)
  show VW γ ε cX9_either RX9 3 dd 0 [(0, .ref (γ.2.2.1 114))] [] h
  refine VW.aload_n d9_either_0 0 rfl ?_
  obtain ⟨r2, h3, e1, hr⟩ := bno2 hr
  refine VW.callV (As := []) (st := []) d9_either_1 mi_9_both cv_9_69 (oo_9 o9_114) ⟨rfl, rfl⟩ (by decide) (dl1r hd) _ rfl (Nat.le_of_ble_eq_true rfl) rfl (H_9_both (dd - 1) (dr hd) h _ _ e1) (kI ?_)
  refine VW.istore_n (lo' := [(1, .int r2), (0, .ref (γ.2.2.1 114))]) d9_either_4 (by decide) rfl ?_
  exact VW.sub [1, 0] rfl (s_9_either_5 hN H_9_both H_9_compared H_9_either H_9_product H_9_sum H_9_unit hd hR FU r2 h3 hr)
set_option maxRecDepth 100000 in
set_option maxHeartbeats 4000000 in
theorem s_9_product_5 {γ : Gm} {ε : En} {dd : Nat} {NN : Nat} {R_9_both : Hp → Option (Int32 × Hp)} {R_9_compared : Hp → Option (Int32 × Hp)} {R_9_either : Hp → Option (Int32 × Hp)} {R_9_product : Hp → Option (Int32 × Hp)} {R_9_sum : Hp → Option (Int32 × Hp)} {R_9_unit : Hp → Option (Int32 × Hp)} (hN : 2 ≤ NN) (H_9_both : ∀ (dd : Nat), NN ≤ dd → ∀ (h : Hp) (r : Int32) (hz : Hp), R_9_both h = some (r, hz) → MC γ dd yX9_both cX9_both 3 (some .int) [.ref (γ.2.2.1 114)] h (QI r hz)) (H_9_compared : ∀ (dd : Nat), NN ≤ dd → ∀ (h : Hp) (r : Int32) (hz : Hp), R_9_compared h = some (r, hz) → MC γ dd yX9_compared cX9_compared 4 (some .int) [.ref (γ.2.2.1 114)] h (QI r hz)) (H_9_either : ∀ (dd : Nat), NN ≤ dd → ∀ (h : Hp) (r : Int32) (hz : Hp), R_9_either h = some (r, hz) → MC γ dd yX9_either cX9_either 3 (some .int) [.ref (γ.2.2.1 114)] h (QI r hz)) (H_9_product : ∀ (dd : Nat), NN ≤ dd → ∀ (h : Hp) (r : Int32) (hz : Hp), R_9_product h = some (r, hz) → MC γ dd yX9_product cX9_product 4 (some .int) [.ref (γ.2.2.1 114)] h (QI r hz)) (H_9_sum : ∀ (dd : Nat), NN ≤ dd → ∀ (h : Hp) (r : Int32) (hz : Hp), R_9_sum h = some (r, hz) → MC γ dd yX9_sum cX9_sum 4 (some .int) [.ref (γ.2.2.1 114)] h (QI r hz)) (H_9_unit : ∀ (dd : Nat), NN ≤ dd → ∀ (h : Hp) (r : Int32) (hz : Hp), R_9_unit h = some (r, hz) → MC γ dd yX9_unit cX9_unit 5 (some .int) [.ref (γ.2.2.1 114)] h (QI r hz)) (hd : NN + 1 ≤ dd) {r : Int32} {hz : Hp} (hR : RT γ ε (some .int) (QI r hz)) : ∀ (n : Nat) (x1 : Int32) (h : Hp), f_9_product_5 R_9_both R_9_compared R_9_either R_9_product R_9_sum R_9_unit n x1 h = some (r, hz) → VW γ ε cX9_product RX9 4 dd 5 [(0, .ref (γ.2.2.1 114)), (1, .int x1)] [] h := by
  intro n
  induction n with
  | zero =>
    intro x1 h hr
    exact nf hr
  | succ n ih =>
    intro x1 h hr
    rw [f_9_product_5] at hr
    refine VW.aload_n d9_product_5 0 rfl ?_
    obtain ⟨r5, e4, hr⟩ := bno hr
    refine VW.callV (As := []) (st := []) d9_product_6 mi_9_here cv_9_61 (oo_9 o9_114) ⟨rfl, rfl⟩ (by decide) (dl1r hd) _ rfl (Nat.le_of_ble_eq_true rfl) rfl (c_9_here (dlr hd hN (Nat.le_of_ble_eq_true rfl)) e4) (kI ?_)
    refine VW.bipush (v := 42) d9_product_9 bp_42 ?_
    refine VW.icmp_eq 32 d9_product_11 (by decide) (fun c6 => ?_) (fun c6 => ?_)
    · replace hr := ip hr c6
      refine VW.aload_n d9_product_32 0 rfl ?_
      obtain ⟨r8, e7, hr⟩ := bno hr
      refine VW.callV (As := []) (st := []) d9_product_33 mi_9_here cv_9_61 (oo_9 o9_114) ⟨rfl, rfl⟩ (by decide) (dl1r hd) _ rfl (Nat.le_of_ble_eq_true rfl) rfl (c_9_here (dlr hd hN (Nat.le_of_ble_eq_true rfl)) e7) (kI ?_)
      refine VW.istore_n (lo' := [(2, .int r8), (0, .ref (γ.2.2.1 114)), (1, .int x1)]) d9_product_36 (by decide) rfl ?_
      refine VW.aload_n d9_product_37 1 rfl ?_
      refine VW.dup d9_product_38 rfl ?_
      refine VW.getI (k := 5) d9_product_39 (oo_9 o9_114) rfl fl_9_48 ck9 ?_
      refine VW.iconst (v := 1) d9_product_42 ic_1 ?_
      refine VW.iadd d9_product_43 ?_
      obtain ⟨h9, e10, hr⟩ := hlt hr
      refine VW.putI (k := 5) d9_product_44 (oo_9 o9_114) rfl fl_9_48 ck9 rfl rfl rfl rfl ?_
      refine VW.heq e10 ?_
      refine VW.aload_n d9_product_47 1 rfl ?_
      obtain ⟨r12, h13, e11, hr⟩ := bno2 hr
      refine VW.callV (As := []) (st := []) d9_product_48 mi_9_unit cv_9_85 (oo_9 o9_114) ⟨rfl, rfl⟩ (by decide) (dl1r hd) _ rfl (Nat.le_of_ble_eq_true rfl) rfl (H_9_unit (dd - 1) (dr hd) h9 _ _ e11) (kI ?_)
      refine VW.istore_n (lo' := [(3, .int r12), (2, .int r8), (0, .ref (γ.2.2.1 114)), (1, .int x1)]) d9_product_51 (by decide) rfl ?_
      refine VW.iload_n d9_product_52 1 rfl ?_
      refine VW.bipush (v := 42) d9_product_53 bp_42 ?_
      refine VW.icmp_ne 64 d9_product_55 (by decide) (fun c14 => ?_) (fun c14 => ?_)
      · replace hr := ip hr c14
        refine VW.iload_n d9_product_58 3 rfl ?_
        refine VW.iload_n d9_product_59 0 rfl ?_
        refine VW.imul d9_product_60 ?_
        refine VW.goto 87 d9_product_61 (by decide) ?_
        refine VW.istore_n (lo' := [(1, .int (x1 * r12)), (3, .int r12), (2, .int r8), (0, .ref (γ.2.2.1 114))]) d9_product_87 (by decide) rfl ?_
        refine VW.goto 5 d9_product_88 (by decide) ?_
        exact VW.sub [3, 0] rfl (ih (x1 * r12) h13 hr)
      · replace hr := im hr c14
        refine VW.iload_n d9_product_64 0 rfl ?_
        refine VW.if_ne 72 d9_product_65 (by decide) (fun c15 => ?_) (fun c15 => ?_)
        · replace hr := ip hr c15
          refine VW.iconst (v := 0) d9_product_68 ic_0 ?_
          refine VW.goto 87 d9_product_69 (by decide) ?_
          refine VW.istore_n (lo' := [(1, .int 0), (3, .int r12), (2, .int r8), (0, .ref (γ.2.2.1 114))]) d9_product_87 (by decide) rfl ?_
          refine VW.goto 5 d9_product_88 (by decide) ?_
          exact VW.sub [3, 0] rfl (ih 0 h13 hr)
        · replace hr := im hr c15
          refine VW.iload_n d9_product_72 1 rfl ?_
          refine VW.bipush (v := 47) d9_product_73 bp_47 ?_
          refine VW.icmp_ne 84 d9_product_75 (by decide) (fun c16 => ?_) (fun c16 => ?_)
          · replace hr := ip hr c16
            refine VW.iload_n d9_product_78 3 rfl ?_
            refine VW.iload_n d9_product_79 0 rfl ?_
            refine VW.idiv d9_product_80 c15 ?_
            refine VW.goto 87 d9_product_81 (by decide) ?_
            refine VW.istore_n (lo' := [(1, .int (x1 / r12)), (3, .int r12), (2, .int r8), (0, .ref (γ.2.2.1 114))]) d9_product_87 (by decide) rfl ?_
            refine VW.goto 5 d9_product_88 (by decide) ?_
            exact VW.sub [3, 0] rfl (ih (x1 / r12) h13 hr)
          · replace hr := im hr c16
            refine VW.iload_n d9_product_84 3 rfl ?_
            refine VW.iload_n d9_product_85 0 rfl ?_
            refine VW.irem d9_product_86 c15 ?_
            refine VW.istore_n (lo' := [(1, .int (irm x1 r12)), (3, .int r12), (2, .int r8), (0, .ref (γ.2.2.1 114))]) d9_product_87 (by decide) rfl ?_
            refine VW.goto 5 d9_product_88 (by decide) ?_
            exact VW.sub [3, 0] rfl (ih (irm x1 r12) h13 hr)
    · replace hr := im hr c6
      refine VW.aload_n d9_product_14 0 rfl ?_
      obtain ⟨r18, e17, hr⟩ := bno hr
      refine VW.callV (As := []) (st := []) d9_product_15 mi_9_here cv_9_61 (oo_9 o9_114) ⟨rfl, rfl⟩ (by decide) (dl1r hd) _ rfl (Nat.le_of_ble_eq_true rfl) rfl (c_9_here (dlr hd hN (Nat.le_of_ble_eq_true rfl)) e17) (kI ?_)
      refine VW.bipush (v := 47) d9_product_18 bp_47 ?_
      refine VW.icmp_eq 32 d9_product_20 (by decide) (fun c19 => ?_) (fun c19 => ?_)
      · replace hr := ip hr c19
        refine VW.aload_n d9_product_32 0 rfl ?_
        obtain ⟨r21, e20, hr⟩ := bno hr
        refine VW.callV (As := []) (st := []) d9_product_33 mi_9_here cv_9_61 (oo_9 o9_114) ⟨rfl, rfl⟩ (by decide) (dl1r hd) _ rfl (Nat.le_of_ble_eq_true rfl) rfl (c_9_here (dlr hd hN (Nat.le_of_ble_eq_true rfl)) e20) (kI ?_)
        refine VW.istore_n (lo' := [(2, .int r21), (0, .ref (γ.2.2.1 114)), (1, .int x1)]) d9_product_36 (by decide) rfl ?_
        refine VW.aload_n d9_product_37 1 rfl ?_
        refine VW.dup d9_product_38 rfl ?_
        refine VW.getI (k := 5) d9_product_39 (oo_9 o9_114) rfl fl_9_48 ck9 ?_
        refine VW.iconst (v := 1) d9_product_42 ic_1 ?_
        refine VW.iadd d9_product_43 ?_
        obtain ⟨h22, e23, hr⟩ := hlt hr
        refine VW.putI (k := 5) d9_product_44 (oo_9 o9_114) rfl fl_9_48 ck9 rfl rfl rfl rfl ?_
        refine VW.heq e23 ?_
        refine VW.aload_n d9_product_47 1 rfl ?_
        obtain ⟨r25, h26, e24, hr⟩ := bno2 hr
        refine VW.callV (As := []) (st := []) d9_product_48 mi_9_unit cv_9_85 (oo_9 o9_114) ⟨rfl, rfl⟩ (by decide) (dl1r hd) _ rfl (Nat.le_of_ble_eq_true rfl) rfl (H_9_unit (dd - 1) (dr hd) h22 _ _ e24) (kI ?_)
        refine VW.istore_n (lo' := [(3, .int r25), (2, .int r21), (0, .ref (γ.2.2.1 114)), (1, .int x1)]) d9_product_51 (by decide) rfl ?_
        refine VW.iload_n d9_product_52 1 rfl ?_
        refine VW.bipush (v := 42) d9_product_53 bp_42 ?_
        refine VW.icmp_ne 64 d9_product_55 (by decide) (fun c27 => ?_) (fun c27 => ?_)
        · replace hr := ip hr c27
          refine VW.iload_n d9_product_58 3 rfl ?_
          refine VW.iload_n d9_product_59 0 rfl ?_
          refine VW.imul d9_product_60 ?_
          refine VW.goto 87 d9_product_61 (by decide) ?_
          refine VW.istore_n (lo' := [(1, .int (x1 * r25)), (3, .int r25), (2, .int r21), (0, .ref (γ.2.2.1 114))]) d9_product_87 (by decide) rfl ?_
          refine VW.goto 5 d9_product_88 (by decide) ?_
          exact VW.sub [3, 0] rfl (ih (x1 * r25) h26 hr)
        · replace hr := im hr c27
          refine VW.iload_n d9_product_64 0 rfl ?_
          refine VW.if_ne 72 d9_product_65 (by decide) (fun c28 => ?_) (fun c28 => ?_)
          · replace hr := ip hr c28
            refine VW.iconst (v := 0) d9_product_68 ic_0 ?_
            refine VW.goto 87 d9_product_69 (by decide) ?_
            refine VW.istore_n (lo' := [(1, .int 0), (3, .int r25), (2, .int r21), (0, .ref (γ.2.2.1 114))]) d9_product_87 (by decide) rfl ?_
            refine VW.goto 5 d9_product_88 (by decide) ?_
            exact VW.sub [3, 0] rfl (ih 0 h26 hr)
          · replace hr := im hr c28
            refine VW.iload_n d9_product_72 1 rfl ?_
            refine VW.bipush (v := 47) d9_product_73 bp_47 ?_
            refine VW.icmp_ne 84 d9_product_75 (by decide) (fun c29 => ?_) (fun c29 => ?_)
            · replace hr := ip hr c29
              refine VW.iload_n d9_product_78 3 rfl ?_
              refine VW.iload_n d9_product_79 0 rfl ?_
              refine VW.idiv d9_product_80 c28 ?_
              refine VW.goto 87 d9_product_81 (by decide) ?_
              refine VW.istore_n (lo' := [(1, .int (x1 / r25)), (3, .int r25), (2, .int r21), (0, .ref (γ.2.2.1 114))]) d9_product_87 (by decide) rfl ?_
              refine VW.goto 5 d9_product_88 (by decide) ?_
              exact VW.sub [3, 0] rfl (ih (x1 / r25) h26 hr)
            · replace hr := im hr c29
              refine VW.iload_n d9_product_84 3 rfl ?_
              refine VW.iload_n d9_product_85 0 rfl ?_
              refine VW.irem d9_product_86 c28 ?_
              refine VW.istore_n (lo' := [(1, .int (irm x1 r25)), (3, .int r25), (2, .int r21), (0, .ref (γ.2.2.1 114))]) d9_product_87 (by decide) rfl ?_
              refine VW.goto 5 d9_product_88 (by decide) ?_
              exact VW.sub [3, 0] rfl (ih (irm x1 r25) h26 hr)
      · replace hr := im hr c19
        refine VW.aload_n d9_product_23 0 rfl ?_
        obtain ⟨r31, e30, hr⟩ := bno hr
        refine VW.callV (As := []) (st := []) d9_product_24 mi_9_here cv_9_61 (oo_9 o9_114) ⟨rfl, rfl⟩ (by decide) (dl1r hd) _ rfl (Nat.le_of_ble_eq_true rfl) rfl (c_9_here (dlr hd hN (Nat.le_of_ble_eq_true rfl)) e30) (kI ?_)
        refine VW.bipush (v := 37) d9_product_27 bp_37 ?_
        refine VW.icmp_ne 91 d9_product_29 (by decide) (fun c32 => ?_) (fun c32 => ?_)
        · replace hr := ip hr c32
          refine VW.aload_n d9_product_32 0 rfl ?_
          obtain ⟨r34, e33, hr⟩ := bno hr
          refine VW.callV (As := []) (st := []) d9_product_33 mi_9_here cv_9_61 (oo_9 o9_114) ⟨rfl, rfl⟩ (by decide) (dl1r hd) _ rfl (Nat.le_of_ble_eq_true rfl) rfl (c_9_here (dlr hd hN (Nat.le_of_ble_eq_true rfl)) e33) (kI ?_)
          refine VW.istore_n (lo' := [(2, .int r34), (0, .ref (γ.2.2.1 114)), (1, .int x1)]) d9_product_36 (by decide) rfl ?_
          refine VW.aload_n d9_product_37 1 rfl ?_
          refine VW.dup d9_product_38 rfl ?_
          refine VW.getI (k := 5) d9_product_39 (oo_9 o9_114) rfl fl_9_48 ck9 ?_
          refine VW.iconst (v := 1) d9_product_42 ic_1 ?_
          refine VW.iadd d9_product_43 ?_
          obtain ⟨h35, e36, hr⟩ := hlt hr
          refine VW.putI (k := 5) d9_product_44 (oo_9 o9_114) rfl fl_9_48 ck9 rfl rfl rfl rfl ?_
          refine VW.heq e36 ?_
          refine VW.aload_n d9_product_47 1 rfl ?_
          obtain ⟨r38, h39, e37, hr⟩ := bno2 hr
          refine VW.callV (As := []) (st := []) d9_product_48 mi_9_unit cv_9_85 (oo_9 o9_114) ⟨rfl, rfl⟩ (by decide) (dl1r hd) _ rfl (Nat.le_of_ble_eq_true rfl) rfl (H_9_unit (dd - 1) (dr hd) h35 _ _ e37) (kI ?_)
          refine VW.istore_n (lo' := [(3, .int r38), (2, .int r34), (0, .ref (γ.2.2.1 114)), (1, .int x1)]) d9_product_51 (by decide) rfl ?_
          refine VW.iload_n d9_product_52 1 rfl ?_
          refine VW.bipush (v := 42) d9_product_53 bp_42 ?_
          refine VW.icmp_ne 64 d9_product_55 (by decide) (fun c40 => ?_) (fun c40 => ?_)
          · replace hr := ip hr c40
            refine VW.iload_n d9_product_58 3 rfl ?_
            refine VW.iload_n d9_product_59 0 rfl ?_
            refine VW.imul d9_product_60 ?_
            refine VW.goto 87 d9_product_61 (by decide) ?_
            refine VW.istore_n (lo' := [(1, .int (x1 * r38)), (3, .int r38), (2, .int r34), (0, .ref (γ.2.2.1 114))]) d9_product_87 (by decide) rfl ?_
            refine VW.goto 5 d9_product_88 (by decide) ?_
            exact VW.sub [3, 0] rfl (ih (x1 * r38) h39 hr)
          · replace hr := im hr c40
            refine VW.iload_n d9_product_64 0 rfl ?_
            refine VW.if_ne 72 d9_product_65 (by decide) (fun c41 => ?_) (fun c41 => ?_)
            · replace hr := ip hr c41
              refine VW.iconst (v := 0) d9_product_68 ic_0 ?_
              refine VW.goto 87 d9_product_69 (by decide) ?_
              refine VW.istore_n (lo' := [(1, .int 0), (3, .int r38), (2, .int r34), (0, .ref (γ.2.2.1 114))]) d9_product_87 (by decide) rfl ?_
              refine VW.goto 5 d9_product_88 (by decide) ?_
              exact VW.sub [3, 0] rfl (ih 0 h39 hr)
            · replace hr := im hr c41
              refine VW.iload_n d9_product_72 1 rfl ?_
              refine VW.bipush (v := 47) d9_product_73 bp_47 ?_
              refine VW.icmp_ne 84 d9_product_75 (by decide) (fun c42 => ?_) (fun c42 => ?_)
              · replace hr := ip hr c42
                refine VW.iload_n d9_product_78 3 rfl ?_
                refine VW.iload_n d9_product_79 0 rfl ?_
                refine VW.idiv d9_product_80 c41 ?_
                refine VW.goto 87 d9_product_81 (by decide) ?_
                refine VW.istore_n (lo' := [(1, .int (x1 / r38)), (3, .int r38), (2, .int r34), (0, .ref (γ.2.2.1 114))]) d9_product_87 (by decide) rfl ?_
                refine VW.goto 5 d9_product_88 (by decide) ?_
                exact VW.sub [3, 0] rfl (ih (x1 / r38) h39 hr)
              · replace hr := im hr c42
                refine VW.iload_n d9_product_84 3 rfl ?_
                refine VW.iload_n d9_product_85 0 rfl ?_
                refine VW.irem d9_product_86 c41 ?_
                refine VW.istore_n (lo' := [(1, .int (irm x1 r38)), (3, .int r38), (2, .int r34), (0, .ref (γ.2.2.1 114))]) d9_product_87 (by decide) rfl ?_
                refine VW.goto 5 d9_product_88 (by decide) ?_
                exact VW.sub [3, 0] rfl (ih (irm x1 r38) h39 hr)
        · replace hr := im hr c32
          refine VW.iload_n d9_product_91 1 rfl ?_
          exact VW.iret d9_product_92 hR (rIw hr)
set_option maxRecDepth 100000 in
set_option maxHeartbeats 4000000 in
theorem cb_9_product {γ : Gm} {dd : Nat} {NN : Nat} {R_9_both : Hp → Option (Int32 × Hp)} {R_9_compared : Hp → Option (Int32 × Hp)} {R_9_either : Hp → Option (Int32 × Hp)} {R_9_product : Hp → Option (Int32 × Hp)} {R_9_sum : Hp → Option (Int32 × Hp)} {R_9_unit : Hp → Option (Int32 × Hp)} (hN : 2 ≤ NN) (H_9_both : ∀ (dd : Nat), NN ≤ dd → ∀ (h : Hp) (r : Int32) (hz : Hp), R_9_both h = some (r, hz) → MC γ dd yX9_both cX9_both 3 (some .int) [.ref (γ.2.2.1 114)] h (QI r hz)) (H_9_compared : ∀ (dd : Nat), NN ≤ dd → ∀ (h : Hp) (r : Int32) (hz : Hp), R_9_compared h = some (r, hz) → MC γ dd yX9_compared cX9_compared 4 (some .int) [.ref (γ.2.2.1 114)] h (QI r hz)) (H_9_either : ∀ (dd : Nat), NN ≤ dd → ∀ (h : Hp) (r : Int32) (hz : Hp), R_9_either h = some (r, hz) → MC γ dd yX9_either cX9_either 3 (some .int) [.ref (γ.2.2.1 114)] h (QI r hz)) (H_9_product : ∀ (dd : Nat), NN ≤ dd → ∀ (h : Hp) (r : Int32) (hz : Hp), R_9_product h = some (r, hz) → MC γ dd yX9_product cX9_product 4 (some .int) [.ref (γ.2.2.1 114)] h (QI r hz)) (H_9_sum : ∀ (dd : Nat), NN ≤ dd → ∀ (h : Hp) (r : Int32) (hz : Hp), R_9_sum h = some (r, hz) → MC γ dd yX9_sum cX9_sum 4 (some .int) [.ref (γ.2.2.1 114)] h (QI r hz)) (H_9_unit : ∀ (dd : Nat), NN ≤ dd → ∀ (h : Hp) (r : Int32) (hz : Hp), R_9_unit h = some (r, hz) → MC γ dd yX9_unit cX9_unit 5 (some .int) [.ref (γ.2.2.1 114)] h (QI r hz)) {h : Hp} {r : Int32} {hz : Hp} (hd : NN + 1 ≤ dd) (hr : b_9_product R_9_both R_9_compared R_9_either R_9_product R_9_sum R_9_unit h = some (r, hz)) : MC γ dd yX9_product cX9_product 4 (some .int) [.ref (γ.2.2.1 114)] h (QI r hz) := by
  unfold b_9_product at hr
  refine MC.of mi_9_product (Nat.le_of_ble_eq_true rfl) (fun ε hR => ?_)
  show VW γ ε cX9_product RX9 4 dd 0 [(0, .ref (γ.2.2.1 114))] [] h
  refine VW.aload_n d9_product_0 0 rfl ?_
  obtain ⟨r2, h3, e1, hr⟩ := bno2 hr
  refine VW.callV (As := []) (st := []) d9_product_1 mi_9_unit cv_9_85 (oo_9 o9_114) ⟨rfl, rfl⟩ (by decide) (dl1r hd) _ rfl (Nat.le_of_ble_eq_true rfl) rfl (H_9_unit (dd - 1) (dr hd) h _ _ e1) (kI ?_)
  refine VW.istore_n (lo' := [(1, .int r2), (0, .ref (γ.2.2.1 114))]) d9_product_4 (by decide) rfl ?_
  exact VW.sub [1, 0] rfl (s_9_product_5 hN H_9_both H_9_compared H_9_either H_9_product H_9_sum H_9_unit hd hR FU r2 h3 hr)
set_option maxRecDepth 100000 in
set_option maxHeartbeats 4000000 in
theorem s_9_sum_5 {γ : Gm} {ε : En} {dd : Nat} {NN : Nat} {R_9_both : Hp → Option (Int32 × Hp)} {R_9_compared : Hp → Option (Int32 × Hp)} {R_9_either : Hp → Option (Int32 × Hp)} {R_9_product : Hp → Option (Int32 × Hp)} {R_9_sum : Hp → Option (Int32 × Hp)} {R_9_unit : Hp → Option (Int32 × Hp)} (hN : 2 ≤ NN) (H_9_both : ∀ (dd : Nat), NN ≤ dd → ∀ (h : Hp) (r : Int32) (hz : Hp), R_9_both h = some (r, hz) → MC γ dd yX9_both cX9_both 3 (some .int) [.ref (γ.2.2.1 114)] h (QI r hz)) (H_9_compared : ∀ (dd : Nat), NN ≤ dd → ∀ (h : Hp) (r : Int32) (hz : Hp), R_9_compared h = some (r, hz) → MC γ dd yX9_compared cX9_compared 4 (some .int) [.ref (γ.2.2.1 114)] h (QI r hz)) (H_9_either : ∀ (dd : Nat), NN ≤ dd → ∀ (h : Hp) (r : Int32) (hz : Hp), R_9_either h = some (r, hz) → MC γ dd yX9_either cX9_either 3 (some .int) [.ref (γ.2.2.1 114)] h (QI r hz)) (H_9_product : ∀ (dd : Nat), NN ≤ dd → ∀ (h : Hp) (r : Int32) (hz : Hp), R_9_product h = some (r, hz) → MC γ dd yX9_product cX9_product 4 (some .int) [.ref (γ.2.2.1 114)] h (QI r hz)) (H_9_sum : ∀ (dd : Nat), NN ≤ dd → ∀ (h : Hp) (r : Int32) (hz : Hp), R_9_sum h = some (r, hz) → MC γ dd yX9_sum cX9_sum 4 (some .int) [.ref (γ.2.2.1 114)] h (QI r hz)) (H_9_unit : ∀ (dd : Nat), NN ≤ dd → ∀ (h : Hp) (r : Int32) (hz : Hp), R_9_unit h = some (r, hz) → MC γ dd yX9_unit cX9_unit 5 (some .int) [.ref (γ.2.2.1 114)] h (QI r hz)) (hd : NN + 1 ≤ dd) {r : Int32} {hz : Hp} (hR : RT γ ε (some .int) (QI r hz)) : ∀ (n : Nat) (x1 : Int32) (h : Hp), f_9_sum_5 R_9_both R_9_compared R_9_either R_9_product R_9_sum R_9_unit n x1 h = some (r, hz) → VW γ ε cX9_sum RX9 4 dd 5 [(0, .ref (γ.2.2.1 114)), (1, .int x1)] [] h := by
  intro n
  induction n with
  | zero =>
    intro x1 h hr
    exact nf hr
  | succ n ih =>
    intro x1 h hr
    rw [f_9_sum_5] at hr
    refine VW.aload_n d9_sum_5 0 rfl ?_
    obtain ⟨r5, e4, hr⟩ := bno hr
    refine VW.callV (As := []) (st := []) d9_sum_6 mi_9_here cv_9_61 (oo_9 o9_114) ⟨rfl, rfl⟩ (by decide) (dl1r hd) _ rfl (Nat.le_of_ble_eq_true rfl) rfl (c_9_here (dlr hd hN (Nat.le_of_ble_eq_true rfl)) e4) (kI ?_)
    refine VW.bipush (v := 43) d9_sum_9 bp_43 ?_
    refine VW.icmp_eq 23 d9_sum_11 (by decide) (fun c6 => ?_) (fun c6 => ?_)
    · replace hr := ip hr c6
      refine VW.aload_n d9_sum_23 0 rfl ?_
      obtain ⟨r8, e7, hr⟩ := bno hr
      refine VW.callV (As := []) (st := []) d9_sum_24 mi_9_here cv_9_61 (oo_9 o9_114) ⟨rfl, rfl⟩ (by decide) (dl1r hd) _ rfl (Nat.le_of_ble_eq_true rfl) rfl (c_9_here (dlr hd hN (Nat.le_of_ble_eq_true rfl)) e7) (kI ?_)
      refine VW.istore_n (lo' := [(2, .int r8), (0, .ref (γ.2.2.1 114)), (1, .int x1)]) d9_sum_27 (by decide) rfl ?_
      refine VW.aload_n d9_sum_28 1 rfl ?_
      refine VW.dup d9_sum_29 rfl ?_
      refine VW.getI (k := 5) d9_sum_30 (oo_9 o9_114) rfl fl_9_48 ck9 ?_
      refine VW.iconst (v := 1) d9_sum_33 ic_1 ?_
      refine VW.iadd d9_sum_34 ?_
      obtain ⟨h9, e10, hr⟩ := hlt hr
      refine VW.putI (k := 5) d9_sum_35 (oo_9 o9_114) rfl fl_9_48 ck9 rfl rfl rfl rfl ?_
      refine VW.heq e10 ?_
      refine VW.aload_n d9_sum_38 1 rfl ?_
      obtain ⟨r12, h13, e11, hr⟩ := bno2 hr
      refine VW.callV (As := []) (st := []) d9_sum_39 mi_9_product cv_9_82 (oo_9 o9_114) ⟨rfl, rfl⟩ (by decide) (dl1r hd) _ rfl (Nat.le_of_ble_eq_true rfl) rfl (H_9_product (dd - 1) (dr hd) h9 _ _ e11) (kI ?_)
      refine VW.istore_n (lo' := [(3, .int r12), (2, .int r8), (0, .ref (γ.2.2.1 114)), (1, .int x1)]) d9_sum_42 (by decide) rfl ?_
      refine VW.iload_n d9_sum_43 1 rfl ?_
      refine VW.bipush (v := 43) d9_sum_44 bp_43 ?_
      refine VW.icmp_ne 55 d9_sum_46 (by decide) (fun c14 => ?_) (fun c14 => ?_)
      · replace hr := ip hr c14
        refine VW.iload_n d9_sum_49 3 rfl ?_
        refine VW.iload_n d9_sum_50 0 rfl ?_
        refine VW.iadd d9_sum_51 ?_
        refine VW.goto 58 d9_sum_52 (by decide) ?_
        refine VW.istore_n (lo' := [(1, .int (x1 + r12)), (3, .int r12), (2, .int r8), (0, .ref (γ.2.2.1 114))]) d9_sum_58 (by decide) rfl ?_
        refine VW.goto 5 d9_sum_59 (by decide) ?_
        exact VW.sub [3, 0] rfl (ih (x1 + r12) h13 hr)
      · replace hr := im hr c14
        refine VW.iload_n d9_sum_55 3 rfl ?_
        refine VW.iload_n d9_sum_56 0 rfl ?_
        refine VW.isub d9_sum_57 ?_
        refine VW.istore_n (lo' := [(1, .int (x1 - r12)), (3, .int r12), (2, .int r8), (0, .ref (γ.2.2.1 114))]) d9_sum_58 (by decide) rfl ?_
        refine VW.goto 5 d9_sum_59 (by decide) ?_
        exact VW.sub [3, 0] rfl (ih (x1 - r12) h13 hr)
    · replace hr := im hr c6
      refine VW.aload_n d9_sum_14 0 rfl ?_
      obtain ⟨r16, e15, hr⟩ := bno hr
      refine VW.callV (As := []) (st := []) d9_sum_15 mi_9_here cv_9_61 (oo_9 o9_114) ⟨rfl, rfl⟩ (by decide) (dl1r hd) _ rfl (Nat.le_of_ble_eq_true rfl) rfl (c_9_here (dlr hd hN (Nat.le_of_ble_eq_true rfl)) e15) (kI ?_)
      refine VW.bipush (v := 45) d9_sum_18 bp_45 ?_
      refine VW.icmp_ne 62 d9_sum_20 (by decide) (fun c17 => ?_) (fun c17 => ?_)
      · replace hr := ip hr c17
        refine VW.aload_n d9_sum_23 0 rfl ?_
        obtain ⟨r19, e18, hr⟩ := bno hr
        refine VW.callV (As := []) (st := []) d9_sum_24 mi_9_here cv_9_61 (oo_9 o9_114) ⟨rfl, rfl⟩ (by decide) (dl1r hd) _ rfl (Nat.le_of_ble_eq_true rfl) rfl (c_9_here (dlr hd hN (Nat.le_of_ble_eq_true rfl)) e18) (kI ?_)
        refine VW.istore_n (lo' := [(2, .int r19), (0, .ref (γ.2.2.1 114)), (1, .int x1)]) d9_sum_27 (by decide) rfl ?_
        refine VW.aload_n d9_sum_28 1 rfl ?_
        refine VW.dup d9_sum_29 rfl ?_
        refine VW.getI (k := 5) d9_sum_30 (oo_9 o9_114) rfl fl_9_48 ck9 ?_
        refine VW.iconst (v := 1) d9_sum_33 ic_1 ?_
        refine VW.iadd d9_sum_34 ?_
        obtain ⟨h20, e21, hr⟩ := hlt hr
        refine VW.putI (k := 5) d9_sum_35 (oo_9 o9_114) rfl fl_9_48 ck9 rfl rfl rfl rfl ?_
        refine VW.heq e21 ?_
        refine VW.aload_n d9_sum_38 1 rfl ?_
        obtain ⟨r23, h24, e22, hr⟩ := bno2 hr
        refine VW.callV (As := []) (st := []) d9_sum_39 mi_9_product cv_9_82 (oo_9 o9_114) ⟨rfl, rfl⟩ (by decide) (dl1r hd) _ rfl (Nat.le_of_ble_eq_true rfl) rfl (H_9_product (dd - 1) (dr hd) h20 _ _ e22) (kI ?_)
        refine VW.istore_n (lo' := [(3, .int r23), (2, .int r19), (0, .ref (γ.2.2.1 114)), (1, .int x1)]) d9_sum_42 (by decide) rfl ?_
        refine VW.iload_n d9_sum_43 1 rfl ?_
        refine VW.bipush (v := 43) d9_sum_44 bp_43 ?_
        refine VW.icmp_ne 55 d9_sum_46 (by decide) (fun c25 => ?_) (fun c25 => ?_)
        · replace hr := ip hr c25
          refine VW.iload_n d9_sum_49 3 rfl ?_
          refine VW.iload_n d9_sum_50 0 rfl ?_
          refine VW.iadd d9_sum_51 ?_
          refine VW.goto 58 d9_sum_52 (by decide) ?_
          refine VW.istore_n (lo' := [(1, .int (x1 + r23)), (3, .int r23), (2, .int r19), (0, .ref (γ.2.2.1 114))]) d9_sum_58 (by decide) rfl ?_
          refine VW.goto 5 d9_sum_59 (by decide) ?_
          exact VW.sub [3, 0] rfl (ih (x1 + r23) h24 hr)
        · replace hr := im hr c25
          refine VW.iload_n d9_sum_55 3 rfl ?_
          refine VW.iload_n d9_sum_56 0 rfl ?_
          refine VW.isub d9_sum_57 ?_
          refine VW.istore_n (lo' := [(1, .int (x1 - r23)), (3, .int r23), (2, .int r19), (0, .ref (γ.2.2.1 114))]) d9_sum_58 (by decide) rfl ?_
          refine VW.goto 5 d9_sum_59 (by decide) ?_
          exact VW.sub [3, 0] rfl (ih (x1 - r23) h24 hr)
      · replace hr := im hr c17
        refine VW.iload_n d9_sum_62 1 rfl ?_
        exact VW.iret d9_sum_63 hR (rIw hr)
set_option maxRecDepth 100000 in
set_option maxHeartbeats 4000000 in
theorem cb_9_sum {γ : Gm} {dd : Nat} {NN : Nat} {R_9_both : Hp → Option (Int32 × Hp)} {R_9_compared : Hp → Option (Int32 × Hp)} {R_9_either : Hp → Option (Int32 × Hp)} {R_9_product : Hp → Option (Int32 × Hp)} {R_9_sum : Hp → Option (Int32 × Hp)} {R_9_unit : Hp → Option (Int32 × Hp)} (hN : 2 ≤ NN) (H_9_both : ∀ (dd : Nat), NN ≤ dd → ∀ (h : Hp) (r : Int32) (hz : Hp), R_9_both h = some (r, hz) → MC γ dd yX9_both cX9_both 3 (some .int) [.ref (γ.2.2.1 114)] h (QI r hz)) (H_9_compared : ∀ (dd : Nat), NN ≤ dd → ∀ (h : Hp) (r : Int32) (hz : Hp), R_9_compared h = some (r, hz) → MC γ dd yX9_compared cX9_compared 4 (some .int) [.ref (γ.2.2.1 114)] h (QI r hz)) (H_9_either : ∀ (dd : Nat), NN ≤ dd → ∀ (h : Hp) (r : Int32) (hz : Hp), R_9_either h = some (r, hz) → MC γ dd yX9_either cX9_either 3 (some .int) [.ref (γ.2.2.1 114)] h (QI r hz)) (H_9_product : ∀ (dd : Nat), NN ≤ dd → ∀ (h : Hp) (r : Int32) (hz : Hp), R_9_product h = some (r, hz) → MC γ dd yX9_product cX9_product 4 (some .int) [.ref (γ.2.2.1 114)] h (QI r hz)) (H_9_sum : ∀ (dd : Nat), NN ≤ dd → ∀ (h : Hp) (r : Int32) (hz : Hp), R_9_sum h = some (r, hz) → MC γ dd yX9_sum cX9_sum 4 (some .int) [.ref (γ.2.2.1 114)] h (QI r hz)) (H_9_unit : ∀ (dd : Nat), NN ≤ dd → ∀ (h : Hp) (r : Int32) (hz : Hp), R_9_unit h = some (r, hz) → MC γ dd yX9_unit cX9_unit 5 (some .int) [.ref (γ.2.2.1 114)] h (QI r hz)) {h : Hp} {r : Int32} {hz : Hp} (hd : NN + 1 ≤ dd) (hr : b_9_sum R_9_both R_9_compared R_9_either R_9_product R_9_sum R_9_unit h = some (r, hz)) : MC γ dd yX9_sum cX9_sum 4 (some .int) [.ref (γ.2.2.1 114)] h (QI r hz) := by
  unfold b_9_sum at hr
  refine MC.of mi_9_sum (Nat.le_of_ble_eq_true rfl) (fun ε hR => ?_)
  show VW γ ε cX9_sum RX9 4 dd 0 [(0, .ref (γ.2.2.1 114))] [] h
  refine VW.aload_n d9_sum_0 0 rfl ?_
  obtain ⟨r2, h3, e1, hr⟩ := bno2 hr
  refine VW.callV (As := []) (st := []) d9_sum_1 mi_9_product cv_9_82 (oo_9 o9_114) ⟨rfl, rfl⟩ (by decide) (dl1r hd) _ rfl (Nat.le_of_ble_eq_true rfl) rfl (H_9_product (dd - 1) (dr hd) h _ _ e1) (kI ?_)
  refine VW.istore_n (lo' := [(1, .int r2), (0, .ref (γ.2.2.1 114))]) d9_sum_4 (by decide) rfl ?_
  exact VW.sub [1, 0] rfl (s_9_sum_5 hN H_9_both H_9_compared H_9_either H_9_product H_9_sum H_9_unit hd hR FU r2 h3 hr)
set_option maxRecDepth 100000 in
set_option maxHeartbeats 4000000 in
theorem s_9_unit_150 {γ : Gm} {ε : En} {dd : Nat} {NN : Nat} {R_9_both : Hp → Option (Int32 × Hp)} {R_9_compared : Hp → Option (Int32 × Hp)} {R_9_either : Hp → Option (Int32 × Hp)} {R_9_product : Hp → Option (Int32 × Hp)} {R_9_sum : Hp → Option (Int32 × Hp)} {R_9_unit : Hp → Option (Int32 × Hp)} (hN : 2 ≤ NN) (H_9_both : ∀ (dd : Nat), NN ≤ dd → ∀ (h : Hp) (r : Int32) (hz : Hp), R_9_both h = some (r, hz) → MC γ dd yX9_both cX9_both 3 (some .int) [.ref (γ.2.2.1 114)] h (QI r hz)) (H_9_compared : ∀ (dd : Nat), NN ≤ dd → ∀ (h : Hp) (r : Int32) (hz : Hp), R_9_compared h = some (r, hz) → MC γ dd yX9_compared cX9_compared 4 (some .int) [.ref (γ.2.2.1 114)] h (QI r hz)) (H_9_either : ∀ (dd : Nat), NN ≤ dd → ∀ (h : Hp) (r : Int32) (hz : Hp), R_9_either h = some (r, hz) → MC γ dd yX9_either cX9_either 3 (some .int) [.ref (γ.2.2.1 114)] h (QI r hz)) (H_9_product : ∀ (dd : Nat), NN ≤ dd → ∀ (h : Hp) (r : Int32) (hz : Hp), R_9_product h = some (r, hz) → MC γ dd yX9_product cX9_product 4 (some .int) [.ref (γ.2.2.1 114)] h (QI r hz)) (H_9_sum : ∀ (dd : Nat), NN ≤ dd → ∀ (h : Hp) (r : Int32) (hz : Hp), R_9_sum h = some (r, hz) → MC γ dd yX9_sum cX9_sum 4 (some .int) [.ref (γ.2.2.1 114)] h (QI r hz)) (H_9_unit : ∀ (dd : Nat), NN ≤ dd → ∀ (h : Hp) (r : Int32) (hz : Hp), R_9_unit h = some (r, hz) → MC γ dd yX9_unit cX9_unit 5 (some .int) [.ref (γ.2.2.1 114)] h (QI r hz)) (hd : NN + 1 ≤ dd) {r : Int32} {hz : Hp} (hR : RT γ ε (some .int) (QI r hz)) : ∀ (n : Nat) (x3 : Int32) (x4 : Int32) (h : Hp), f_9_unit_150 R_9_both R_9_compared R_9_either R_9_product R_9_sum R_9_unit n x3 x4 h = some (r, hz) → VW γ ε cX9_unit RX9 5 dd 150 [(0, .ref (γ.2.2.1 114)), (3, .int x3), (4, .int x4)] [] h := by
  intro n
  induction n with
  | zero =>
    intro x3 x4 h hr
    exact nf hr
  | succ n ih =>
    intro x3 x4 h hr
    rw [f_9_unit_150] at hr
    refine VW.iload d9_unit_150 2 rfl ?_
    refine VW.iconst (v := 4) d9_unit_152 ic_4 ?_
    refine VW.icmp_ge 202 d9_unit_153 (by decide) (fun c100 => ?_) (fun c100 => ?_)
    · replace hr := ip hr c100
      refine VW.iload d9_unit_202 2 rfl ?_
      refine VW.if_ne 214 d9_unit_204 (by decide) (fun c101 => ?_) (fun c101 => ?_)
      · replace hr := ip hr c101
        refine VW.aload_n d9_unit_207 0 rfl ?_
        obtain ⟨r103, h104, e102, hr⟩ := bno2 hr
        refine VW.callV (As := []) (st := []) d9_unit_208 mi_9_wrong cv_9_91 (oo_9 o9_114) ⟨rfl, rfl⟩ (by decide) (dl1r hd) _ rfl (Nat.le_of_ble_eq_true rfl) rfl (c_9_wrong (dlr hd hN (Nat.le_of_ble_eq_true rfl)) e102) (kI ?_)
        refine VW.goto 215 d9_unit_211 (by decide) ?_
        exact VW.iret d9_unit_215 hR (rIw hr)
      · replace hr := im hr c101
        refine VW.iload_n d9_unit_214 1 rfl ?_
        exact VW.iret d9_unit_215 hR (rIw hr)
    · replace hr := im hr c100
      refine VW.aload_n d9_unit_156 0 rfl ?_
      obtain ⟨r106, e105, hr⟩ := bno hr
      refine VW.callV (As := []) (st := []) d9_unit_157 mi_9_here cv_9_61 (oo_9 o9_114) ⟨rfl, rfl⟩ (by decide) (dl1r hd) _ rfl (Nat.le_of_ble_eq_true rfl) rfl (c_9_here (dlr hd hN (Nat.le_of_ble_eq_true rfl)) e105) (kI ?_)
      refine VW.i2l d9_unit_160 ?_
      refine VW.ldc2 (v := 48) d9_unit_161 kc_9_101 ?_
      refine VW.ldc2 (v := 57) d9_unit_164 kc_9_103 ?_
      refine VW.callS (As := [.long (Int32.toInt64 r106), .long 48, .long 57]) (st := []) d9_unit_167 mi_9_in cs_9_44 (by decide) (dl1r hd) _ rfl (Nat.le_of_ble_eq_true rfl) rfl (c_9_in (dlr hd hN (Nat.le_of_ble_eq_true rfl)) rfl) (kI ?_)
      refine VW.if_eq 202 d9_unit_170 (by decide) (fun c107 => ?_) (fun c107 => ?_)
      · replace hr := ip hr c107
        refine VW.iload d9_unit_202 2 rfl ?_
        refine VW.if_ne 214 d9_unit_204 (by decide) (fun c108 => ?_) (fun c108 => ?_)
        · replace hr := ip hr c108
          refine VW.aload_n d9_unit_207 0 rfl ?_
          obtain ⟨r110, h111, e109, hr⟩ := bno2 hr
          refine VW.callV (As := []) (st := []) d9_unit_208 mi_9_wrong cv_9_91 (oo_9 o9_114) ⟨rfl, rfl⟩ (by decide) (dl1r hd) _ rfl (Nat.le_of_ble_eq_true rfl) rfl (c_9_wrong (dlr hd hN (Nat.le_of_ble_eq_true rfl)) e109) (kI ?_)
          refine VW.goto 215 d9_unit_211 (by decide) ?_
          exact VW.iret d9_unit_215 hR (rIw hr)
        · replace hr := im hr c108
          refine VW.iload_n d9_unit_214 1 rfl ?_
          exact VW.iret d9_unit_215 hR (rIw hr)
      · replace hr := im hr c107
        refine VW.bipush (v := 10) d9_unit_173 bp_10 ?_
        refine VW.iload_n d9_unit_175 1 rfl ?_
        refine VW.imul d9_unit_176 ?_
        refine VW.aload_n d9_unit_177 0 rfl ?_
        obtain ⟨r113, e112, hr⟩ := bno hr
        refine VW.callV (As := []) (st := [.int (10 * x3)]) d9_unit_178 mi_9_here cv_9_61 (oo_9 o9_114) ⟨rfl, rfl⟩ (by decide) (dl1r hd) _ rfl (Nat.le_of_ble_eq_true rfl) rfl (c_9_here (dlr hd hN (Nat.le_of_ble_eq_true rfl)) e112) (kI ?_)
        refine VW.iadd d9_unit_181 ?_
        refine VW.bipush (v := 48) d9_unit_182 bp_48 ?_
        refine VW.isub d9_unit_184 ?_
        refine VW.istore_n (lo' := [(3, .int (((10 * x3) + r113) - 48)), (0, .ref (γ.2.2.1 114)), (4, .int x4)]) d9_unit_185 (by decide) rfl ?_
        refine VW.aload_n d9_unit_186 1 rfl ?_
        refine VW.dup d9_unit_187 rfl ?_
        refine VW.getI (k := 5) d9_unit_188 (oo_9 o9_114) rfl fl_9_48 ck9 ?_
        refine VW.iconst (v := 1) d9_unit_191 ic_1 ?_
        refine VW.iadd d9_unit_192 ?_
        obtain ⟨h114, e115, hr⟩ := hlt hr
        refine VW.putI (k := 5) d9_unit_193 (oo_9 o9_114) rfl fl_9_48 ck9 rfl rfl rfl rfl ?_
        refine VW.heq e115 ?_
        refine VW.iinc (w := 1) (lo' := [(4, .int (x4 + 1)), (3, .int (((10 * x3) + r113) - 48)), (0, .ref (γ.2.2.1 114))]) d9_unit_196 2 rfl ic_1 (by decide) rfl ?_
        refine VW.goto 150 d9_unit_199 (by decide) ?_
        exact VW.sub [2, 1, 0] rfl (ih (((10 * x3) + r113) - 48) (x4 + 1) h114 hr)
set_option maxRecDepth 100000 in
set_option maxHeartbeats 4000000 in
theorem cb_9_unit {γ : Gm} {dd : Nat} {NN : Nat} {R_9_both : Hp → Option (Int32 × Hp)} {R_9_compared : Hp → Option (Int32 × Hp)} {R_9_either : Hp → Option (Int32 × Hp)} {R_9_product : Hp → Option (Int32 × Hp)} {R_9_sum : Hp → Option (Int32 × Hp)} {R_9_unit : Hp → Option (Int32 × Hp)} (hN : 2 ≤ NN) (H_9_both : ∀ (dd : Nat), NN ≤ dd → ∀ (h : Hp) (r : Int32) (hz : Hp), R_9_both h = some (r, hz) → MC γ dd yX9_both cX9_both 3 (some .int) [.ref (γ.2.2.1 114)] h (QI r hz)) (H_9_compared : ∀ (dd : Nat), NN ≤ dd → ∀ (h : Hp) (r : Int32) (hz : Hp), R_9_compared h = some (r, hz) → MC γ dd yX9_compared cX9_compared 4 (some .int) [.ref (γ.2.2.1 114)] h (QI r hz)) (H_9_either : ∀ (dd : Nat), NN ≤ dd → ∀ (h : Hp) (r : Int32) (hz : Hp), R_9_either h = some (r, hz) → MC γ dd yX9_either cX9_either 3 (some .int) [.ref (γ.2.2.1 114)] h (QI r hz)) (H_9_product : ∀ (dd : Nat), NN ≤ dd → ∀ (h : Hp) (r : Int32) (hz : Hp), R_9_product h = some (r, hz) → MC γ dd yX9_product cX9_product 4 (some .int) [.ref (γ.2.2.1 114)] h (QI r hz)) (H_9_sum : ∀ (dd : Nat), NN ≤ dd → ∀ (h : Hp) (r : Int32) (hz : Hp), R_9_sum h = some (r, hz) → MC γ dd yX9_sum cX9_sum 4 (some .int) [.ref (γ.2.2.1 114)] h (QI r hz)) (H_9_unit : ∀ (dd : Nat), NN ≤ dd → ∀ (h : Hp) (r : Int32) (hz : Hp), R_9_unit h = some (r, hz) → MC γ dd yX9_unit cX9_unit 5 (some .int) [.ref (γ.2.2.1 114)] h (QI r hz)) {h : Hp} {r : Int32} {hz : Hp} (hd : NN + 1 ≤ dd) (hr : b_9_unit R_9_both R_9_compared R_9_either R_9_product R_9_sum R_9_unit h = some (r, hz)) : MC γ dd yX9_unit cX9_unit 5 (some .int) [.ref (γ.2.2.1 114)] h (QI r hz) := by
  unfold b_9_unit at hr
  refine MC.of mi_9_unit (Nat.le_of_ble_eq_true rfl) (fun ε hR => ?_)
  show VW γ ε cX9_unit RX9 5 dd 0 [(0, .ref (γ.2.2.1 114))] [] h
  refine VW.aload_n d9_unit_0 0 rfl ?_
  obtain ⟨r2, e1, hr⟩ := bno hr
  refine VW.callV (As := []) (st := []) d9_unit_1 mi_9_here cv_9_61 (oo_9 o9_114) ⟨rfl, rfl⟩ (by decide) (dl1r hd) _ rfl (Nat.le_of_ble_eq_true rfl) rfl (c_9_here (dlr hd hN (Nat.le_of_ble_eq_true rfl)) e1) (kI ?_)
  refine VW.istore_n (lo' := [(1, .int r2), (0, .ref (γ.2.2.1 114))]) d9_unit_4 (by decide) rfl ?_
  refine VW.iload_n d9_unit_5 0 rfl ?_
  refine VW.bipush (v := 33) d9_unit_6 bp_33 ?_
  refine VW.icmp_eq 17 d9_unit_8 (by decide) (fun c3 => ?_) (fun c3 => ?_)
  · replace hr := ip hr c3
    refine VW.aload_n d9_unit_17 1 rfl ?_
    refine VW.getI (k := 8) d9_unit_18 (oo_9 o9_114) rfl fl_9_88 ck9 ?_
    refine VW.iconst (v := 5) d9_unit_21 ic_5 ?_
    refine VW.icmp_ne 30 d9_unit_22 (by decide) (fun c4 => ?_) (fun c4 => ?_)
    · replace hr := ip hr c4
      refine VW.aload_n d9_unit_25 1 rfl ?_
      obtain ⟨r6, h7, e5, hr⟩ := bno2 hr
      refine VW.callV (As := []) (st := []) d9_unit_26 mi_9_wrong cv_9_91 (oo_9 o9_114) ⟨rfl, rfl⟩ (by decide) (dl1r hd) _ rfl (Nat.le_of_ble_eq_true rfl) rfl (c_9_wrong (dlr hd hN (Nat.le_of_ble_eq_true rfl)) e5) (kI ?_)
      exact VW.iret d9_unit_29 hR (rIw hr)
    · replace hr := im hr c4
      refine VW.aload_n d9_unit_30 1 rfl ?_
      refine VW.dup d9_unit_31 rfl ?_
      refine VW.getI (k := 8) d9_unit_32 (oo_9 o9_114) rfl fl_9_88 ck9 ?_
      refine VW.iconst (v := 1) d9_unit_35 ic_1 ?_
      refine VW.iadd d9_unit_36 ?_
      obtain ⟨h8, e9, hr⟩ := hlt hr
      refine VW.putI (k := 8) d9_unit_37 (oo_9 o9_114) rfl fl_9_88 ck9 rfl rfl rfl rfl ?_
      refine VW.heq e9 ?_
      refine VW.aload_n d9_unit_40 1 rfl ?_
      refine VW.dup d9_unit_41 rfl ?_
      refine VW.getI (k := 5) d9_unit_42 (oo_9 o9_114) rfl fl_9_48 ck9 ?_
      refine VW.iconst (v := 1) d9_unit_45 ic_1 ?_
      refine VW.iadd d9_unit_46 ?_
      obtain ⟨h10, e11, hr⟩ := hlt hr
      refine VW.putI (k := 5) d9_unit_47 (oo_9 o9_114) rfl fl_9_48 ck9 rfl rfl rfl rfl ?_
      refine VW.heq e11 ?_
      refine VW.iload_n d9_unit_50 0 rfl ?_
      refine VW.bipush (v := 40) d9_unit_51 bp_40 ?_
      refine VW.icmp_ne 63 d9_unit_53 (by decide) (fun c12 => ?_) (fun c12 => ?_)
      · replace hr := ip hr c12
        refine VW.aload_n d9_unit_56 1 rfl ?_
        obtain ⟨r14, h15, e13, hr⟩ := bno2 hr
        refine VW.callV (As := []) (st := []) d9_unit_57 mi_9_either cv_9_94 (oo_9 o9_114) ⟨rfl, rfl⟩ (by decide) (dl1r hd) _ rfl (Nat.le_of_ble_eq_true rfl) rfl (H_9_either (dd - 1) (dr hd) h10 _ _ e13) (kI ?_)
        refine VW.goto 67 d9_unit_60 (by decide) ?_
        refine VW.istore_n (lo' := [(2, .int r14), (1, .int r2), (0, .ref (γ.2.2.1 114))]) d9_unit_67 (by decide) rfl ?_
        refine VW.iload_n d9_unit_68 1 rfl ?_
        refine VW.bipush (v := 40) d9_unit_69 bp_40 ?_
        refine VW.icmp_ne 88 d9_unit_71 (by decide) (fun c16 => ?_) (fun c16 => ?_)
        · replace hr := ip hr c16
          refine VW.aload_n d9_unit_74 2 rfl ?_
          refine VW.bipush (v := 41) d9_unit_75 bp_41 ?_
          obtain ⟨r18, h19, e17, hr⟩ := bno2 hr
          refine VW.callV (As := [.int 41]) (st := []) d9_unit_77 mi_9_takes cv_9_72 (oo_9 o9_114) ⟨rfl, rfl⟩ (by decide) (dl1r hd) _ rfl (Nat.le_of_ble_eq_true rfl) rfl (c_9_takes (dlr hd hN (Nat.le_of_ble_eq_true rfl)) e17) (kI ?_)
          refine VW.if_ne 88 d9_unit_80 (by decide) (fun c20 => ?_) (fun c20 => ?_)
          · replace hr := ip hr c20
            refine VW.aload_n d9_unit_83 2 rfl ?_
            obtain ⟨r22, h23, e21, hr⟩ := bno2 hr
            refine VW.callV (As := []) (st := []) d9_unit_84 mi_9_wrong cv_9_91 (oo_9 o9_114) ⟨rfl, rfl⟩ (by decide) (dl1r hd) _ rfl (Nat.le_of_ble_eq_true rfl) rfl (c_9_wrong (dlr hd hN (Nat.le_of_ble_eq_true rfl)) e21) (kI ?_)
            exact VW.iret d9_unit_87 hR (rIw hr)
          · replace hr := im hr c20
            refine VW.aload_n d9_unit_88 2 rfl ?_
            refine VW.dup d9_unit_89 rfl ?_
            refine VW.getI (k := 8) d9_unit_90 (oo_9 o9_114) rfl fl_9_88 ck9 ?_
            refine VW.iconst (v := 1) d9_unit_93 ic_1 ?_
            refine VW.isub d9_unit_94 ?_
            obtain ⟨h24, e25, hr⟩ := hlt hr
            refine VW.putI (k := 8) d9_unit_95 (oo_9 o9_114) rfl fl_9_88 ck9 rfl rfl rfl rfl ?_
            refine VW.heq e25 ?_
            refine VW.iload_n d9_unit_98 1 rfl ?_
            refine VW.bipush (v := 40) d9_unit_99 bp_40 ?_
            refine VW.icmp_ne 108 d9_unit_101 (by decide) (fun c26 => ?_) (fun c26 => ?_)
            · replace hr := ip hr c26
              refine VW.iload_n d9_unit_104 0 rfl ?_
              refine VW.goto 117 d9_unit_105 (by decide) ?_
              exact VW.iret d9_unit_117 hR (rIw hr)
            · replace hr := im hr c26
              refine VW.iload_n d9_unit_108 0 rfl ?_
              refine VW.if_ne 116 d9_unit_109 (by decide) (fun c27 => ?_) (fun c27 => ?_)
              · replace hr := ip hr c27
                refine VW.iconst (v := 1) d9_unit_112 ic_1 ?_
                refine VW.goto 117 d9_unit_113 (by decide) ?_
                exact VW.iret d9_unit_117 hR (rIw hr)
              · replace hr := im hr c27
                refine VW.iconst (v := 0) d9_unit_116 ic_0 ?_
                exact VW.iret d9_unit_117 hR (rIw hr)
        · replace hr := im hr c16
          refine VW.aload_n d9_unit_88 2 rfl ?_
          refine VW.dup d9_unit_89 rfl ?_
          refine VW.getI (k := 8) d9_unit_90 (oo_9 o9_114) rfl fl_9_88 ck9 ?_
          refine VW.iconst (v := 1) d9_unit_93 ic_1 ?_
          refine VW.isub d9_unit_94 ?_
          obtain ⟨h28, e29, hr⟩ := hlt hr
          refine VW.putI (k := 8) d9_unit_95 (oo_9 o9_114) rfl fl_9_88 ck9 rfl rfl rfl rfl ?_
          refine VW.heq e29 ?_
          refine VW.iload_n d9_unit_98 1 rfl ?_
          refine VW.bipush (v := 40) d9_unit_99 bp_40 ?_
          refine VW.icmp_ne 108 d9_unit_101 (by decide) (fun c30 => ?_) (fun c30 => ?_)
          · replace hr := ip hr c30
            refine VW.iload_n d9_unit_104 0 rfl ?_
            refine VW.goto 117 d9_unit_105 (by decide) ?_
            exact VW.iret d9_unit_117 hR (rIw hr)
          · replace hr := im hr c30
            refine VW.iload_n d9_unit_108 0 rfl ?_
            refine VW.if_ne 116 d9_unit_109 (by decide) (fun c31 => ?_) (fun c31 => ?_)
            · replace hr := ip hr c31
              refine VW.iconst (v := 1) d9_unit_112 ic_1 ?_
              refine VW.goto 117 d9_unit_113 (by decide) ?_
              exact VW.iret d9_unit_117 hR (rIw hr)
            · replace hr := im hr c31
              refine VW.iconst (v := 0) d9_unit_116 ic_0 ?_
              exact VW.iret d9_unit_117 hR (rIw hr)
      · replace hr := im hr c12
        refine VW.aload_n d9_unit_63 1 rfl ?_
        obtain ⟨r33, h34, e32, hr⟩ := bno2 hr
        refine VW.callV (As := []) (st := []) d9_unit_64 mi_9_unit cv_9_85 (oo_9 o9_114) ⟨rfl, rfl⟩ (by decide) (dl1r hd) _ rfl (Nat.le_of_ble_eq_true rfl) rfl (H_9_unit (dd - 1) (dr hd) h10 _ _ e32) (kI ?_)
        refine VW.istore_n (lo' := [(2, .int r33), (1, .int r2), (0, .ref (γ.2.2.1 114))]) d9_unit_67 (by decide) rfl ?_
        refine VW.iload_n d9_unit_68 1 rfl ?_
        refine VW.bipush (v := 40) d9_unit_69 bp_40 ?_
        refine VW.icmp_ne 88 d9_unit_71 (by decide) (fun c35 => ?_) (fun c35 => ?_)
        · replace hr := ip hr c35
          refine VW.aload_n d9_unit_74 2 rfl ?_
          refine VW.bipush (v := 41) d9_unit_75 bp_41 ?_
          obtain ⟨r37, h38, e36, hr⟩ := bno2 hr
          refine VW.callV (As := [.int 41]) (st := []) d9_unit_77 mi_9_takes cv_9_72 (oo_9 o9_114) ⟨rfl, rfl⟩ (by decide) (dl1r hd) _ rfl (Nat.le_of_ble_eq_true rfl) rfl (c_9_takes (dlr hd hN (Nat.le_of_ble_eq_true rfl)) e36) (kI ?_)
          refine VW.if_ne 88 d9_unit_80 (by decide) (fun c39 => ?_) (fun c39 => ?_)
          · replace hr := ip hr c39
            refine VW.aload_n d9_unit_83 2 rfl ?_
            obtain ⟨r41, h42, e40, hr⟩ := bno2 hr
            refine VW.callV (As := []) (st := []) d9_unit_84 mi_9_wrong cv_9_91 (oo_9 o9_114) ⟨rfl, rfl⟩ (by decide) (dl1r hd) _ rfl (Nat.le_of_ble_eq_true rfl) rfl (c_9_wrong (dlr hd hN (Nat.le_of_ble_eq_true rfl)) e40) (kI ?_)
            exact VW.iret d9_unit_87 hR (rIw hr)
          · replace hr := im hr c39
            refine VW.aload_n d9_unit_88 2 rfl ?_
            refine VW.dup d9_unit_89 rfl ?_
            refine VW.getI (k := 8) d9_unit_90 (oo_9 o9_114) rfl fl_9_88 ck9 ?_
            refine VW.iconst (v := 1) d9_unit_93 ic_1 ?_
            refine VW.isub d9_unit_94 ?_
            obtain ⟨h43, e44, hr⟩ := hlt hr
            refine VW.putI (k := 8) d9_unit_95 (oo_9 o9_114) rfl fl_9_88 ck9 rfl rfl rfl rfl ?_
            refine VW.heq e44 ?_
            refine VW.iload_n d9_unit_98 1 rfl ?_
            refine VW.bipush (v := 40) d9_unit_99 bp_40 ?_
            refine VW.icmp_ne 108 d9_unit_101 (by decide) (fun c45 => ?_) (fun c45 => ?_)
            · replace hr := ip hr c45
              refine VW.iload_n d9_unit_104 0 rfl ?_
              refine VW.goto 117 d9_unit_105 (by decide) ?_
              exact VW.iret d9_unit_117 hR (rIw hr)
            · replace hr := im hr c45
              refine VW.iload_n d9_unit_108 0 rfl ?_
              refine VW.if_ne 116 d9_unit_109 (by decide) (fun c46 => ?_) (fun c46 => ?_)
              · replace hr := ip hr c46
                refine VW.iconst (v := 1) d9_unit_112 ic_1 ?_
                refine VW.goto 117 d9_unit_113 (by decide) ?_
                exact VW.iret d9_unit_117 hR (rIw hr)
              · replace hr := im hr c46
                refine VW.iconst (v := 0) d9_unit_116 ic_0 ?_
                exact VW.iret d9_unit_117 hR (rIw hr)
        · replace hr := im hr c35
          refine VW.aload_n d9_unit_88 2 rfl ?_
          refine VW.dup d9_unit_89 rfl ?_
          refine VW.getI (k := 8) d9_unit_90 (oo_9 o9_114) rfl fl_9_88 ck9 ?_
          refine VW.iconst (v := 1) d9_unit_93 ic_1 ?_
          refine VW.isub d9_unit_94 ?_
          obtain ⟨h47, e48, hr⟩ := hlt hr
          refine VW.putI (k := 8) d9_unit_95 (oo_9 o9_114) rfl fl_9_88 ck9 rfl rfl rfl rfl ?_
          refine VW.heq e48 ?_
          refine VW.iload_n d9_unit_98 1 rfl ?_
          refine VW.bipush (v := 40) d9_unit_99 bp_40 ?_
          refine VW.icmp_ne 108 d9_unit_101 (by decide) (fun c49 => ?_) (fun c49 => ?_)
          · replace hr := ip hr c49
            refine VW.iload_n d9_unit_104 0 rfl ?_
            refine VW.goto 117 d9_unit_105 (by decide) ?_
            exact VW.iret d9_unit_117 hR (rIw hr)
          · replace hr := im hr c49
            refine VW.iload_n d9_unit_108 0 rfl ?_
            refine VW.if_ne 116 d9_unit_109 (by decide) (fun c50 => ?_) (fun c50 => ?_)
            · replace hr := ip hr c50
              refine VW.iconst (v := 1) d9_unit_112 ic_1 ?_
              refine VW.goto 117 d9_unit_113 (by decide) ?_
              exact VW.iret d9_unit_117 hR (rIw hr)
            · replace hr := im hr c50
              refine VW.iconst (v := 0) d9_unit_116 ic_0 ?_
              exact VW.iret d9_unit_117 hR (rIw hr)
  · replace hr := im hr c3
    refine VW.iload_n d9_unit_11 0 rfl ?_
    refine VW.bipush (v := 40) d9_unit_12 bp_40 ?_
    refine VW.icmp_ne 118 d9_unit_14 (by decide) (fun c51 => ?_) (fun c51 => ?_)
    · replace hr := ip hr c51
      refine VW.aload_n d9_unit_17 1 rfl ?_
      refine VW.getI (k := 8) d9_unit_18 (oo_9 o9_114) rfl fl_9_88 ck9 ?_
      refine VW.iconst (v := 5) d9_unit_21 ic_5 ?_
      refine VW.icmp_ne 30 d9_unit_22 (by decide) (fun c52 => ?_) (fun c52 => ?_)
      · replace hr := ip hr c52
        refine VW.aload_n d9_unit_25 1 rfl ?_
        obtain ⟨r54, h55, e53, hr⟩ := bno2 hr
        refine VW.callV (As := []) (st := []) d9_unit_26 mi_9_wrong cv_9_91 (oo_9 o9_114) ⟨rfl, rfl⟩ (by decide) (dl1r hd) _ rfl (Nat.le_of_ble_eq_true rfl) rfl (c_9_wrong (dlr hd hN (Nat.le_of_ble_eq_true rfl)) e53) (kI ?_)
        exact VW.iret d9_unit_29 hR (rIw hr)
      · replace hr := im hr c52
        refine VW.aload_n d9_unit_30 1 rfl ?_
        refine VW.dup d9_unit_31 rfl ?_
        refine VW.getI (k := 8) d9_unit_32 (oo_9 o9_114) rfl fl_9_88 ck9 ?_
        refine VW.iconst (v := 1) d9_unit_35 ic_1 ?_
        refine VW.iadd d9_unit_36 ?_
        obtain ⟨h56, e57, hr⟩ := hlt hr
        refine VW.putI (k := 8) d9_unit_37 (oo_9 o9_114) rfl fl_9_88 ck9 rfl rfl rfl rfl ?_
        refine VW.heq e57 ?_
        refine VW.aload_n d9_unit_40 1 rfl ?_
        refine VW.dup d9_unit_41 rfl ?_
        refine VW.getI (k := 5) d9_unit_42 (oo_9 o9_114) rfl fl_9_48 ck9 ?_
        refine VW.iconst (v := 1) d9_unit_45 ic_1 ?_
        refine VW.iadd d9_unit_46 ?_
        obtain ⟨h58, e59, hr⟩ := hlt hr
        refine VW.putI (k := 5) d9_unit_47 (oo_9 o9_114) rfl fl_9_48 ck9 rfl rfl rfl rfl ?_
        refine VW.heq e59 ?_
        refine VW.iload_n d9_unit_50 0 rfl ?_
        refine VW.bipush (v := 40) d9_unit_51 bp_40 ?_
        refine VW.icmp_ne 63 d9_unit_53 (by decide) (fun c60 => ?_) (fun c60 => ?_)
        · replace hr := ip hr c60
          refine VW.aload_n d9_unit_56 1 rfl ?_
          obtain ⟨r62, h63, e61, hr⟩ := bno2 hr
          refine VW.callV (As := []) (st := []) d9_unit_57 mi_9_either cv_9_94 (oo_9 o9_114) ⟨rfl, rfl⟩ (by decide) (dl1r hd) _ rfl (Nat.le_of_ble_eq_true rfl) rfl (H_9_either (dd - 1) (dr hd) h58 _ _ e61) (kI ?_)
          refine VW.goto 67 d9_unit_60 (by decide) ?_
          refine VW.istore_n (lo' := [(2, .int r62), (1, .int r2), (0, .ref (γ.2.2.1 114))]) d9_unit_67 (by decide) rfl ?_
          refine VW.iload_n d9_unit_68 1 rfl ?_
          refine VW.bipush (v := 40) d9_unit_69 bp_40 ?_
          refine VW.icmp_ne 88 d9_unit_71 (by decide) (fun c64 => ?_) (fun c64 => ?_)
          · replace hr := ip hr c64
            refine VW.aload_n d9_unit_74 2 rfl ?_
            refine VW.bipush (v := 41) d9_unit_75 bp_41 ?_
            obtain ⟨r66, h67, e65, hr⟩ := bno2 hr
            refine VW.callV (As := [.int 41]) (st := []) d9_unit_77 mi_9_takes cv_9_72 (oo_9 o9_114) ⟨rfl, rfl⟩ (by decide) (dl1r hd) _ rfl (Nat.le_of_ble_eq_true rfl) rfl (c_9_takes (dlr hd hN (Nat.le_of_ble_eq_true rfl)) e65) (kI ?_)
            refine VW.if_ne 88 d9_unit_80 (by decide) (fun c68 => ?_) (fun c68 => ?_)
            · replace hr := ip hr c68
              refine VW.aload_n d9_unit_83 2 rfl ?_
              obtain ⟨r70, h71, e69, hr⟩ := bno2 hr
              refine VW.callV (As := []) (st := []) d9_unit_84 mi_9_wrong cv_9_91 (oo_9 o9_114) ⟨rfl, rfl⟩ (by decide) (dl1r hd) _ rfl (Nat.le_of_ble_eq_true rfl) rfl (c_9_wrong (dlr hd hN (Nat.le_of_ble_eq_true rfl)) e69) (kI ?_)
              exact VW.iret d9_unit_87 hR (rIw hr)
            · replace hr := im hr c68
              refine VW.aload_n d9_unit_88 2 rfl ?_
              refine VW.dup d9_unit_89 rfl ?_
              refine VW.getI (k := 8) d9_unit_90 (oo_9 o9_114) rfl fl_9_88 ck9 ?_
              refine VW.iconst (v := 1) d9_unit_93 ic_1 ?_
              refine VW.isub d9_unit_94 ?_
              obtain ⟨h72, e73, hr⟩ := hlt hr
              refine VW.putI (k := 8) d9_unit_95 (oo_9 o9_114) rfl fl_9_88 ck9 rfl rfl rfl rfl ?_
              refine VW.heq e73 ?_
              refine VW.iload_n d9_unit_98 1 rfl ?_
              refine VW.bipush (v := 40) d9_unit_99 bp_40 ?_
              refine VW.icmp_ne 108 d9_unit_101 (by decide) (fun c74 => ?_) (fun c74 => ?_)
              · replace hr := ip hr c74
                refine VW.iload_n d9_unit_104 0 rfl ?_
                refine VW.goto 117 d9_unit_105 (by decide) ?_
                exact VW.iret d9_unit_117 hR (rIw hr)
              · replace hr := im hr c74
                refine VW.iload_n d9_unit_108 0 rfl ?_
                refine VW.if_ne 116 d9_unit_109 (by decide) (fun c75 => ?_) (fun c75 => ?_)
                · replace hr := ip hr c75
                  refine VW.iconst (v := 1) d9_unit_112 ic_1 ?_
                  refine VW.goto 117 d9_unit_113 (by decide) ?_
                  exact VW.iret d9_unit_117 hR (rIw hr)
                · replace hr := im hr c75
                  refine VW.iconst (v := 0) d9_unit_116 ic_0 ?_
                  exact VW.iret d9_unit_117 hR (rIw hr)
          · replace hr := im hr c64
            refine VW.aload_n d9_unit_88 2 rfl ?_
            refine VW.dup d9_unit_89 rfl ?_
            refine VW.getI (k := 8) d9_unit_90 (oo_9 o9_114) rfl fl_9_88 ck9 ?_
            refine VW.iconst (v := 1) d9_unit_93 ic_1 ?_
            refine VW.isub d9_unit_94 ?_
            obtain ⟨h76, e77, hr⟩ := hlt hr
            refine VW.putI (k := 8) d9_unit_95 (oo_9 o9_114) rfl fl_9_88 ck9 rfl rfl rfl rfl ?_
            refine VW.heq e77 ?_
            refine VW.iload_n d9_unit_98 1 rfl ?_
            refine VW.bipush (v := 40) d9_unit_99 bp_40 ?_
            refine VW.icmp_ne 108 d9_unit_101 (by decide) (fun c78 => ?_) (fun c78 => ?_)
            · replace hr := ip hr c78
              refine VW.iload_n d9_unit_104 0 rfl ?_
              refine VW.goto 117 d9_unit_105 (by decide) ?_
              exact VW.iret d9_unit_117 hR (rIw hr)
            · replace hr := im hr c78
              refine VW.iload_n d9_unit_108 0 rfl ?_
              refine VW.if_ne 116 d9_unit_109 (by decide) (fun c79 => ?_) (fun c79 => ?_)
              · replace hr := ip hr c79
                refine VW.iconst (v := 1) d9_unit_112 ic_1 ?_
                refine VW.goto 117 d9_unit_113 (by decide) ?_
                exact VW.iret d9_unit_117 hR (rIw hr)
              · replace hr := im hr c79
                refine VW.iconst (v := 0) d9_unit_116 ic_0 ?_
                exact VW.iret d9_unit_117 hR (rIw hr)
        · replace hr := im hr c60
          refine VW.aload_n d9_unit_63 1 rfl ?_
          obtain ⟨r81, h82, e80, hr⟩ := bno2 hr
          refine VW.callV (As := []) (st := []) d9_unit_64 mi_9_unit cv_9_85 (oo_9 o9_114) ⟨rfl, rfl⟩ (by decide) (dl1r hd) _ rfl (Nat.le_of_ble_eq_true rfl) rfl (H_9_unit (dd - 1) (dr hd) h58 _ _ e80) (kI ?_)
          refine VW.istore_n (lo' := [(2, .int r81), (1, .int r2), (0, .ref (γ.2.2.1 114))]) d9_unit_67 (by decide) rfl ?_
          refine VW.iload_n d9_unit_68 1 rfl ?_
          refine VW.bipush (v := 40) d9_unit_69 bp_40 ?_
          refine VW.icmp_ne 88 d9_unit_71 (by decide) (fun c83 => ?_) (fun c83 => ?_)
          · replace hr := ip hr c83
            refine VW.aload_n d9_unit_74 2 rfl ?_
            refine VW.bipush (v := 41) d9_unit_75 bp_41 ?_
            obtain ⟨r85, h86, e84, hr⟩ := bno2 hr
            refine VW.callV (As := [.int 41]) (st := []) d9_unit_77 mi_9_takes cv_9_72 (oo_9 o9_114) ⟨rfl, rfl⟩ (by decide) (dl1r hd) _ rfl (Nat.le_of_ble_eq_true rfl) rfl (c_9_takes (dlr hd hN (Nat.le_of_ble_eq_true rfl)) e84) (kI ?_)
            refine VW.if_ne 88 d9_unit_80 (by decide) (fun c87 => ?_) (fun c87 => ?_)
            · replace hr := ip hr c87
              refine VW.aload_n d9_unit_83 2 rfl ?_
              obtain ⟨r89, h90, e88, hr⟩ := bno2 hr
              refine VW.callV (As := []) (st := []) d9_unit_84 mi_9_wrong cv_9_91 (oo_9 o9_114) ⟨rfl, rfl⟩ (by decide) (dl1r hd) _ rfl (Nat.le_of_ble_eq_true rfl) rfl (c_9_wrong (dlr hd hN (Nat.le_of_ble_eq_true rfl)) e88) (kI ?_)
              exact VW.iret d9_unit_87 hR (rIw hr)
            · replace hr := im hr c87
              refine VW.aload_n d9_unit_88 2 rfl ?_
              refine VW.dup d9_unit_89 rfl ?_
              refine VW.getI (k := 8) d9_unit_90 (oo_9 o9_114) rfl fl_9_88 ck9 ?_
              refine VW.iconst (v := 1) d9_unit_93 ic_1 ?_
              refine VW.isub d9_unit_94 ?_
              obtain ⟨h91, e92, hr⟩ := hlt hr
              refine VW.putI (k := 8) d9_unit_95 (oo_9 o9_114) rfl fl_9_88 ck9 rfl rfl rfl rfl ?_
              refine VW.heq e92 ?_
              refine VW.iload_n d9_unit_98 1 rfl ?_
              refine VW.bipush (v := 40) d9_unit_99 bp_40 ?_
              refine VW.icmp_ne 108 d9_unit_101 (by decide) (fun c93 => ?_) (fun c93 => ?_)
              · replace hr := ip hr c93
                refine VW.iload_n d9_unit_104 0 rfl ?_
                refine VW.goto 117 d9_unit_105 (by decide) ?_
                exact VW.iret d9_unit_117 hR (rIw hr)
              · replace hr := im hr c93
                refine VW.iload_n d9_unit_108 0 rfl ?_
                refine VW.if_ne 116 d9_unit_109 (by decide) (fun c94 => ?_) (fun c94 => ?_)
                · replace hr := ip hr c94
                  refine VW.iconst (v := 1) d9_unit_112 ic_1 ?_
                  refine VW.goto 117 d9_unit_113 (by decide) ?_
                  exact VW.iret d9_unit_117 hR (rIw hr)
                · replace hr := im hr c94
                  refine VW.iconst (v := 0) d9_unit_116 ic_0 ?_
                  exact VW.iret d9_unit_117 hR (rIw hr)
          · replace hr := im hr c83
            refine VW.aload_n d9_unit_88 2 rfl ?_
            refine VW.dup d9_unit_89 rfl ?_
            refine VW.getI (k := 8) d9_unit_90 (oo_9 o9_114) rfl fl_9_88 ck9 ?_
            refine VW.iconst (v := 1) d9_unit_93 ic_1 ?_
            refine VW.isub d9_unit_94 ?_
            obtain ⟨h95, e96, hr⟩ := hlt hr
            refine VW.putI (k := 8) d9_unit_95 (oo_9 o9_114) rfl fl_9_88 ck9 rfl rfl rfl rfl ?_
            refine VW.heq e96 ?_
            refine VW.iload_n d9_unit_98 1 rfl ?_
            refine VW.bipush (v := 40) d9_unit_99 bp_40 ?_
            refine VW.icmp_ne 108 d9_unit_101 (by decide) (fun c97 => ?_) (fun c97 => ?_)
            · replace hr := ip hr c97
              refine VW.iload_n d9_unit_104 0 rfl ?_
              refine VW.goto 117 d9_unit_105 (by decide) ?_
              exact VW.iret d9_unit_117 hR (rIw hr)
            · replace hr := im hr c97
              refine VW.iload_n d9_unit_108 0 rfl ?_
              refine VW.if_ne 116 d9_unit_109 (by decide) (fun c98 => ?_) (fun c98 => ?_)
              · replace hr := ip hr c98
                refine VW.iconst (v := 1) d9_unit_112 ic_1 ?_
                refine VW.goto 117 d9_unit_113 (by decide) ?_
                exact VW.iret d9_unit_117 hR (rIw hr)
              · replace hr := im hr c98
                refine VW.iconst (v := 0) d9_unit_116 ic_0 ?_
                exact VW.iret d9_unit_117 hR (rIw hr)
    · replace hr := im hr c51
      refine VW.aload_n d9_unit_118 1 rfl ?_
      refine VW.iload_n d9_unit_119 0 rfl ?_
      refine VW.callV (As := [.int r2]) (st := []) d9_unit_120 mi_9_nameOf cv_9_97 (oo_9 o9_114) ⟨rfl, rfl⟩ (by decide) (dl1r hd) _ rfl (Nat.le_of_ble_eq_true rfl) rfl (c_9_nameOf (dlr hd hN (Nat.le_of_ble_eq_true rfl)) rfl) (kI ?_)
      refine VW.istore_n (lo' := [(2, .int (f_9_nameOf r2 h)), (1, .int r2), (0, .ref (γ.2.2.1 114))]) d9_unit_123 (by decide) rfl ?_
      refine VW.iload_n d9_unit_124 0 rfl ?_
      refine VW.if_lt 145 d9_unit_125 (by decide) (fun c99 => ?_) (fun c99 => ?_)
      · replace hr := ip hr c99
        refine VW.iconst (v := 0) d9_unit_145 ic_0 ?_
        refine VW.istore_n (lo' := [(3, .int 0), (2, .int (f_9_nameOf r2 h)), (1, .int r2), (0, .ref (γ.2.2.1 114))]) d9_unit_146 (by decide) rfl ?_
        refine VW.iconst (v := 0) d9_unit_147 ic_0 ?_
        refine VW.istore (lo' := [(4, .int 0), (3, .int 0), (2, .int (f_9_nameOf r2 h)), (1, .int r2), (0, .ref (γ.2.2.1 114))]) d9_unit_148 (by decide) rfl ?_
        exact VW.sub [4, 1, 0] rfl (s_9_unit_150 hN H_9_both H_9_compared H_9_either H_9_product H_9_sum H_9_unit hd hR FU 0 0 h hr)
      · replace hr := im hr c99
        refine VW.aload_n d9_unit_128 2 rfl ?_
        refine VW.dup d9_unit_129 rfl ?_
        refine VW.getI (k := 5) d9_unit_130 (oo_9 o9_114) rfl fl_9_48 ck9 ?_
        refine VW.iconst (v := 1) d9_unit_133 ic_1 ?_
        refine VW.iadd d9_unit_134 ?_
        obtain ⟨h116, e117, hr⟩ := hlt hr
        refine VW.putI (k := 5) d9_unit_135 (oo_9 o9_114) rfl fl_9_48 ck9 rfl rfl rfl rfl ?_
        refine VW.heq e117 ?_
        refine VW.aload_n d9_unit_138 2 rfl ?_
        refine VW.getR (k := 10) (r := 118) d9_unit_139 (oo_9 o9_114) rfl fl_9_19 ck9 ?_
        refine VW.iload_n d9_unit_142 0 rfl ?_
        obtain ⟨g118, hr⟩ := gdt hr
        refine VW.iald (j := (ci (f_9_nameOf r2 h))) d9_unit_143 (rf_9_10 o9_114) g118 rfl ?_
        exact VW.iret d9_unit_144 hR (rIw hr)
set_option maxRecDepth 100000 in
set_option maxHeartbeats 4000000 in
theorem ck_9_both {γ : Gm} : ∀ n : Nat, (∀ (dd : Nat), n + 2 ≤ dd → ∀ (h : Hp) (r : Int32) (hz : Hp), (k_9_both n).1 h = some (r, hz) → MC γ dd yX9_both cX9_both 3 (some .int) [.ref (γ.2.2.1 114)] h (QI r hz)) ∧ (∀ (dd : Nat), n + 2 ≤ dd → ∀ (h : Hp) (r : Int32) (hz : Hp), (k_9_both n).2.1 h = some (r, hz) → MC γ dd yX9_compared cX9_compared 4 (some .int) [.ref (γ.2.2.1 114)] h (QI r hz)) ∧ (∀ (dd : Nat), n + 2 ≤ dd → ∀ (h : Hp) (r : Int32) (hz : Hp), (k_9_both n).2.2.1 h = some (r, hz) → MC γ dd yX9_either cX9_either 3 (some .int) [.ref (γ.2.2.1 114)] h (QI r hz)) ∧ (∀ (dd : Nat), n + 2 ≤ dd → ∀ (h : Hp) (r : Int32) (hz : Hp), (k_9_both n).2.2.2.1 h = some (r, hz) → MC γ dd yX9_product cX9_product 4 (some .int) [.ref (γ.2.2.1 114)] h (QI r hz)) ∧ (∀ (dd : Nat), n + 2 ≤ dd → ∀ (h : Hp) (r : Int32) (hz : Hp), (k_9_both n).2.2.2.2.1 h = some (r, hz) → MC γ dd yX9_sum cX9_sum 4 (some .int) [.ref (γ.2.2.1 114)] h (QI r hz)) ∧ (∀ (dd : Nat), n + 2 ≤ dd → ∀ (h : Hp) (r : Int32) (hz : Hp), (k_9_both n).2.2.2.2.2 h = some (r, hz) → MC γ dd yX9_unit cX9_unit 5 (some .int) [.ref (γ.2.2.1 114)] h (QI r hz)) := by
  intro n
  induction n with
  | zero =>
    refine ⟨?_, ?_, ?_, ?_, ?_, ?_⟩
    · intro dd hd _ _ _ hr
      exact nf hr
    · intro dd hd _ _ _ hr
      exact nf hr
    · intro dd hd _ _ _ hr
      exact nf hr
    · intro dd hd _ _ _ hr
      exact nf hr
    · intro dd hd _ _ _ hr
      exact nf hr
    · intro dd hd _ _ _ hr
      exact nf hr
  | succ n ih =>
    obtain ⟨i0, i1, i2, i3, i4, i5⟩ := ih
    refine ⟨?_, ?_, ?_, ?_, ?_, ?_⟩
    · intro dd hd h r hz hr
      exact cb_9_both (NN := n + 2) (Nat.le_add_left _ _) i0 i1 i2 i3 i4 i5 (by omega) hr
    · intro dd hd h r hz hr
      exact cb_9_compared (NN := n + 2) (Nat.le_add_left _ _) i0 i1 i2 i3 i4 i5 (by omega) hr
    · intro dd hd h r hz hr
      exact cb_9_either (NN := n + 2) (Nat.le_add_left _ _) i0 i1 i2 i3 i4 i5 (by omega) hr
    · intro dd hd h r hz hr
      exact cb_9_product (NN := n + 2) (Nat.le_add_left _ _) i0 i1 i2 i3 i4 i5 (by omega) hr
    · intro dd hd h r hz hr
      exact cb_9_sum (NN := n + 2) (Nat.le_add_left _ _) i0 i1 i2 i3 i4 i5 (by omega) hr
    · intro dd hd h r hz hr
      exact cb_9_unit (NN := n + 2) (Nat.le_add_left _ _) i0 i1 i2 i3 i4 i5 (by omega) hr

theorem c_9_both {γ : Gm} {dd : Nat} {h : Hp} {r : Int32} {hz : Hp} (hd : 66 ≤ dd) (hr : f_9_both h = some (r, hz)) : MC γ dd yX9_both cX9_both 3 (some .int) [.ref (γ.2.2.1 114)] h (QI r hz) := (ck_9_both RF).1 dd hd _ _ _ hr
theorem c_9_compared {γ : Gm} {dd : Nat} {h : Hp} {r : Int32} {hz : Hp} (hd : 66 ≤ dd) (hr : f_9_compared h = some (r, hz)) : MC γ dd yX9_compared cX9_compared 4 (some .int) [.ref (γ.2.2.1 114)] h (QI r hz) := (ck_9_both RF).2.1 dd hd _ _ _ hr
theorem c_9_either {γ : Gm} {dd : Nat} {h : Hp} {r : Int32} {hz : Hp} (hd : 66 ≤ dd) (hr : f_9_either h = some (r, hz)) : MC γ dd yX9_either cX9_either 3 (some .int) [.ref (γ.2.2.1 114)] h (QI r hz) := (ck_9_both RF).2.2.1 dd hd _ _ _ hr
theorem c_9_product {γ : Gm} {dd : Nat} {h : Hp} {r : Int32} {hz : Hp} (hd : 66 ≤ dd) (hr : f_9_product h = some (r, hz)) : MC γ dd yX9_product cX9_product 4 (some .int) [.ref (γ.2.2.1 114)] h (QI r hz) := (ck_9_both RF).2.2.2.1 dd hd _ _ _ hr
theorem c_9_sum {γ : Gm} {dd : Nat} {h : Hp} {r : Int32} {hz : Hp} (hd : 66 ≤ dd) (hr : f_9_sum h = some (r, hz)) : MC γ dd yX9_sum cX9_sum 4 (some .int) [.ref (γ.2.2.1 114)] h (QI r hz) := (ck_9_both RF).2.2.2.2.1 dd hd _ _ _ hr
theorem c_9_unit {γ : Gm} {dd : Nat} {h : Hp} {r : Int32} {hz : Hp} (hd : 66 ≤ dd) (hr : f_9_unit h = some (r, hz)) : MC γ dd yX9_unit cX9_unit 5 (some .int) [.ref (γ.2.2.1 114)] h (QI r hz) := (ck_9_both RF).2.2.2.2.2 dd hd _ _ _ hr
set_option maxRecDepth 100000 in
set_option maxHeartbeats 4000000 in
theorem c_9_worked {γ : Gm} {dd : Nat} {x1 : Int32} {x2 : Int32} {x3 : Int32} {h : Hp} {r : Int32} {hz : Hp} (hd : 67 ≤ dd) (hr : f_9_worked x1 x2 x3 h = some (r, hz)) : MC γ dd yX9_worked cX9_worked 5 (some .int) [.ref (γ.2.2.1 114), .int x1, .int x2, .int x3] h (QI r hz) := by
  unfold f_9_worked at hr
  refine MC.of mi_9_worked (Nat.le_of_ble_eq_true rfl) (fun ε hR => ?_)
  show VW γ ε cX9_worked RX9 5 dd 0 [(0, .ref (γ.2.2.1 114)), (1, .int x1), (2, .int x2), (3, .int x3)] [] h
  refine VW.aload_n d9_worked_0 0 rfl ?_
  refine VW.iload_n d9_worked_1 1 rfl ?_
  obtain ⟨h1, e2, hr⟩ := hlt hr
  refine VW.putI (k := 4) d9_worked_2 (oo_9 o9_114) rfl fl_9_58 ck9 rfl rfl rfl rfl ?_
  refine VW.heq e2 ?_
  refine VW.aload_n d9_worked_5 0 rfl ?_
  refine VW.iconst (v := 0) d9_worked_6 ic_0 ?_
  obtain ⟨h3, e4, hr⟩ := hlt hr
  refine VW.putI (k := 5) d9_worked_7 (oo_9 o9_114) rfl fl_9_48 ck9 rfl rfl rfl rfl ?_
  refine VW.heq e4 ?_
  refine VW.aload_n d9_worked_10 0 rfl ?_
  refine VW.iload_n d9_worked_11 2 rfl ?_
  obtain ⟨h5, e6, hr⟩ := hlt hr
  refine VW.putI (k := 6) d9_worked_12 (oo_9 o9_114) rfl fl_9_52 ck9 rfl rfl rfl rfl ?_
  refine VW.heq e6 ?_
  refine VW.aload_n d9_worked_15 0 rfl ?_
  refine VW.iconst (v := (-1)) d9_worked_16 ic_m1 ?_
  obtain ⟨h7, e8, hr⟩ := hlt hr
  refine VW.putI (k := 7) d9_worked_17 (oo_9 o9_114) rfl fl_9_55 ck9 rfl rfl rfl rfl ?_
  refine VW.heq e8 ?_
  refine VW.aload_n d9_worked_20 0 rfl ?_
  refine VW.iconst (v := 0) d9_worked_21 ic_0 ?_
  obtain ⟨h9, e10, hr⟩ := hlt hr
  refine VW.putI (k := 8) d9_worked_22 (oo_9 o9_114) rfl fl_9_88 ck9 rfl rfl rfl rfl ?_
  refine VW.heq e10 ?_
  refine VW.aload_n d9_worked_25 0 rfl ?_
  refine VW.iload_n d9_worked_26 3 rfl ?_
  refine VW.iconst (v := 1) d9_worked_27 ic_1 ?_
  refine VW.icmp_ne 35 d9_worked_28 (by decide) (fun c11 => ?_) (fun c11 => ?_)
  · replace hr := ip hr c11
    refine VW.iconst (v := 1) d9_worked_31 ic_1 ?_
    refine VW.goto 36 d9_worked_32 (by decide) ?_
    obtain ⟨h12, e13, hr⟩ := hlt hr
    refine VW.putI (k := 9) d9_worked_36 (oo_9 o9_114) rfl fl_9_65 ck9 rfl rfl (by decide) rfl ?_
    refine VW.heq e13 ?_
    refine VW.aload_n d9_worked_39 0 rfl ?_
    obtain ⟨r15, h16, e14, hr⟩ := bno2 hr
    refine VW.callV (As := []) (st := []) d9_worked_40 mi_9_either cv_9_94 (oo_9 o9_114) ⟨rfl, rfl⟩ (by decide) (dl1 hd) _ rfl (Nat.le_of_ble_eq_true rfl) rfl (c_9_either (dl hd rfl) e14) (kI ?_)
    refine VW.istore (lo' := [(4, .int r15), (0, .ref (γ.2.2.1 114)), (1, .int x1), (2, .int x2), (3, .int x3)]) d9_worked_43 (by decide) rfl ?_
    refine VW.aload_n d9_worked_45 1 rfl ?_
    refine VW.getI (k := 7) d9_worked_46 (oo_9 o9_114) rfl fl_9_55 ck9 ?_
    refine VW.if_ge 68 d9_worked_49 (by decide) (fun c17 => ?_) (fun c17 => ?_)
    · replace hr := ip hr c17
      refine VW.iload d9_worked_68 0 rfl ?_
      exact VW.iret d9_worked_70 hR (rIw hr)
    · replace hr := im hr c17
      refine VW.aload_n d9_worked_52 1 rfl ?_
      refine VW.getI (k := 5) d9_worked_53 (oo_9 o9_114) rfl fl_9_48 ck9 ?_
      refine VW.aload_n d9_worked_56 1 rfl ?_
      refine VW.getI (k := 6) d9_worked_57 (oo_9 o9_114) rfl fl_9_52 ck9 ?_
      refine VW.icmp_ge 68 d9_worked_60 (by decide) (fun c18 => ?_) (fun c18 => ?_)
      · replace hr := ip hr c18
        refine VW.iload d9_worked_68 0 rfl ?_
        exact VW.iret d9_worked_70 hR (rIw hr)
      · replace hr := im hr c18
        refine VW.aload_n d9_worked_63 1 rfl ?_
        obtain ⟨r20, h21, e19, hr⟩ := bno2 hr
        refine VW.callV (As := []) (st := []) d9_worked_64 mi_9_wrong cv_9_91 (oo_9 o9_114) ⟨rfl, rfl⟩ (by decide) (dl1 hd) _ rfl (Nat.le_of_ble_eq_true rfl) rfl (c_9_wrong (dl hd rfl) e19) (kI ?_)
        exact VW.iret d9_worked_67 hR (rIw hr)
  · replace hr := im hr c11
    refine VW.iconst (v := 0) d9_worked_35 ic_0 ?_
    obtain ⟨h22, e23, hr⟩ := hlt hr
    refine VW.putI (k := 9) d9_worked_36 (oo_9 o9_114) rfl fl_9_65 ck9 rfl rfl (by decide) rfl ?_
    refine VW.heq e23 ?_
    refine VW.aload_n d9_worked_39 0 rfl ?_
    obtain ⟨r25, h26, e24, hr⟩ := bno2 hr
    refine VW.callV (As := []) (st := []) d9_worked_40 mi_9_either cv_9_94 (oo_9 o9_114) ⟨rfl, rfl⟩ (by decide) (dl1 hd) _ rfl (Nat.le_of_ble_eq_true rfl) rfl (c_9_either (dl hd rfl) e24) (kI ?_)
    refine VW.istore (lo' := [(4, .int r25), (0, .ref (γ.2.2.1 114)), (1, .int x1), (2, .int x2), (3, .int x3)]) d9_worked_43 (by decide) rfl ?_
    refine VW.aload_n d9_worked_45 1 rfl ?_
    refine VW.getI (k := 7) d9_worked_46 (oo_9 o9_114) rfl fl_9_55 ck9 ?_
    refine VW.if_ge 68 d9_worked_49 (by decide) (fun c27 => ?_) (fun c27 => ?_)
    · replace hr := ip hr c27
      refine VW.iload d9_worked_68 0 rfl ?_
      exact VW.iret d9_worked_70 hR (rIw hr)
    · replace hr := im hr c27
      refine VW.aload_n d9_worked_52 1 rfl ?_
      refine VW.getI (k := 5) d9_worked_53 (oo_9 o9_114) rfl fl_9_48 ck9 ?_
      refine VW.aload_n d9_worked_56 1 rfl ?_
      refine VW.getI (k := 6) d9_worked_57 (oo_9 o9_114) rfl fl_9_52 ck9 ?_
      refine VW.icmp_ge 68 d9_worked_60 (by decide) (fun c28 => ?_) (fun c28 => ?_)
      · replace hr := ip hr c28
        refine VW.iload d9_worked_68 0 rfl ?_
        exact VW.iret d9_worked_70 hR (rIw hr)
      · replace hr := im hr c28
        refine VW.aload_n d9_worked_63 1 rfl ?_
        obtain ⟨r30, h31, e29, hr⟩ := bno2 hr
        refine VW.callV (As := []) (st := []) d9_worked_64 mi_9_wrong cv_9_91 (oo_9 o9_114) ⟨rfl, rfl⟩ (by decide) (dl1 hd) _ rfl (Nat.le_of_ble_eq_true rfl) rfl (c_9_wrong (dl hd rfl) e29) (kI ?_)
        exact VW.iret d9_worked_67 hR (rIw hr)
