/-- what is left by a cut quotient -/
def irm (x y : Int32) : Int32 := x - x / y * y
def lrm (x y : Int64) : Int64 := x - x / y * y
section VWA
variable {γ : Gm} {ε : En} {cc : ByteArray} {own : String} {nl dd pc n : Nat} {lo lo' : List (Nat × Value)} {st : List Value} {h : Hp}
theorem VW.iadd {x y : Int32} (d : dec cc pc .iadd 1 n) (k : VW γ ε cc own nl dd n lo (.int (x + y) :: st) h) : VW γ ε cc own nl dd pc lo (.int y :: .int x :: st) h := by
  obtain ⟨p, e, R, s, m, args, below, meth, c, kc, ks, Z, A⟩ := ε
  obtain ⟨d, rfl⟩ := d
  intro O H locs ls hP hS hl
  exact lv_iadd O.1 O.2.1 d (k O H locs ls hP hS hl)
theorem VW.isub {x y : Int32} (d : dec cc pc .isub 1 n) (k : VW γ ε cc own nl dd n lo (.int (x - y) :: st) h) : VW γ ε cc own nl dd pc lo (.int y :: .int x :: st) h := by
  obtain ⟨p, e, R, s, m, args, below, meth, c, kc, ks, Z, A⟩ := ε
  obtain ⟨d, rfl⟩ := d
  intro O H locs ls hP hS hl
  exact lv_isub O.1 O.2.1 d (k O H locs ls hP hS hl)
theorem VW.imul {x y : Int32} (d : dec cc pc .imul 1 n) (k : VW γ ε cc own nl dd n lo (.int (x * y) :: st) h) : VW γ ε cc own nl dd pc lo (.int y :: .int x :: st) h := by
  obtain ⟨p, e, R, s, m, args, below, meth, c, kc, ks, Z, A⟩ := ε
  obtain ⟨d, rfl⟩ := d
  intro O H locs ls hP hS hl
  exact lv_imul O.1 O.2.1 d (k O H locs ls hP hS hl)
theorem VW.iand {x y : Int32} (d : dec cc pc .iand 1 n) (k : VW γ ε cc own nl dd n lo (.int (x &&& y) :: st) h) : VW γ ε cc own nl dd pc lo (.int y :: .int x :: st) h := by
  obtain ⟨p, e, R, s, m, args, below, meth, c, kc, ks, Z, A⟩ := ε
  obtain ⟨d, rfl⟩ := d
  intro O H locs ls hP hS hl
  exact lv_iand O.1 O.2.1 d (k O H locs ls hP hS hl)
theorem VW.ior {x y : Int32} (d : dec cc pc .ior 1 n) (k : VW γ ε cc own nl dd n lo (.int (x ||| y) :: st) h) : VW γ ε cc own nl dd pc lo (.int y :: .int x :: st) h := by
  obtain ⟨p, e, R, s, m, args, below, meth, c, kc, ks, Z, A⟩ := ε
  obtain ⟨d, rfl⟩ := d
  intro O H locs ls hP hS hl
  exact lv_ior O.1 O.2.1 d (k O H locs ls hP hS hl)
theorem VW.ixor {x y : Int32} (d : dec cc pc .ixor 1 n) (k : VW γ ε cc own nl dd n lo (.int (x ^^^ y) :: st) h) : VW γ ε cc own nl dd pc lo (.int y :: .int x :: st) h := by
  obtain ⟨p, e, R, s, m, args, below, meth, c, kc, ks, Z, A⟩ := ε
  obtain ⟨d, rfl⟩ := d
  intro O H locs ls hP hS hl
  exact lv_ixor O.1 O.2.1 d (k O H locs ls hP hS hl)
theorem VW.ishl {x y : Int32} (d : dec cc pc .ishl 1 n) (k : VW γ ε cc own nl dd n lo (.int (x <<< (y &&& 31)) :: st) h) : VW γ ε cc own nl dd pc lo (.int y :: .int x :: st) h := by
  obtain ⟨p, e, R, s, m, args, below, meth, c, kc, ks, Z, A⟩ := ε
  obtain ⟨d, rfl⟩ := d
  intro O H locs ls hP hS hl
  exact lv_ishl O.1 O.2.1 d (k O H locs ls hP hS hl)
theorem VW.ishr {x y : Int32} (d : dec cc pc .ishr 1 n) (k : VW γ ε cc own nl dd n lo (.int (x >>> (y &&& 31)) :: st) h) : VW γ ε cc own nl dd pc lo (.int y :: .int x :: st) h := by
  obtain ⟨p, e, R, s, m, args, below, meth, c, kc, ks, Z, A⟩ := ε
  obtain ⟨d, rfl⟩ := d
  intro O H locs ls hP hS hl
  exact lv_ishr O.1 O.2.1 d (k O H locs ls hP hS hl)
theorem VW.idiv {x y : Int32} (d : dec cc pc .idiv 1 n) (hne : ¬ y = 0) (k : VW γ ε cc own nl dd n lo (.int (x / y) :: st) h) : VW γ ε cc own nl dd pc lo (.int y :: .int x :: st) h := by
  obtain ⟨p, e, R, s, m, args, below, meth, c, kc, ks, Z, A⟩ := ε
  obtain ⟨d, rfl⟩ := d
  intro O H locs ls hP hS hl
  exact lv_idiv O.1 O.2.1 d hne (k O H locs ls hP hS hl)
theorem VW.irem {x y : Int32} (d : dec cc pc .irem 1 n) (hne : ¬ y = 0) (k : VW γ ε cc own nl dd n lo (.int (irm x y) :: st) h) : VW γ ε cc own nl dd pc lo (.int y :: .int x :: st) h := by
  obtain ⟨p, e, R, s, m, args, below, meth, c, kc, ks, Z, A⟩ := ε
  obtain ⟨d, rfl⟩ := d
  intro O H locs ls hP hS hl
  exact lv_irem O.1 O.2.1 d hne (k O H locs ls hP hS hl)
theorem VW.ladd {x y : Int64} (d : dec cc pc .ladd 1 n) (k : VW γ ε cc own nl dd n lo (.long (x + y) :: st) h) : VW γ ε cc own nl dd pc lo (.long y :: .long x :: st) h := by
  obtain ⟨p, e, R, s, m, args, below, meth, c, kc, ks, Z, A⟩ := ε
  obtain ⟨d, rfl⟩ := d
  intro O H locs ls hP hS hl
  exact lv_ladd O.1 O.2.1 d (k O H locs ls hP hS hl)
theorem VW.lsub {x y : Int64} (d : dec cc pc .lsub 1 n) (k : VW γ ε cc own nl dd n lo (.long (x - y) :: st) h) : VW γ ε cc own nl dd pc lo (.long y :: .long x :: st) h := by
  obtain ⟨p, e, R, s, m, args, below, meth, c, kc, ks, Z, A⟩ := ε
  obtain ⟨d, rfl⟩ := d
  intro O H locs ls hP hS hl
  exact lv_lsub O.1 O.2.1 d (k O H locs ls hP hS hl)
theorem VW.lmul {x y : Int64} (d : dec cc pc .lmul 1 n) (k : VW γ ε cc own nl dd n lo (.long (x * y) :: st) h) : VW γ ε cc own nl dd pc lo (.long y :: .long x :: st) h := by
  obtain ⟨p, e, R, s, m, args, below, meth, c, kc, ks, Z, A⟩ := ε
  obtain ⟨d, rfl⟩ := d
  intro O H locs ls hP hS hl
  exact lv_lmul O.1 O.2.1 d (k O H locs ls hP hS hl)
theorem VW.land {x y : Int64} (d : dec cc pc .land 1 n) (k : VW γ ε cc own nl dd n lo (.long (x &&& y) :: st) h) : VW γ ε cc own nl dd pc lo (.long y :: .long x :: st) h := by
  obtain ⟨p, e, R, s, m, args, below, meth, c, kc, ks, Z, A⟩ := ε
  obtain ⟨d, rfl⟩ := d
  intro O H locs ls hP hS hl
  exact lv_land O.1 O.2.1 d (k O H locs ls hP hS hl)
theorem VW.lor {x y : Int64} (d : dec cc pc .lor 1 n) (k : VW γ ε cc own nl dd n lo (.long (x ||| y) :: st) h) : VW γ ε cc own nl dd pc lo (.long y :: .long x :: st) h := by
  obtain ⟨p, e, R, s, m, args, below, meth, c, kc, ks, Z, A⟩ := ε
  obtain ⟨d, rfl⟩ := d
  intro O H locs ls hP hS hl
  exact lv_lor O.1 O.2.1 d (k O H locs ls hP hS hl)
theorem VW.ldiv {x y : Int64} (d : dec cc pc .ldiv 1 n) (hne : ¬ y = 0) (k : VW γ ε cc own nl dd n lo (.long (x / y) :: st) h) : VW γ ε cc own nl dd pc lo (.long y :: .long x :: st) h := by
  obtain ⟨p, e, R, s, m, args, below, meth, c, kc, ks, Z, A⟩ := ε
  obtain ⟨d, rfl⟩ := d
  intro O H locs ls hP hS hl
  exact lv_ldiv O.1 O.2.1 d hne (k O H locs ls hP hS hl)
theorem VW.lrem {x y : Int64} (d : dec cc pc .lrem 1 n) (hne : ¬ y = 0) (k : VW γ ε cc own nl dd n lo (.long (lrm x y) :: st) h) : VW γ ε cc own nl dd pc lo (.long y :: .long x :: st) h := by
  obtain ⟨p, e, R, s, m, args, below, meth, c, kc, ks, Z, A⟩ := ε
  obtain ⟨d, rfl⟩ := d
  intro O H locs ls hP hS hl
  exact lv_lrem O.1 O.2.1 d hne (k O H locs ls hP hS hl)
theorem VW.ineg {x : Int32} (d : dec cc pc .ineg 1 n) (k : VW γ ε cc own nl dd n lo (.int (-x) :: st) h) : VW γ ε cc own nl dd pc lo (.int x :: st) h := by
  obtain ⟨p, e, R, s, m, args, below, meth, c, kc, ks, Z, A⟩ := ε
  obtain ⟨d, rfl⟩ := d
  intro O H locs ls hP hS hl
  exact lv_ineg O.1 O.2.1 d (k O H locs ls hP hS hl)
theorem VW.i2l {x : Int32} (d : dec cc pc .i2l 1 n) (k : VW γ ε cc own nl dd n lo (.long (x.toInt64) :: st) h) : VW γ ε cc own nl dd pc lo (.int x :: st) h := by
  obtain ⟨p, e, R, s, m, args, below, meth, c, kc, ks, Z, A⟩ := ε
  obtain ⟨d, rfl⟩ := d
  intro O H locs ls hP hS hl
  exact lv_i2l O.1 O.2.1 d rfl (k O H locs ls hP hS hl)
theorem VW.l2i {x : Int64} (d : dec cc pc .l2i 1 n) (k : VW γ ε cc own nl dd n lo (.int (x.toInt32) :: st) h) : VW γ ε cc own nl dd pc lo (.long x :: st) h := by
  obtain ⟨p, e, R, s, m, args, below, meth, c, kc, ks, Z, A⟩ := ε
  obtain ⟨d, rfl⟩ := d
  intro O H locs ls hP hS hl
  exact lv_l2i O.1 O.2.1 d rfl (k O H locs ls hP hS hl)
theorem VW.i2b {x : Int32} (d : dec cc pc .i2b 1 n) (k : VW γ ε cc own nl dd n lo (.int (x.toInt8.toInt32) :: st) h) : VW γ ε cc own nl dd pc lo (.int x :: st) h := by
  obtain ⟨p, e, R, s, m, args, below, meth, c, kc, ks, Z, A⟩ := ε
  obtain ⟨d, rfl⟩ := d
  intro O H locs ls hP hS hl
  exact lv_i2b O.1 O.2.1 d rfl (k O H locs ls hP hS hl)
theorem VW.i2s {x : Int32} (d : dec cc pc .i2s 1 n) (k : VW γ ε cc own nl dd n lo (.int (x.toInt16.toInt32) :: st) h) : VW γ ε cc own nl dd pc lo (.int x :: st) h := by
  obtain ⟨p, e, R, s, m, args, below, meth, c, kc, ks, Z, A⟩ := ε
  obtain ⟨d, rfl⟩ := d
  intro O H locs ls hP hS hl
  exact lv_i2s O.1 O.2.1 d rfl (k O H locs ls hP hS hl)
theorem VW.iushr {x y : Int32} (d : dec cc pc .iushr 1 n) (k : VW γ ε cc own nl dd n lo (.int ((x.toUInt32 >>> (y.toUInt32 &&& Int32.toUInt32 31)).toInt32) :: st) h) : VW γ ε cc own nl dd pc lo (.int y :: .int x :: st) h := by
  obtain ⟨p, e, R, s, m, args, below, meth, c, kc, ks, Z, A⟩ := ε
  obtain ⟨d, rfl⟩ := d
  intro O H locs ls hP hS hl
  exact lv_iushr O.1 O.2.1 d rfl (k O H locs ls hP hS hl)
theorem VW.lshl {x : Int64} {y : Int32} (d : dec cc pc .lshl 1 n) (k : VW γ ε cc own nl dd n lo (.long (x <<< (y.toInt64 &&& 63)) :: st) h) : VW γ ε cc own nl dd pc lo (.int y :: .long x :: st) h := by
  obtain ⟨p, e, R, s, m, args, below, meth, c, kc, ks, Z, A⟩ := ε
  obtain ⟨d, rfl⟩ := d
  intro O H locs ls hP hS hl
  exact lv_lshl O.1 O.2.1 d rfl (k O H locs ls hP hS hl)
theorem VW.lshr {x : Int64} {y : Int32} (d : dec cc pc .lshr 1 n) (k : VW γ ε cc own nl dd n lo (.long (x >>> (y.toInt64 &&& 63)) :: st) h) : VW γ ε cc own nl dd pc lo (.int y :: .long x :: st) h := by
  obtain ⟨p, e, R, s, m, args, below, meth, c, kc, ks, Z, A⟩ := ε
  obtain ⟨d, rfl⟩ := d
  intro O H locs ls hP hS hl
  exact lv_lshr O.1 O.2.1 d rfl (k O H locs ls hP hS hl)
theorem VW.lushr {x : Int64} {y : Int32} (d : dec cc pc .lushr 1 n) (k : VW γ ε cc own nl dd n lo (.long ((x.toUInt64 >>> (y.toInt64.toUInt64 &&& Int64.toUInt64 63)).toInt64) :: st) h) : VW γ ε cc own nl dd pc lo (.int y :: .long x :: st) h := by
  obtain ⟨p, e, R, s, m, args, below, meth, c, kc, ks, Z, A⟩ := ε
  obtain ⟨d, rfl⟩ := d
  intro O H locs ls hP hS hl
  exact lv_lushr O.1 O.2.1 d rfl (k O H locs ls hP hS hl)
theorem VW.lcmp {x y : Int64} (d : dec cc pc .lcmp 1 n) (k : VW γ ε cc own nl dd n lo (.int (lg_cmp x y) :: st) h) : VW γ ε cc own nl dd pc lo (.long y :: .long x :: st) h := by
  obtain ⟨p, e, R, s, m, args, below, meth, c, kc, ks, Z, A⟩ := ε
  obtain ⟨d, rfl⟩ := d
  intro O H locs ls hP hS hl
  exact W.lcmp O.1 O.2.1 d (k O H locs ls hP hS hl)
theorem VW.dup {v : Value} (d : dec cc pc .dup 1 n) (hv : v.category = 1) (k : VW γ ε cc own nl dd n lo (v :: v :: st) h) : VW γ ε cc own nl dd pc lo (v :: st) h := by
  obtain ⟨p, e, R, s, m, args, below, meth, c, kc, ks, Z, A⟩ := ε
  obtain ⟨d, rfl⟩ := d
  intro O H locs ls hP hS hl
  exact lv_dup O.1 O.2.1 d hv (k O H locs ls hP hS hl)
theorem VW.dup2 {v w : Value} (d : dec cc pc .dup2 1 n) (hv : v.category = 1) (hw : w.category = 1) (k : VW γ ε cc own nl dd n lo (v :: w :: v :: w :: st) h) : VW γ ε cc own nl dd pc lo (v :: w :: st) h := by
  obtain ⟨p, e, R, s, m, args, below, meth, c, kc, ks, Z, A⟩ := ε
  obtain ⟨d, rfl⟩ := d
  intro O H locs ls hP hS hl
  exact lv_dup2_11 O.1 O.2.1 d hv hw (k O H locs ls hP hS hl)
theorem VW.goto {z : Int} {len : Nat} (tgt : Nat) (d : dec cc pc (.goto z) 3 len) (ht : (pc : Int) + z = (tgt : Int)) (k : VW γ ε cc own nl dd tgt lo st h) : VW γ ε cc own nl dd pc lo st h := by
  obtain ⟨p, e, R, s, m, args, below, meth, c, kc, ks, Z, A⟩ := ε
  obtain ⟨d, rfl⟩ := d
  intro O H locs ls hP hS hl
  exact lv_goto O.1 O.2.1 d ht (k O H locs ls hP hS hl)
theorem VW.icmp_eq {x y : Int32} {z : Int} (tgt : Nat) (d : dec cc pc (.if_icmp .eq z) 3 n) (ht : (pc : Int) + z = (tgt : Int)) (kt : (x = y) → VW γ ε cc own nl dd tgt lo st h) (kf : ¬ (x = y) → VW γ ε cc own nl dd n lo st h) : VW γ ε cc own nl dd pc lo (.int y :: .int x :: st) h := by
  obtain ⟨p, e, R, s, m, args, below, meth, c, kc, ks, Z, A⟩ := ε
  obtain ⟨d, rfl⟩ := d
  intro O H locs ls hP hS hl
  exact lv_icmp_eq O.1 O.2.1 d ht (fun q => kt q O H locs ls hP hS hl) (fun q => kf q O H locs ls hP hS hl)
theorem VW.icmp_ne {x y : Int32} {z : Int} (tgt : Nat) (d : dec cc pc (.if_icmp .ne z) 3 n) (ht : (pc : Int) + z = (tgt : Int)) (kt : (x = y) → VW γ ε cc own nl dd n lo st h) (kf : ¬ (x = y) → VW γ ε cc own nl dd tgt lo st h) : VW γ ε cc own nl dd pc lo (.int y :: .int x :: st) h := by
  obtain ⟨p, e, R, s, m, args, below, meth, c, kc, ks, Z, A⟩ := ε
  obtain ⟨d, rfl⟩ := d
  intro O H locs ls hP hS hl
  exact lv_icmp_ne O.1 O.2.1 d ht (fun q => kf q O H locs ls hP hS hl) (fun q => kt q O H locs ls hP hS hl)
theorem VW.icmp_lt {x y : Int32} {z : Int} (tgt : Nat) (d : dec cc pc (.if_icmp .lt z) 3 n) (ht : (pc : Int) + z = (tgt : Int)) (kt : (x < y) → VW γ ε cc own nl dd tgt lo st h) (kf : ¬ (x < y) → VW γ ε cc own nl dd n lo st h) : VW γ ε cc own nl dd pc lo (.int y :: .int x :: st) h := by
  obtain ⟨p, e, R, s, m, args, below, meth, c, kc, ks, Z, A⟩ := ε
  obtain ⟨d, rfl⟩ := d
  intro O H locs ls hP hS hl
  exact lv_icmp_lt O.1 O.2.1 d ht (fun q => kt q O H locs ls hP hS hl) (fun q => kf q O H locs ls hP hS hl)
theorem VW.icmp_ge {x y : Int32} {z : Int} (tgt : Nat) (d : dec cc pc (.if_icmp .ge z) 3 n) (ht : (pc : Int) + z = (tgt : Int)) (kt : (y ≤ x) → VW γ ε cc own nl dd tgt lo st h) (kf : ¬ (y ≤ x) → VW γ ε cc own nl dd n lo st h) : VW γ ε cc own nl dd pc lo (.int y :: .int x :: st) h := by
  obtain ⟨p, e, R, s, m, args, below, meth, c, kc, ks, Z, A⟩ := ε
  obtain ⟨d, rfl⟩ := d
  intro O H locs ls hP hS hl
  exact lv_icmp_ge O.1 O.2.1 d ht (fun q => kt q O H locs ls hP hS hl) (fun q => kf q O H locs ls hP hS hl)
theorem VW.icmp_gt {x y : Int32} {z : Int} (tgt : Nat) (d : dec cc pc (.if_icmp .gt z) 3 n) (ht : (pc : Int) + z = (tgt : Int)) (kt : (y < x) → VW γ ε cc own nl dd tgt lo st h) (kf : ¬ (y < x) → VW γ ε cc own nl dd n lo st h) : VW γ ε cc own nl dd pc lo (.int y :: .int x :: st) h := by
  obtain ⟨p, e, R, s, m, args, below, meth, c, kc, ks, Z, A⟩ := ε
  obtain ⟨d, rfl⟩ := d
  intro O H locs ls hP hS hl
  exact lv_icmp_gt O.1 O.2.1 d ht (fun q => kt q O H locs ls hP hS hl) (fun q => kf q O H locs ls hP hS hl)
theorem VW.icmp_le {x y : Int32} {z : Int} (tgt : Nat) (d : dec cc pc (.if_icmp .le z) 3 n) (ht : (pc : Int) + z = (tgt : Int)) (kt : (x ≤ y) → VW γ ε cc own nl dd tgt lo st h) (kf : ¬ (x ≤ y) → VW γ ε cc own nl dd n lo st h) : VW γ ε cc own nl dd pc lo (.int y :: .int x :: st) h := by
  obtain ⟨p, e, R, s, m, args, below, meth, c, kc, ks, Z, A⟩ := ε
  obtain ⟨d, rfl⟩ := d
  intro O H locs ls hP hS hl
  exact lv_icmp_le O.1 O.2.1 d ht (fun q => kt q O H locs ls hP hS hl) (fun q => kf q O H locs ls hP hS hl)
theorem VW.if_eq {x : Int32} {z : Int} (tgt : Nat) (d : dec cc pc (.ifCond .eq z) 3 n) (ht : (pc : Int) + z = (tgt : Int)) (kt : (x = 0) → VW γ ε cc own nl dd tgt lo st h) (kf : ¬ (x = 0) → VW γ ε cc own nl dd n lo st h) : VW γ ε cc own nl dd pc lo (.int x :: st) h := by
  obtain ⟨p, e, R, s, m, args, below, meth, c, kc, ks, Z, A⟩ := ε
  obtain ⟨d, rfl⟩ := d
  intro O H locs ls hP hS hl
  exact lv_if_eq O.1 O.2.1 d ht (fun q => kt q O H locs ls hP hS hl) (fun q => kf q O H locs ls hP hS hl)
theorem VW.if_ne {x : Int32} {z : Int} (tgt : Nat) (d : dec cc pc (.ifCond .ne z) 3 n) (ht : (pc : Int) + z = (tgt : Int)) (kt : (x = 0) → VW γ ε cc own nl dd n lo st h) (kf : ¬ (x = 0) → VW γ ε cc own nl dd tgt lo st h) : VW γ ε cc own nl dd pc lo (.int x :: st) h := by
  obtain ⟨p, e, R, s, m, args, below, meth, c, kc, ks, Z, A⟩ := ε
  obtain ⟨d, rfl⟩ := d
  intro O H locs ls hP hS hl
  exact lv_if_ne O.1 O.2.1 d ht (fun q => kf q O H locs ls hP hS hl) (fun q => kt q O H locs ls hP hS hl)
theorem VW.if_lt {x : Int32} {z : Int} (tgt : Nat) (d : dec cc pc (.ifCond .lt z) 3 n) (ht : (pc : Int) + z = (tgt : Int)) (kt : (x < 0) → VW γ ε cc own nl dd tgt lo st h) (kf : ¬ (x < 0) → VW γ ε cc own nl dd n lo st h) : VW γ ε cc own nl dd pc lo (.int x :: st) h := by
  obtain ⟨p, e, R, s, m, args, below, meth, c, kc, ks, Z, A⟩ := ε
  obtain ⟨d, rfl⟩ := d
  intro O H locs ls hP hS hl
  exact lv_if_lt O.1 O.2.1 d ht (fun q => kt q O H locs ls hP hS hl) (fun q => kf q O H locs ls hP hS hl)
theorem VW.if_ge {x : Int32} {z : Int} (tgt : Nat) (d : dec cc pc (.ifCond .ge z) 3 n) (ht : (pc : Int) + z = (tgt : Int)) (kt : (0 ≤ x) → VW γ ε cc own nl dd tgt lo st h) (kf : ¬ (0 ≤ x) → VW γ ε cc own nl dd n lo st h) : VW γ ε cc own nl dd pc lo (.int x :: st) h := by
  obtain ⟨p, e, R, s, m, args, below, meth, c, kc, ks, Z, A⟩ := ε
  obtain ⟨d, rfl⟩ := d
  intro O H locs ls hP hS hl
  exact lv_if_ge O.1 O.2.1 d ht (fun q => kt q O H locs ls hP hS hl) (fun q => kf q O H locs ls hP hS hl)
theorem VW.if_gt {x : Int32} {z : Int} (tgt : Nat) (d : dec cc pc (.ifCond .gt z) 3 n) (ht : (pc : Int) + z = (tgt : Int)) (kt : (0 < x) → VW γ ε cc own nl dd tgt lo st h) (kf : ¬ (0 < x) → VW γ ε cc own nl dd n lo st h) : VW γ ε cc own nl dd pc lo (.int x :: st) h := by
  obtain ⟨p, e, R, s, m, args, below, meth, c, kc, ks, Z, A⟩ := ε
  obtain ⟨d, rfl⟩ := d
  intro O H locs ls hP hS hl
  exact lv_if_gt O.1 O.2.1 d ht (fun q => kt q O H locs ls hP hS hl) (fun q => kf q O H locs ls hP hS hl)
theorem VW.if_le {x : Int32} {z : Int} (tgt : Nat) (d : dec cc pc (.ifCond .le z) 3 n) (ht : (pc : Int) + z = (tgt : Int)) (kt : (x ≤ 0) → VW γ ε cc own nl dd tgt lo st h) (kf : ¬ (x ≤ 0) → VW γ ε cc own nl dd n lo st h) : VW γ ε cc own nl dd pc lo (.int x :: st) h := by
  obtain ⟨p, e, R, s, m, args, below, meth, c, kc, ks, Z, A⟩ := ε
  obtain ⟨d, rfl⟩ := d
  intro O H locs ls hP hS hl
  exact lv_if_le O.1 O.2.1 d ht (fun q => kt q O H locs ls hP hS hl) (fun q => kf q O H locs ls hP hS hl)
theorem VW.lookup {dflt : Int} {ps : Array (Int × Int)} {len : Nat} {x : Int32} {off : Int} (tgt : Nat) (d : dec cc pc (.lookupswitch dflt ps) len n) (hp : (ps.toList.zip (ps.toList.drop 1)).all (fun (a, next) => a.1 < next.1) = true) (ho : Op.lookupswitch.offset ps.toList dflt x.toInt = off) (ht : (pc : Int) + off = (tgt : Int)) (k : VW γ ε cc own nl dd tgt lo st h) : VW γ ε cc own nl dd pc lo (.int x :: st) h := by
  obtain ⟨p, e, R, s, m, args, below, meth, c, kc, ks, Z, A⟩ := ε
  obtain ⟨d, rfl⟩ := d
  intro O H locs ls hP hS hl
  exact lv_lookup O.1 O.2.1 d hp ho ht (k O H locs ls hP hS hl)
theorem VW.tableOut {dflt lw hi : Int} {offs : Array Int} {len : Nat} {x : Int32} (tgt : Nat) (d : dec cc pc (.tableswitch dflt lw hi offs) len n) (hx : x.toInt < lw ∨ hi < x.toInt) (ht : (pc : Int) + dflt = (tgt : Int)) (k : VW γ ε cc own nl dd tgt lo st h) : VW γ ε cc own nl dd pc lo (.int x :: st) h := by
  obtain ⟨p, e, R, s, m, args, below, meth, c, kc, ks, Z, A⟩ := ε
  obtain ⟨d, rfl⟩ := d
  intro O H locs ls hP hS hl
  exact lv_tableOut O.1 O.2.1 d hx ht (k O H locs ls hP hS hl)
theorem VW.tableIn {dflt lw hi : Int} {offs : Array Int} {len : Nat} {x : Int32} {off : Int} (tgt : Nat) (d : dec cc pc (.tableswitch dflt lw hi offs) len n) (h1 : ¬ x.toInt < lw) (h2 : ¬ hi < x.toInt) (ho : offs[(x.toInt - lw).toNat]? = some off) (ht : (pc : Int) + off = (tgt : Int)) (k : VW γ ε cc own nl dd tgt lo st h) : VW γ ε cc own nl dd pc lo (.int x :: st) h := by
  obtain ⟨p, e, R, s, m, args, below, meth, c, kc, ks, Z, A⟩ := ε
  obtain ⟨d, rfl⟩ := d
  intro O H locs ls hP hS hl
  exact lv_tableIn O.1 O.2.1 d h1 h2 ho ht (k O H locs ls hP hS hl)
end VWA
/-! fields, rows -/
def inb (i : Int32) (n : Nat) : Bool := decide (0 ≤ i.toInt) && decide (i.toInt < n)
def ci (i : Int32) : Nat := i.toNatClampNeg
theorem inb_in {i : Int32} {n : Nat} (h : inb i n = true) : vp_in i n := by
  unfold inb at h
  rw [Bool.and_eq_true, decide_eq_true_eq, decide_eq_true_eq] at h
  exact vp_in_iff.mpr h
theorem inb_lt {i : Int32} {n : Nat} (h : inb i n = true) : ci i < n := Nat.not_le.mp fun q => inb_in h (Or.inr q)
theorem rmap {f : Nat → Nat} {j n : Nat} (h : j < n) : ((List.range n).map f)[j]? = some (f j) := by
  rw [List.getElem?_map, List.getElem?_range h]; rfl
section VWF
variable {γ : Gm} {ε : En} {cc : ByteArray} {own : String} {nl dd pc n : Nat} {lo lo' : List (Nat × Value)} {st : List Value} {h : Hp}
theorem VW.getI {q ix c k : Nat} {fs : List (Option Nat)} (d : dec cc pc (.getfield ix) 3 n) (hs : sh q = some (.inr (.inr (c, fs)))) (hf : fs[k]? = some none) (F : fl own ix c k) (K : ck c) (kk : VW γ ε cc own nl dd n lo (.int (h q k) :: st) h) : VW γ ε cc own nl dd pc lo (.ref (γ.2.2.1 q) :: st) h := by
  obtain ⟨p, e, R, s, m, args, below, meth, c, kc, ks, Z, A⟩ := ε
  obtain ⟨d, rfl⟩ := d
  intro O H locs ls hP hS hl
  exact va_get O.1 O.2.1 O.2.2.2.2.1 K.1 O.2.2.2.1 O.2.2.2.2.2.1 hP q (cells_at γ h hs) F.1 k F.2.1 (O.2.2.2.2.1 _ F.2.2) (fun _ z => z) (fv_at γ (h q) hf) d (kk O H locs ls hP hS hl)
theorem VW.getR {q ix c k r : Nat} {fs : List (Option Nat)} (d : dec cc pc (.getfield ix) 3 n) (hs : sh q = some (.inr (.inr (c, fs)))) (hf : fs[k]? = some (some r)) (F : fl own ix c k) (K : ck c) (kk : VW γ ε cc own nl dd n lo (.ref (γ.2.2.1 r) :: st) h) : VW γ ε cc own nl dd pc lo (.ref (γ.2.2.1 q) :: st) h := by
  obtain ⟨p, e, R, s, m, args, below, meth, c, kc, ks, Z, A⟩ := ε
  obtain ⟨d, rfl⟩ := d
  intro O H locs ls hP hS hl
  exact va_get O.1 O.2.1 O.2.2.2.2.1 K.1 O.2.2.2.1 O.2.2.2.2.2.1 hP q (cells_at γ h hs) F.1 k F.2.1 (O.2.2.2.2.1 _ F.2.2) (fun _ z => z) (fv_at γ (h q) hf) d (kk O H locs ls hP hS hl)
theorem VW.putI {q ix cI k : Nat} {fs : List (Option Nat)} {x : Int32} {ty : FieldType} (d : dec cc pc (.putfield ix) 3 n) (hs : sh q = some (.inr (.inr (cI, fs)))) (hf : fs[k]? = some none) (F : fl own ix cI k) (K : ck cI) (hfin : ((cR cI).2.1 k).2.2.2 = false) (hty : cT cI k = ty) (hn : narrow ty (.int x) = .int x) (hfit : fits ty (.int x) = true) (kk : VW γ ε cc own nl dd n lo st (u2 h q k x)) : VW γ ε cc own nl dd pc lo (.int x :: .ref (γ.2.2.1 q) :: st) h := by
  obtain ⟨p, e, R, s, m, args, below, meth, c, kc, ks, Z, A⟩ := ε
  obtain ⟨d, rfl⟩ := d
  intro O H locs ls hP hS hl
  have e1 : (cells γ h).set q (γ.2.2.1 q, .inr (cI, (fv γ (h q) fs).set k (.int x))) = cells γ (u2 h q k x) := by
    rw [fv_set γ (h q) x hf, ← cells_set γ (h' := u2 h q k x) hs (fun a ha => u2_n ha)]
    simp only [el, u2_i]
  refine va_put O.1 O.2.1 O.2.2.2.2.1 K.1 _ K.2.1 K.2.2 O.2.2.2.1 O.2.2.2.2.2.1 hP (O.2.2.2.2.2.2.1 h) hS q (cells_at γ h hs) F.1 k F.2.1 (O.2.2.2.2.1 _ F.2.2) (fun _ z => z) hfin (K.2.1 k F.2.1) (by rw [hty]; exact hn) (by rw [hty]; exact hfit) ?_ d (fun H1 locs1 hP1 hD1 hS1 => ?_)
  · have h1 := (List.getElem?_eq_some_iff.mp (fv_at γ (h q) hf)).1
    exact h1
  · exact kk O H1 locs1 ls (by rw [← e1]; exact hP1) hS1 hl
theorem VW.iald {q N j : Nat} {i : Int32} (d : dec cc pc .iaload 1 n) (hs : sh q = some (.inl N)) (hin : inb i N = true) (hj : ci i = j) (kk : VW γ ε cc own nl dd n lo (.int (h q j) :: st) h) : VW γ ε cc own nl dd pc lo (.int i :: .ref (γ.2.2.1 q) :: st) h := by
  obtain ⟨p, e, R, s, m, args, below, meth, c, kc, ks, Z, A⟩ := ε
  obtain ⟨d, rfl⟩ := d
  subst hj
  intro O H locs ls hP hS hl
  exact va_iald O.1 O.2.1 O.2.2.2.2.2.1 hP q 0 (cells_at γ h hs) (tyl_at γ (t := 0) (by decide)) (inb_in hin) d (kk O H locs ls hP hS hl)
theorem VW.iast {q N j : Nat} {i x : Int32} (d : dec cc pc .iastore 1 n) (hs : sh q = some (.inl N)) (hin : inb i N = true) (hj : ci i = j) (kk : VW γ ε cc own nl dd n lo st (u2 h q j x)) : VW γ ε cc own nl dd pc lo (.int x :: .int i :: .ref (γ.2.2.1 q) :: st) h := by
  obtain ⟨p, e, R, s, m, args, below, meth, c, kc, ks, Z, A⟩ := ε
  obtain ⟨d, rfl⟩ := d
  subst hj
  intro O H locs ls hP hS hl
  have e1 : (cells γ h).set q (γ.2.2.1 q, .inl (γ.2.1 0, N, .inl (upd (h q) i.toNatClampNeg x))) = cells γ (u2 h q (ci i) x) := by
    rw [← cells_set γ (h' := u2 h q (ci i) x) hs (fun a ha => u2_n ha)]
    simp only [el, u2_i, ci]
  refine va_iast O.1 O.2.1 O.2.2.2.2.2.1 hP (O.2.2.2.2.2.2.1 h) hS q 0 (cells_at γ h hs) (tyl_at γ (t := 0) (by decide)) (inb_in hin) d (fun H1 locs1 hP1 hD1 hS1 => ?_)
  exact kk O H1 locs1 ls (by rw [← e1]; exact hP1) hS1 hl
theorem VW.aald {q t N z : Nat} {f : Nat → Nat} {i : Int32} (d : dec cc pc .aaload 1 n) (hs : sh q = some (.inr (.inl (t, (List.range N).map f)))) (ht : t < 4) (ht0 : t ≠ 0) (hin : inb i N = true) (hz : f (ci i) = z) (kk : VW γ ε cc own nl dd n lo (.ref (γ.2.2.1 z) :: st) h) : VW γ ε cc own nl dd pc lo (.int i :: .ref (γ.2.2.1 q) :: st) h := by
  obtain ⟨p, e, R, s, m, args, below, meth, c, kc, ks, Z, A⟩ := ε
  obtain ⟨d, rfl⟩ := d
  subst hz
  intro O H locs ls hP hS hl
  have hlen : ((List.range N).map f).length = N := by rw [List.length_map, List.length_range]
  have hlt : i.toNatClampNeg < N := inb_lt hin
  have hin' := inb_in hin
  have hty : ∀ z, tyf t ≠ z → tyf t ≠ z := fun _ z => z
  have hv : va_rf ((((List.range N).map f)[i.toNatClampNeg]?).map γ.2.2.1) = .ref (γ.2.2.1 (f (ci i))) := by
    rw [rmap hlt]; rfl
  have hk := (O.2.2.2.2.2.1).2 t _ (tyl_at γ ht)
  refine W.aald (v := .ref (γ.2.2.1 (f (ci i)))) (ty := tyf t) O.1 O.2.1 (hP q _ (cells_at γ h hs)) (hk.1 _ (fun j => va_rf ((((List.range N).map f)[j]?).map γ.2.2.1))) ?_ (fun z => by cases z) (by show ¬ (i < 0 ∨ (arrV _ _ _).slots.size ≤ _); rw [arrV_size, hlen]; exact hin') (by show (arrV _ _ _).slots[_]? = _; rw [arrV_read _ _ (by rw [hlen]; exact hlt), hv]) rfl rfl d (kk O H locs ls hP hS hl)
  match t, ht, ht0 with
  | 1, _, _ => rfl
  | 2, _, _ => rfl
  | 3, _, _ => rfl
theorem VW.gets {ix j : Nat} {q : String × String × String × FieldType × Nat} (d : dec cc pc (.getstatic ix) 3 n) (hq : stl[j]? = some q) (hl : Cond.fieldLink own ix q.1 q.2.1 q.2.2.1 ∈ lt) (kk : VW γ ε cc own nl dd n lo (.ref (γ.2.2.2.1 j) :: st) h) : VW γ ε cc own nl dd pc lo st h := by
  obtain ⟨p, e, R, s, m, args, below, meth, c, kc, ks, Z, A⟩ := ε
  obtain ⟨d, rfl⟩ := d
  intro O H locs ls hP hS h9
  exact va_gets O.1 O.2.1 (O.2.2.2.2.2.2.2.1.2 j q hq).1 hS O.2.2.2.1 (O.2.2.2.2.1 _ hl) (fun _ z => z) d (kk O H locs ls hP hS h9)
theorem VW.tild {j N : Nat} {a b c0 : String} {i : Int32} (d : dec cc pc .iaload 1 n) (hq : stl[j]? = some (a, b, c0, .int, N)) (hin : inb i N = true) (kk : VW γ ε cc own nl dd n lo (.int (stv j (ci i)) :: st) h) : VW γ ε cc own nl dd pc lo (.int i :: .ref (γ.2.2.2.1 j) :: st) h := by
  obtain ⟨p, e, R, s, m, args, below, meth, c, kc, ks, Z, A⟩ := ε
  obtain ⟨d, rfl⟩ := d
  intro O H locs ls hP hS h9
  exact va_ti O.1 O.2.1 (O.2.2.2.2.2.2.2.1.2 j _ hq).2 hS (inb_in hin) rfl d (kk O H locs ls hP hS h9)
theorem VW.tcld {j N : Nat} {a b c0 : String} {i : Int32} (d : dec cc pc .caload 1 n) (hq : stl[j]? = some (a, b, c0, .char, N)) (hin : inb i N = true) (kk : VW γ ε cc own nl dd n lo (.int (stv j (ci i)) :: st) h) : VW γ ε cc own nl dd pc lo (.int i :: .ref (γ.2.2.2.1 j) :: st) h := by
  obtain ⟨p, e, R, s, m, args, below, meth, c, kc, ks, Z, A⟩ := ε
  obtain ⟨d, rfl⟩ := d
  intro O H locs ls hP hS h9
  exact va_tc O.1 O.2.1 (O.2.2.2.2.2.2.2.1.2 j _ hq).2 hS (inb_in hin) rfl d (kk O H locs ls hP hS h9)
/-- Math.max, min, abs: values -/
def imax (x y : Int32) : Int32 := if x < y then y else x
def imin (x y : Int32) : Int32 := if y < x then y else x
def iabs (x : Int32) : Int32 := if 0 ≤ x then x else 0 - x
theorem VW.mmax {ix : Nat} {x y : Int32} (d : dec cc pc (.invokestatic ix) 3 n) (J : jl own ix Lib.Math.max.name Lib.Math.max.code 2) (hd : 1 ≤ dd) (hr : (st.map fun v => v.category).sum ≤ 8) (kk : VW γ ε cc own nl dd n lo (.int (imax x y) :: st) h) : VW γ ε cc own nl dd pc lo (.int y :: .int x :: st) h := by
  obtain ⟨p, e, R, s, m, args, below, meth, c, kc, ks, Z, A⟩ := ε
  obtain ⟨d, rfl⟩ := d
  intro O H locs ls hP hS h9
  obtain ⟨r1, r2, r3, r4⟩ := O.2.2.2.2.2.2.2.2.2
  exact va_mmax O.1 O.2.1 (O.2.2.1.trans h9.1.symm) O.2.2.2.1 (O.2.2.2.2.1 _ J.1) (O.2.2.2.2.1 _ J.2.1) (O.2.2.2.2.1 _ J.2.2.1) (O.2.2.2.2.1 _ J.2.2.2) (by omega) (by omega) r3 r4 d (kk O H locs ls hP hS h9)
theorem VW.mmin {ix : Nat} {x y : Int32} (d : dec cc pc (.invokestatic ix) 3 n) (J : jl own ix Lib.Math.min.name Lib.Math.min.code 2) (hd : 1 ≤ dd) (hr : (st.map fun v => v.category).sum ≤ 8) (kk : VW γ ε cc own nl dd n lo (.int (imin x y) :: st) h) : VW γ ε cc own nl dd pc lo (.int y :: .int x :: st) h := by
  obtain ⟨p, e, R, s, m, args, below, meth, c, kc, ks, Z, A⟩ := ε
  obtain ⟨d, rfl⟩ := d
  intro O H locs ls hP hS h9
  obtain ⟨r1, r2, r3, r4⟩ := O.2.2.2.2.2.2.2.2.2
  exact va_mmin O.1 O.2.1 (O.2.2.1.trans h9.1.symm) O.2.2.2.1 (O.2.2.2.2.1 _ J.1) (O.2.2.2.2.1 _ J.2.1) (O.2.2.2.2.1 _ J.2.2.1) (O.2.2.2.2.1 _ J.2.2.2) (by omega) (by omega) r3 r4 d (kk O H locs ls hP hS h9)
theorem VW.mabs {ix : Nat} {x : Int32} (d : dec cc pc (.invokestatic ix) 3 n) (J : jl own ix Lib.Math.abs.name Lib.Math.abs.code 1) (hd : 1 ≤ dd) (hr : (st.map fun v => v.category).sum ≤ 8) (kk : VW γ ε cc own nl dd n lo (.int (iabs x) :: st) h) : VW γ ε cc own nl dd pc lo (.int x :: st) h := by
  obtain ⟨p, e, R, s, m, args, below, meth, c, kc, ks, Z, A⟩ := ε
  obtain ⟨d, rfl⟩ := d
  intro O H locs ls hP hS h9
  obtain ⟨r1, r2, r3, r4⟩ := O.2.2.2.2.2.2.2.2.2
  exact va_mabs O.1 O.2.1 (O.2.2.1.trans h9.1.symm) O.2.2.2.1 (O.2.2.2.2.1 _ J.1) (O.2.2.2.2.1 _ J.2.1) (O.2.2.2.2.1 _ J.2.2.1) (O.2.2.2.2.1 _ J.2.2.2) (by omega) (by omega) r3 r4 d (kk O H locs ls hP hS h9)
/-- what arraycopy asks -/
def cpok (sp dp z : Int32) (N0 N1 : Nat) : Bool := decide (¬ sp < 0) && (decide (¬ dp < 0) && (decide (¬ z < 0) && (decide (ci sp + ci z ≤ N0) && decide (ci dp + ci z ≤ N1))))
theorem VW.copy {ix q0 q1 N0 N1 : Nat} {sp dp z : Int32} (d : dec cc pc (.invokestatic ix) 3 n) (J : al own ix) (hd : 1 ≤ dd) (hr : (st.map fun v => v.category).sum ≤ 8) (hs0 : sh q0 = some (.inl N0)) (hs1 : sh q1 = some (.inl N1)) (hc : cpok sp dp z N0 N1 = true) (kk : VW γ ε cc own nl dd n lo st (uA h q1 (va_cpy (h q0) (h q1) (ci sp) (ci dp) (ci z)))) : VW γ ε cc own nl dd pc lo (.int z :: .int dp :: .ref (γ.2.2.1 q1) :: .int sp :: .ref (γ.2.2.1 q0) :: st) h := by
  obtain ⟨p, e, R, s, m, args, below, meth, c, kc, ks, Z, A⟩ := ε
  obtain ⟨d, rfl⟩ := d
  intro O H locs ls hP hS h9
  obtain ⟨r1, r2, r3, r4⟩ := O.2.2.2.2.2.2.2.2.2
  unfold cpok at hc
  simp only [Bool.and_eq_true, decide_eq_true_eq] at hc
  obtain ⟨c1, c2, c3, c4, c5⟩ := hc
  have e1 : (cells γ h).set q1 (γ.2.2.1 q1, .inl (γ.2.1 0, N1, .inl (va_cpy (h q0) (h q1) sp.toNatClampNeg dp.toNatClampNeg z.toNatClampNeg))) = cells γ (uA h q1 (va_cpy (h q0) (h q1) (ci sp) (ci dp) (ci z))) := by
    rw [← cells_set γ (h' := uA h q1 (va_cpy (h q0) (h q1) (ci sp) (ci dp) (ci z))) hs1 (fun a ha => uA_n ha)]
    simp only [el, uA_i, ci]
  have hw : nativeFrameWords "java/lang/System" "arraycopy" 5 + 11 ≤ 40 := by decide +kernel
  refine va_copyi (ty := .int) O.1 O.2.1 (O.2.2.1.trans h9.1.symm) O.2.2.2.1 (O.2.2.2.2.1 _ J.1) (O.2.2.2.2.1 _ J.2.1) (O.2.2.2.2.1 _ J.2.2.1) (O.2.2.2.2.1 _ J.2.2.2) O.2.2.2.2.2.1 hP (O.2.2.2.2.2.2.1 h) hS q0 q1 0 0 (cells_at γ h hs0) (cells_at γ h hs1) (tyl_at γ (t := 0) (by decide)) (tyl_at γ (t := 0) (by decide)) rfl c1 c2 c3 c4 c5 (fun _ _ => rfl) (by omega) (by omega) d (fun H1 locs1 hP1 hD1 hS1 => ?_)
  exact kk O H1 locs1 ls (by rw [← e1]; exact hP1) hS1 h9
end VWF
