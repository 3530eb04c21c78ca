set_option maxRecDepth 100000 in
set_option maxHeartbeats 4000000 in
theorem c_9_say {γ : Gm} {dd : Nat} {x1 : Int32} {x2 : Int32} {x3 : Int32} {x4 : Int32} {x5 : Int32} {h : Hp} {r : Int32} {hz : Hp} (hd : 71 ≤ dd) (hr : f_9_say x1 x2 x3 x4 x5 h = some (r, hz)) : MC γ dd yX9_say cX9_say 6 (some .int) [.ref (γ.2.2.1 114), .int x1, .int x2, .int x3, .int x4, .int x5] h (QI r hz) := by
  unfold f_9_say at hr
  refine MC.of mi_9_say (Nat.le_of_ble_eq_true rfl) (fun ε hR => ?_)
  show VW γ ε cX9_say RX9 6 dd 0 [(0, .ref (γ.2.2.1 114)), (1, .int x1), (2, .int x2), (3, .int x3), (4, .int x4), (5, .int x5)] [] h
  refine VW.aload_n d9_say_0 0 rfl ?_
  refine VW.iload_n d9_say_1 1 rfl ?_
  obtain ⟨r2, e1, hr⟩ := bno hr
  refine VW.callV (As := [.int x1]) (st := []) d9_say_2 mi_9_isLine cv_9_184 (oo_9 o9_114) ⟨rfl, rfl⟩ (by decide) (dl1 hd) _ rfl (Nat.le_of_ble_eq_true rfl) rfl (c_9_isLine (dl hd rfl) e1) (kI ?_)
  refine VW.if_eq 60 d9_say_5 (by decide) (fun c3 => ?_) (fun c3 => ?_)
  · replace hr := ip hr c3
    refine VW.aload_n d9_say_60 0 rfl ?_
    refine VW.iconst (v := 1) d9_say_61 ic_1 ?_
    obtain ⟨r5, h6, e4, hr⟩ := bno2 hr
    refine VW.callV (As := [.int 1]) (st := []) d9_say_62 mi_9_finds cv_9_107 (oo_9 o9_114) ⟨rfl, rfl⟩ (by decide) (dl1 hd) _ rfl (Nat.le_of_ble_eq_true rfl) rfl (c_9_finds (dl hd rfl) e4) (kI ?_)
    exact VW.iret d9_say_65 hR (rIw hr)
  · replace hr := im hr c3
    refine VW.iload_n d9_say_8 2 rfl ?_
    refine VW.i2l d9_say_9 ?_
    refine VW.lconst (v := 0) d9_say_10 (by decide) ?_
    refine VW.ldc2 (v := 3) d9_say_11 kc_9_127 ?_
    refine VW.callS (As := [.long (Int32.toInt64 x2), .long 0, .long 3]) (st := []) d9_say_14 mi_9_in cs_9_44 (by decide) (dl1 hd) _ rfl (Nat.le_of_ble_eq_true rfl) rfl (c_9_in (dl hd rfl) rfl) (kI ?_)
    refine VW.if_eq 60 d9_say_17 (by decide) (fun c7 => ?_) (fun c7 => ?_)
    · replace hr := ip hr c7
      refine VW.aload_n d9_say_60 0 rfl ?_
      refine VW.iconst (v := 1) d9_say_61 ic_1 ?_
      obtain ⟨r9, h10, e8, hr⟩ := bno2 hr
      refine VW.callV (As := [.int 1]) (st := []) d9_say_62 mi_9_finds cv_9_107 (oo_9 o9_114) ⟨rfl, rfl⟩ (by decide) (dl1 hd) _ rfl (Nat.le_of_ble_eq_true rfl) rfl (c_9_finds (dl hd rfl) e8) (kI ?_)
      exact VW.iret d9_say_65 hR (rIw hr)
    · replace hr := im hr c7
      refine VW.iload_n d9_say_20 2 rfl ?_
      refine VW.if_le 32 d9_say_21 (by decide) (fun c11 => ?_) (fun c11 => ?_)
      · replace hr := ip hr c11
        refine VW.iload_n d9_say_32 2 rfl ?_
        refine VW.iconst (v := 1) d9_say_33 ic_1 ?_
        refine VW.icmp_le 46 d9_say_34 (by decide) (fun c12 => ?_) (fun c12 => ?_)
        · replace hr := ip hr c12
          refine VW.iload_n d9_say_46 2 rfl ?_
          refine VW.iconst (v := 2) d9_say_47 ic_2 ?_
          refine VW.icmp_le 66 d9_say_48 (by decide) (fun c13 => ?_) (fun c13 => ?_)
          · replace hr := ip hr c13
            refine VW.aload_n d9_say_66 0 rfl ?_
            refine VW.iload_n d9_say_67 1 rfl ?_
            refine VW.iconst (v := 5) d9_say_68 ic_5 ?_
            refine VW.iload_n d9_say_69 2 rfl ?_
            obtain ⟨h15, e14, hr⟩ := bno hr
            refine VW.callV (As := [.int x1, .int 5, .int x2]) (st := []) d9_say_70 mi_9_sets cv_9_180 (oo_9 o9_114) ⟨rfl, rfl⟩ (by decide) (dl1 hd) _ rfl (Nat.le_of_ble_eq_true rfl) rfl (c_9_sets (dl hd rfl) e14) (kV ?_)
            refine VW.aload_n d9_say_73 0 rfl ?_
            refine VW.iload_n d9_say_74 1 rfl ?_
            refine VW.bipush (v := 6) d9_say_75 bp_6 ?_
            refine VW.iload_n d9_say_77 2 rfl ?_
            refine VW.if_le 85 d9_say_78 (by decide) (fun c16 => ?_) (fun c16 => ?_)
            · replace hr := ip hr c16
              refine VW.iconst (v := 0) d9_say_85 ic_0 ?_
              obtain ⟨h18, e17, hr⟩ := bno hr
              refine VW.callV (As := [.int x1, .int 6, .int 0]) (st := []) d9_say_86 mi_9_sets cv_9_180 (oo_9 o9_114) ⟨rfl, rfl⟩ (by decide) (dl1 hd) _ rfl (Nat.le_of_ble_eq_true rfl) rfl (c_9_sets (dl hd rfl) e17) (kV ?_)
              refine VW.aload_n d9_say_89 0 rfl ?_
              refine VW.iload_n d9_say_90 1 rfl ?_
              refine VW.bipush (v := 7) d9_say_91 bp_7 ?_
              refine VW.iload_n d9_say_93 2 rfl ?_
              refine VW.iconst (v := 1) d9_say_94 ic_1 ?_
              refine VW.icmp_le 103 d9_say_95 (by decide) (fun c19 => ?_) (fun c19 => ?_)
              · replace hr := ip hr c19
                refine VW.iconst (v := 0) d9_say_103 ic_0 ?_
                obtain ⟨h21, e20, hr⟩ := bno hr
                refine VW.callV (As := [.int x1, .int 7, .int 0]) (st := []) d9_say_104 mi_9_sets cv_9_180 (oo_9 o9_114) ⟨rfl, rfl⟩ (by decide) (dl1 hd) _ rfl (Nat.le_of_ble_eq_true rfl) rfl (c_9_sets (dl hd rfl) e20) (kV ?_)
                refine VW.aload_n d9_say_107 0 rfl ?_
                refine VW.iload_n d9_say_108 1 rfl ?_
                refine VW.bipush (v := 8) d9_say_109 bp_8 ?_
                refine VW.iload_n d9_say_111 2 rfl ?_
                refine VW.iconst (v := 2) d9_say_112 ic_2 ?_
                refine VW.icmp_le 121 d9_say_113 (by decide) (fun c22 => ?_) (fun c22 => ?_)
                · replace hr := ip hr c22
                  refine VW.iconst (v := 0) d9_say_121 ic_0 ?_
                  obtain ⟨h24, e23, hr⟩ := bno hr
                  refine VW.callV (As := [.int x1, .int 8, .int 0]) (st := []) d9_say_122 mi_9_sets cv_9_180 (oo_9 o9_114) ⟨rfl, rfl⟩ (by decide) (dl1 hd) _ rfl (Nat.le_of_ble_eq_true rfl) rfl (c_9_sets (dl hd rfl) e23) (kV ?_)
                  refine VW.aload_n d9_say_125 0 rfl ?_
                  refine VW.iload_n d9_say_126 1 rfl ?_
                  obtain ⟨r26, h27, e25, hr⟩ := bno2 hr
                  refine VW.callV (As := [.int x1]) (st := []) d9_say_127 mi_9_offOf cv_9_170 (oo_9 o9_114) ⟨rfl, rfl⟩ (by decide) (dl1 hd) _ rfl (Nat.le_of_ble_eq_true rfl) rfl (c_9_offOf (dl hd rfl) e25) (kI ?_)
                  exact VW.iret d9_say_130 hR (rIw hr)
                · replace hr := im hr c22
                  refine VW.iload d9_say_116 5 rfl ?_
                  refine VW.goto 122 d9_say_118 (by decide) ?_
                  obtain ⟨h29, e28, hr⟩ := bno hr
                  refine VW.callV (As := [.int x1, .int 8, .int x5]) (st := []) d9_say_122 mi_9_sets cv_9_180 (oo_9 o9_114) ⟨rfl, rfl⟩ (by decide) (dl1 hd) _ rfl (Nat.le_of_ble_eq_true rfl) rfl (c_9_sets (dl hd rfl) e28) (kV ?_)
                  refine VW.aload_n d9_say_125 0 rfl ?_
                  refine VW.iload_n d9_say_126 1 rfl ?_
                  obtain ⟨r31, h32, e30, hr⟩ := bno2 hr
                  refine VW.callV (As := [.int x1]) (st := []) d9_say_127 mi_9_offOf cv_9_170 (oo_9 o9_114) ⟨rfl, rfl⟩ (by decide) (dl1 hd) _ rfl (Nat.le_of_ble_eq_true rfl) rfl (c_9_offOf (dl hd rfl) e30) (kI ?_)
                  exact VW.iret d9_say_130 hR (rIw hr)
              · replace hr := im hr c19
                refine VW.iload d9_say_98 4 rfl ?_
                refine VW.goto 104 d9_say_100 (by decide) ?_
                obtain ⟨h34, e33, hr⟩ := bno hr
                refine VW.callV (As := [.int x1, .int 7, .int x4]) (st := []) d9_say_104 mi_9_sets cv_9_180 (oo_9 o9_114) ⟨rfl, rfl⟩ (by decide) (dl1 hd) _ rfl (Nat.le_of_ble_eq_true rfl) rfl (c_9_sets (dl hd rfl) e33) (kV ?_)
                refine VW.aload_n d9_say_107 0 rfl ?_
                refine VW.iload_n d9_say_108 1 rfl ?_
                refine VW.bipush (v := 8) d9_say_109 bp_8 ?_
                refine VW.iload_n d9_say_111 2 rfl ?_
                refine VW.iconst (v := 2) d9_say_112 ic_2 ?_
                refine VW.icmp_le 121 d9_say_113 (by decide) (fun c35 => ?_) (fun c35 => ?_)
                · replace hr := ip hr c35
                  refine VW.iconst (v := 0) d9_say_121 ic_0 ?_
                  obtain ⟨h37, e36, hr⟩ := bno hr
                  refine VW.callV (As := [.int x1, .int 8, .int 0]) (st := []) d9_say_122 mi_9_sets cv_9_180 (oo_9 o9_114) ⟨rfl, rfl⟩ (by decide) (dl1 hd) _ rfl (Nat.le_of_ble_eq_true rfl) rfl (c_9_sets (dl hd rfl) e36) (kV ?_)
                  refine VW.aload_n d9_say_125 0 rfl ?_
                  refine VW.iload_n d9_say_126 1 rfl ?_
                  obtain ⟨r39, h40, e38, hr⟩ := bno2 hr
                  refine VW.callV (As := [.int x1]) (st := []) d9_say_127 mi_9_offOf cv_9_170 (oo_9 o9_114) ⟨rfl, rfl⟩ (by decide) (dl1 hd) _ rfl (Nat.le_of_ble_eq_true rfl) rfl (c_9_offOf (dl hd rfl) e38) (kI ?_)
                  exact VW.iret d9_say_130 hR (rIw hr)
                · replace hr := im hr c35
                  refine VW.iload d9_say_116 5 rfl ?_
                  refine VW.goto 122 d9_say_118 (by decide) ?_
                  obtain ⟨h42, e41, hr⟩ := bno hr
                  refine VW.callV (As := [.int x1, .int 8, .int x5]) (st := []) d9_say_122 mi_9_sets cv_9_180 (oo_9 o9_114) ⟨rfl, rfl⟩ (by decide) (dl1 hd) _ rfl (Nat.le_of_ble_eq_true rfl) rfl (c_9_sets (dl hd rfl) e41) (kV ?_)
                  refine VW.aload_n d9_say_125 0 rfl ?_
                  refine VW.iload_n d9_say_126 1 rfl ?_
                  obtain ⟨r44, h45, e43, hr⟩ := bno2 hr
                  refine VW.callV (As := [.int x1]) (st := []) d9_say_127 mi_9_offOf cv_9_170 (oo_9 o9_114) ⟨rfl, rfl⟩ (by decide) (dl1 hd) _ rfl (Nat.le_of_ble_eq_true rfl) rfl (c_9_offOf (dl hd rfl) e43) (kI ?_)
                  exact VW.iret d9_say_130 hR (rIw hr)
            · replace hr := im hr c16
              refine VW.iload_n d9_say_81 3 rfl ?_
              refine VW.goto 86 d9_say_82 (by decide) ?_
              obtain ⟨h47, e46, hr⟩ := bno hr
              refine VW.callV (As := [.int x1, .int 6, .int x3]) (st := []) d9_say_86 mi_9_sets cv_9_180 (oo_9 o9_114) ⟨rfl, rfl⟩ (by decide) (dl1 hd) _ rfl (Nat.le_of_ble_eq_true rfl) rfl (c_9_sets (dl hd rfl) e46) (kV ?_)
              refine VW.aload_n d9_say_89 0 rfl ?_
              refine VW.iload_n d9_say_90 1 rfl ?_
              refine VW.bipush (v := 7) d9_say_91 bp_7 ?_
              refine VW.iload_n d9_say_93 2 rfl ?_
              refine VW.iconst (v := 1) d9_say_94 ic_1 ?_
              refine VW.icmp_le 103 d9_say_95 (by decide) (fun c48 => ?_) (fun c48 => ?_)
              · replace hr := ip hr c48
                refine VW.iconst (v := 0) d9_say_103 ic_0 ?_
                obtain ⟨h50, e49, hr⟩ := bno hr
                refine VW.callV (As := [.int x1, .int 7, .int 0]) (st := []) d9_say_104 mi_9_sets cv_9_180 (oo_9 o9_114) ⟨rfl, rfl⟩ (by decide) (dl1 hd) _ rfl (Nat.le_of_ble_eq_true rfl) rfl (c_9_sets (dl hd rfl) e49) (kV ?_)
                refine VW.aload_n d9_say_107 0 rfl ?_
                refine VW.iload_n d9_say_108 1 rfl ?_
                refine VW.bipush (v := 8) d9_say_109 bp_8 ?_
                refine VW.iload_n d9_say_111 2 rfl ?_
                refine VW.iconst (v := 2) d9_say_112 ic_2 ?_
                refine VW.icmp_le 121 d9_say_113 (by decide) (fun c51 => ?_) (fun c51 => ?_)
                · replace hr := ip hr c51
                  refine VW.iconst (v := 0) d9_say_121 ic_0 ?_
                  obtain ⟨h53, e52, hr⟩ := bno hr
                  refine VW.callV (As := [.int x1, .int 8, .int 0]) (st := []) d9_say_122 mi_9_sets cv_9_180 (oo_9 o9_114) ⟨rfl, rfl⟩ (by decide) (dl1 hd) _ rfl (Nat.le_of_ble_eq_true rfl) rfl (c_9_sets (dl hd rfl) e52) (kV ?_)
                  refine VW.aload_n d9_say_125 0 rfl ?_
                  refine VW.iload_n d9_say_126 1 rfl ?_
                  obtain ⟨r55, h56, e54, hr⟩ := bno2 hr
                  refine VW.callV (As := [.int x1]) (st := []) d9_say_127 mi_9_offOf cv_9_170 (oo_9 o9_114) ⟨rfl, rfl⟩ (by decide) (dl1 hd) _ rfl (Nat.le_of_ble_eq_true rfl) rfl (c_9_offOf (dl hd rfl) e54) (kI ?_)
                  exact VW.iret d9_say_130 hR (rIw hr)
                · replace hr := im hr c51
                  refine VW.iload d9_say_116 5 rfl ?_
                  refine VW.goto 122 d9_say_118 (by decide) ?_
                  obtain ⟨h58, e57, hr⟩ := bno hr
                  refine VW.callV (As := [.int x1, .int 8, .int x5]) (st := []) d9_say_122 mi_9_sets cv_9_180 (oo_9 o9_114) ⟨rfl, rfl⟩ (by decide) (dl1 hd) _ rfl (Nat.le_of_ble_eq_true rfl) rfl (c_9_sets (dl hd rfl) e57) (kV ?_)
                  refine VW.aload_n d9_say_125 0 rfl ?_
                  refine VW.iload_n d9_say_126 1 rfl ?_
                  obtain ⟨r60, h61, e59, hr⟩ := bno2 hr
                  refine VW.callV (As := [.int x1]) (st := []) d9_say_127 mi_9_offOf cv_9_170 (oo_9 o9_114) ⟨rfl, rfl⟩ (by decide) (dl1 hd) _ rfl (Nat.le_of_ble_eq_true rfl) rfl (c_9_offOf (dl hd rfl) e59) (kI ?_)
                  exact VW.iret d9_say_130 hR (rIw hr)
              · replace hr := im hr c48
                refine VW.iload d9_say_98 4 rfl ?_
                refine VW.goto 104 d9_say_100 (by decide) ?_
                obtain ⟨h63, e62, hr⟩ := bno hr
                refine VW.callV (As := [.int x1, .int 7, .int x4]) (st := []) d9_say_104 mi_9_sets cv_9_180 (oo_9 o9_114) ⟨rfl, rfl⟩ (by decide) (dl1 hd) _ rfl (Nat.le_of_ble_eq_true rfl) rfl (c_9_sets (dl hd rfl) e62) (kV ?_)
                refine VW.aload_n d9_say_107 0 rfl ?_
                refine VW.iload_n d9_say_108 1 rfl ?_
                refine VW.bipush (v := 8) d9_say_109 bp_8 ?_
                refine VW.iload_n d9_say_111 2 rfl ?_
                refine VW.iconst (v := 2) d9_say_112 ic_2 ?_
                refine VW.icmp_le 121 d9_say_113 (by decide) (fun c64 => ?_) (fun c64 => ?_)
                · replace hr := ip hr c64
                  refine VW.iconst (v := 0) d9_say_121 ic_0 ?_
                  obtain ⟨h66, e65, hr⟩ := bno hr
                  refine VW.callV (As := [.int x1, .int 8, .int 0]) (st := []) d9_say_122 mi_9_sets cv_9_180 (oo_9 o9_114) ⟨rfl, rfl⟩ (by decide) (dl1 hd) _ rfl (Nat.le_of_ble_eq_true rfl) rfl (c_9_sets (dl hd rfl) e65) (kV ?_)
                  refine VW.aload_n d9_say_125 0 rfl ?_
                  refine VW.iload_n d9_say_126 1 rfl ?_
                  obtain ⟨r68, h69, e67, hr⟩ := bno2 hr
                  refine VW.callV (As := [.int x1]) (st := []) d9_say_127 mi_9_offOf cv_9_170 (oo_9 o9_114) ⟨rfl, rfl⟩ (by decide) (dl1 hd) _ rfl (Nat.le_of_ble_eq_true rfl) rfl (c_9_offOf (dl hd rfl) e67) (kI ?_)
                  exact VW.iret d9_say_130 hR (rIw hr)
                · replace hr := im hr c64
                  refine VW.iload d9_say_116 5 rfl ?_
                  refine VW.goto 122 d9_say_118 (by decide) ?_
                  obtain ⟨h71, e70, hr⟩ := bno hr
                  refine VW.callV (As := [.int x1, .int 8, .int x5]) (st := []) d9_say_122 mi_9_sets cv_9_180 (oo_9 o9_114) ⟨rfl, rfl⟩ (by decide) (dl1 hd) _ rfl (Nat.le_of_ble_eq_true rfl) rfl (c_9_sets (dl hd rfl) e70) (kV ?_)
                  refine VW.aload_n d9_say_125 0 rfl ?_
                  refine VW.iload_n d9_say_126 1 rfl ?_
                  obtain ⟨r73, h74, e72, hr⟩ := bno2 hr
                  refine VW.callV (As := [.int x1]) (st := []) d9_say_127 mi_9_offOf cv_9_170 (oo_9 o9_114) ⟨rfl, rfl⟩ (by decide) (dl1 hd) _ rfl (Nat.le_of_ble_eq_true rfl) rfl (c_9_offOf (dl hd rfl) e72) (kI ?_)
                  exact VW.iret d9_say_130 hR (rIw hr)
          · replace hr := im hr c13
            refine VW.aload_n d9_say_51 0 rfl ?_
            refine VW.iload d9_say_52 5 rfl ?_
            obtain ⟨r76, e75, hr⟩ := bno hr
            refine VW.callV (As := [.int x5]) (st := []) d9_say_54 mi_9_isWord cv_9_136 (oo_9 o9_114) ⟨rfl, rfl⟩ (by decide) (dl1 hd) _ rfl (Nat.le_of_ble_eq_true rfl) rfl (c_9_isWord (dl hd rfl) e75) (kI ?_)
            refine VW.if_ne 66 d9_say_57 (by decide) (fun c77 => ?_) (fun c77 => ?_)
            · replace hr := ip hr c77
              refine VW.aload_n d9_say_60 0 rfl ?_
              refine VW.iconst (v := 1) d9_say_61 ic_1 ?_
              obtain ⟨r79, h80, e78, hr⟩ := bno2 hr
              refine VW.callV (As := [.int 1]) (st := []) d9_say_62 mi_9_finds cv_9_107 (oo_9 o9_114) ⟨rfl, rfl⟩ (by decide) (dl1 hd) _ rfl (Nat.le_of_ble_eq_true rfl) rfl (c_9_finds (dl hd rfl) e78) (kI ?_)
              exact VW.iret d9_say_65 hR (rIw hr)
            · replace hr := im hr c77
              refine VW.aload_n d9_say_66 0 rfl ?_
              refine VW.iload_n d9_say_67 1 rfl ?_
              refine VW.iconst (v := 5) d9_say_68 ic_5 ?_
              refine VW.iload_n d9_say_69 2 rfl ?_
              obtain ⟨h82, e81, hr⟩ := bno hr
              refine VW.callV (As := [.int x1, .int 5, .int x2]) (st := []) d9_say_70 mi_9_sets cv_9_180 (oo_9 o9_114) ⟨rfl, rfl⟩ (by decide) (dl1 hd) _ rfl (Nat.le_of_ble_eq_true rfl) rfl (c_9_sets (dl hd rfl) e81) (kV ?_)
              refine VW.aload_n d9_say_73 0 rfl ?_
              refine VW.iload_n d9_say_74 1 rfl ?_
              refine VW.bipush (v := 6) d9_say_75 bp_6 ?_
              refine VW.iload_n d9_say_77 2 rfl ?_
              refine VW.if_le 85 d9_say_78 (by decide) (fun c83 => ?_) (fun c83 => ?_)
              · replace hr := ip hr c83
                refine VW.iconst (v := 0) d9_say_85 ic_0 ?_
                obtain ⟨h85, e84, hr⟩ := bno hr
                refine VW.callV (As := [.int x1, .int 6, .int 0]) (st := []) d9_say_86 mi_9_sets cv_9_180 (oo_9 o9_114) ⟨rfl, rfl⟩ (by decide) (dl1 hd) _ rfl (Nat.le_of_ble_eq_true rfl) rfl (c_9_sets (dl hd rfl) e84) (kV ?_)
                refine VW.aload_n d9_say_89 0 rfl ?_
                refine VW.iload_n d9_say_90 1 rfl ?_
                refine VW.bipush (v := 7) d9_say_91 bp_7 ?_
                refine VW.iload_n d9_say_93 2 rfl ?_
                refine VW.iconst (v := 1) d9_say_94 ic_1 ?_
                refine VW.icmp_le 103 d9_say_95 (by decide) (fun c86 => ?_) (fun c86 => ?_)
                · replace hr := ip hr c86
                  refine VW.iconst (v := 0) d9_say_103 ic_0 ?_
                  obtain ⟨h88, e87, hr⟩ := bno hr
                  refine VW.callV (As := [.int x1, .int 7, .int 0]) (st := []) d9_say_104 mi_9_sets cv_9_180 (oo_9 o9_114) ⟨rfl, rfl⟩ (by decide) (dl1 hd) _ rfl (Nat.le_of_ble_eq_true rfl) rfl (c_9_sets (dl hd rfl) e87) (kV ?_)
                  refine VW.aload_n d9_say_107 0 rfl ?_
                  refine VW.iload_n d9_say_108 1 rfl ?_
                  refine VW.bipush (v := 8) d9_say_109 bp_8 ?_
                  refine VW.iload_n d9_say_111 2 rfl ?_
                  refine VW.iconst (v := 2) d9_say_112 ic_2 ?_
                  refine VW.icmp_le 121 d9_say_113 (by decide) (fun c89 => ?_) (fun c89 => ?_)
                  · replace hr := ip hr c89
                    refine VW.iconst (v := 0) d9_say_121 ic_0 ?_
                    obtain ⟨h91, e90, hr⟩ := bno hr
                    refine VW.callV (As := [.int x1, .int 8, .int 0]) (st := []) d9_say_122 mi_9_sets cv_9_180 (oo_9 o9_114) ⟨rfl, rfl⟩ (by decide) (dl1 hd) _ rfl (Nat.le_of_ble_eq_true rfl) rfl (c_9_sets (dl hd rfl) e90) (kV ?_)
                    refine VW.aload_n d9_say_125 0 rfl ?_
                    refine VW.iload_n d9_say_126 1 rfl ?_
                    obtain ⟨r93, h94, e92, hr⟩ := bno2 hr
                    refine VW.callV (As := [.int x1]) (st := []) d9_say_127 mi_9_offOf cv_9_170 (oo_9 o9_114) ⟨rfl, rfl⟩ (by decide) (dl1 hd) _ rfl (Nat.le_of_ble_eq_true rfl) rfl (c_9_offOf (dl hd rfl) e92) (kI ?_)
                    exact VW.iret d9_say_130 hR (rIw hr)
                  · replace hr := im hr c89
                    refine VW.iload d9_say_116 5 rfl ?_
                    refine VW.goto 122 d9_say_118 (by decide) ?_
                    obtain ⟨h96, e95, hr⟩ := bno hr
                    refine VW.callV (As := [.int x1, .int 8, .int x5]) (st := []) d9_say_122 mi_9_sets cv_9_180 (oo_9 o9_114) ⟨rfl, rfl⟩ (by decide) (dl1 hd) _ rfl (Nat.le_of_ble_eq_true rfl) rfl (c_9_sets (dl hd rfl) e95) (kV ?_)
                    refine VW.aload_n d9_say_125 0 rfl ?_
                    refine VW.iload_n d9_say_126 1 rfl ?_
                    obtain ⟨r98, h99, e97, hr⟩ := bno2 hr
                    refine VW.callV (As := [.int x1]) (st := []) d9_say_127 mi_9_offOf cv_9_170 (oo_9 o9_114) ⟨rfl, rfl⟩ (by decide) (dl1 hd) _ rfl (Nat.le_of_ble_eq_true rfl) rfl (c_9_offOf (dl hd rfl) e97) (kI ?_)
                    exact VW.iret d9_say_130 hR (rIw hr)
                · replace hr := im hr c86
                  refine VW.iload d9_say_98 4 rfl ?_
                  refine VW.goto 104 d9_say_100 (by decide) ?_
                  obtain ⟨h101, e100, hr⟩ := bno hr
                  refine VW.callV (As := [.int x1, .int 7, .int x4]) (st := []) d9_say_104 mi_9_sets cv_9_180 (oo_9 o9_114) ⟨rfl, rfl⟩ (by decide) (dl1 hd) _ rfl (Nat.le_of_ble_eq_true rfl) rfl (c_9_sets (dl hd rfl) e100) (kV ?_)
                  refine VW.aload_n d9_say_107 0 rfl ?_
                  refine VW.iload_n d9_say_108 1 rfl ?_
                  refine VW.bipush (v := 8) d9_say_109 bp_8 ?_
                  refine VW.iload_n d9_say_111 2 rfl ?_
                  refine VW.iconst (v := 2) d9_say_112 ic_2 ?_
                  refine VW.icmp_le 121 d9_say_113 (by decide) (fun c102 => ?_) (fun c102 => ?_)
                  · replace hr := ip hr c102
                    refine VW.iconst (v := 0) d9_say_121 ic_0 ?_
                    obtain ⟨h104, e103, hr⟩ := bno hr
                    refine VW.callV (As := [.int x1, .int 8, .int 0]) (st := []) d9_say_122 mi_9_sets cv_9_180 (oo_9 o9_114) ⟨rfl, rfl⟩ (by decide) (dl1 hd) _ rfl (Nat.le_of_ble_eq_true rfl) rfl (c_9_sets (dl hd rfl) e103) (kV ?_)
                    refine VW.aload_n d9_say_125 0 rfl ?_
                    refine VW.iload_n d9_say_126 1 rfl ?_
                    obtain ⟨r106, h107, e105, hr⟩ := bno2 hr
                    refine VW.callV (As := [.int x1]) (st := []) d9_say_127 mi_9_offOf cv_9_170 (oo_9 o9_114) ⟨rfl, rfl⟩ (by decide) (dl1 hd) _ rfl (Nat.le_of_ble_eq_true rfl) rfl (c_9_offOf (dl hd rfl) e105) (kI ?_)
                    exact VW.iret d9_say_130 hR (rIw hr)
                  · replace hr := im hr c102
                    refine VW.iload d9_say_116 5 rfl ?_
                    refine VW.goto 122 d9_say_118 (by decide) ?_
                    obtain ⟨h109, e108, hr⟩ := bno hr
                    refine VW.callV (As := [.int x1, .int 8, .int x5]) (st := []) d9_say_122 mi_9_sets cv_9_180 (oo_9 o9_114) ⟨rfl, rfl⟩ (by decide) (dl1 hd) _ rfl (Nat.le_of_ble_eq_true rfl) rfl (c_9_sets (dl hd rfl) e108) (kV ?_)
                    refine VW.aload_n d9_say_125 0 rfl ?_
                    refine VW.iload_n d9_say_126 1 rfl ?_
                    obtain ⟨r111, h112, e110, hr⟩ := bno2 hr
                    refine VW.callV (As := [.int x1]) (st := []) d9_say_127 mi_9_offOf cv_9_170 (oo_9 o9_114) ⟨rfl, rfl⟩ (by decide) (dl1 hd) _ rfl (Nat.le_of_ble_eq_true rfl) rfl (c_9_offOf (dl hd rfl) e110) (kI ?_)
                    exact VW.iret d9_say_130 hR (rIw hr)
              · replace hr := im hr c83
                refine VW.iload_n d9_say_81 3 rfl ?_
                refine VW.goto 86 d9_say_82 (by decide) ?_
                obtain ⟨h114, e113, hr⟩ := bno hr
                refine VW.callV (As := [.int x1, .int 6, .int x3]) (st := []) d9_say_86 mi_9_sets cv_9_180 (oo_9 o9_114) ⟨rfl, rfl⟩ (by decide) (dl1 hd) _ rfl (Nat.le_of_ble_eq_true rfl) rfl (c_9_sets (dl hd rfl) e113) (kV ?_)
                refine VW.aload_n d9_say_89 0 rfl ?_
                refine VW.iload_n d9_say_90 1 rfl ?_
                refine VW.bipush (v := 7) d9_say_91 bp_7 ?_
                refine VW.iload_n d9_say_93 2 rfl ?_
                refine VW.iconst (v := 1) d9_say_94 ic_1 ?_
                refine VW.icmp_le 103 d9_say_95 (by decide) (fun c115 => ?_) (fun c115 => ?_)
                · replace hr := ip hr c115
                  refine VW.iconst (v := 0) d9_say_103 ic_0 ?_
                  obtain ⟨h117, e116, hr⟩ := bno hr
                  refine VW.callV (As := [.int x1, .int 7, .int 0]) (st := []) d9_say_104 mi_9_sets cv_9_180 (oo_9 o9_114) ⟨rfl, rfl⟩ (by decide) (dl1 hd) _ rfl (Nat.le_of_ble_eq_true rfl) rfl (c_9_sets (dl hd rfl) e116) (kV ?_)
                  refine VW.aload_n d9_say_107 0 rfl ?_
                  refine VW.iload_n d9_say_108 1 rfl ?_
                  refine VW.bipush (v := 8) d9_say_109 bp_8 ?_
                  refine VW.iload_n d9_say_111 2 rfl ?_
                  refine VW.iconst (v := 2) d9_say_112 ic_2 ?_
                  refine VW.icmp_le 121 d9_say_113 (by decide) (fun c118 => ?_) (fun c118 => ?_)
                  · replace hr := ip hr c118
                    refine VW.iconst (v := 0) d9_say_121 ic_0 ?_
                    obtain ⟨h120, e119, hr⟩ := bno hr
                    refine VW.callV (As := [.int x1, .int 8, .int 0]) (st := []) d9_say_122 mi_9_sets cv_9_180 (oo_9 o9_114) ⟨rfl, rfl⟩ (by decide) (dl1 hd) _ rfl (Nat.le_of_ble_eq_true rfl) rfl (c_9_sets (dl hd rfl) e119) (kV ?_)
                    refine VW.aload_n d9_say_125 0 rfl ?_
                    refine VW.iload_n d9_say_126 1 rfl ?_
                    obtain ⟨r122, h123, e121, hr⟩ := bno2 hr
                    refine VW.callV (As := [.int x1]) (st := []) d9_say_127 mi_9_offOf cv_9_170 (oo_9 o9_114) ⟨rfl, rfl⟩ (by decide) (dl1 hd) _ rfl (Nat.le_of_ble_eq_true rfl) rfl (c_9_offOf (dl hd rfl) e121) (kI ?_)
                    exact VW.iret d9_say_130 hR (rIw hr)
                  · replace hr := im hr c118
                    refine VW.iload d9_say_116 5 rfl ?_
                    refine VW.goto 122 d9_say_118 (by decide) ?_
                    obtain ⟨h125, e124, hr⟩ := bno hr
                    refine VW.callV (As := [.int x1, .int 8, .int x5]) (st := []) d9_say_122 mi_9_sets cv_9_180 (oo_9 o9_114) ⟨rfl, rfl⟩ (by decide) (dl1 hd) _ rfl (Nat.le_of_ble_eq_true rfl) rfl (c_9_sets (dl hd rfl) e124) (kV ?_)
                    refine VW.aload_n d9_say_125 0 rfl ?_
                    refine VW.iload_n d9_say_126 1 rfl ?_
                    obtain ⟨r127, h128, e126, hr⟩ := bno2 hr
                    refine VW.callV (As := [.int x1]) (st := []) d9_say_127 mi_9_offOf cv_9_170 (oo_9 o9_114) ⟨rfl, rfl⟩ (by decide) (dl1 hd) _ rfl (Nat.le_of_ble_eq_true rfl) rfl (c_9_offOf (dl hd rfl) e126) (kI ?_)
                    exact VW.iret d9_say_130 hR (rIw hr)
                · replace hr := im hr c115
                  refine VW.iload d9_say_98 4 rfl ?_
                  refine VW.goto 104 d9_say_100 (by decide) ?_
                  obtain ⟨h130, e129, hr⟩ := bno hr
                  refine VW.callV (As := [.int x1, .int 7, .int x4]) (st := []) d9_say_104 mi_9_sets cv_9_180 (oo_9 o9_114) ⟨rfl, rfl⟩ (by decide) (dl1 hd) _ rfl (Nat.le_of_ble_eq_true rfl) rfl (c_9_sets (dl hd rfl) e129) (kV ?_)
                  refine VW.aload_n d9_say_107 0 rfl ?_
                  refine VW.iload_n d9_say_108 1 rfl ?_
                  refine VW.bipush (v := 8) d9_say_109 bp_8 ?_
                  refine VW.iload_n d9_say_111 2 rfl ?_
                  refine VW.iconst (v := 2) d9_say_112 ic_2 ?_
                  refine VW.icmp_le 121 d9_say_113 (by decide) (fun c131 => ?_) (fun c131 => ?_)
                  · replace hr := ip hr c131
                    refine VW.iconst (v := 0) d9_say_121 ic_0 ?_
                    obtain ⟨h133, e132, hr⟩ := bno hr
                    refine VW.callV (As := [.int x1, .int 8, .int 0]) (st := []) d9_say_122 mi_9_sets cv_9_180 (oo_9 o9_114) ⟨rfl, rfl⟩ (by decide) (dl1 hd) _ rfl (Nat.le_of_ble_eq_true rfl) rfl (c_9_sets (dl hd rfl) e132) (kV ?_)
                    refine VW.aload_n d9_say_125 0 rfl ?_
                    refine VW.iload_n d9_say_126 1 rfl ?_
                    obtain ⟨r135, h136, e134, hr⟩ := bno2 hr
                    refine VW.callV (As := [.int x1]) (st := []) d9_say_127 mi_9_offOf cv_9_170 (oo_9 o9_114) ⟨rfl, rfl⟩ (by decide) (dl1 hd) _ rfl (Nat.le_of_ble_eq_true rfl) rfl (c_9_offOf (dl hd rfl) e134) (kI ?_)
                    exact VW.iret d9_say_130 hR (rIw hr)
                  · replace hr := im hr c131
                    refine VW.iload d9_say_116 5 rfl ?_
                    refine VW.goto 122 d9_say_118 (by decide) ?_
                    obtain ⟨h138, e137, hr⟩ := bno hr
                    refine VW.callV (As := [.int x1, .int 8, .int x5]) (st := []) d9_say_122 mi_9_sets cv_9_180 (oo_9 o9_114) ⟨rfl, rfl⟩ (by decide) (dl1 hd) _ rfl (Nat.le_of_ble_eq_true rfl) rfl (c_9_sets (dl hd rfl) e137) (kV ?_)
                    refine VW.aload_n d9_say_125 0 rfl ?_
                    refine VW.iload_n d9_say_126 1 rfl ?_
                    obtain ⟨r140, h141, e139, hr⟩ := bno2 hr
                    refine VW.callV (As := [.int x1]) (st := []) d9_say_127 mi_9_offOf cv_9_170 (oo_9 o9_114) ⟨rfl, rfl⟩ (by decide) (dl1 hd) _ rfl (Nat.le_of_ble_eq_true rfl) rfl (c_9_offOf (dl hd rfl) e139) (kI ?_)
                    exact VW.iret d9_say_130 hR (rIw hr)
        · replace hr := im hr c12
          refine VW.aload_n d9_say_37 0 rfl ?_
          refine VW.iload d9_say_38 4 rfl ?_
          obtain ⟨r143, e142, hr⟩ := bno hr
          refine VW.callV (As := [.int x4]) (st := []) d9_say_40 mi_9_isWord cv_9_136 (oo_9 o9_114) ⟨rfl, rfl⟩ (by decide) (dl1 hd) _ rfl (Nat.le_of_ble_eq_true rfl) rfl (c_9_isWord (dl hd rfl) e142) (kI ?_)
          refine VW.if_eq 60 d9_say_43 (by decide) (fun c144 => ?_) (fun c144 => ?_)
          · replace hr := ip hr c144
            refine VW.aload_n d9_say_60 0 rfl ?_
            refine VW.iconst (v := 1) d9_say_61 ic_1 ?_
            obtain ⟨r146, h147, e145, hr⟩ := bno2 hr
            refine VW.callV (As := [.int 1]) (st := []) d9_say_62 mi_9_finds cv_9_107 (oo_9 o9_114) ⟨rfl, rfl⟩ (by decide) (dl1 hd) _ rfl (Nat.le_of_ble_eq_true rfl) rfl (c_9_finds (dl hd rfl) e145) (kI ?_)
            exact VW.iret d9_say_65 hR (rIw hr)
          · replace hr := im hr c144
            refine VW.iload_n d9_say_46 2 rfl ?_
            refine VW.iconst (v := 2) d9_say_47 ic_2 ?_
            refine VW.icmp_le 66 d9_say_48 (by decide) (fun c148 => ?_) (fun c148 => ?_)
            · replace hr := ip hr c148
              refine VW.aload_n d9_say_66 0 rfl ?_
              refine VW.iload_n d9_say_67 1 rfl ?_
              refine VW.iconst (v := 5) d9_say_68 ic_5 ?_
              refine VW.iload_n d9_say_69 2 rfl ?_
              obtain ⟨h150, e149, hr⟩ := bno hr
              refine VW.callV (As := [.int x1, .int 5, .int x2]) (st := []) d9_say_70 mi_9_sets cv_9_180 (oo_9 o9_114) ⟨rfl, rfl⟩ (by decide) (dl1 hd) _ rfl (Nat.le_of_ble_eq_true rfl) rfl (c_9_sets (dl hd rfl) e149) (kV ?_)
              refine VW.aload_n d9_say_73 0 rfl ?_
              refine VW.iload_n d9_say_74 1 rfl ?_
              refine VW.bipush (v := 6) d9_say_75 bp_6 ?_
              refine VW.iload_n d9_say_77 2 rfl ?_
              refine VW.if_le 85 d9_say_78 (by decide) (fun c151 => ?_) (fun c151 => ?_)
              · replace hr := ip hr c151
                refine VW.iconst (v := 0) d9_say_85 ic_0 ?_
                obtain ⟨h153, e152, hr⟩ := bno hr
                refine VW.callV (As := [.int x1, .int 6, .int 0]) (st := []) d9_say_86 mi_9_sets cv_9_180 (oo_9 o9_114) ⟨rfl, rfl⟩ (by decide) (dl1 hd) _ rfl (Nat.le_of_ble_eq_true rfl) rfl (c_9_sets (dl hd rfl) e152) (kV ?_)
                refine VW.aload_n d9_say_89 0 rfl ?_
                refine VW.iload_n d9_say_90 1 rfl ?_
                refine VW.bipush (v := 7) d9_say_91 bp_7 ?_
                refine VW.iload_n d9_say_93 2 rfl ?_
                refine VW.iconst (v := 1) d9_say_94 ic_1 ?_
                refine VW.icmp_le 103 d9_say_95 (by decide) (fun c154 => ?_) (fun c154 => ?_)
                · replace hr := ip hr c154
                  refine VW.iconst (v := 0) d9_say_103 ic_0 ?_
                  obtain ⟨h156, e155, hr⟩ := bno hr
                  refine VW.callV (As := [.int x1, .int 7, .int 0]) (st := []) d9_say_104 mi_9_sets cv_9_180 (oo_9 o9_114) ⟨rfl, rfl⟩ (by decide) (dl1 hd) _ rfl (Nat.le_of_ble_eq_true rfl) rfl (c_9_sets (dl hd rfl) e155) (kV ?_)
                  refine VW.aload_n d9_say_107 0 rfl ?_
                  refine VW.iload_n d9_say_108 1 rfl ?_
                  refine VW.bipush (v := 8) d9_say_109 bp_8 ?_
                  refine VW.iload_n d9_say_111 2 rfl ?_
                  refine VW.iconst (v := 2) d9_say_112 ic_2 ?_
                  refine VW.icmp_le 121 d9_say_113 (by decide) (fun c157 => ?_) (fun c157 => ?_)
                  · replace hr := ip hr c157
                    refine VW.iconst (v := 0) d9_say_121 ic_0 ?_
                    obtain ⟨h159, e158, hr⟩ := bno hr
                    refine VW.callV (As := [.int x1, .int 8, .int 0]) (st := []) d9_say_122 mi_9_sets cv_9_180 (oo_9 o9_114) ⟨rfl, rfl⟩ (by decide) (dl1 hd) _ rfl (Nat.le_of_ble_eq_true rfl) rfl (c_9_sets (dl hd rfl) e158) (kV ?_)
                    refine VW.aload_n d9_say_125 0 rfl ?_
                    refine VW.iload_n d9_say_126 1 rfl ?_
                    obtain ⟨r161, h162, e160, hr⟩ := bno2 hr
                    refine VW.callV (As := [.int x1]) (st := []) d9_say_127 mi_9_offOf cv_9_170 (oo_9 o9_114) ⟨rfl, rfl⟩ (by decide) (dl1 hd) _ rfl (Nat.le_of_ble_eq_true rfl) rfl (c_9_offOf (dl hd rfl) e160) (kI ?_)
                    exact VW.iret d9_say_130 hR (rIw hr)
                  · replace hr := im hr c157
                    refine VW.iload d9_say_116 5 rfl ?_
                    refine VW.goto 122 d9_say_118 (by decide) ?_
                    obtain ⟨h164, e163, hr⟩ := bno hr
                    refine VW.callV (As := [.int x1, .int 8, .int x5]) (st := []) d9_say_122 mi_9_sets cv_9_180 (oo_9 o9_114) ⟨rfl, rfl⟩ (by decide) (dl1 hd) _ rfl (Nat.le_of_ble_eq_true rfl) rfl (c_9_sets (dl hd rfl) e163) (kV ?_)
                    refine VW.aload_n d9_say_125 0 rfl ?_
                    refine VW.iload_n d9_say_126 1 rfl ?_
                    obtain ⟨r166, h167, e165, hr⟩ := bno2 hr
                    refine VW.callV (As := [.int x1]) (st := []) d9_say_127 mi_9_offOf cv_9_170 (oo_9 o9_114) ⟨rfl, rfl⟩ (by decide) (dl1 hd) _ rfl (Nat.le_of_ble_eq_true rfl) rfl (c_9_offOf (dl hd rfl) e165) (kI ?_)
                    exact VW.iret d9_say_130 hR (rIw hr)
                · replace hr := im hr c154
                  refine VW.iload d9_say_98 4 rfl ?_
                  refine VW.goto 104 d9_say_100 (by decide) ?_
                  obtain ⟨h169, e168, hr⟩ := bno hr
                  refine VW.callV (As := [.int x1, .int 7, .int x4]) (st := []) d9_say_104 mi_9_sets cv_9_180 (oo_9 o9_114) ⟨rfl, rfl⟩ (by decide) (dl1 hd) _ rfl (Nat.le_of_ble_eq_true rfl) rfl (c_9_sets (dl hd rfl) e168) (kV ?_)
                  refine VW.aload_n d9_say_107 0 rfl ?_
                  refine VW.iload_n d9_say_108 1 rfl ?_
                  refine VW.bipush (v := 8) d9_say_109 bp_8 ?_
                  refine VW.iload_n d9_say_111 2 rfl ?_
                  refine VW.iconst (v := 2) d9_say_112 ic_2 ?_
                  refine VW.icmp_le 121 d9_say_113 (by decide) (fun c170 => ?_) (fun c170 => ?_)
                  · replace hr := ip hr c170
                    refine VW.iconst (v := 0) d9_say_121 ic_0 ?_
                    obtain ⟨h172, e171, hr⟩ := bno hr
                    refine VW.callV (As := [.int x1, .int 8, .int 0]) (st := []) d9_say_122 mi_9_sets cv_9_180 (oo_9 o9_114) ⟨rfl, rfl⟩ (by decide) (dl1 hd) _ rfl (Nat.le_of_ble_eq_true rfl) rfl (c_9_sets (dl hd rfl) e171) (kV ?_)
                    refine VW.aload_n d9_say_125 0 rfl ?_
                    refine VW.iload_n d9_say_126 1 rfl ?_
                    obtain ⟨r174, h175, e173, hr⟩ := bno2 hr
                    refine VW.callV (As := [.int x1]) (st := []) d9_say_127 mi_9_offOf cv_9_170 (oo_9 o9_114) ⟨rfl, rfl⟩ (by decide) (dl1 hd) _ rfl (Nat.le_of_ble_eq_true rfl) rfl (c_9_offOf (dl hd rfl) e173) (kI ?_)
                    exact VW.iret d9_say_130 hR (rIw hr)
                  · replace hr := im hr c170
                    refine VW.iload d9_say_116 5 rfl ?_
                    refine VW.goto 122 d9_say_118 (by decide) ?_
                    obtain ⟨h177, e176, hr⟩ := bno hr
                    refine VW.callV (As := [.int x1, .int 8, .int x5]) (st := []) d9_say_122 mi_9_sets cv_9_180 (oo_9 o9_114) ⟨rfl, rfl⟩ (by decide) (dl1 hd) _ rfl (Nat.le_of_ble_eq_true rfl) rfl (c_9_sets (dl hd rfl) e176) (kV ?_)
                    refine VW.aload_n d9_say_125 0 rfl ?_
                    refine VW.iload_n d9_say_126 1 rfl ?_
                    obtain ⟨r179, h180, e178, hr⟩ := bno2 hr
                    refine VW.callV (As := [.int x1]) (st := []) d9_say_127 mi_9_offOf cv_9_170 (oo_9 o9_114) ⟨rfl, rfl⟩ (by decide) (dl1 hd) _ rfl (Nat.le_of_ble_eq_true rfl) rfl (c_9_offOf (dl hd rfl) e178) (kI ?_)
                    exact VW.iret d9_say_130 hR (rIw hr)
              · replace hr := im hr c151
                refine VW.iload_n d9_say_81 3 rfl ?_
                refine VW.goto 86 d9_say_82 (by decide) ?_
                obtain ⟨h182, e181, hr⟩ := bno hr
                refine VW.callV (As := [.int x1, .int 6, .int x3]) (st := []) d9_say_86 mi_9_sets cv_9_180 (oo_9 o9_114) ⟨rfl, rfl⟩ (by decide) (dl1 hd) _ rfl (Nat.le_of_ble_eq_true rfl) rfl (c_9_sets (dl hd rfl) e181) (kV ?_)
                refine VW.aload_n d9_say_89 0 rfl ?_
                refine VW.iload_n d9_say_90 1 rfl ?_
                refine VW.bipush (v := 7) d9_say_91 bp_7 ?_
                refine VW.iload_n d9_say_93 2 rfl ?_
                refine VW.iconst (v := 1) d9_say_94 ic_1 ?_
                refine VW.icmp_le 103 d9_say_95 (by decide) (fun c183 => ?_) (fun c183 => ?_)
                · replace hr := ip hr c183
                  refine VW.iconst (v := 0) d9_say_103 ic_0 ?_
                  obtain ⟨h185, e184, hr⟩ := bno hr
                  refine VW.callV (As := [.int x1, .int 7, .int 0]) (st := []) d9_say_104 mi_9_sets cv_9_180 (oo_9 o9_114) ⟨rfl, rfl⟩ (by decide) (dl1 hd) _ rfl (Nat.le_of_ble_eq_true rfl) rfl (c_9_sets (dl hd rfl) e184) (kV ?_)
                  refine VW.aload_n d9_say_107 0 rfl ?_
                  refine VW.iload_n d9_say_108 1 rfl ?_
                  refine VW.bipush (v := 8) d9_say_109 bp_8 ?_
                  refine VW.iload_n d9_say_111 2 rfl ?_
                  refine VW.iconst (v := 2) d9_say_112 ic_2 ?_
                  refine VW.icmp_le 121 d9_say_113 (by decide) (fun c186 => ?_) (fun c186 => ?_)
                  · replace hr := ip hr c186
                    refine VW.iconst (v := 0) d9_say_121 ic_0 ?_
                    obtain ⟨h188, e187, hr⟩ := bno hr
                    refine VW.callV (As := [.int x1, .int 8, .int 0]) (st := []) d9_say_122 mi_9_sets cv_9_180 (oo_9 o9_114) ⟨rfl, rfl⟩ (by decide) (dl1 hd) _ rfl (Nat.le_of_ble_eq_true rfl) rfl (c_9_sets (dl hd rfl) e187) (kV ?_)
                    refine VW.aload_n d9_say_125 0 rfl ?_
                    refine VW.iload_n d9_say_126 1 rfl ?_
                    obtain ⟨r190, h191, e189, hr⟩ := bno2 hr
                    refine VW.callV (As := [.int x1]) (st := []) d9_say_127 mi_9_offOf cv_9_170 (oo_9 o9_114) ⟨rfl, rfl⟩ (by decide) (dl1 hd) _ rfl (Nat.le_of_ble_eq_true rfl) rfl (c_9_offOf (dl hd rfl) e189) (kI ?_)
                    exact VW.iret d9_say_130 hR (rIw hr)
                  · replace hr := im hr c186
                    refine VW.iload d9_say_116 5 rfl ?_
                    refine VW.goto 122 d9_say_118 (by decide) ?_
                    obtain ⟨h193, e192, hr⟩ := bno hr
                    refine VW.callV (As := [.int x1, .int 8, .int x5]) (st := []) d9_say_122 mi_9_sets cv_9_180 (oo_9 o9_114) ⟨rfl, rfl⟩ (by decide) (dl1 hd) _ rfl (Nat.le_of_ble_eq_true rfl) rfl (c_9_sets (dl hd rfl) e192) (kV ?_)
                    refine VW.aload_n d9_say_125 0 rfl ?_
                    refine VW.iload_n d9_say_126 1 rfl ?_
                    obtain ⟨r195, h196, e194, hr⟩ := bno2 hr
                    refine VW.callV (As := [.int x1]) (st := []) d9_say_127 mi_9_offOf cv_9_170 (oo_9 o9_114) ⟨rfl, rfl⟩ (by decide) (dl1 hd) _ rfl (Nat.le_of_ble_eq_true rfl) rfl (c_9_offOf (dl hd rfl) e194) (kI ?_)
                    exact VW.iret d9_say_130 hR (rIw hr)
                · replace hr := im hr c183
                  refine VW.iload d9_say_98 4 rfl ?_
                  refine VW.goto 104 d9_say_100 (by decide) ?_
                  obtain ⟨h198, e197, hr⟩ := bno hr
                  refine VW.callV (As := [.int x1, .int 7, .int x4]) (st := []) d9_say_104 mi_9_sets cv_9_180 (oo_9 o9_114) ⟨rfl, rfl⟩ (by decide) (dl1 hd) _ rfl (Nat.le_of_ble_eq_true rfl) rfl (c_9_sets (dl hd rfl) e197) (kV ?_)
                  refine VW.aload_n d9_say_107 0 rfl ?_
                  refine VW.iload_n d9_say_108 1 rfl ?_
                  refine VW.bipush (v := 8) d9_say_109 bp_8 ?_
                  refine VW.iload_n d9_say_111 2 rfl ?_
                  refine VW.iconst (v := 2) d9_say_112 ic_2 ?_
                  refine VW.icmp_le 121 d9_say_113 (by decide) (fun c199 => ?_) (fun c199 => ?_)
                  · replace hr := ip hr c199
                    refine VW.iconst (v := 0) d9_say_121 ic_0 ?_
                    obtain ⟨h201, e200, hr⟩ := bno hr
                    refine VW.callV (As := [.int x1, .int 8, .int 0]) (st := []) d9_say_122 mi_9_sets cv_9_180 (oo_9 o9_114) ⟨rfl, rfl⟩ (by decide) (dl1 hd) _ rfl (Nat.le_of_ble_eq_true rfl) rfl (c_9_sets (dl hd rfl) e200) (kV ?_)
                    refine VW.aload_n d9_say_125 0 rfl ?_
                    refine VW.iload_n d9_say_126 1 rfl ?_
                    obtain ⟨r203, h204, e202, hr⟩ := bno2 hr
                    refine VW.callV (As := [.int x1]) (st := []) d9_say_127 mi_9_offOf cv_9_170 (oo_9 o9_114) ⟨rfl, rfl⟩ (by decide) (dl1 hd) _ rfl (Nat.le_of_ble_eq_true rfl) rfl (c_9_offOf (dl hd rfl) e202) (kI ?_)
                    exact VW.iret d9_say_130 hR (rIw hr)
                  · replace hr := im hr c199
                    refine VW.iload d9_say_116 5 rfl ?_
                    refine VW.goto 122 d9_say_118 (by decide) ?_
                    obtain ⟨h206, e205, hr⟩ := bno hr
                    refine VW.callV (As := [.int x1, .int 8, .int x5]) (st := []) d9_say_122 mi_9_sets cv_9_180 (oo_9 o9_114) ⟨rfl, rfl⟩ (by decide) (dl1 hd) _ rfl (Nat.le_of_ble_eq_true rfl) rfl (c_9_sets (dl hd rfl) e205) (kV ?_)
                    refine VW.aload_n d9_say_125 0 rfl ?_
                    refine VW.iload_n d9_say_126 1 rfl ?_
                    obtain ⟨r208, h209, e207, hr⟩ := bno2 hr
                    refine VW.callV (As := [.int x1]) (st := []) d9_say_127 mi_9_offOf cv_9_170 (oo_9 o9_114) ⟨rfl, rfl⟩ (by decide) (dl1 hd) _ rfl (Nat.le_of_ble_eq_true rfl) rfl (c_9_offOf (dl hd rfl) e207) (kI ?_)
                    exact VW.iret d9_say_130 hR (rIw hr)
            · replace hr := im hr c148
              refine VW.aload_n d9_say_51 0 rfl ?_
              refine VW.iload d9_say_52 5 rfl ?_
              obtain ⟨r211, e210, hr⟩ := bno hr
              refine VW.callV (As := [.int x5]) (st := []) d9_say_54 mi_9_isWord cv_9_136 (oo_9 o9_114) ⟨rfl, rfl⟩ (by decide) (dl1 hd) _ rfl (Nat.le_of_ble_eq_true rfl) rfl (c_9_isWord (dl hd rfl) e210) (kI ?_)
              refine VW.if_ne 66 d9_say_57 (by decide) (fun c212 => ?_) (fun c212 => ?_)
              · replace hr := ip hr c212
                refine VW.aload_n d9_say_60 0 rfl ?_
                refine VW.iconst (v := 1) d9_say_61 ic_1 ?_
                obtain ⟨r214, h215, e213, hr⟩ := bno2 hr
                refine VW.callV (As := [.int 1]) (st := []) d9_say_62 mi_9_finds cv_9_107 (oo_9 o9_114) ⟨rfl, rfl⟩ (by decide) (dl1 hd) _ rfl (Nat.le_of_ble_eq_true rfl) rfl (c_9_finds (dl hd rfl) e213) (kI ?_)
                exact VW.iret d9_say_65 hR (rIw hr)
              · replace hr := im hr c212
                refine VW.aload_n d9_say_66 0 rfl ?_
                refine VW.iload_n d9_say_67 1 rfl ?_
                refine VW.iconst (v := 5) d9_say_68 ic_5 ?_
                refine VW.iload_n d9_say_69 2 rfl ?_
                obtain ⟨h217, e216, hr⟩ := bno hr
                refine VW.callV (As := [.int x1, .int 5, .int x2]) (st := []) d9_say_70 mi_9_sets cv_9_180 (oo_9 o9_114) ⟨rfl, rfl⟩ (by decide) (dl1 hd) _ rfl (Nat.le_of_ble_eq_true rfl) rfl (c_9_sets (dl hd rfl) e216) (kV ?_)
                refine VW.aload_n d9_say_73 0 rfl ?_
                refine VW.iload_n d9_say_74 1 rfl ?_
                refine VW.bipush (v := 6) d9_say_75 bp_6 ?_
                refine VW.iload_n d9_say_77 2 rfl ?_
                refine VW.if_le 85 d9_say_78 (by decide) (fun c218 => ?_) (fun c218 => ?_)
                · replace hr := ip hr c218
                  refine VW.iconst (v := 0) d9_say_85 ic_0 ?_
                  obtain ⟨h220, e219, hr⟩ := bno hr
                  refine VW.callV (As := [.int x1, .int 6, .int 0]) (st := []) d9_say_86 mi_9_sets cv_9_180 (oo_9 o9_114) ⟨rfl, rfl⟩ (by decide) (dl1 hd) _ rfl (Nat.le_of_ble_eq_true rfl) rfl (c_9_sets (dl hd rfl) e219) (kV ?_)
                  refine VW.aload_n d9_say_89 0 rfl ?_
                  refine VW.iload_n d9_say_90 1 rfl ?_
                  refine VW.bipush (v := 7) d9_say_91 bp_7 ?_
                  refine VW.iload_n d9_say_93 2 rfl ?_
                  refine VW.iconst (v := 1) d9_say_94 ic_1 ?_
                  refine VW.icmp_le 103 d9_say_95 (by decide) (fun c221 => ?_) (fun c221 => ?_)
                  · replace hr := ip hr c221
                    refine VW.iconst (v := 0) d9_say_103 ic_0 ?_
                    obtain ⟨h223, e222, hr⟩ := bno hr
                    refine VW.callV (As := [.int x1, .int 7, .int 0]) (st := []) d9_say_104 mi_9_sets cv_9_180 (oo_9 o9_114) ⟨rfl, rfl⟩ (by decide) (dl1 hd) _ rfl (Nat.le_of_ble_eq_true rfl) rfl (c_9_sets (dl hd rfl) e222) (kV ?_)
                    refine VW.aload_n d9_say_107 0 rfl ?_
                    refine VW.iload_n d9_say_108 1 rfl ?_
                    refine VW.bipush (v := 8) d9_say_109 bp_8 ?_
                    refine VW.iload_n d9_say_111 2 rfl ?_
                    refine VW.iconst (v := 2) d9_say_112 ic_2 ?_
                    refine VW.icmp_le 121 d9_say_113 (by decide) (fun c224 => ?_) (fun c224 => ?_)
                    · replace hr := ip hr c224
                      refine VW.iconst (v := 0) d9_say_121 ic_0 ?_
                      obtain ⟨h226, e225, hr⟩ := bno hr
                      refine VW.callV (As := [.int x1, .int 8, .int 0]) (st := []) d9_say_122 mi_9_sets cv_9_180 (oo_9 o9_114) ⟨rfl, rfl⟩ (by decide) (dl1 hd) _ rfl (Nat.le_of_ble_eq_true rfl) rfl (c_9_sets (dl hd rfl) e225) (kV ?_)
                      refine VW.aload_n d9_say_125 0 rfl ?_
                      refine VW.iload_n d9_say_126 1 rfl ?_
                      obtain ⟨r228, h229, e227, hr⟩ := bno2 hr
                      refine VW.callV (As := [.int x1]) (st := []) d9_say_127 mi_9_offOf cv_9_170 (oo_9 o9_114) ⟨rfl, rfl⟩ (by decide) (dl1 hd) _ rfl (Nat.le_of_ble_eq_true rfl) rfl (c_9_offOf (dl hd rfl) e227) (kI ?_)
                      exact VW.iret d9_say_130 hR (rIw hr)
                    · replace hr := im hr c224
                      refine VW.iload d9_say_116 5 rfl ?_
                      refine VW.goto 122 d9_say_118 (by decide) ?_
                      obtain ⟨h231, e230, hr⟩ := bno hr
                      refine VW.callV (As := [.int x1, .int 8, .int x5]) (st := []) d9_say_122 mi_9_sets cv_9_180 (oo_9 o9_114) ⟨rfl, rfl⟩ (by decide) (dl1 hd) _ rfl (Nat.le_of_ble_eq_true rfl) rfl (c_9_sets (dl hd rfl) e230) (kV ?_)
                      refine VW.aload_n d9_say_125 0 rfl ?_
                      refine VW.iload_n d9_say_126 1 rfl ?_
                      obtain ⟨r233, h234, e232, hr⟩ := bno2 hr
                      refine VW.callV (As := [.int x1]) (st := []) d9_say_127 mi_9_offOf cv_9_170 (oo_9 o9_114) ⟨rfl, rfl⟩ (by decide) (dl1 hd) _ rfl (Nat.le_of_ble_eq_true rfl) rfl (c_9_offOf (dl hd rfl) e232) (kI ?_)
                      exact VW.iret d9_say_130 hR (rIw hr)
                  · replace hr := im hr c221
                    refine VW.iload d9_say_98 4 rfl ?_
                    refine VW.goto 104 d9_say_100 (by decide) ?_
                    obtain ⟨h236, e235, hr⟩ := bno hr
                    refine VW.callV (As := [.int x1, .int 7, .int x4]) (st := []) d9_say_104 mi_9_sets cv_9_180 (oo_9 o9_114) ⟨rfl, rfl⟩ (by decide) (dl1 hd) _ rfl (Nat.le_of_ble_eq_true rfl) rfl (c_9_sets (dl hd rfl) e235) (kV ?_)
                    refine VW.aload_n d9_say_107 0 rfl ?_
                    refine VW.iload_n d9_say_108 1 rfl ?_
                    refine VW.bipush (v := 8) d9_say_109 bp_8 ?_
                    refine VW.iload_n d9_say_111 2 rfl ?_
                    refine VW.iconst (v := 2) d9_say_112 ic_2 ?_
                    refine VW.icmp_le 121 d9_say_113 (by decide) (fun c237 => ?_) (fun c237 => ?_)
                    · replace hr := ip hr c237
                      refine VW.iconst (v := 0) d9_say_121 ic_0 ?_
                      obtain ⟨h239, e238, hr⟩ := bno hr
                      refine VW.callV (As := [.int x1, .int 8, .int 0]) (st := []) d9_say_122 mi_9_sets cv_9_180 (oo_9 o9_114) ⟨rfl, rfl⟩ (by decide) (dl1 hd) _ rfl (Nat.le_of_ble_eq_true rfl) rfl (c_9_sets (dl hd rfl) e238) (kV ?_)
                      refine VW.aload_n d9_say_125 0 rfl ?_
                      refine VW.iload_n d9_say_126 1 rfl ?_
                      obtain ⟨r241, h242, e240, hr⟩ := bno2 hr
                      refine VW.callV (As := [.int x1]) (st := []) d9_say_127 mi_9_offOf cv_9_170 (oo_9 o9_114) ⟨rfl, rfl⟩ (by decide) (dl1 hd) _ rfl (Nat.le_of_ble_eq_true rfl) rfl (c_9_offOf (dl hd rfl) e240) (kI ?_)
                      exact VW.iret d9_say_130 hR (rIw hr)
                    · replace hr := im hr c237
                      refine VW.iload d9_say_116 5 rfl ?_
                      refine VW.goto 122 d9_say_118 (by decide) ?_
                      obtain ⟨h244, e243, hr⟩ := bno hr
                      refine VW.callV (As := [.int x1, .int 8, .int x5]) (st := []) d9_say_122 mi_9_sets cv_9_180 (oo_9 o9_114) ⟨rfl, rfl⟩ (by decide) (dl1 hd) _ rfl (Nat.le_of_ble_eq_true rfl) rfl (c_9_sets (dl hd rfl) e243) (kV ?_)
                      refine VW.aload_n d9_say_125 0 rfl ?_
                      refine VW.iload_n d9_say_126 1 rfl ?_
                      obtain ⟨r246, h247, e245, hr⟩ := bno2 hr
                      refine VW.callV (As := [.int x1]) (st := []) d9_say_127 mi_9_offOf cv_9_170 (oo_9 o9_114) ⟨rfl, rfl⟩ (by decide) (dl1 hd) _ rfl (Nat.le_of_ble_eq_true rfl) rfl (c_9_offOf (dl hd rfl) e245) (kI ?_)
                      exact VW.iret d9_say_130 hR (rIw hr)
                · replace hr := im hr c218
                  refine VW.iload_n d9_say_81 3 rfl ?_
                  refine VW.goto 86 d9_say_82 (by decide) ?_
                  obtain ⟨h249, e248, hr⟩ := bno hr
                  refine VW.callV (As := [.int x1, .int 6, .int x3]) (st := []) d9_say_86 mi_9_sets cv_9_180 (oo_9 o9_114) ⟨rfl, rfl⟩ (by decide) (dl1 hd) _ rfl (Nat.le_of_ble_eq_true rfl) rfl (c_9_sets (dl hd rfl) e248) (kV ?_)
                  refine VW.aload_n d9_say_89 0 rfl ?_
                  refine VW.iload_n d9_say_90 1 rfl ?_
                  refine VW.bipush (v := 7) d9_say_91 bp_7 ?_
                  refine VW.iload_n d9_say_93 2 rfl ?_
                  refine VW.iconst (v := 1) d9_say_94 ic_1 ?_
                  refine VW.icmp_le 103 d9_say_95 (by decide) (fun c250 => ?_) (fun c250 => ?_)
                  · replace hr := ip hr c250
                    refine VW.iconst (v := 0) d9_say_103 ic_0 ?_
                    obtain ⟨h252, e251, hr⟩ := bno hr
                    refine VW.callV (As := [.int x1, .int 7, .int 0]) (st := []) d9_say_104 mi_9_sets cv_9_180 (oo_9 o9_114) ⟨rfl, rfl⟩ (by decide) (dl1 hd) _ rfl (Nat.le_of_ble_eq_true rfl) rfl (c_9_sets (dl hd rfl) e251) (kV ?_)
                    refine VW.aload_n d9_say_107 0 rfl ?_
                    refine VW.iload_n d9_say_108 1 rfl ?_
                    refine VW.bipush (v := 8) d9_say_109 bp_8 ?_
                    refine VW.iload_n d9_say_111 2 rfl ?_
                    refine VW.iconst (v := 2) d9_say_112 ic_2 ?_
                    refine VW.icmp_le 121 d9_say_113 (by decide) (fun c253 => ?_) (fun c253 => ?_)
                    · replace hr := ip hr c253
                      refine VW.iconst (v := 0) d9_say_121 ic_0 ?_
                      obtain ⟨h255, e254, hr⟩ := bno hr
                      refine VW.callV (As := [.int x1, .int 8, .int 0]) (st := []) d9_say_122 mi_9_sets cv_9_180 (oo_9 o9_114) ⟨rfl, rfl⟩ (by decide) (dl1 hd) _ rfl (Nat.le_of_ble_eq_true rfl) rfl (c_9_sets (dl hd rfl) e254) (kV ?_)
                      refine VW.aload_n d9_say_125 0 rfl ?_
                      refine VW.iload_n d9_say_126 1 rfl ?_
                      obtain ⟨r257, h258, e256, hr⟩ := bno2 hr
                      refine VW.callV (As := [.int x1]) (st := []) d9_say_127 mi_9_offOf cv_9_170 (oo_9 o9_114) ⟨rfl, rfl⟩ (by decide) (dl1 hd) _ rfl (Nat.le_of_ble_eq_true rfl) rfl (c_9_offOf (dl hd rfl) e256) (kI ?_)
                      exact VW.iret d9_say_130 hR (rIw hr)
                    · replace hr := im hr c253
                      refine VW.iload d9_say_116 5 rfl ?_
                      refine VW.goto 122 d9_say_118 (by decide) ?_
                      obtain ⟨h260, e259, hr⟩ := bno hr
                      refine VW.callV (As := [.int x1, .int 8, .int x5]) (st := []) d9_say_122 mi_9_sets cv_9_180 (oo_9 o9_114) ⟨rfl, rfl⟩ (by decide) (dl1 hd) _ rfl (Nat.le_of_ble_eq_true rfl) rfl (c_9_sets (dl hd rfl) e259) (kV ?_)
                      refine VW.aload_n d9_say_125 0 rfl ?_
                      refine VW.iload_n d9_say_126 1 rfl ?_
                      obtain ⟨r262, h263, e261, hr⟩ := bno2 hr
                      refine VW.callV (As := [.int x1]) (st := []) d9_say_127 mi_9_offOf cv_9_170 (oo_9 o9_114) ⟨rfl, rfl⟩ (by decide) (dl1 hd) _ rfl (Nat.le_of_ble_eq_true rfl) rfl (c_9_offOf (dl hd rfl) e261) (kI ?_)
                      exact VW.iret d9_say_130 hR (rIw hr)
                  · replace hr := im hr c250
                    refine VW.iload d9_say_98 4 rfl ?_
                    refine VW.goto 104 d9_say_100 (by decide) ?_
                    obtain ⟨h265, e264, hr⟩ := bno hr
                    refine VW.callV (As := [.int x1, .int 7, .int x4]) (st := []) d9_say_104 mi_9_sets cv_9_180 (oo_9 o9_114) ⟨rfl, rfl⟩ (by decide) (dl1 hd) _ rfl (Nat.le_of_ble_eq_true rfl) rfl (c_9_sets (dl hd rfl) e264) (kV ?_)
                    refine VW.aload_n d9_say_107 0 rfl ?_
                    refine VW.iload_n d9_say_108 1 rfl ?_
                    refine VW.bipush (v := 8) d9_say_109 bp_8 ?_
                    refine VW.iload_n d9_say_111 2 rfl ?_
                    refine VW.iconst (v := 2) d9_say_112 ic_2 ?_
                    refine VW.icmp_le 121 d9_say_113 (by decide) (fun c266 => ?_) (fun c266 => ?_)
                    · replace hr := ip hr c266
                      refine VW.iconst (v := 0) d9_say_121 ic_0 ?_
                      obtain ⟨h268, e267, hr⟩ := bno hr
                      refine VW.callV (As := [.int x1, .int 8, .int 0]) (st := []) d9_say_122 mi_9_sets cv_9_180 (oo_9 o9_114) ⟨rfl, rfl⟩ (by decide) (dl1 hd) _ rfl (Nat.le_of_ble_eq_true rfl) rfl (c_9_sets (dl hd rfl) e267) (kV ?_)
                      refine VW.aload_n d9_say_125 0 rfl ?_
                      refine VW.iload_n d9_say_126 1 rfl ?_
                      obtain ⟨r270, h271, e269, hr⟩ := bno2 hr
                      refine VW.callV (As := [.int x1]) (st := []) d9_say_127 mi_9_offOf cv_9_170 (oo_9 o9_114) ⟨rfl, rfl⟩ (by decide) (dl1 hd) _ rfl (Nat.le_of_ble_eq_true rfl) rfl (c_9_offOf (dl hd rfl) e269) (kI ?_)
                      exact VW.iret d9_say_130 hR (rIw hr)
                    · replace hr := im hr c266
                      refine VW.iload d9_say_116 5 rfl ?_
                      refine VW.goto 122 d9_say_118 (by decide) ?_
                      obtain ⟨h273, e272, hr⟩ := bno hr
                      refine VW.callV (As := [.int x1, .int 8, .int x5]) (st := []) d9_say_122 mi_9_sets cv_9_180 (oo_9 o9_114) ⟨rfl, rfl⟩ (by decide) (dl1 hd) _ rfl (Nat.le_of_ble_eq_true rfl) rfl (c_9_sets (dl hd rfl) e272) (kV ?_)
                      refine VW.aload_n d9_say_125 0 rfl ?_
                      refine VW.iload_n d9_say_126 1 rfl ?_
                      obtain ⟨r275, h276, e274, hr⟩ := bno2 hr
                      refine VW.callV (As := [.int x1]) (st := []) d9_say_127 mi_9_offOf cv_9_170 (oo_9 o9_114) ⟨rfl, rfl⟩ (by decide) (dl1 hd) _ rfl (Nat.le_of_ble_eq_true rfl) rfl (c_9_offOf (dl hd rfl) e274) (kI ?_)
                      exact VW.iret d9_say_130 hR (rIw hr)
      · replace hr := im hr c11
        refine VW.aload_n d9_say_24 0 rfl ?_
        refine VW.iload_n d9_say_25 3 rfl ?_
        obtain ⟨r278, e277, hr⟩ := bno hr
        refine VW.callV (As := [.int x3]) (st := []) d9_say_26 mi_9_isWord cv_9_136 (oo_9 o9_114) ⟨rfl, rfl⟩ (by decide) (dl1 hd) _ rfl (Nat.le_of_ble_eq_true rfl) rfl (c_9_isWord (dl hd rfl) e277) (kI ?_)
        refine VW.if_eq 60 d9_say_29 (by decide) (fun c279 => ?_) (fun c279 => ?_)
        · replace hr := ip hr c279
          refine VW.aload_n d9_say_60 0 rfl ?_
          refine VW.iconst (v := 1) d9_say_61 ic_1 ?_
          obtain ⟨r281, h282, e280, hr⟩ := bno2 hr
          refine VW.callV (As := [.int 1]) (st := []) d9_say_62 mi_9_finds cv_9_107 (oo_9 o9_114) ⟨rfl, rfl⟩ (by decide) (dl1 hd) _ rfl (Nat.le_of_ble_eq_true rfl) rfl (c_9_finds (dl hd rfl) e280) (kI ?_)
          exact VW.iret d9_say_65 hR (rIw hr)
        · replace hr := im hr c279
          refine VW.iload_n d9_say_32 2 rfl ?_
          refine VW.iconst (v := 1) d9_say_33 ic_1 ?_
          refine VW.icmp_le 46 d9_say_34 (by decide) (fun c283 => ?_) (fun c283 => ?_)
          · replace hr := ip hr c283
            refine VW.iload_n d9_say_46 2 rfl ?_
            refine VW.iconst (v := 2) d9_say_47 ic_2 ?_
            refine VW.icmp_le 66 d9_say_48 (by decide) (fun c284 => ?_) (fun c284 => ?_)
            · replace hr := ip hr c284
              refine VW.aload_n d9_say_66 0 rfl ?_
              refine VW.iload_n d9_say_67 1 rfl ?_
              refine VW.iconst (v := 5) d9_say_68 ic_5 ?_
              refine VW.iload_n d9_say_69 2 rfl ?_
              obtain ⟨h286, e285, hr⟩ := bno hr
              refine VW.callV (As := [.int x1, .int 5, .int x2]) (st := []) d9_say_70 mi_9_sets cv_9_180 (oo_9 o9_114) ⟨rfl, rfl⟩ (by decide) (dl1 hd) _ rfl (Nat.le_of_ble_eq_true rfl) rfl (c_9_sets (dl hd rfl) e285) (kV ?_)
              refine VW.aload_n d9_say_73 0 rfl ?_
              refine VW.iload_n d9_say_74 1 rfl ?_
              refine VW.bipush (v := 6) d9_say_75 bp_6 ?_
              refine VW.iload_n d9_say_77 2 rfl ?_
              refine VW.if_le 85 d9_say_78 (by decide) (fun c287 => ?_) (fun c287 => ?_)
              · replace hr := ip hr c287
                refine VW.iconst (v := 0) d9_say_85 ic_0 ?_
                obtain ⟨h289, e288, hr⟩ := bno hr
                refine VW.callV (As := [.int x1, .int 6, .int 0]) (st := []) d9_say_86 mi_9_sets cv_9_180 (oo_9 o9_114) ⟨rfl, rfl⟩ (by decide) (dl1 hd) _ rfl (Nat.le_of_ble_eq_true rfl) rfl (c_9_sets (dl hd rfl) e288) (kV ?_)
                refine VW.aload_n d9_say_89 0 rfl ?_
                refine VW.iload_n d9_say_90 1 rfl ?_
                refine VW.bipush (v := 7) d9_say_91 bp_7 ?_
                refine VW.iload_n d9_say_93 2 rfl ?_
                refine VW.iconst (v := 1) d9_say_94 ic_1 ?_
                refine VW.icmp_le 103 d9_say_95 (by decide) (fun c290 => ?_) (fun c290 => ?_)
                · replace hr := ip hr c290
                  refine VW.iconst (v := 0) d9_say_103 ic_0 ?_
                  obtain ⟨h292, e291, hr⟩ := bno hr
                  refine VW.callV (As := [.int x1, .int 7, .int 0]) (st := []) d9_say_104 mi_9_sets cv_9_180 (oo_9 o9_114) ⟨rfl, rfl⟩ (by decide) (dl1 hd) _ rfl (Nat.le_of_ble_eq_true rfl) rfl (c_9_sets (dl hd rfl) e291) (kV ?_)
                  refine VW.aload_n d9_say_107 0 rfl ?_
                  refine VW.iload_n d9_say_108 1 rfl ?_
                  refine VW.bipush (v := 8) d9_say_109 bp_8 ?_
                  refine VW.iload_n d9_say_111 2 rfl ?_
                  refine VW.iconst (v := 2) d9_say_112 ic_2 ?_
                  refine VW.icmp_le 121 d9_say_113 (by decide) (fun c293 => ?_) (fun c293 => ?_)
                  · replace hr := ip hr c293
                    refine VW.iconst (v := 0) d9_say_121 ic_0 ?_
                    obtain ⟨h295, e294, hr⟩ := bno hr
                    refine VW.callV (As := [.int x1, .int 8, .int 0]) (st := []) d9_say_122 mi_9_sets cv_9_180 (oo_9 o9_114) ⟨rfl, rfl⟩ (by decide) (dl1 hd) _ rfl (Nat.le_of_ble_eq_true rfl) rfl (c_9_sets (dl hd rfl) e294) (kV ?_)
                    refine VW.aload_n d9_say_125 0 rfl ?_
                    refine VW.iload_n d9_say_126 1 rfl ?_
                    obtain ⟨r297, h298, e296, hr⟩ := bno2 hr
                    refine VW.callV (As := [.int x1]) (st := []) d9_say_127 mi_9_offOf cv_9_170 (oo_9 o9_114) ⟨rfl, rfl⟩ (by decide) (dl1 hd) _ rfl (Nat.le_of_ble_eq_true rfl) rfl (c_9_offOf (dl hd rfl) e296) (kI ?_)
                    exact VW.iret d9_say_130 hR (rIw hr)
                  · replace hr := im hr c293
                    refine VW.iload d9_say_116 5 rfl ?_
                    refine VW.goto 122 d9_say_118 (by decide) ?_
                    obtain ⟨h300, e299, hr⟩ := bno hr
                    refine VW.callV (As := [.int x1, .int 8, .int x5]) (st := []) d9_say_122 mi_9_sets cv_9_180 (oo_9 o9_114) ⟨rfl, rfl⟩ (by decide) (dl1 hd) _ rfl (Nat.le_of_ble_eq_true rfl) rfl (c_9_sets (dl hd rfl) e299) (kV ?_)
                    refine VW.aload_n d9_say_125 0 rfl ?_
                    refine VW.iload_n d9_say_126 1 rfl ?_
                    obtain ⟨r302, h303, e301, hr⟩ := bno2 hr
                    refine VW.callV (As := [.int x1]) (st := []) d9_say_127 mi_9_offOf cv_9_170 (oo_9 o9_114) ⟨rfl, rfl⟩ (by decide) (dl1 hd) _ rfl (Nat.le_of_ble_eq_true rfl) rfl (c_9_offOf (dl hd rfl) e301) (kI ?_)
                    exact VW.iret d9_say_130 hR (rIw hr)
                · replace hr := im hr c290
                  refine VW.iload d9_say_98 4 rfl ?_
                  refine VW.goto 104 d9_say_100 (by decide) ?_
                  obtain ⟨h305, e304, hr⟩ := bno hr
                  refine VW.callV (As := [.int x1, .int 7, .int x4]) (st := []) d9_say_104 mi_9_sets cv_9_180 (oo_9 o9_114) ⟨rfl, rfl⟩ (by decide) (dl1 hd) _ rfl (Nat.le_of_ble_eq_true rfl) rfl (c_9_sets (dl hd rfl) e304) (kV ?_)
                  refine VW.aload_n d9_say_107 0 rfl ?_
                  refine VW.iload_n d9_say_108 1 rfl ?_
                  refine VW.bipush (v := 8) d9_say_109 bp_8 ?_
                  refine VW.iload_n d9_say_111 2 rfl ?_
                  refine VW.iconst (v := 2) d9_say_112 ic_2 ?_
                  refine VW.icmp_le 121 d9_say_113 (by decide) (fun c306 => ?_) (fun c306 => ?_)
                  · replace hr := ip hr c306
                    refine VW.iconst (v := 0) d9_say_121 ic_0 ?_
                    obtain ⟨h308, e307, hr⟩ := bno hr
                    refine VW.callV (As := [.int x1, .int 8, .int 0]) (st := []) d9_say_122 mi_9_sets cv_9_180 (oo_9 o9_114) ⟨rfl, rfl⟩ (by decide) (dl1 hd) _ rfl (Nat.le_of_ble_eq_true rfl) rfl (c_9_sets (dl hd rfl) e307) (kV ?_)
                    refine VW.aload_n d9_say_125 0 rfl ?_
                    refine VW.iload_n d9_say_126 1 rfl ?_
                    obtain ⟨r310, h311, e309, hr⟩ := bno2 hr
                    refine VW.callV (As := [.int x1]) (st := []) d9_say_127 mi_9_offOf cv_9_170 (oo_9 o9_114) ⟨rfl, rfl⟩ (by decide) (dl1 hd) _ rfl (Nat.le_of_ble_eq_true rfl) rfl (c_9_offOf (dl hd rfl) e309) (kI ?_)
                    exact VW.iret d9_say_130 hR (rIw hr)
                  · replace hr := im hr c306
                    refine VW.iload d9_say_116 5 rfl ?_
                    refine VW.goto 122 d9_say_118 (by decide) ?_
                    obtain ⟨h313, e312, hr⟩ := bno hr
                    refine VW.callV (As := [.int x1, .int 8, .int x5]) (st := []) d9_say_122 mi_9_sets cv_9_180 (oo_9 o9_114) ⟨rfl, rfl⟩ (by decide) (dl1 hd) _ rfl (Nat.le_of_ble_eq_true rfl) rfl (c_9_sets (dl hd rfl) e312) (kV ?_)
                    refine VW.aload_n d9_say_125 0 rfl ?_
                    refine VW.iload_n d9_say_126 1 rfl ?_
                    obtain ⟨r315, h316, e314, hr⟩ := bno2 hr
                    refine VW.callV (As := [.int x1]) (st := []) d9_say_127 mi_9_offOf cv_9_170 (oo_9 o9_114) ⟨rfl, rfl⟩ (by decide) (dl1 hd) _ rfl (Nat.le_of_ble_eq_true rfl) rfl (c_9_offOf (dl hd rfl) e314) (kI ?_)
                    exact VW.iret d9_say_130 hR (rIw hr)
              · replace hr := im hr c287
                refine VW.iload_n d9_say_81 3 rfl ?_
                refine VW.goto 86 d9_say_82 (by decide) ?_
                obtain ⟨h318, e317, hr⟩ := bno hr
                refine VW.callV (As := [.int x1, .int 6, .int x3]) (st := []) d9_say_86 mi_9_sets cv_9_180 (oo_9 o9_114) ⟨rfl, rfl⟩ (by decide) (dl1 hd) _ rfl (Nat.le_of_ble_eq_true rfl) rfl (c_9_sets (dl hd rfl) e317) (kV ?_)
                refine VW.aload_n d9_say_89 0 rfl ?_
                refine VW.iload_n d9_say_90 1 rfl ?_
                refine VW.bipush (v := 7) d9_say_91 bp_7 ?_
                refine VW.iload_n d9_say_93 2 rfl ?_
                refine VW.iconst (v := 1) d9_say_94 ic_1 ?_
                refine VW.icmp_le 103 d9_say_95 (by decide) (fun c319 => ?_) (fun c319 => ?_)
                · replace hr := ip hr c319
                  refine VW.iconst (v := 0) d9_say_103 ic_0 ?_
                  obtain ⟨h321, e320, hr⟩ := bno hr
                  refine VW.callV (As := [.int x1, .int 7, .int 0]) (st := []) d9_say_104 mi_9_sets cv_9_180 (oo_9 o9_114) ⟨rfl, rfl⟩ (by decide) (dl1 hd) _ rfl (Nat.le_of_ble_eq_true rfl) rfl (c_9_sets (dl hd rfl) e320) (kV ?_)
                  refine VW.aload_n d9_say_107 0 rfl ?_
                  refine VW.iload_n d9_say_108 1 rfl ?_
                  refine VW.bipush (v := 8) d9_say_109 bp_8 ?_
                  refine VW.iload_n d9_say_111 2 rfl ?_
                  refine VW.iconst (v := 2) d9_say_112 ic_2 ?_
                  refine VW.icmp_le 121 d9_say_113 (by decide) (fun c322 => ?_) (fun c322 => ?_)
                  · replace hr := ip hr c322
                    refine VW.iconst (v := 0) d9_say_121 ic_0 ?_
                    obtain ⟨h324, e323, hr⟩ := bno hr
                    refine VW.callV (As := [.int x1, .int 8, .int 0]) (st := []) d9_say_122 mi_9_sets cv_9_180 (oo_9 o9_114) ⟨rfl, rfl⟩ (by decide) (dl1 hd) _ rfl (Nat.le_of_ble_eq_true rfl) rfl (c_9_sets (dl hd rfl) e323) (kV ?_)
                    refine VW.aload_n d9_say_125 0 rfl ?_
                    refine VW.iload_n d9_say_126 1 rfl ?_
                    obtain ⟨r326, h327, e325, hr⟩ := bno2 hr
                    refine VW.callV (As := [.int x1]) (st := []) d9_say_127 mi_9_offOf cv_9_170 (oo_9 o9_114) ⟨rfl, rfl⟩ (by decide) (dl1 hd) _ rfl (Nat.le_of_ble_eq_true rfl) rfl (c_9_offOf (dl hd rfl) e325) (kI ?_)
                    exact VW.iret d9_say_130 hR (rIw hr)
                  · replace hr := im hr c322
                    refine VW.iload d9_say_116 5 rfl ?_
                    refine VW.goto 122 d9_say_118 (by decide) ?_
                    obtain ⟨h329, e328, hr⟩ := bno hr
                    refine VW.callV (As := [.int x1, .int 8, .int x5]) (st := []) d9_say_122 mi_9_sets cv_9_180 (oo_9 o9_114) ⟨rfl, rfl⟩ (by decide) (dl1 hd) _ rfl (Nat.le_of_ble_eq_true rfl) rfl (c_9_sets (dl hd rfl) e328) (kV ?_)
                    refine VW.aload_n d9_say_125 0 rfl ?_
                    refine VW.iload_n d9_say_126 1 rfl ?_
                    obtain ⟨r331, h332, e330, hr⟩ := bno2 hr
                    refine VW.callV (As := [.int x1]) (st := []) d9_say_127 mi_9_offOf cv_9_170 (oo_9 o9_114) ⟨rfl, rfl⟩ (by decide) (dl1 hd) _ rfl (Nat.le_of_ble_eq_true rfl) rfl (c_9_offOf (dl hd rfl) e330) (kI ?_)
                    exact VW.iret d9_say_130 hR (rIw hr)
                · replace hr := im hr c319
                  refine VW.iload d9_say_98 4 rfl ?_
                  refine VW.goto 104 d9_say_100 (by decide) ?_
                  obtain ⟨h334, e333, hr⟩ := bno hr
                  refine VW.callV (As := [.int x1, .int 7, .int x4]) (st := []) d9_say_104 mi_9_sets cv_9_180 (oo_9 o9_114) ⟨rfl, rfl⟩ (by decide) (dl1 hd) _ rfl (Nat.le_of_ble_eq_true rfl) rfl (c_9_sets (dl hd rfl) e333) (kV ?_)
                  refine VW.aload_n d9_say_107 0 rfl ?_
                  refine VW.iload_n d9_say_108 1 rfl ?_
                  refine VW.bipush (v := 8) d9_say_109 bp_8 ?_
                  refine VW.iload_n d9_say_111 2 rfl ?_
                  refine VW.iconst (v := 2) d9_say_112 ic_2 ?_
                  refine VW.icmp_le 121 d9_say_113 (by decide) (fun c335 => ?_) (fun c335 => ?_)
                  · replace hr := ip hr c335
                    refine VW.iconst (v := 0) d9_say_121 ic_0 ?_
                    obtain ⟨h337, e336, hr⟩ := bno hr
                    refine VW.callV (As := [.int x1, .int 8, .int 0]) (st := []) d9_say_122 mi_9_sets cv_9_180 (oo_9 o9_114) ⟨rfl, rfl⟩ (by decide) (dl1 hd) _ rfl (Nat.le_of_ble_eq_true rfl) rfl (c_9_sets (dl hd rfl) e336) (kV ?_)
                    refine VW.aload_n d9_say_125 0 rfl ?_
                    refine VW.iload_n d9_say_126 1 rfl ?_
                    obtain ⟨r339, h340, e338, hr⟩ := bno2 hr
                    refine VW.callV (As := [.int x1]) (st := []) d9_say_127 mi_9_offOf cv_9_170 (oo_9 o9_114) ⟨rfl, rfl⟩ (by decide) (dl1 hd) _ rfl (Nat.le_of_ble_eq_true rfl) rfl (c_9_offOf (dl hd rfl) e338) (kI ?_)
                    exact VW.iret d9_say_130 hR (rIw hr)
                  · replace hr := im hr c335
                    refine VW.iload d9_say_116 5 rfl ?_
                    refine VW.goto 122 d9_say_118 (by decide) ?_
                    obtain ⟨h342, e341, hr⟩ := bno hr
                    refine VW.callV (As := [.int x1, .int 8, .int x5]) (st := []) d9_say_122 mi_9_sets cv_9_180 (oo_9 o9_114) ⟨rfl, rfl⟩ (by decide) (dl1 hd) _ rfl (Nat.le_of_ble_eq_true rfl) rfl (c_9_sets (dl hd rfl) e341) (kV ?_)
                    refine VW.aload_n d9_say_125 0 rfl ?_
                    refine VW.iload_n d9_say_126 1 rfl ?_
                    obtain ⟨r344, h345, e343, hr⟩ := bno2 hr
                    refine VW.callV (As := [.int x1]) (st := []) d9_say_127 mi_9_offOf cv_9_170 (oo_9 o9_114) ⟨rfl, rfl⟩ (by decide) (dl1 hd) _ rfl (Nat.le_of_ble_eq_true rfl) rfl (c_9_offOf (dl hd rfl) e343) (kI ?_)
                    exact VW.iret d9_say_130 hR (rIw hr)
            · replace hr := im hr c284
              refine VW.aload_n d9_say_51 0 rfl ?_
              refine VW.iload d9_say_52 5 rfl ?_
              obtain ⟨r347, e346, hr⟩ := bno hr
              refine VW.callV (As := [.int x5]) (st := []) d9_say_54 mi_9_isWord cv_9_136 (oo_9 o9_114) ⟨rfl, rfl⟩ (by decide) (dl1 hd) _ rfl (Nat.le_of_ble_eq_true rfl) rfl (c_9_isWord (dl hd rfl) e346) (kI ?_)
              refine VW.if_ne 66 d9_say_57 (by decide) (fun c348 => ?_) (fun c348 => ?_)
              · replace hr := ip hr c348
                refine VW.aload_n d9_say_60 0 rfl ?_
                refine VW.iconst (v := 1) d9_say_61 ic_1 ?_
                obtain ⟨r350, h351, e349, hr⟩ := bno2 hr
                refine VW.callV (As := [.int 1]) (st := []) d9_say_62 mi_9_finds cv_9_107 (oo_9 o9_114) ⟨rfl, rfl⟩ (by decide) (dl1 hd) _ rfl (Nat.le_of_ble_eq_true rfl) rfl (c_9_finds (dl hd rfl) e349) (kI ?_)
                exact VW.iret d9_say_65 hR (rIw hr)
              · replace hr := im hr c348
                refine VW.aload_n d9_say_66 0 rfl ?_
                refine VW.iload_n d9_say_67 1 rfl ?_
                refine VW.iconst (v := 5) d9_say_68 ic_5 ?_
                refine VW.iload_n d9_say_69 2 rfl ?_
                obtain ⟨h353, e352, hr⟩ := bno hr
                refine VW.callV (As := [.int x1, .int 5, .int x2]) (st := []) d9_say_70 mi_9_sets cv_9_180 (oo_9 o9_114) ⟨rfl, rfl⟩ (by decide) (dl1 hd) _ rfl (Nat.le_of_ble_eq_true rfl) rfl (c_9_sets (dl hd rfl) e352) (kV ?_)
                refine VW.aload_n d9_say_73 0 rfl ?_
                refine VW.iload_n d9_say_74 1 rfl ?_
                refine VW.bipush (v := 6) d9_say_75 bp_6 ?_
                refine VW.iload_n d9_say_77 2 rfl ?_
                refine VW.if_le 85 d9_say_78 (by decide) (fun c354 => ?_) (fun c354 => ?_)
                · replace hr := ip hr c354
                  refine VW.iconst (v := 0) d9_say_85 ic_0 ?_
                  obtain ⟨h356, e355, hr⟩ := bno hr
                  refine VW.callV (As := [.int x1, .int 6, .int 0]) (st := []) d9_say_86 mi_9_sets cv_9_180 (oo_9 o9_114) ⟨rfl, rfl⟩ (by decide) (dl1 hd) _ rfl (Nat.le_of_ble_eq_true rfl) rfl (c_9_sets (dl hd rfl) e355) (kV ?_)
                  refine VW.aload_n d9_say_89 0 rfl ?_
                  refine VW.iload_n d9_say_90 1 rfl ?_
                  refine VW.bipush (v := 7) d9_say_91 bp_7 ?_
                  refine VW.iload_n d9_say_93 2 rfl ?_
                  refine VW.iconst (v := 1) d9_say_94 ic_1 ?_
                  refine VW.icmp_le 103 d9_say_95 (by decide) (fun c357 => ?_) (fun c357 => ?_)
                  · replace hr := ip hr c357
                    refine VW.iconst (v := 0) d9_say_103 ic_0 ?_
                    obtain ⟨h359, e358, hr⟩ := bno hr
                    refine VW.callV (As := [.int x1, .int 7, .int 0]) (st := []) d9_say_104 mi_9_sets cv_9_180 (oo_9 o9_114) ⟨rfl, rfl⟩ (by decide) (dl1 hd) _ rfl (Nat.le_of_ble_eq_true rfl) rfl (c_9_sets (dl hd rfl) e358) (kV ?_)
                    refine VW.aload_n d9_say_107 0 rfl ?_
                    refine VW.iload_n d9_say_108 1 rfl ?_
                    refine VW.bipush (v := 8) d9_say_109 bp_8 ?_
                    refine VW.iload_n d9_say_111 2 rfl ?_
                    refine VW.iconst (v := 2) d9_say_112 ic_2 ?_
                    refine VW.icmp_le 121 d9_say_113 (by decide) (fun c360 => ?_) (fun c360 => ?_)
                    · replace hr := ip hr c360
                      refine VW.iconst (v := 0) d9_say_121 ic_0 ?_
                      obtain ⟨h362, e361, hr⟩ := bno hr
                      refine VW.callV (As := [.int x1, .int 8, .int 0]) (st := []) d9_say_122 mi_9_sets cv_9_180 (oo_9 o9_114) ⟨rfl, rfl⟩ (by decide) (dl1 hd) _ rfl (Nat.le_of_ble_eq_true rfl) rfl (c_9_sets (dl hd rfl) e361) (kV ?_)
                      refine VW.aload_n d9_say_125 0 rfl ?_
                      refine VW.iload_n d9_say_126 1 rfl ?_
                      obtain ⟨r364, h365, e363, hr⟩ := bno2 hr
                      refine VW.callV (As := [.int x1]) (st := []) d9_say_127 mi_9_offOf cv_9_170 (oo_9 o9_114) ⟨rfl, rfl⟩ (by decide) (dl1 hd) _ rfl (Nat.le_of_ble_eq_true rfl) rfl (c_9_offOf (dl hd rfl) e363) (kI ?_)
                      exact VW.iret d9_say_130 hR (rIw hr)
                    · replace hr := im hr c360
                      refine VW.iload d9_say_116 5 rfl ?_
                      refine VW.goto 122 d9_say_118 (by decide) ?_
                      obtain ⟨h367, e366, hr⟩ := bno hr
                      refine VW.callV (As := [.int x1, .int 8, .int x5]) (st := []) d9_say_122 mi_9_sets cv_9_180 (oo_9 o9_114) ⟨rfl, rfl⟩ (by decide) (dl1 hd) _ rfl (Nat.le_of_ble_eq_true rfl) rfl (c_9_sets (dl hd rfl) e366) (kV ?_)
                      refine VW.aload_n d9_say_125 0 rfl ?_
                      refine VW.iload_n d9_say_126 1 rfl ?_
                      obtain ⟨r369, h370, e368, hr⟩ := bno2 hr
                      refine VW.callV (As := [.int x1]) (st := []) d9_say_127 mi_9_offOf cv_9_170 (oo_9 o9_114) ⟨rfl, rfl⟩ (by decide) (dl1 hd) _ rfl (Nat.le_of_ble_eq_true rfl) rfl (c_9_offOf (dl hd rfl) e368) (kI ?_)
                      exact VW.iret d9_say_130 hR (rIw hr)
                  · replace hr := im hr c357
                    refine VW.iload d9_say_98 4 rfl ?_
                    refine VW.goto 104 d9_say_100 (by decide) ?_
                    obtain ⟨h372, e371, hr⟩ := bno hr
                    refine VW.callV (As := [.int x1, .int 7, .int x4]) (st := []) d9_say_104 mi_9_sets cv_9_180 (oo_9 o9_114) ⟨rfl, rfl⟩ (by decide) (dl1 hd) _ rfl (Nat.le_of_ble_eq_true rfl) rfl (c_9_sets (dl hd rfl) e371) (kV ?_)
                    refine VW.aload_n d9_say_107 0 rfl ?_
                    refine VW.iload_n d9_say_108 1 rfl ?_
                    refine VW.bipush (v := 8) d9_say_109 bp_8 ?_
                    refine VW.iload_n d9_say_111 2 rfl ?_
                    refine VW.iconst (v := 2) d9_say_112 ic_2 ?_
                    refine VW.icmp_le 121 d9_say_113 (by decide) (fun c373 => ?_) (fun c373 => ?_)
                    · replace hr := ip hr c373
                      refine VW.iconst (v := 0) d9_say_121 ic_0 ?_
                      obtain ⟨h375, e374, hr⟩ := bno hr
                      refine VW.callV (As := [.int x1, .int 8, .int 0]) (st := []) d9_say_122 mi_9_sets cv_9_180 (oo_9 o9_114) ⟨rfl, rfl⟩ (by decide) (dl1 hd) _ rfl (Nat.le_of_ble_eq_true rfl) rfl (c_9_sets (dl hd rfl) e374) (kV ?_)
                      refine VW.aload_n d9_say_125 0 rfl ?_
                      refine VW.iload_n d9_say_126 1 rfl ?_
                      obtain ⟨r377, h378, e376, hr⟩ := bno2 hr
                      refine VW.callV (As := [.int x1]) (st := []) d9_say_127 mi_9_offOf cv_9_170 (oo_9 o9_114) ⟨rfl, rfl⟩ (by decide) (dl1 hd) _ rfl (Nat.le_of_ble_eq_true rfl) rfl (c_9_offOf (dl hd rfl) e376) (kI ?_)
                      exact VW.iret d9_say_130 hR (rIw hr)
                    · replace hr := im hr c373
                      refine VW.iload d9_say_116 5 rfl ?_
                      refine VW.goto 122 d9_say_118 (by decide) ?_
                      obtain ⟨h380, e379, hr⟩ := bno hr
                      refine VW.callV (As := [.int x1, .int 8, .int x5]) (st := []) d9_say_122 mi_9_sets cv_9_180 (oo_9 o9_114) ⟨rfl, rfl⟩ (by decide) (dl1 hd) _ rfl (Nat.le_of_ble_eq_true rfl) rfl (c_9_sets (dl hd rfl) e379) (kV ?_)
                      refine VW.aload_n d9_say_125 0 rfl ?_
                      refine VW.iload_n d9_say_126 1 rfl ?_
                      obtain ⟨r382, h383, e381, hr⟩ := bno2 hr
                      refine VW.callV (As := [.int x1]) (st := []) d9_say_127 mi_9_offOf cv_9_170 (oo_9 o9_114) ⟨rfl, rfl⟩ (by decide) (dl1 hd) _ rfl (Nat.le_of_ble_eq_true rfl) rfl (c_9_offOf (dl hd rfl) e381) (kI ?_)
                      exact VW.iret d9_say_130 hR (rIw hr)
                · replace hr := im hr c354
                  refine VW.iload_n d9_say_81 3 rfl ?_
                  refine VW.goto 86 d9_say_82 (by decide) ?_
                  obtain ⟨h385, e384, hr⟩ := bno hr
                  refine VW.callV (As := [.int x1, .int 6, .int x3]) (st := []) d9_say_86 mi_9_sets cv_9_180 (oo_9 o9_114) ⟨rfl, rfl⟩ (by decide) (dl1 hd) _ rfl (Nat.le_of_ble_eq_true rfl) rfl (c_9_sets (dl hd rfl) e384) (kV ?_)
                  refine VW.aload_n d9_say_89 0 rfl ?_
                  refine VW.iload_n d9_say_90 1 rfl ?_
                  refine VW.bipush (v := 7) d9_say_91 bp_7 ?_
                  refine VW.iload_n d9_say_93 2 rfl ?_
                  refine VW.iconst (v := 1) d9_say_94 ic_1 ?_
                  refine VW.icmp_le 103 d9_say_95 (by decide) (fun c386 => ?_) (fun c386 => ?_)
                  · replace hr := ip hr c386
                    refine VW.iconst (v := 0) d9_say_103 ic_0 ?_
                    obtain ⟨h388, e387, hr⟩ := bno hr
                    refine VW.callV (As := [.int x1, .int 7, .int 0]) (st := []) d9_say_104 mi_9_sets cv_9_180 (oo_9 o9_114) ⟨rfl, rfl⟩ (by decide) (dl1 hd) _ rfl (Nat.le_of_ble_eq_true rfl) rfl (c_9_sets (dl hd rfl) e387) (kV ?_)
                    refine VW.aload_n d9_say_107 0 rfl ?_
                    refine VW.iload_n d9_say_108 1 rfl ?_
                    refine VW.bipush (v := 8) d9_say_109 bp_8 ?_
                    refine VW.iload_n d9_say_111 2 rfl ?_
                    refine VW.iconst (v := 2) d9_say_112 ic_2 ?_
                    refine VW.icmp_le 121 d9_say_113 (by decide) (fun c389 => ?_) (fun c389 => ?_)
                    · replace hr := ip hr c389
                      refine VW.iconst (v := 0) d9_say_121 ic_0 ?_
                      obtain ⟨h391, e390, hr⟩ := bno hr
                      refine VW.callV (As := [.int x1, .int 8, .int 0]) (st := []) d9_say_122 mi_9_sets cv_9_180 (oo_9 o9_114) ⟨rfl, rfl⟩ (by decide) (dl1 hd) _ rfl (Nat.le_of_ble_eq_true rfl) rfl (c_9_sets (dl hd rfl) e390) (kV ?_)
                      refine VW.aload_n d9_say_125 0 rfl ?_
                      refine VW.iload_n d9_say_126 1 rfl ?_
                      obtain ⟨r393, h394, e392, hr⟩ := bno2 hr
                      refine VW.callV (As := [.int x1]) (st := []) d9_say_127 mi_9_offOf cv_9_170 (oo_9 o9_114) ⟨rfl, rfl⟩ (by decide) (dl1 hd) _ rfl (Nat.le_of_ble_eq_true rfl) rfl (c_9_offOf (dl hd rfl) e392) (kI ?_)
                      exact VW.iret d9_say_130 hR (rIw hr)
                    · replace hr := im hr c389
                      refine VW.iload d9_say_116 5 rfl ?_
                      refine VW.goto 122 d9_say_118 (by decide) ?_
                      obtain ⟨h396, e395, hr⟩ := bno hr
                      refine VW.callV (As := [.int x1, .int 8, .int x5]) (st := []) d9_say_122 mi_9_sets cv_9_180 (oo_9 o9_114) ⟨rfl, rfl⟩ (by decide) (dl1 hd) _ rfl (Nat.le_of_ble_eq_true rfl) rfl (c_9_sets (dl hd rfl) e395) (kV ?_)
                      refine VW.aload_n d9_say_125 0 rfl ?_
                      refine VW.iload_n d9_say_126 1 rfl ?_
                      obtain ⟨r398, h399, e397, hr⟩ := bno2 hr
                      refine VW.callV (As := [.int x1]) (st := []) d9_say_127 mi_9_offOf cv_9_170 (oo_9 o9_114) ⟨rfl, rfl⟩ (by decide) (dl1 hd) _ rfl (Nat.le_of_ble_eq_true rfl) rfl (c_9_offOf (dl hd rfl) e397) (kI ?_)
                      exact VW.iret d9_say_130 hR (rIw hr)
                  · replace hr := im hr c386
                    refine VW.iload d9_say_98 4 rfl ?_
                    refine VW.goto 104 d9_say_100 (by decide) ?_
                    obtain ⟨h401, e400, hr⟩ := bno hr
                    refine VW.callV (As := [.int x1, .int 7, .int x4]) (st := []) d9_say_104 mi_9_sets cv_9_180 (oo_9 o9_114) ⟨rfl, rfl⟩ (by decide) (dl1 hd) _ rfl (Nat.le_of_ble_eq_true rfl) rfl (c_9_sets (dl hd rfl) e400) (kV ?_)
                    refine VW.aload_n d9_say_107 0 rfl ?_
                    refine VW.iload_n d9_say_108 1 rfl ?_
                    refine VW.bipush (v := 8) d9_say_109 bp_8 ?_
                    refine VW.iload_n d9_say_111 2 rfl ?_
                    refine VW.iconst (v := 2) d9_say_112 ic_2 ?_
                    refine VW.icmp_le 121 d9_say_113 (by decide) (fun c402 => ?_) (fun c402 => ?_)
                    · replace hr := ip hr c402
                      refine VW.iconst (v := 0) d9_say_121 ic_0 ?_
                      obtain ⟨h404, e403, hr⟩ := bno hr
                      refine VW.callV (As := [.int x1, .int 8, .int 0]) (st := []) d9_say_122 mi_9_sets cv_9_180 (oo_9 o9_114) ⟨rfl, rfl⟩ (by decide) (dl1 hd) _ rfl (Nat.le_of_ble_eq_true rfl) rfl (c_9_sets (dl hd rfl) e403) (kV ?_)
                      refine VW.aload_n d9_say_125 0 rfl ?_
                      refine VW.iload_n d9_say_126 1 rfl ?_
                      obtain ⟨r406, h407, e405, hr⟩ := bno2 hr
                      refine VW.callV (As := [.int x1]) (st := []) d9_say_127 mi_9_offOf cv_9_170 (oo_9 o9_114) ⟨rfl, rfl⟩ (by decide) (dl1 hd) _ rfl (Nat.le_of_ble_eq_true rfl) rfl (c_9_offOf (dl hd rfl) e405) (kI ?_)
                      exact VW.iret d9_say_130 hR (rIw hr)
                    · replace hr := im hr c402
                      refine VW.iload d9_say_116 5 rfl ?_
                      refine VW.goto 122 d9_say_118 (by decide) ?_
                      obtain ⟨h409, e408, hr⟩ := bno hr
                      refine VW.callV (As := [.int x1, .int 8, .int x5]) (st := []) d9_say_122 mi_9_sets cv_9_180 (oo_9 o9_114) ⟨rfl, rfl⟩ (by decide) (dl1 hd) _ rfl (Nat.le_of_ble_eq_true rfl) rfl (c_9_sets (dl hd rfl) e408) (kV ?_)
                      refine VW.aload_n d9_say_125 0 rfl ?_
                      refine VW.iload_n d9_say_126 1 rfl ?_
                      obtain ⟨r411, h412, e410, hr⟩ := bno2 hr
                      refine VW.callV (As := [.int x1]) (st := []) d9_say_127 mi_9_offOf cv_9_170 (oo_9 o9_114) ⟨rfl, rfl⟩ (by decide) (dl1 hd) _ rfl (Nat.le_of_ble_eq_true rfl) rfl (c_9_offOf (dl hd rfl) e410) (kI ?_)
                      exact VW.iret d9_say_130 hR (rIw hr)
          · replace hr := im hr c283
            refine VW.aload_n d9_say_37 0 rfl ?_
            refine VW.iload d9_say_38 4 rfl ?_
            obtain ⟨r414, e413, hr⟩ := bno hr
            refine VW.callV (As := [.int x4]) (st := []) d9_say_40 mi_9_isWord cv_9_136 (oo_9 o9_114) ⟨rfl, rfl⟩ (by decide) (dl1 hd) _ rfl (Nat.le_of_ble_eq_true rfl) rfl (c_9_isWord (dl hd rfl) e413) (kI ?_)
            refine VW.if_eq 60 d9_say_43 (by decide) (fun c415 => ?_) (fun c415 => ?_)
            · replace hr := ip hr c415
              refine VW.aload_n d9_say_60 0 rfl ?_
              refine VW.iconst (v := 1) d9_say_61 ic_1 ?_
              obtain ⟨r417, h418, e416, hr⟩ := bno2 hr
              refine VW.callV (As := [.int 1]) (st := []) d9_say_62 mi_9_finds cv_9_107 (oo_9 o9_114) ⟨rfl, rfl⟩ (by decide) (dl1 hd) _ rfl (Nat.le_of_ble_eq_true rfl) rfl (c_9_finds (dl hd rfl) e416) (kI ?_)
              exact VW.iret d9_say_65 hR (rIw hr)
            · replace hr := im hr c415
              refine VW.iload_n d9_say_46 2 rfl ?_
              refine VW.iconst (v := 2) d9_say_47 ic_2 ?_
              refine VW.icmp_le 66 d9_say_48 (by decide) (fun c419 => ?_) (fun c419 => ?_)
              · replace hr := ip hr c419
                refine VW.aload_n d9_say_66 0 rfl ?_
                refine VW.iload_n d9_say_67 1 rfl ?_
                refine VW.iconst (v := 5) d9_say_68 ic_5 ?_
                refine VW.iload_n d9_say_69 2 rfl ?_
                obtain ⟨h421, e420, hr⟩ := bno hr
                refine VW.callV (As := [.int x1, .int 5, .int x2]) (st := []) d9_say_70 mi_9_sets cv_9_180 (oo_9 o9_114) ⟨rfl, rfl⟩ (by decide) (dl1 hd) _ rfl (Nat.le_of_ble_eq_true rfl) rfl (c_9_sets (dl hd rfl) e420) (kV ?_)
                refine VW.aload_n d9_say_73 0 rfl ?_
                refine VW.iload_n d9_say_74 1 rfl ?_
                refine VW.bipush (v := 6) d9_say_75 bp_6 ?_
                refine VW.iload_n d9_say_77 2 rfl ?_
                refine VW.if_le 85 d9_say_78 (by decide) (fun c422 => ?_) (fun c422 => ?_)
                · replace hr := ip hr c422
                  refine VW.iconst (v := 0) d9_say_85 ic_0 ?_
                  obtain ⟨h424, e423, hr⟩ := bno hr
                  refine VW.callV (As := [.int x1, .int 6, .int 0]) (st := []) d9_say_86 mi_9_sets cv_9_180 (oo_9 o9_114) ⟨rfl, rfl⟩ (by decide) (dl1 hd) _ rfl (Nat.le_of_ble_eq_true rfl) rfl (c_9_sets (dl hd rfl) e423) (kV ?_)
                  refine VW.aload_n d9_say_89 0 rfl ?_
                  refine VW.iload_n d9_say_90 1 rfl ?_
                  refine VW.bipush (v := 7) d9_say_91 bp_7 ?_
                  refine VW.iload_n d9_say_93 2 rfl ?_
                  refine VW.iconst (v := 1) d9_say_94 ic_1 ?_
                  refine VW.icmp_le 103 d9_say_95 (by decide) (fun c425 => ?_) (fun c425 => ?_)
                  · replace hr := ip hr c425
                    refine VW.iconst (v := 0) d9_say_103 ic_0 ?_
                    obtain ⟨h427, e426, hr⟩ := bno hr
                    refine VW.callV (As := [.int x1, .int 7, .int 0]) (st := []) d9_say_104 mi_9_sets cv_9_180 (oo_9 o9_114) ⟨rfl, rfl⟩ (by decide) (dl1 hd) _ rfl (Nat.le_of_ble_eq_true rfl) rfl (c_9_sets (dl hd rfl) e426) (kV ?_)
                    refine VW.aload_n d9_say_107 0 rfl ?_
                    refine VW.iload_n d9_say_108 1 rfl ?_
                    refine VW.bipush (v := 8) d9_say_109 bp_8 ?_
                    refine VW.iload_n d9_say_111 2 rfl ?_
                    refine VW.iconst (v := 2) d9_say_112 ic_2 ?_
                    refine VW.icmp_le 121 d9_say_113 (by decide) (fun c428 => ?_) (fun c428 => ?_)
                    · replace hr := ip hr c428
                      refine VW.iconst (v := 0) d9_say_121 ic_0 ?_
                      obtain ⟨h430, e429, hr⟩ := bno hr
                      refine VW.callV (As := [.int x1, .int 8, .int 0]) (st := []) d9_say_122 mi_9_sets cv_9_180 (oo_9 o9_114) ⟨rfl, rfl⟩ (by decide) (dl1 hd) _ rfl (Nat.le_of_ble_eq_true rfl) rfl (c_9_sets (dl hd rfl) e429) (kV ?_)
                      refine VW.aload_n d9_say_125 0 rfl ?_
                      refine VW.iload_n d9_say_126 1 rfl ?_
                      obtain ⟨r432, h433, e431, hr⟩ := bno2 hr
                      refine VW.callV (As := [.int x1]) (st := []) d9_say_127 mi_9_offOf cv_9_170 (oo_9 o9_114) ⟨rfl, rfl⟩ (by decide) (dl1 hd) _ rfl (Nat.le_of_ble_eq_true rfl) rfl (c_9_offOf (dl hd rfl) e431) (kI ?_)
                      exact VW.iret d9_say_130 hR (rIw hr)
                    · replace hr := im hr c428
                      refine VW.iload d9_say_116 5 rfl ?_
                      refine VW.goto 122 d9_say_118 (by decide) ?_
                      obtain ⟨h435, e434, hr⟩ := bno hr
                      refine VW.callV (As := [.int x1, .int 8, .int x5]) (st := []) d9_say_122 mi_9_sets cv_9_180 (oo_9 o9_114) ⟨rfl, rfl⟩ (by decide) (dl1 hd) _ rfl (Nat.le_of_ble_eq_true rfl) rfl (c_9_sets (dl hd rfl) e434) (kV ?_)
                      refine VW.aload_n d9_say_125 0 rfl ?_
                      refine VW.iload_n d9_say_126 1 rfl ?_
                      obtain ⟨r437, h438, e436, hr⟩ := bno2 hr
                      refine VW.callV (As := [.int x1]) (st := []) d9_say_127 mi_9_offOf cv_9_170 (oo_9 o9_114) ⟨rfl, rfl⟩ (by decide) (dl1 hd) _ rfl (Nat.le_of_ble_eq_true rfl) rfl (c_9_offOf (dl hd rfl) e436) (kI ?_)
                      exact VW.iret d9_say_130 hR (rIw hr)
                  · replace hr := im hr c425
                    refine VW.iload d9_say_98 4 rfl ?_
                    refine VW.goto 104 d9_say_100 (by decide) ?_
                    obtain ⟨h440, e439, hr⟩ := bno hr
                    refine VW.callV (As := [.int x1, .int 7, .int x4]) (st := []) d9_say_104 mi_9_sets cv_9_180 (oo_9 o9_114) ⟨rfl, rfl⟩ (by decide) (dl1 hd) _ rfl (Nat.le_of_ble_eq_true rfl) rfl (c_9_sets (dl hd rfl) e439) (kV ?_)
                    refine VW.aload_n d9_say_107 0 rfl ?_
                    refine VW.iload_n d9_say_108 1 rfl ?_
                    refine VW.bipush (v := 8) d9_say_109 bp_8 ?_
                    refine VW.iload_n d9_say_111 2 rfl ?_
                    refine VW.iconst (v := 2) d9_say_112 ic_2 ?_
                    refine VW.icmp_le 121 d9_say_113 (by decide) (fun c441 => ?_) (fun c441 => ?_)
                    · replace hr := ip hr c441
                      refine VW.iconst (v := 0) d9_say_121 ic_0 ?_
                      obtain ⟨h443, e442, hr⟩ := bno hr
                      refine VW.callV (As := [.int x1, .int 8, .int 0]) (st := []) d9_say_122 mi_9_sets cv_9_180 (oo_9 o9_114) ⟨rfl, rfl⟩ (by decide) (dl1 hd) _ rfl (Nat.le_of_ble_eq_true rfl) rfl (c_9_sets (dl hd rfl) e442) (kV ?_)
                      refine VW.aload_n d9_say_125 0 rfl ?_
                      refine VW.iload_n d9_say_126 1 rfl ?_
                      obtain ⟨r445, h446, e444, hr⟩ := bno2 hr
                      refine VW.callV (As := [.int x1]) (st := []) d9_say_127 mi_9_offOf cv_9_170 (oo_9 o9_114) ⟨rfl, rfl⟩ (by decide) (dl1 hd) _ rfl (Nat.le_of_ble_eq_true rfl) rfl (c_9_offOf (dl hd rfl) e444) (kI ?_)
                      exact VW.iret d9_say_130 hR (rIw hr)
                    · replace hr := im hr c441
                      refine VW.iload d9_say_116 5 rfl ?_
                      refine VW.goto 122 d9_say_118 (by decide) ?_
                      obtain ⟨h448, e447, hr⟩ := bno hr
                      refine VW.callV (As := [.int x1, .int 8, .int x5]) (st := []) d9_say_122 mi_9_sets cv_9_180 (oo_9 o9_114) ⟨rfl, rfl⟩ (by decide) (dl1 hd) _ rfl (Nat.le_of_ble_eq_true rfl) rfl (c_9_sets (dl hd rfl) e447) (kV ?_)
                      refine VW.aload_n d9_say_125 0 rfl ?_
                      refine VW.iload_n d9_say_126 1 rfl ?_
                      obtain ⟨r450, h451, e449, hr⟩ := bno2 hr
                      refine VW.callV (As := [.int x1]) (st := []) d9_say_127 mi_9_offOf cv_9_170 (oo_9 o9_114) ⟨rfl, rfl⟩ (by decide) (dl1 hd) _ rfl (Nat.le_of_ble_eq_true rfl) rfl (c_9_offOf (dl hd rfl) e449) (kI ?_)
                      exact VW.iret d9_say_130 hR (rIw hr)
                · replace hr := im hr c422
                  refine VW.iload_n d9_say_81 3 rfl ?_
                  refine VW.goto 86 d9_say_82 (by decide) ?_
                  obtain ⟨h453, e452, hr⟩ := bno hr
                  refine VW.callV (As := [.int x1, .int 6, .int x3]) (st := []) d9_say_86 mi_9_sets cv_9_180 (oo_9 o9_114) ⟨rfl, rfl⟩ (by decide) (dl1 hd) _ rfl (Nat.le_of_ble_eq_true rfl) rfl (c_9_sets (dl hd rfl) e452) (kV ?_)
                  refine VW.aload_n d9_say_89 0 rfl ?_
                  refine VW.iload_n d9_say_90 1 rfl ?_
                  refine VW.bipush (v := 7) d9_say_91 bp_7 ?_
                  refine VW.iload_n d9_say_93 2 rfl ?_
                  refine VW.iconst (v := 1) d9_say_94 ic_1 ?_
                  refine VW.icmp_le 103 d9_say_95 (by decide) (fun c454 => ?_) (fun c454 => ?_)
                  · replace hr := ip hr c454
                    refine VW.iconst (v := 0) d9_say_103 ic_0 ?_
                    obtain ⟨h456, e455, hr⟩ := bno hr
                    refine VW.callV (As := [.int x1, .int 7, .int 0]) (st := []) d9_say_104 mi_9_sets cv_9_180 (oo_9 o9_114) ⟨rfl, rfl⟩ (by decide) (dl1 hd) _ rfl (Nat.le_of_ble_eq_true rfl) rfl (c_9_sets (dl hd rfl) e455) (kV ?_)
                    refine VW.aload_n d9_say_107 0 rfl ?_
                    refine VW.iload_n d9_say_108 1 rfl ?_
                    refine VW.bipush (v := 8) d9_say_109 bp_8 ?_
                    refine VW.iload_n d9_say_111 2 rfl ?_
                    refine VW.iconst (v := 2) d9_say_112 ic_2 ?_
                    refine VW.icmp_le 121 d9_say_113 (by decide) (fun c457 => ?_) (fun c457 => ?_)
                    · replace hr := ip hr c457
                      refine VW.iconst (v := 0) d9_say_121 ic_0 ?_
                      obtain ⟨h459, e458, hr⟩ := bno hr
                      refine VW.callV (As := [.int x1, .int 8, .int 0]) (st := []) d9_say_122 mi_9_sets cv_9_180 (oo_9 o9_114) ⟨rfl, rfl⟩ (by decide) (dl1 hd) _ rfl (Nat.le_of_ble_eq_true rfl) rfl (c_9_sets (dl hd rfl) e458) (kV ?_)
                      refine VW.aload_n d9_say_125 0 rfl ?_
                      refine VW.iload_n d9_say_126 1 rfl ?_
                      obtain ⟨r461, h462, e460, hr⟩ := bno2 hr
                      refine VW.callV (As := [.int x1]) (st := []) d9_say_127 mi_9_offOf cv_9_170 (oo_9 o9_114) ⟨rfl, rfl⟩ (by decide) (dl1 hd) _ rfl (Nat.le_of_ble_eq_true rfl) rfl (c_9_offOf (dl hd rfl) e460) (kI ?_)
                      exact VW.iret d9_say_130 hR (rIw hr)
                    · replace hr := im hr c457
                      refine VW.iload d9_say_116 5 rfl ?_
                      refine VW.goto 122 d9_say_118 (by decide) ?_
                      obtain ⟨h464, e463, hr⟩ := bno hr
                      refine VW.callV (As := [.int x1, .int 8, .int x5]) (st := []) d9_say_122 mi_9_sets cv_9_180 (oo_9 o9_114) ⟨rfl, rfl⟩ (by decide) (dl1 hd) _ rfl (Nat.le_of_ble_eq_true rfl) rfl (c_9_sets (dl hd rfl) e463) (kV ?_)
                      refine VW.aload_n d9_say_125 0 rfl ?_
                      refine VW.iload_n d9_say_126 1 rfl ?_
                      obtain ⟨r466, h467, e465, hr⟩ := bno2 hr
                      refine VW.callV (As := [.int x1]) (st := []) d9_say_127 mi_9_offOf cv_9_170 (oo_9 o9_114) ⟨rfl, rfl⟩ (by decide) (dl1 hd) _ rfl (Nat.le_of_ble_eq_true rfl) rfl (c_9_offOf (dl hd rfl) e465) (kI ?_)
                      exact VW.iret d9_say_130 hR (rIw hr)
                  · replace hr := im hr c454
                    refine VW.iload d9_say_98 4 rfl ?_
                    refine VW.goto 104 d9_say_100 (by decide) ?_
                    obtain ⟨h469, e468, hr⟩ := bno hr
                    refine VW.callV (As := [.int x1, .int 7, .int x4]) (st := []) d9_say_104 mi_9_sets cv_9_180 (oo_9 o9_114) ⟨rfl, rfl⟩ (by decide) (dl1 hd) _ rfl (Nat.le_of_ble_eq_true rfl) rfl (c_9_sets (dl hd rfl) e468) (kV ?_)
                    refine VW.aload_n d9_say_107 0 rfl ?_
                    refine VW.iload_n d9_say_108 1 rfl ?_
                    refine VW.bipush (v := 8) d9_say_109 bp_8 ?_
                    refine VW.iload_n d9_say_111 2 rfl ?_
                    refine VW.iconst (v := 2) d9_say_112 ic_2 ?_
                    refine VW.icmp_le 121 d9_say_113 (by decide) (fun c470 => ?_) (fun c470 => ?_)
                    · replace hr := ip hr c470
                      refine VW.iconst (v := 0) d9_say_121 ic_0 ?_
                      obtain ⟨h472, e471, hr⟩ := bno hr
                      refine VW.callV (As := [.int x1, .int 8, .int 0]) (st := []) d9_say_122 mi_9_sets cv_9_180 (oo_9 o9_114) ⟨rfl, rfl⟩ (by decide) (dl1 hd) _ rfl (Nat.le_of_ble_eq_true rfl) rfl (c_9_sets (dl hd rfl) e471) (kV ?_)
                      refine VW.aload_n d9_say_125 0 rfl ?_
                      refine VW.iload_n d9_say_126 1 rfl ?_
                      obtain ⟨r474, h475, e473, hr⟩ := bno2 hr
                      refine VW.callV (As := [.int x1]) (st := []) d9_say_127 mi_9_offOf cv_9_170 (oo_9 o9_114) ⟨rfl, rfl⟩ (by decide) (dl1 hd) _ rfl (Nat.le_of_ble_eq_true rfl) rfl (c_9_offOf (dl hd rfl) e473) (kI ?_)
                      exact VW.iret d9_say_130 hR (rIw hr)
                    · replace hr := im hr c470
                      refine VW.iload d9_say_116 5 rfl ?_
                      refine VW.goto 122 d9_say_118 (by decide) ?_
                      obtain ⟨h477, e476, hr⟩ := bno hr
                      refine VW.callV (As := [.int x1, .int 8, .int x5]) (st := []) d9_say_122 mi_9_sets cv_9_180 (oo_9 o9_114) ⟨rfl, rfl⟩ (by decide) (dl1 hd) _ rfl (Nat.le_of_ble_eq_true rfl) rfl (c_9_sets (dl hd rfl) e476) (kV ?_)
                      refine VW.aload_n d9_say_125 0 rfl ?_
                      refine VW.iload_n d9_say_126 1 rfl ?_
                      obtain ⟨r479, h480, e478, hr⟩ := bno2 hr
                      refine VW.callV (As := [.int x1]) (st := []) d9_say_127 mi_9_offOf cv_9_170 (oo_9 o9_114) ⟨rfl, rfl⟩ (by decide) (dl1 hd) _ rfl (Nat.le_of_ble_eq_true rfl) rfl (c_9_offOf (dl hd rfl) e478) (kI ?_)
                      exact VW.iret d9_say_130 hR (rIw hr)
              · replace hr := im hr c419
                refine VW.aload_n d9_say_51 0 rfl ?_
                refine VW.iload d9_say_52 5 rfl ?_
                obtain ⟨r482, e481, hr⟩ := bno hr
                refine VW.callV (As := [.int x5]) (st := []) d9_say_54 mi_9_isWord cv_9_136 (oo_9 o9_114) ⟨rfl, rfl⟩ (by decide) (dl1 hd) _ rfl (Nat.le_of_ble_eq_true rfl) rfl (c_9_isWord (dl hd rfl) e481) (kI ?_)
                refine VW.if_ne 66 d9_say_57 (by decide) (fun c483 => ?_) (fun c483 => ?_)
                · replace hr := ip hr c483
                  refine VW.aload_n d9_say_60 0 rfl ?_
                  refine VW.iconst (v := 1) d9_say_61 ic_1 ?_
                  obtain ⟨r485, h486, e484, hr⟩ := bno2 hr
                  refine VW.callV (As := [.int 1]) (st := []) d9_say_62 mi_9_finds cv_9_107 (oo_9 o9_114) ⟨rfl, rfl⟩ (by decide) (dl1 hd) _ rfl (Nat.le_of_ble_eq_true rfl) rfl (c_9_finds (dl hd rfl) e484) (kI ?_)
                  exact VW.iret d9_say_65 hR (rIw hr)
                · replace hr := im hr c483
                  refine VW.aload_n d9_say_66 0 rfl ?_
                  refine VW.iload_n d9_say_67 1 rfl ?_
                  refine VW.iconst (v := 5) d9_say_68 ic_5 ?_
                  refine VW.iload_n d9_say_69 2 rfl ?_
                  obtain ⟨h488, e487, hr⟩ := bno hr
                  refine VW.callV (As := [.int x1, .int 5, .int x2]) (st := []) d9_say_70 mi_9_sets cv_9_180 (oo_9 o9_114) ⟨rfl, rfl⟩ (by decide) (dl1 hd) _ rfl (Nat.le_of_ble_eq_true rfl) rfl (c_9_sets (dl hd rfl) e487) (kV ?_)
                  refine VW.aload_n d9_say_73 0 rfl ?_
                  refine VW.iload_n d9_say_74 1 rfl ?_
                  refine VW.bipush (v := 6) d9_say_75 bp_6 ?_
                  refine VW.iload_n d9_say_77 2 rfl ?_
                  refine VW.if_le 85 d9_say_78 (by decide) (fun c489 => ?_) (fun c489 => ?_)
                  · replace hr := ip hr c489
                    refine VW.iconst (v := 0) d9_say_85 ic_0 ?_
                    obtain ⟨h491, e490, hr⟩ := bno hr
                    refine VW.callV (As := [.int x1, .int 6, .int 0]) (st := []) d9_say_86 mi_9_sets cv_9_180 (oo_9 o9_114) ⟨rfl, rfl⟩ (by decide) (dl1 hd) _ rfl (Nat.le_of_ble_eq_true rfl) rfl (c_9_sets (dl hd rfl) e490) (kV ?_)
                    refine VW.aload_n d9_say_89 0 rfl ?_
                    refine VW.iload_n d9_say_90 1 rfl ?_
                    refine VW.bipush (v := 7) d9_say_91 bp_7 ?_
                    refine VW.iload_n d9_say_93 2 rfl ?_
                    refine VW.iconst (v := 1) d9_say_94 ic_1 ?_
                    refine VW.icmp_le 103 d9_say_95 (by decide) (fun c492 => ?_) (fun c492 => ?_)
                    · replace hr := ip hr c492
                      refine VW.iconst (v := 0) d9_say_103 ic_0 ?_
                      obtain ⟨h494, e493, hr⟩ := bno hr
                      refine VW.callV (As := [.int x1, .int 7, .int 0]) (st := []) d9_say_104 mi_9_sets cv_9_180 (oo_9 o9_114) ⟨rfl, rfl⟩ (by decide) (dl1 hd) _ rfl (Nat.le_of_ble_eq_true rfl) rfl (c_9_sets (dl hd rfl) e493) (kV ?_)
                      refine VW.aload_n d9_say_107 0 rfl ?_
                      refine VW.iload_n d9_say_108 1 rfl ?_
                      refine VW.bipush (v := 8) d9_say_109 bp_8 ?_
                      refine VW.iload_n d9_say_111 2 rfl ?_
                      refine VW.iconst (v := 2) d9_say_112 ic_2 ?_
                      refine VW.icmp_le 121 d9_say_113 (by decide) (fun c495 => ?_) (fun c495 => ?_)
                      · replace hr := ip hr c495
                        refine VW.iconst (v := 0) d9_say_121 ic_0 ?_
                        obtain ⟨h497, e496, hr⟩ := bno hr
                        refine VW.callV (As := [.int x1, .int 8, .int 0]) (st := []) d9_say_122 mi_9_sets cv_9_180 (oo_9 o9_114) ⟨rfl, rfl⟩ (by decide) (dl1 hd) _ rfl (Nat.le_of_ble_eq_true rfl) rfl (c_9_sets (dl hd rfl) e496) (kV ?_)
                        refine VW.aload_n d9_say_125 0 rfl ?_
                        refine VW.iload_n d9_say_126 1 rfl ?_
                        obtain ⟨r499, h500, e498, hr⟩ := bno2 hr
                        refine VW.callV (As := [.int x1]) (st := []) d9_say_127 mi_9_offOf cv_9_170 (oo_9 o9_114) ⟨rfl, rfl⟩ (by decide) (dl1 hd) _ rfl (Nat.le_of_ble_eq_true rfl) rfl (c_9_offOf (dl hd rfl) e498) (kI ?_)
                        exact VW.iret d9_say_130 hR (rIw hr)
                      · replace hr := im hr c495
                        refine VW.iload d9_say_116 5 rfl ?_
                        refine VW.goto 122 d9_say_118 (by decide) ?_
                        obtain ⟨h502, e501, hr⟩ := bno hr
                        refine VW.callV (As := [.int x1, .int 8, .int x5]) (st := []) d9_say_122 mi_9_sets cv_9_180 (oo_9 o9_114) ⟨rfl, rfl⟩ (by decide) (dl1 hd) _ rfl (Nat.le_of_ble_eq_true rfl) rfl (c_9_sets (dl hd rfl) e501) (kV ?_)
                        refine VW.aload_n d9_say_125 0 rfl ?_
                        refine VW.iload_n d9_say_126 1 rfl ?_
                        obtain ⟨r504, h505, e503, hr⟩ := bno2 hr
                        refine VW.callV (As := [.int x1]) (st := []) d9_say_127 mi_9_offOf cv_9_170 (oo_9 o9_114) ⟨rfl, rfl⟩ (by decide) (dl1 hd) _ rfl (Nat.le_of_ble_eq_true rfl) rfl (c_9_offOf (dl hd rfl) e503) (kI ?_)
                        exact VW.iret d9_say_130 hR (rIw hr)
                    · replace hr := im hr c492
                      refine VW.iload d9_say_98 4 rfl ?_
                      refine VW.goto 104 d9_say_100 (by decide) ?_
                      obtain ⟨h507, e506, hr⟩ := bno hr
                      refine VW.callV (As := [.int x1, .int 7, .int x4]) (st := []) d9_say_104 mi_9_sets cv_9_180 (oo_9 o9_114) ⟨rfl, rfl⟩ (by decide) (dl1 hd) _ rfl (Nat.le_of_ble_eq_true rfl) rfl (c_9_sets (dl hd rfl) e506) (kV ?_)
                      refine VW.aload_n d9_say_107 0 rfl ?_
                      refine VW.iload_n d9_say_108 1 rfl ?_
                      refine VW.bipush (v := 8) d9_say_109 bp_8 ?_
                      refine VW.iload_n d9_say_111 2 rfl ?_
                      refine VW.iconst (v := 2) d9_say_112 ic_2 ?_
                      refine VW.icmp_le 121 d9_say_113 (by decide) (fun c508 => ?_) (fun c508 => ?_)
                      · replace hr := ip hr c508
                        refine VW.iconst (v := 0) d9_say_121 ic_0 ?_
                        obtain ⟨h510, e509, hr⟩ := bno hr
                        refine VW.callV (As := [.int x1, .int 8, .int 0]) (st := []) d9_say_122 mi_9_sets cv_9_180 (oo_9 o9_114) ⟨rfl, rfl⟩ (by decide) (dl1 hd) _ rfl (Nat.le_of_ble_eq_true rfl) rfl (c_9_sets (dl hd rfl) e509) (kV ?_)
                        refine VW.aload_n d9_say_125 0 rfl ?_
                        refine VW.iload_n d9_say_126 1 rfl ?_
                        obtain ⟨r512, h513, e511, hr⟩ := bno2 hr
                        refine VW.callV (As := [.int x1]) (st := []) d9_say_127 mi_9_offOf cv_9_170 (oo_9 o9_114) ⟨rfl, rfl⟩ (by decide) (dl1 hd) _ rfl (Nat.le_of_ble_eq_true rfl) rfl (c_9_offOf (dl hd rfl) e511) (kI ?_)
                        exact VW.iret d9_say_130 hR (rIw hr)
                      · replace hr := im hr c508
                        refine VW.iload d9_say_116 5 rfl ?_
                        refine VW.goto 122 d9_say_118 (by decide) ?_
                        obtain ⟨h515, e514, hr⟩ := bno hr
                        refine VW.callV (As := [.int x1, .int 8, .int x5]) (st := []) d9_say_122 mi_9_sets cv_9_180 (oo_9 o9_114) ⟨rfl, rfl⟩ (by decide) (dl1 hd) _ rfl (Nat.le_of_ble_eq_true rfl) rfl (c_9_sets (dl hd rfl) e514) (kV ?_)
                        refine VW.aload_n d9_say_125 0 rfl ?_
                        refine VW.iload_n d9_say_126 1 rfl ?_
                        obtain ⟨r517, h518, e516, hr⟩ := bno2 hr
                        refine VW.callV (As := [.int x1]) (st := []) d9_say_127 mi_9_offOf cv_9_170 (oo_9 o9_114) ⟨rfl, rfl⟩ (by decide) (dl1 hd) _ rfl (Nat.le_of_ble_eq_true rfl) rfl (c_9_offOf (dl hd rfl) e516) (kI ?_)
                        exact VW.iret d9_say_130 hR (rIw hr)
                  · replace hr := im hr c489
                    refine VW.iload_n d9_say_81 3 rfl ?_
                    refine VW.goto 86 d9_say_82 (by decide) ?_
                    obtain ⟨h520, e519, hr⟩ := bno hr
                    refine VW.callV (As := [.int x1, .int 6, .int x3]) (st := []) d9_say_86 mi_9_sets cv_9_180 (oo_9 o9_114) ⟨rfl, rfl⟩ (by decide) (dl1 hd) _ rfl (Nat.le_of_ble_eq_true rfl) rfl (c_9_sets (dl hd rfl) e519) (kV ?_)
                    refine VW.aload_n d9_say_89 0 rfl ?_
                    refine VW.iload_n d9_say_90 1 rfl ?_
                    refine VW.bipush (v := 7) d9_say_91 bp_7 ?_
                    refine VW.iload_n d9_say_93 2 rfl ?_
                    refine VW.iconst (v := 1) d9_say_94 ic_1 ?_
                    refine VW.icmp_le 103 d9_say_95 (by decide) (fun c521 => ?_) (fun c521 => ?_)
                    · replace hr := ip hr c521
                      refine VW.iconst (v := 0) d9_say_103 ic_0 ?_
                      obtain ⟨h523, e522, hr⟩ := bno hr
                      refine VW.callV (As := [.int x1, .int 7, .int 0]) (st := []) d9_say_104 mi_9_sets cv_9_180 (oo_9 o9_114) ⟨rfl, rfl⟩ (by decide) (dl1 hd) _ rfl (Nat.le_of_ble_eq_true rfl) rfl (c_9_sets (dl hd rfl) e522) (kV ?_)
                      refine VW.aload_n d9_say_107 0 rfl ?_
                      refine VW.iload_n d9_say_108 1 rfl ?_
                      refine VW.bipush (v := 8) d9_say_109 bp_8 ?_
                      refine VW.iload_n d9_say_111 2 rfl ?_
                      refine VW.iconst (v := 2) d9_say_112 ic_2 ?_
                      refine VW.icmp_le 121 d9_say_113 (by decide) (fun c524 => ?_) (fun c524 => ?_)
                      · replace hr := ip hr c524
                        refine VW.iconst (v := 0) d9_say_121 ic_0 ?_
                        obtain ⟨h526, e525, hr⟩ := bno hr
                        refine VW.callV (As := [.int x1, .int 8, .int 0]) (st := []) d9_say_122 mi_9_sets cv_9_180 (oo_9 o9_114) ⟨rfl, rfl⟩ (by decide) (dl1 hd) _ rfl (Nat.le_of_ble_eq_true rfl) rfl (c_9_sets (dl hd rfl) e525) (kV ?_)
                        refine VW.aload_n d9_say_125 0 rfl ?_
                        refine VW.iload_n d9_say_126 1 rfl ?_
                        obtain ⟨r528, h529, e527, hr⟩ := bno2 hr
                        refine VW.callV (As := [.int x1]) (st := []) d9_say_127 mi_9_offOf cv_9_170 (oo_9 o9_114) ⟨rfl, rfl⟩ (by decide) (dl1 hd) _ rfl (Nat.le_of_ble_eq_true rfl) rfl (c_9_offOf (dl hd rfl) e527) (kI ?_)
                        exact VW.iret d9_say_130 hR (rIw hr)
                      · replace hr := im hr c524
                        refine VW.iload d9_say_116 5 rfl ?_
                        refine VW.goto 122 d9_say_118 (by decide) ?_
                        obtain ⟨h531, e530, hr⟩ := bno hr
                        refine VW.callV (As := [.int x1, .int 8, .int x5]) (st := []) d9_say_122 mi_9_sets cv_9_180 (oo_9 o9_114) ⟨rfl, rfl⟩ (by decide) (dl1 hd) _ rfl (Nat.le_of_ble_eq_true rfl) rfl (c_9_sets (dl hd rfl) e530) (kV ?_)
                        refine VW.aload_n d9_say_125 0 rfl ?_
                        refine VW.iload_n d9_say_126 1 rfl ?_
                        obtain ⟨r533, h534, e532, hr⟩ := bno2 hr
                        refine VW.callV (As := [.int x1]) (st := []) d9_say_127 mi_9_offOf cv_9_170 (oo_9 o9_114) ⟨rfl, rfl⟩ (by decide) (dl1 hd) _ rfl (Nat.le_of_ble_eq_true rfl) rfl (c_9_offOf (dl hd rfl) e532) (kI ?_)
                        exact VW.iret d9_say_130 hR (rIw hr)
                    · replace hr := im hr c521
                      refine VW.iload d9_say_98 4 rfl ?_
                      refine VW.goto 104 d9_say_100 (by decide) ?_
                      obtain ⟨h536, e535, hr⟩ := bno hr
                      refine VW.callV (As := [.int x1, .int 7, .int x4]) (st := []) d9_say_104 mi_9_sets cv_9_180 (oo_9 o9_114) ⟨rfl, rfl⟩ (by decide) (dl1 hd) _ rfl (Nat.le_of_ble_eq_true rfl) rfl (c_9_sets (dl hd rfl) e535) (kV ?_)
                      refine VW.aload_n d9_say_107 0 rfl ?_
                      refine VW.iload_n d9_say_108 1 rfl ?_
                      refine VW.bipush (v := 8) d9_say_109 bp_8 ?_
                      refine VW.iload_n d9_say_111 2 rfl ?_
                      refine VW.iconst (v := 2) d9_say_112 ic_2 ?_
                      refine VW.icmp_le 121 d9_say_113 (by decide) (fun c537 => ?_) (fun c537 => ?_)
                      · replace hr := ip hr c537
                        refine VW.iconst (v := 0) d9_say_121 ic_0 ?_
                        obtain ⟨h539, e538, hr⟩ := bno hr
                        refine VW.callV (As := [.int x1, .int 8, .int 0]) (st := []) d9_say_122 mi_9_sets cv_9_180 (oo_9 o9_114) ⟨rfl, rfl⟩ (by decide) (dl1 hd) _ rfl (Nat.le_of_ble_eq_true rfl) rfl (c_9_sets (dl hd rfl) e538) (kV ?_)
                        refine VW.aload_n d9_say_125 0 rfl ?_
                        refine VW.iload_n d9_say_126 1 rfl ?_
                        obtain ⟨r541, h542, e540, hr⟩ := bno2 hr
                        refine VW.callV (As := [.int x1]) (st := []) d9_say_127 mi_9_offOf cv_9_170 (oo_9 o9_114) ⟨rfl, rfl⟩ (by decide) (dl1 hd) _ rfl (Nat.le_of_ble_eq_true rfl) rfl (c_9_offOf (dl hd rfl) e540) (kI ?_)
                        exact VW.iret d9_say_130 hR (rIw hr)
                      · replace hr := im hr c537
                        refine VW.iload d9_say_116 5 rfl ?_
                        refine VW.goto 122 d9_say_118 (by decide) ?_
                        obtain ⟨h544, e543, hr⟩ := bno hr
                        refine VW.callV (As := [.int x1, .int 8, .int x5]) (st := []) d9_say_122 mi_9_sets cv_9_180 (oo_9 o9_114) ⟨rfl, rfl⟩ (by decide) (dl1 hd) _ rfl (Nat.le_of_ble_eq_true rfl) rfl (c_9_sets (dl hd rfl) e543) (kV ?_)
                        refine VW.aload_n d9_say_125 0 rfl ?_
                        refine VW.iload_n d9_say_126 1 rfl ?_
                        obtain ⟨r546, h547, e545, hr⟩ := bno2 hr
                        refine VW.callV (As := [.int x1]) (st := []) d9_say_127 mi_9_offOf cv_9_170 (oo_9 o9_114) ⟨rfl, rfl⟩ (by decide) (dl1 hd) _ rfl (Nat.le_of_ble_eq_true rfl) rfl (c_9_offOf (dl hd rfl) e545) (kI ?_)
                        exact VW.iret d9_say_130 hR (rIw hr)
set_option maxRecDepth 100000 in
set_option maxHeartbeats 4000000 in
theorem cb_9_saysBy {γ : Gm} {dd : Nat} {NN : Nat} {R_9_saysBy : Int32 → Int32 → Hp → Option (Int32 × Hp)} (hN : 66 ≤ NN) (H_9_saysBy : ∀ (dd : Nat), NN ≤ dd → ∀ (x1 : Int32) (x2 : Int32) (h : Hp) (r : Int32) (hz : Hp), R_9_saysBy x1 x2 h = some (r, hz) → MC γ dd yX9_saysBy cX9_saysBy 4 (some .int) [.ref (γ.2.2.1 114), .int x1, .int x2] h (QI r hz)) {x1 : Int32} {x2 : Int32} {h : Hp} {r : Int32} {hz : Hp} (hd : NN + 1 ≤ dd) (hr : b_9_saysBy R_9_saysBy x1 x2 h = some (r, hz)) : MC γ dd yX9_saysBy cX9_saysBy 4 (some .int) [.ref (γ.2.2.1 114), .int x1, .int x2] h (QI r hz) := by
  unfold b_9_saysBy at hr
  refine MC.of mi_9_saysBy (Nat.le_of_ble_eq_true rfl) (fun ε hR => ?_)
  show VW γ ε cX9_saysBy RX9 4 dd 0 [(0, .ref (γ.2.2.1 114)), (1, .int x1), (2, .int x2)] [] h
  refine VW.iload_n d9_saysBy_0 1 rfl ?_
  by_cases c1 : x1 = 0
  · replace hr := ip hr c1
    refine VW.lookup (off := 35) 36 d9_saysBy_1 (by decide) (by rw [c1]; decide) (by decide) ?_
    refine VW.aload_n d9_saysBy_36 0 rfl ?_
    refine VW.bipush (v := 11) d9_saysBy_37 bp_11 ?_
    obtain ⟨h3, e2, hr⟩ := bno hr
    refine VW.callV (As := [.int 11]) (st := []) d9_saysBy_39 mi_9_ran cv_9_251 (oo_9 o9_114) ⟨rfl, rfl⟩ (by decide) (dl1r hd) _ rfl (Nat.le_of_ble_eq_true rfl) rfl (c_9_ran (dlr hd hN (Nat.le_of_ble_eq_true rfl)) e2) (kV ?_)
    refine VW.aload_n d9_saysBy_42 0 rfl ?_
    refine VW.aload_n d9_saysBy_43 0 rfl ?_
    obtain ⟨r5, e4, hr⟩ := bno hr
    refine VW.callV (As := []) (st := [.ref (γ.2.2.1 114)]) d9_saysBy_44 mi_9_own cv_9_257 (oo_9 o9_114) ⟨rfl, rfl⟩ (by decide) (dl1r hd) _ rfl (Nat.le_of_ble_eq_true rfl) rfl (c_9_own (dlr hd hN (Nat.le_of_ble_eq_true rfl)) e4) (kI ?_)
    refine VW.iload_n d9_saysBy_47 2 rfl ?_
    obtain ⟨r7, h8, e6, hr⟩ := bno2 hr
    refine VW.callV (As := [.int r5, .int x2]) (st := []) d9_saysBy_48 mi_9_fitsBy cv_9_254 (oo_9 o9_114) ⟨rfl, rfl⟩ (by decide) (dl1r hd) _ rfl (Nat.le_of_ble_eq_true rfl) rfl (c_9_fitsBy (dlr hd hN (Nat.le_of_ble_eq_true rfl)) e6) (kI ?_)
    refine VW.iconst (v := 2) d9_saysBy_51 ic_2 ?_
    refine VW.imul d9_saysBy_52 ?_
    exact VW.iret d9_saysBy_53 hR (rIw hr)
  · replace hr := im hr c1
    by_cases c9 : x1 = 2
    · replace hr := ip hr c9
      refine VW.lookup (off := 53) 54 d9_saysBy_1 (by decide) (by rw [c9]; decide) (by decide) ?_
      refine VW.aload_n d9_saysBy_54 0 rfl ?_
      refine VW.bipush (v := 30) d9_saysBy_55 bp_30 ?_
      obtain ⟨h11, e10, hr⟩ := bno hr
      refine VW.callV (As := [.int 30]) (st := []) d9_saysBy_57 mi_9_ran cv_9_251 (oo_9 o9_114) ⟨rfl, rfl⟩ (by decide) (dl1r hd) _ rfl (Nat.le_of_ble_eq_true rfl) rfl (c_9_ran (dlr hd hN (Nat.le_of_ble_eq_true rfl)) e10) (kV ?_)
      refine VW.aload_n d9_saysBy_60 0 rfl ?_
      refine VW.iconst (v := 2) d9_saysBy_61 ic_2 ?_
      refine VW.callS (As := [.int 2]) (st := [.ref (γ.2.2.1 114)]) d9_saysBy_62 mi_9_above cs_9_195 (by decide) (dl1r hd) _ rfl (Nat.le_of_ble_eq_true rfl) rfl (c_9_above (dlr hd hN (Nat.le_of_ble_eq_true rfl)) rfl) (kI ?_)
      refine VW.iload_n d9_saysBy_65 2 rfl ?_
      obtain ⟨r13, h14, e12, hr⟩ := bno2 hr
      refine VW.callV (As := [.int (f_9_above 2), .int x2]) (st := []) d9_saysBy_66 mi_9_saysBy cv_9_260 (oo_9 o9_114) ⟨rfl, rfl⟩ (by decide) (dl1r hd) _ rfl (Nat.le_of_ble_eq_true rfl) rfl (H_9_saysBy (dd - 1) (dr hd) (f_9_above 2) x2 h11 _ _ e12) (kI ?_)
      refine VW.istore_n (lo' := [(3, .int r13), (0, .ref (γ.2.2.1 114)), (1, .int x1), (2, .int x2)]) d9_saysBy_69 (by decide) rfl ?_
      refine VW.iload_n d9_saysBy_70 0 rfl ?_
      refine VW.aload_n d9_saysBy_71 1 rfl ?_
      refine VW.aload_n d9_saysBy_72 1 rfl ?_
      obtain ⟨r16, e15, hr⟩ := bno hr
      refine VW.callV (As := []) (st := [.ref (γ.2.2.1 114), .int r13]) d9_saysBy_73 mi_9_own cv_9_257 (oo_9 o9_114) ⟨rfl, rfl⟩ (by decide) (dl1r hd) _ rfl (Nat.le_of_ble_eq_true rfl) rfl (c_9_own (dlr hd hN (Nat.le_of_ble_eq_true rfl)) e15) (kI ?_)
      refine VW.iconst (v := 1) d9_saysBy_76 ic_1 ?_
      obtain ⟨r18, h19, e17, hr⟩ := bno2 hr
      refine VW.callV (As := [.int r16, .int 1]) (st := [.int r13]) d9_saysBy_77 mi_9_endsBy cv_9_263 (oo_9 o9_114) ⟨rfl, rfl⟩ (by decide) (dl1r hd) _ rfl (Nat.le_of_ble_eq_true rfl) rfl (c_9_endsBy (dlr hd hN (Nat.le_of_ble_eq_true rfl)) e17) (kI ?_)
      refine VW.isub d9_saysBy_80 ?_
      exact VW.iret d9_saysBy_81 hR (rIw hr)
    · replace hr := im hr c9
      by_cases c20 : x1 = 5
      · replace hr := ip hr c20
        refine VW.lookup (off := 81) 82 d9_saysBy_1 (by decide) (by rw [c20]; decide) (by decide) ?_
        refine VW.aload_n d9_saysBy_82 0 rfl ?_
        refine VW.bipush (v := 60) d9_saysBy_83 bp_60 ?_
        obtain ⟨h22, e21, hr⟩ := bno hr
        refine VW.callV (As := [.int 60]) (st := []) d9_saysBy_85 mi_9_ran cv_9_251 (oo_9 o9_114) ⟨rfl, rfl⟩ (by decide) (dl1r hd) _ rfl (Nat.le_of_ble_eq_true rfl) rfl (c_9_ran (dlr hd hN (Nat.le_of_ble_eq_true rfl)) e21) (kV ?_)
        refine VW.aload_n d9_saysBy_88 0 rfl ?_
        refine VW.iconst (v := 5) d9_saysBy_89 ic_5 ?_
        refine VW.callS (As := [.int 5]) (st := [.ref (γ.2.2.1 114)]) d9_saysBy_90 mi_9_above cs_9_195 (by decide) (dl1r hd) _ rfl (Nat.le_of_ble_eq_true rfl) rfl (c_9_above (dlr hd hN (Nat.le_of_ble_eq_true rfl)) rfl) (kI ?_)
        refine VW.iload_n d9_saysBy_93 2 rfl ?_
        refine VW.iconst (v := 1) d9_saysBy_94 ic_1 ?_
        refine VW.iadd d9_saysBy_95 ?_
        obtain ⟨r24, h25, e23, hr⟩ := bno2 hr
        refine VW.callV (As := [.int (f_9_above 5), .int (x2 + 1)]) (st := []) d9_saysBy_96 mi_9_saysBy cv_9_260 (oo_9 o9_114) ⟨rfl, rfl⟩ (by decide) (dl1r hd) _ rfl (Nat.le_of_ble_eq_true rfl) rfl (H_9_saysBy (dd - 1) (dr hd) (f_9_above 5) (x2 + 1) h22 _ _ e23) (kI ?_)
        exact VW.iret d9_saysBy_99 hR (rIw hr)
      · replace hr := im hr c20
        refine VW.lookup (off := 99) 100 d9_saysBy_1 (by decide) ((lv_osw c1 (by decide)).trans ((lv_osw c9 (by decide)).trans ((lv_osw c20 (by decide)).trans rfl))) (by decide) ?_
        refine VW.aload_n d9_saysBy_100 0 rfl ?_
        refine VW.iload_n d9_saysBy_101 1 rfl ?_
        refine VW.callS (As := [.int x1]) (st := [.ref (γ.2.2.1 114)]) d9_saysBy_102 mi_9_above cs_9_195 (by decide) (dl1r hd) _ rfl (Nat.le_of_ble_eq_true rfl) rfl (c_9_above (dlr hd hN (Nat.le_of_ble_eq_true rfl)) rfl) (kI ?_)
        refine VW.iload_n d9_saysBy_105 2 rfl ?_
        obtain ⟨r27, h28, e26, hr⟩ := bno2 hr
        refine VW.callV (As := [.int (f_9_above x1), .int x2]) (st := []) d9_saysBy_106 mi_9_saysBy cv_9_260 (oo_9 o9_114) ⟨rfl, rfl⟩ (by decide) (dl1r hd) _ rfl (Nat.le_of_ble_eq_true rfl) rfl (H_9_saysBy (dd - 1) (dr hd) (f_9_above x1) x2 h _ _ e26) (kI ?_)
        exact VW.iret d9_saysBy_109 hR (rIw hr)
set_option maxRecDepth 100000 in
set_option maxHeartbeats 4000000 in
theorem ck_9_saysBy {γ : Gm} : ∀ n : Nat, (∀ (dd : Nat), n + 66 ≤ dd → ∀ (x1 : Int32) (x2 : Int32) (h : Hp) (r : Int32) (hz : Hp), (k_9_saysBy n) x1 x2 h = some (r, hz) → MC γ dd yX9_saysBy cX9_saysBy 4 (some .int) [.ref (γ.2.2.1 114), .int x1, .int x2] h (QI r hz)) := by
  intro n
  induction n with
  | zero =>
    · intro dd hd _ _ _ _ _ hr
      exact nf hr
  | succ n ih =>
    have i0 := ih
    · intro dd hd x1 x2 h r hz hr
      exact cb_9_saysBy (NN := n + 66) (Nat.le_add_left _ _) i0 (by omega) hr

theorem c_9_saysBy {γ : Gm} {dd : Nat} {x1 : Int32} {x2 : Int32} {h : Hp} {r : Int32} {hz : Hp} (hd : 130 ≤ dd) (hr : f_9_saysBy x1 x2 h = some (r, hz)) : MC γ dd yX9_saysBy cX9_saysBy 4 (some .int) [.ref (γ.2.2.1 114), .int x1, .int x2] h (QI r hz) := (ck_9_saysBy RF) dd hd _ _ _ _ _ hr
