set_option maxRecDepth 100000 in
set_option maxHeartbeats 4000000 in
theorem s_9_looksAt_155 {γ : Gm} {ε : En} {dd : Nat} (hd : 71 ≤ dd) {hz : Hp} (hR : RT γ ε none (QV hz)) : ∀ (n : Nat) (x8 : Int32) (h : Hp), f_9_looksAt_155 n x8 h = some hz → VW γ ε cX9_looksAt RX9 9 dd 155 [(0, .ref (γ.2.2.1 114)), (8, .int x8)] [] h := by
  intro n
  induction n with
  | zero =>
    intro x8 h hr
    exact nf hr
  | succ n ih =>
    intro x8 h hr
    rw [f_9_looksAt_155] at hr
    refine VW.iload d9_looksAt_155 1 rfl ?_
    refine VW.aload_n d9_looksAt_157 0 rfl ?_
    refine VW.getI (k := 11) d9_looksAt_158 (oo_9 o9_114) rfl fl_9_151 ck9 ?_
    refine VW.icmp_ge 184 d9_looksAt_161 (by decide) (fun c29 => ?_) (fun c29 => ?_)
    · replace hr := ip hr c29
      exact VW.vret d9_looksAt_184 hR (rV hr)
    · replace hr := im hr c29
      refine VW.aload_n d9_looksAt_164 0 rfl ?_
      refine VW.getR (k := 15) (r := 120) d9_looksAt_165 (oo_9 o9_114) rfl fl_9_25 ck9 ?_
      refine VW.iload d9_looksAt_168 1 rfl ?_
      refine VW.aload_n d9_looksAt_170 0 rfl ?_
      refine VW.getR (k := 12) (r := 119) d9_looksAt_171 (oo_9 o9_114) rfl fl_9_22 ck9 ?_
      refine VW.iload d9_looksAt_174 1 rfl ?_
      obtain ⟨g30, hr⟩ := gdt hr
      refine VW.iald (j := (ci x8)) d9_looksAt_176 (rf_9_12 o9_114) g30 rfl ?_
      obtain ⟨g31, hr⟩ := gdt hr
      obtain ⟨h32, e33, hr⟩ := hlt hr
      refine VW.iast (j := (ci x8)) d9_looksAt_177 (rf_9_15 o9_114) g31 rfl ?_
      refine VW.heq e33 ?_
      refine VW.iinc (w := 1) (lo' := [(8, .int (x8 + 1)), (0, .ref (γ.2.2.1 114))]) d9_looksAt_178 1 rfl ic_1 (by decide) rfl ?_
      refine VW.goto 155 d9_looksAt_181 (by decide) ?_
      exact VW.sub [1, 0] rfl (ih (x8 + 1) h32 hr)
set_option maxRecDepth 100000 in
set_option maxHeartbeats 4000000 in
theorem c_9_looksAt {γ : Gm} {dd : Nat} {x1 : Int32} {x2 : Int32} {x3 : Int32} {h : Hp} {hz : Hp} (hd : 71 ≤ dd) (hr : f_9_looksAt x1 x2 x3 h = some hz) : MC γ dd yX9_looksAt cX9_looksAt 9 none [.ref (γ.2.2.1 114), .int x1, .int x2, .int x3] h (QV hz) := by
  unfold f_9_looksAt at hr
  refine MC.of mi_9_looksAt (Nat.le_of_ble_eq_true rfl) (fun ε hR => ?_)
  show VW γ ε cX9_looksAt RX9 9 dd 0 [(0, .ref (γ.2.2.1 114)), (1, .int x1), (2, .int x2), (3, .int x3)] [] h
  refine VW.iload_n d9_looksAt_0 2 rfl ?_
  refine VW.iconst (v := 2) d9_looksAt_1 ic_2 ?_
  refine VW.icmp_ne 9 d9_looksAt_2 (by decide) (fun c1 => ?_) (fun c1 => ?_)
  · replace hr := ip hr c1
    refine VW.iconst (v := 0) d9_looksAt_5 ic_0 ?_
    refine VW.goto 14 d9_looksAt_6 (by decide) ?_
    refine VW.istore (lo' := [(4, .int 0), (0, .ref (γ.2.2.1 114)), (1, .int x1), (2, .int x2), (3, .int x3)]) d9_looksAt_14 (by decide) rfl ?_
    refine VW.iload_n d9_looksAt_16 3 rfl ?_
    refine VW.iconst (v := 2) d9_looksAt_17 ic_2 ?_
    refine VW.icmp_ne 25 d9_looksAt_18 (by decide) (fun c2 => ?_) (fun c2 => ?_)
    · replace hr := ip hr c2
      refine VW.iconst (v := 0) d9_looksAt_21 ic_0 ?_
      refine VW.goto 30 d9_looksAt_22 (by decide) ?_
      refine VW.istore (lo' := [(5, .int 0), (4, .int 0), (0, .ref (γ.2.2.1 114)), (1, .int x1), (2, .int x2), (3, .int x3)]) d9_looksAt_30 (by decide) rfl ?_
      refine VW.iload_n d9_looksAt_32 4 rfl ?_
      refine VW.if_ne 50 d9_looksAt_33 (by decide) (fun c3 => ?_) (fun c3 => ?_)
      · replace hr := ip hr c3
        refine VW.iload d9_looksAt_36 0 rfl ?_
        refine VW.iload_n d9_looksAt_38 5 rfl ?_
        refine VW.icmp_gt 46 d9_looksAt_39 (by decide) (fun c4 => ?_) (fun c4 => ?_)
        · replace hr := ip hr c4
          refine VW.iconst (v := 0) d9_looksAt_46 ic_0 ?_
          refine VW.goto 74 d9_looksAt_47 (by decide) ?_
          refine VW.istore (lo' := [(6, .int 0), (5, .int 0), (4, .int 0), (0, .ref (γ.2.2.1 114)), (1, .int x1), (2, .int x2), (3, .int x3)]) d9_looksAt_74 (by decide) rfl ?_
          refine VW.iload_n d9_looksAt_76 5 rfl ?_
          refine VW.if_ne 85 d9_looksAt_77 (by decide) (fun c5 => ?_) (fun c5 => ?_)
          · replace hr := ip hr c5
            refine VW.iload d9_looksAt_80 2 rfl ?_
            refine VW.goto 96 d9_looksAt_82 (by decide) ?_
            refine VW.istore (lo' := [(7, .int 0), (6, .int 0), (5, .int 0), (4, .int 0), (0, .ref (γ.2.2.1 114)), (1, .int x1), (2, .int x2), (3, .int x3)]) d9_looksAt_96 (by decide) rfl ?_
            refine VW.aload_n d9_looksAt_98 4 rfl ?_
            refine VW.dup d9_looksAt_99 rfl ?_
            refine VW.getI (k := 17) d9_looksAt_100 (oo_9 o9_114) rfl fl_9_209 ck9 ?_
            refine VW.iload d9_looksAt_103 1 rfl ?_
            refine VW.if_eq 112 d9_looksAt_105 (by decide) (fun c6 => ?_) (fun c6 => ?_)
            · skip
              refine VW.iconst (v := 0) d9_looksAt_112 ic_0 ?_
              refine VW.iadd d9_looksAt_113 ?_
              obtain ⟨h7, e8, hr⟩ := hlt hr
              refine VW.putI (k := 17) d9_looksAt_114 (oo_9 o9_114) rfl fl_9_209 ck9 rfl rfl rfl rfl ?_
              refine VW.heq e8 ?_
              refine VW.iload d9_looksAt_117 1 rfl ?_
              refine VW.if_eq 184 d9_looksAt_119 (by decide) (fun c9 => ?_) (fun c9 => ?_)
              · skip
                exact VW.vret d9_looksAt_184 hR (rV hr)
              · exact (c9 (by decide)).elim
            · exact (c6 (by decide)).elim
          · replace hr := im hr c5
            refine VW.iload_n d9_looksAt_85 5 rfl ?_
            refine VW.iconst (v := 1) d9_looksAt_86 ic_1 ?_
            refine VW.icmp_ne 95 d9_looksAt_87 (by decide) (fun c10 => ?_) (fun c10 => ?_)
            · replace hr := ip hr c10
              refine VW.iload d9_looksAt_90 1 rfl ?_
              refine VW.goto 96 d9_looksAt_92 (by decide) ?_
              refine VW.istore (lo' := [(7, .int 0), (6, .int 0), (5, .int 0), (4, .int 0), (0, .ref (γ.2.2.1 114)), (1, .int x1), (2, .int x2), (3, .int x3)]) d9_looksAt_96 (by decide) rfl ?_
              refine VW.aload_n d9_looksAt_98 4 rfl ?_
              refine VW.dup d9_looksAt_99 rfl ?_
              refine VW.getI (k := 17) d9_looksAt_100 (oo_9 o9_114) rfl fl_9_209 ck9 ?_
              refine VW.iload d9_looksAt_103 1 rfl ?_
              refine VW.if_eq 112 d9_looksAt_105 (by decide) (fun c11 => ?_) (fun c11 => ?_)
              · skip
                refine VW.iconst (v := 0) d9_looksAt_112 ic_0 ?_
                refine VW.iadd d9_looksAt_113 ?_
                obtain ⟨h12, e13, hr⟩ := hlt hr
                refine VW.putI (k := 17) d9_looksAt_114 (oo_9 o9_114) rfl fl_9_209 ck9 rfl rfl rfl rfl ?_
                refine VW.heq e13 ?_
                refine VW.iload d9_looksAt_117 1 rfl ?_
                refine VW.if_eq 184 d9_looksAt_119 (by decide) (fun c14 => ?_) (fun c14 => ?_)
                · skip
                  exact VW.vret d9_looksAt_184 hR (rV hr)
                · exact (c14 (by decide)).elim
              · exact (c11 (by decide)).elim
            · replace hr := im hr c10
              refine VW.iconst (v := 0) d9_looksAt_95 ic_0 ?_
              refine VW.istore (lo' := [(7, .int 0), (6, .int 0), (5, .int 0), (4, .int 0), (0, .ref (γ.2.2.1 114)), (1, .int x1), (2, .int x2), (3, .int x3)]) d9_looksAt_96 (by decide) rfl ?_
              refine VW.aload_n d9_looksAt_98 4 rfl ?_
              refine VW.dup d9_looksAt_99 rfl ?_
              refine VW.getI (k := 17) d9_looksAt_100 (oo_9 o9_114) rfl fl_9_209 ck9 ?_
              refine VW.iload d9_looksAt_103 1 rfl ?_
              refine VW.if_eq 112 d9_looksAt_105 (by decide) (fun c15 => ?_) (fun c15 => ?_)
              · skip
                refine VW.iconst (v := 0) d9_looksAt_112 ic_0 ?_
                refine VW.iadd d9_looksAt_113 ?_
                obtain ⟨h16, e17, hr⟩ := hlt hr
                refine VW.putI (k := 17) d9_looksAt_114 (oo_9 o9_114) rfl fl_9_209 ck9 rfl rfl rfl rfl ?_
                refine VW.heq e17 ?_
                refine VW.iload d9_looksAt_117 1 rfl ?_
                refine VW.if_eq 184 d9_looksAt_119 (by decide) (fun c18 => ?_) (fun c18 => ?_)
                · skip
                  exact VW.vret d9_looksAt_184 hR (rV hr)
                · exact (c18 (by decide)).elim
              · exact (c15 (by decide)).elim
        · replace hr := im hr c4
          refine VW.iconst (v := 1) d9_looksAt_42 ic_1 ?_
          refine VW.goto 74 d9_looksAt_43 (by decide) ?_
          refine VW.istore (lo' := [(6, .int 1), (5, .int 0), (4, .int 0), (0, .ref (γ.2.2.1 114)), (1, .int x1), (2, .int x2), (3, .int x3)]) d9_looksAt_74 (by decide) rfl ?_
          refine VW.iload_n d9_looksAt_76 5 rfl ?_
          refine VW.if_ne 85 d9_looksAt_77 (by decide) (fun c19 => ?_) (fun c19 => ?_)
          · replace hr := ip hr c19
            refine VW.iload d9_looksAt_80 2 rfl ?_
            refine VW.goto 96 d9_looksAt_82 (by decide) ?_
            refine VW.istore (lo' := [(7, .int 0), (6, .int 1), (5, .int 0), (4, .int 0), (0, .ref (γ.2.2.1 114)), (1, .int x1), (2, .int x2), (3, .int x3)]) d9_looksAt_96 (by decide) rfl ?_
            refine VW.aload_n d9_looksAt_98 4 rfl ?_
            refine VW.dup d9_looksAt_99 rfl ?_
            refine VW.getI (k := 17) d9_looksAt_100 (oo_9 o9_114) rfl fl_9_209 ck9 ?_
            refine VW.iload d9_looksAt_103 1 rfl ?_
            refine VW.if_eq 112 d9_looksAt_105 (by decide) (fun c20 => ?_) (fun c20 => ?_)
            · exact absurd c20 (by decide)
            · skip
              refine VW.iconst (v := 1) d9_looksAt_108 ic_1 ?_
              refine VW.goto 113 d9_looksAt_109 (by decide) ?_
              refine VW.iadd d9_looksAt_113 ?_
              obtain ⟨h21, e22, hr⟩ := hlt hr
              refine VW.putI (k := 17) d9_looksAt_114 (oo_9 o9_114) rfl fl_9_209 ck9 rfl rfl rfl rfl ?_
              refine VW.heq e22 ?_
              refine VW.iload d9_looksAt_117 1 rfl ?_
              refine VW.if_eq 184 d9_looksAt_119 (by decide) (fun c23 => ?_) (fun c23 => ?_)
              · exact absurd c23 (by decide)
              · skip
                refine VW.aload_n d9_looksAt_122 4 rfl ?_
                refine VW.getI (k := 14) d9_looksAt_123 (oo_9 o9_114) rfl fl_9_212 ck9 ?_
                refine VW.if_eq 138 d9_looksAt_126 (by decide) (fun c24 => ?_) (fun c24 => ?_)
                · replace hr := ip hr c24
                  refine VW.aload_n d9_looksAt_138 4 rfl ?_
                  refine VW.aload_n d9_looksAt_139 4 rfl ?_
                  refine VW.getI (k := 11) d9_looksAt_140 (oo_9 o9_114) rfl fl_9_151 ck9 ?_
                  obtain ⟨h25, e26, hr⟩ := hlt hr
                  refine VW.putI (k := 14) d9_looksAt_143 (oo_9 o9_114) rfl fl_9_212 ck9 rfl rfl rfl rfl ?_
                  refine VW.heq e26 ?_
                  refine VW.aload_n d9_looksAt_146 4 rfl ?_
                  refine VW.iload d9_looksAt_147 0 rfl ?_
                  obtain ⟨h27, e28, hr⟩ := hlt hr
                  refine VW.putI (k := 16) d9_looksAt_149 (oo_9 o9_114) rfl fl_9_215 ck9 rfl rfl rfl rfl ?_
                  refine VW.heq e28 ?_
                  refine VW.iconst (v := 0) d9_looksAt_152 ic_0 ?_
                  refine VW.istore (lo' := [(8, .int 0), (7, .int 0), (6, .int 1), (5, .int 0), (4, .int 0), (0, .ref (γ.2.2.1 114)), (1, .int x1), (2, .int x2), (3, .int x3)]) d9_looksAt_153 (by decide) rfl ?_
                  exact VW.sub [5, 0] rfl (s_9_looksAt_155 hd hR FU 0 h27 hr)
                · replace hr := im hr c24
                  refine VW.iload d9_looksAt_129 0 rfl ?_
                  refine VW.aload_n d9_looksAt_131 4 rfl ?_
                  refine VW.getI (k := 16) d9_looksAt_132 (oo_9 o9_114) rfl fl_9_215 ck9 ?_
                  refine VW.icmp_ge 184 d9_looksAt_135 (by decide) (fun c34 => ?_) (fun c34 => ?_)
                  · replace hr := ip hr c34
                    exact VW.vret d9_looksAt_184 hR (rV hr)
                  · replace hr := im hr c34
                    refine VW.aload_n d9_looksAt_138 4 rfl ?_
                    refine VW.aload_n d9_looksAt_139 4 rfl ?_
                    refine VW.getI (k := 11) d9_looksAt_140 (oo_9 o9_114) rfl fl_9_151 ck9 ?_
                    obtain ⟨h35, e36, hr⟩ := hlt hr
                    refine VW.putI (k := 14) d9_looksAt_143 (oo_9 o9_114) rfl fl_9_212 ck9 rfl rfl rfl rfl ?_
                    refine VW.heq e36 ?_
                    refine VW.aload_n d9_looksAt_146 4 rfl ?_
                    refine VW.iload d9_looksAt_147 0 rfl ?_
                    obtain ⟨h37, e38, hr⟩ := hlt hr
                    refine VW.putI (k := 16) d9_looksAt_149 (oo_9 o9_114) rfl fl_9_215 ck9 rfl rfl rfl rfl ?_
                    refine VW.heq e38 ?_
                    refine VW.iconst (v := 0) d9_looksAt_152 ic_0 ?_
                    refine VW.istore (lo' := [(8, .int 0), (7, .int 0), (6, .int 1), (5, .int 0), (4, .int 0), (0, .ref (γ.2.2.1 114)), (1, .int x1), (2, .int x2), (3, .int x3)]) d9_looksAt_153 (by decide) rfl ?_
                    exact VW.sub [5, 0] rfl (s_9_looksAt_155 hd hR FU 0 h37 hr)
          · replace hr := im hr c19
            refine VW.iload_n d9_looksAt_85 5 rfl ?_
            refine VW.iconst (v := 1) d9_looksAt_86 ic_1 ?_
            refine VW.icmp_ne 95 d9_looksAt_87 (by decide) (fun c39 => ?_) (fun c39 => ?_)
            · replace hr := ip hr c39
              refine VW.iload d9_looksAt_90 1 rfl ?_
              refine VW.goto 96 d9_looksAt_92 (by decide) ?_
              refine VW.istore (lo' := [(7, .int 0), (6, .int 1), (5, .int 0), (4, .int 0), (0, .ref (γ.2.2.1 114)), (1, .int x1), (2, .int x2), (3, .int x3)]) d9_looksAt_96 (by decide) rfl ?_
              refine VW.aload_n d9_looksAt_98 4 rfl ?_
              refine VW.dup d9_looksAt_99 rfl ?_
              refine VW.getI (k := 17) d9_looksAt_100 (oo_9 o9_114) rfl fl_9_209 ck9 ?_
              refine VW.iload d9_looksAt_103 1 rfl ?_
              refine VW.if_eq 112 d9_looksAt_105 (by decide) (fun c40 => ?_) (fun c40 => ?_)
              · exact absurd c40 (by decide)
              · skip
                refine VW.iconst (v := 1) d9_looksAt_108 ic_1 ?_
                refine VW.goto 113 d9_looksAt_109 (by decide) ?_
                refine VW.iadd d9_looksAt_113 ?_
                obtain ⟨h41, e42, hr⟩ := hlt hr
                refine VW.putI (k := 17) d9_looksAt_114 (oo_9 o9_114) rfl fl_9_209 ck9 rfl rfl rfl rfl ?_
                refine VW.heq e42 ?_
                refine VW.iload d9_looksAt_117 1 rfl ?_
                refine VW.if_eq 184 d9_looksAt_119 (by decide) (fun c43 => ?_) (fun c43 => ?_)
                · exact absurd c43 (by decide)
                · skip
                  refine VW.aload_n d9_looksAt_122 4 rfl ?_
                  refine VW.getI (k := 14) d9_looksAt_123 (oo_9 o9_114) rfl fl_9_212 ck9 ?_
                  refine VW.if_eq 138 d9_looksAt_126 (by decide) (fun c44 => ?_) (fun c44 => ?_)
                  · replace hr := ip hr c44
                    refine VW.aload_n d9_looksAt_138 4 rfl ?_
                    refine VW.aload_n d9_looksAt_139 4 rfl ?_
                    refine VW.getI (k := 11) d9_looksAt_140 (oo_9 o9_114) rfl fl_9_151 ck9 ?_
                    obtain ⟨h45, e46, hr⟩ := hlt hr
                    refine VW.putI (k := 14) d9_looksAt_143 (oo_9 o9_114) rfl fl_9_212 ck9 rfl rfl rfl rfl ?_
                    refine VW.heq e46 ?_
                    refine VW.aload_n d9_looksAt_146 4 rfl ?_
                    refine VW.iload d9_looksAt_147 0 rfl ?_
                    obtain ⟨h47, e48, hr⟩ := hlt hr
                    refine VW.putI (k := 16) d9_looksAt_149 (oo_9 o9_114) rfl fl_9_215 ck9 rfl rfl rfl rfl ?_
                    refine VW.heq e48 ?_
                    refine VW.iconst (v := 0) d9_looksAt_152 ic_0 ?_
                    refine VW.istore (lo' := [(8, .int 0), (7, .int 0), (6, .int 1), (5, .int 0), (4, .int 0), (0, .ref (γ.2.2.1 114)), (1, .int x1), (2, .int x2), (3, .int x3)]) d9_looksAt_153 (by decide) rfl ?_
                    exact VW.sub [5, 0] rfl (s_9_looksAt_155 hd hR FU 0 h47 hr)
                  · replace hr := im hr c44
                    refine VW.iload d9_looksAt_129 0 rfl ?_
                    refine VW.aload_n d9_looksAt_131 4 rfl ?_
                    refine VW.getI (k := 16) d9_looksAt_132 (oo_9 o9_114) rfl fl_9_215 ck9 ?_
                    refine VW.icmp_ge 184 d9_looksAt_135 (by decide) (fun c49 => ?_) (fun c49 => ?_)
                    · replace hr := ip hr c49
                      exact VW.vret d9_looksAt_184 hR (rV hr)
                    · replace hr := im hr c49
                      refine VW.aload_n d9_looksAt_138 4 rfl ?_
                      refine VW.aload_n d9_looksAt_139 4 rfl ?_
                      refine VW.getI (k := 11) d9_looksAt_140 (oo_9 o9_114) rfl fl_9_151 ck9 ?_
                      obtain ⟨h50, e51, hr⟩ := hlt hr
                      refine VW.putI (k := 14) d9_looksAt_143 (oo_9 o9_114) rfl fl_9_212 ck9 rfl rfl rfl rfl ?_
                      refine VW.heq e51 ?_
                      refine VW.aload_n d9_looksAt_146 4 rfl ?_
                      refine VW.iload d9_looksAt_147 0 rfl ?_
                      obtain ⟨h52, e53, hr⟩ := hlt hr
                      refine VW.putI (k := 16) d9_looksAt_149 (oo_9 o9_114) rfl fl_9_215 ck9 rfl rfl rfl rfl ?_
                      refine VW.heq e53 ?_
                      refine VW.iconst (v := 0) d9_looksAt_152 ic_0 ?_
                      refine VW.istore (lo' := [(8, .int 0), (7, .int 0), (6, .int 1), (5, .int 0), (4, .int 0), (0, .ref (γ.2.2.1 114)), (1, .int x1), (2, .int x2), (3, .int x3)]) d9_looksAt_153 (by decide) rfl ?_
                      exact VW.sub [5, 0] rfl (s_9_looksAt_155 hd hR FU 0 h52 hr)
            · replace hr := im hr c39
              refine VW.iconst (v := 0) d9_looksAt_95 ic_0 ?_
              refine VW.istore (lo' := [(7, .int 0), (6, .int 1), (5, .int 0), (4, .int 0), (0, .ref (γ.2.2.1 114)), (1, .int x1), (2, .int x2), (3, .int x3)]) d9_looksAt_96 (by decide) rfl ?_
              refine VW.aload_n d9_looksAt_98 4 rfl ?_
              refine VW.dup d9_looksAt_99 rfl ?_
              refine VW.getI (k := 17) d9_looksAt_100 (oo_9 o9_114) rfl fl_9_209 ck9 ?_
              refine VW.iload d9_looksAt_103 1 rfl ?_
              refine VW.if_eq 112 d9_looksAt_105 (by decide) (fun c54 => ?_) (fun c54 => ?_)
              · exact absurd c54 (by decide)
              · skip
                refine VW.iconst (v := 1) d9_looksAt_108 ic_1 ?_
                refine VW.goto 113 d9_looksAt_109 (by decide) ?_
                refine VW.iadd d9_looksAt_113 ?_
                obtain ⟨h55, e56, hr⟩ := hlt hr
                refine VW.putI (k := 17) d9_looksAt_114 (oo_9 o9_114) rfl fl_9_209 ck9 rfl rfl rfl rfl ?_
                refine VW.heq e56 ?_
                refine VW.iload d9_looksAt_117 1 rfl ?_
                refine VW.if_eq 184 d9_looksAt_119 (by decide) (fun c57 => ?_) (fun c57 => ?_)
                · exact absurd c57 (by decide)
                · skip
                  refine VW.aload_n d9_looksAt_122 4 rfl ?_
                  refine VW.getI (k := 14) d9_looksAt_123 (oo_9 o9_114) rfl fl_9_212 ck9 ?_
                  refine VW.if_eq 138 d9_looksAt_126 (by decide) (fun c58 => ?_) (fun c58 => ?_)
                  · replace hr := ip hr c58
                    refine VW.aload_n d9_looksAt_138 4 rfl ?_
                    refine VW.aload_n d9_looksAt_139 4 rfl ?_
                    refine VW.getI (k := 11) d9_looksAt_140 (oo_9 o9_114) rfl fl_9_151 ck9 ?_
                    obtain ⟨h59, e60, hr⟩ := hlt hr
                    refine VW.putI (k := 14) d9_looksAt_143 (oo_9 o9_114) rfl fl_9_212 ck9 rfl rfl rfl rfl ?_
                    refine VW.heq e60 ?_
                    refine VW.aload_n d9_looksAt_146 4 rfl ?_
                    refine VW.iload d9_looksAt_147 0 rfl ?_
                    obtain ⟨h61, e62, hr⟩ := hlt hr
                    refine VW.putI (k := 16) d9_looksAt_149 (oo_9 o9_114) rfl fl_9_215 ck9 rfl rfl rfl rfl ?_
                    refine VW.heq e62 ?_
                    refine VW.iconst (v := 0) d9_looksAt_152 ic_0 ?_
                    refine VW.istore (lo' := [(8, .int 0), (7, .int 0), (6, .int 1), (5, .int 0), (4, .int 0), (0, .ref (γ.2.2.1 114)), (1, .int x1), (2, .int x2), (3, .int x3)]) d9_looksAt_153 (by decide) rfl ?_
                    exact VW.sub [5, 0] rfl (s_9_looksAt_155 hd hR FU 0 h61 hr)
                  · replace hr := im hr c58
                    refine VW.iload d9_looksAt_129 0 rfl ?_
                    refine VW.aload_n d9_looksAt_131 4 rfl ?_
                    refine VW.getI (k := 16) d9_looksAt_132 (oo_9 o9_114) rfl fl_9_215 ck9 ?_
                    refine VW.icmp_ge 184 d9_looksAt_135 (by decide) (fun c63 => ?_) (fun c63 => ?_)
                    · replace hr := ip hr c63
                      exact VW.vret d9_looksAt_184 hR (rV hr)
                    · replace hr := im hr c63
                      refine VW.aload_n d9_looksAt_138 4 rfl ?_
                      refine VW.aload_n d9_looksAt_139 4 rfl ?_
                      refine VW.getI (k := 11) d9_looksAt_140 (oo_9 o9_114) rfl fl_9_151 ck9 ?_
                      obtain ⟨h64, e65, hr⟩ := hlt hr
                      refine VW.putI (k := 14) d9_looksAt_143 (oo_9 o9_114) rfl fl_9_212 ck9 rfl rfl rfl rfl ?_
                      refine VW.heq e65 ?_
                      refine VW.aload_n d9_looksAt_146 4 rfl ?_
                      refine VW.iload d9_looksAt_147 0 rfl ?_
                      obtain ⟨h66, e67, hr⟩ := hlt hr
                      refine VW.putI (k := 16) d9_looksAt_149 (oo_9 o9_114) rfl fl_9_215 ck9 rfl rfl rfl rfl ?_
                      refine VW.heq e67 ?_
                      refine VW.iconst (v := 0) d9_looksAt_152 ic_0 ?_
                      refine VW.istore (lo' := [(8, .int 0), (7, .int 0), (6, .int 1), (5, .int 0), (4, .int 0), (0, .ref (γ.2.2.1 114)), (1, .int x1), (2, .int x2), (3, .int x3)]) d9_looksAt_153 (by decide) rfl ?_
                      exact VW.sub [5, 0] rfl (s_9_looksAt_155 hd hR FU 0 h66 hr)
      · replace hr := im hr c3
        refine VW.iload_n d9_looksAt_50 4 rfl ?_
        refine VW.iconst (v := 1) d9_looksAt_51 ic_1 ?_
        refine VW.icmp_ne 69 d9_looksAt_52 (by decide) (fun c68 => ?_) (fun c68 => ?_)
        · replace hr := ip hr c68
          refine VW.iload d9_looksAt_55 1 rfl ?_
          refine VW.iload_n d9_looksAt_57 5 rfl ?_
          refine VW.icmp_gt 65 d9_looksAt_58 (by decide) (fun c69 => ?_) (fun c69 => ?_)
          · replace hr := ip hr c69
            refine VW.iconst (v := 0) d9_looksAt_65 ic_0 ?_
            refine VW.goto 74 d9_looksAt_66 (by decide) ?_
            refine VW.istore (lo' := [(6, .int 0), (5, .int 0), (4, .int 0), (0, .ref (γ.2.2.1 114)), (1, .int x1), (2, .int x2), (3, .int x3)]) d9_looksAt_74 (by decide) rfl ?_
            refine VW.iload_n d9_looksAt_76 5 rfl ?_
            refine VW.if_ne 85 d9_looksAt_77 (by decide) (fun c70 => ?_) (fun c70 => ?_)
            · replace hr := ip hr c70
              refine VW.iload d9_looksAt_80 2 rfl ?_
              refine VW.goto 96 d9_looksAt_82 (by decide) ?_
              refine VW.istore (lo' := [(7, .int 0), (6, .int 0), (5, .int 0), (4, .int 0), (0, .ref (γ.2.2.1 114)), (1, .int x1), (2, .int x2), (3, .int x3)]) d9_looksAt_96 (by decide) rfl ?_
              refine VW.aload_n d9_looksAt_98 4 rfl ?_
              refine VW.dup d9_looksAt_99 rfl ?_
              refine VW.getI (k := 17) d9_looksAt_100 (oo_9 o9_114) rfl fl_9_209 ck9 ?_
              refine VW.iload d9_looksAt_103 1 rfl ?_
              refine VW.if_eq 112 d9_looksAt_105 (by decide) (fun c71 => ?_) (fun c71 => ?_)
              · skip
                refine VW.iconst (v := 0) d9_looksAt_112 ic_0 ?_
                refine VW.iadd d9_looksAt_113 ?_
                obtain ⟨h72, e73, hr⟩ := hlt hr
                refine VW.putI (k := 17) d9_looksAt_114 (oo_9 o9_114) rfl fl_9_209 ck9 rfl rfl rfl rfl ?_
                refine VW.heq e73 ?_
                refine VW.iload d9_looksAt_117 1 rfl ?_
                refine VW.if_eq 184 d9_looksAt_119 (by decide) (fun c74 => ?_) (fun c74 => ?_)
                · skip
                  exact VW.vret d9_looksAt_184 hR (rV hr)
                · exact (c74 (by decide)).elim
              · exact (c71 (by decide)).elim
            · replace hr := im hr c70
              refine VW.iload_n d9_looksAt_85 5 rfl ?_
              refine VW.iconst (v := 1) d9_looksAt_86 ic_1 ?_
              refine VW.icmp_ne 95 d9_looksAt_87 (by decide) (fun c75 => ?_) (fun c75 => ?_)
              · replace hr := ip hr c75
                refine VW.iload d9_looksAt_90 1 rfl ?_
                refine VW.goto 96 d9_looksAt_92 (by decide) ?_
                refine VW.istore (lo' := [(7, .int 0), (6, .int 0), (5, .int 0), (4, .int 0), (0, .ref (γ.2.2.1 114)), (1, .int x1), (2, .int x2), (3, .int x3)]) d9_looksAt_96 (by decide) rfl ?_
                refine VW.aload_n d9_looksAt_98 4 rfl ?_
                refine VW.dup d9_looksAt_99 rfl ?_
                refine VW.getI (k := 17) d9_looksAt_100 (oo_9 o9_114) rfl fl_9_209 ck9 ?_
                refine VW.iload d9_looksAt_103 1 rfl ?_
                refine VW.if_eq 112 d9_looksAt_105 (by decide) (fun c76 => ?_) (fun c76 => ?_)
                · skip
                  refine VW.iconst (v := 0) d9_looksAt_112 ic_0 ?_
                  refine VW.iadd d9_looksAt_113 ?_
                  obtain ⟨h77, e78, hr⟩ := hlt hr
                  refine VW.putI (k := 17) d9_looksAt_114 (oo_9 o9_114) rfl fl_9_209 ck9 rfl rfl rfl rfl ?_
                  refine VW.heq e78 ?_
                  refine VW.iload d9_looksAt_117 1 rfl ?_
                  refine VW.if_eq 184 d9_looksAt_119 (by decide) (fun c79 => ?_) (fun c79 => ?_)
                  · skip
                    exact VW.vret d9_looksAt_184 hR (rV hr)
                  · exact (c79 (by decide)).elim
                · exact (c76 (by decide)).elim
              · replace hr := im hr c75
                refine VW.iconst (v := 0) d9_looksAt_95 ic_0 ?_
                refine VW.istore (lo' := [(7, .int 0), (6, .int 0), (5, .int 0), (4, .int 0), (0, .ref (γ.2.2.1 114)), (1, .int x1), (2, .int x2), (3, .int x3)]) d9_looksAt_96 (by decide) rfl ?_
                refine VW.aload_n d9_looksAt_98 4 rfl ?_
                refine VW.dup d9_looksAt_99 rfl ?_
                refine VW.getI (k := 17) d9_looksAt_100 (oo_9 o9_114) rfl fl_9_209 ck9 ?_
                refine VW.iload d9_looksAt_103 1 rfl ?_
                refine VW.if_eq 112 d9_looksAt_105 (by decide) (fun c80 => ?_) (fun c80 => ?_)
                · skip
                  refine VW.iconst (v := 0) d9_looksAt_112 ic_0 ?_
                  refine VW.iadd d9_looksAt_113 ?_
                  obtain ⟨h81, e82, hr⟩ := hlt hr
                  refine VW.putI (k := 17) d9_looksAt_114 (oo_9 o9_114) rfl fl_9_209 ck9 rfl rfl rfl rfl ?_
                  refine VW.heq e82 ?_
                  refine VW.iload d9_looksAt_117 1 rfl ?_
                  refine VW.if_eq 184 d9_looksAt_119 (by decide) (fun c83 => ?_) (fun c83 => ?_)
                  · skip
                    exact VW.vret d9_looksAt_184 hR (rV hr)
                  · exact (c83 (by decide)).elim
                · exact (c80 (by decide)).elim
          · replace hr := im hr c69
            refine VW.iconst (v := 1) d9_looksAt_61 ic_1 ?_
            refine VW.goto 74 d9_looksAt_62 (by decide) ?_
            refine VW.istore (lo' := [(6, .int 1), (5, .int 0), (4, .int 0), (0, .ref (γ.2.2.1 114)), (1, .int x1), (2, .int x2), (3, .int x3)]) d9_looksAt_74 (by decide) rfl ?_
            refine VW.iload_n d9_looksAt_76 5 rfl ?_
            refine VW.if_ne 85 d9_looksAt_77 (by decide) (fun c84 => ?_) (fun c84 => ?_)
            · replace hr := ip hr c84
              refine VW.iload d9_looksAt_80 2 rfl ?_
              refine VW.goto 96 d9_looksAt_82 (by decide) ?_
              refine VW.istore (lo' := [(7, .int 0), (6, .int 1), (5, .int 0), (4, .int 0), (0, .ref (γ.2.2.1 114)), (1, .int x1), (2, .int x2), (3, .int x3)]) d9_looksAt_96 (by decide) rfl ?_
              refine VW.aload_n d9_looksAt_98 4 rfl ?_
              refine VW.dup d9_looksAt_99 rfl ?_
              refine VW.getI (k := 17) d9_looksAt_100 (oo_9 o9_114) rfl fl_9_209 ck9 ?_
              refine VW.iload d9_looksAt_103 1 rfl ?_
              refine VW.if_eq 112 d9_looksAt_105 (by decide) (fun c85 => ?_) (fun c85 => ?_)
              · exact absurd c85 (by decide)
              · skip
                refine VW.iconst (v := 1) d9_looksAt_108 ic_1 ?_
                refine VW.goto 113 d9_looksAt_109 (by decide) ?_
                refine VW.iadd d9_looksAt_113 ?_
                obtain ⟨h86, e87, hr⟩ := hlt hr
                refine VW.putI (k := 17) d9_looksAt_114 (oo_9 o9_114) rfl fl_9_209 ck9 rfl rfl rfl rfl ?_
                refine VW.heq e87 ?_
                refine VW.iload d9_looksAt_117 1 rfl ?_
                refine VW.if_eq 184 d9_looksAt_119 (by decide) (fun c88 => ?_) (fun c88 => ?_)
                · exact absurd c88 (by decide)
                · skip
                  refine VW.aload_n d9_looksAt_122 4 rfl ?_
                  refine VW.getI (k := 14) d9_looksAt_123 (oo_9 o9_114) rfl fl_9_212 ck9 ?_
                  refine VW.if_eq 138 d9_looksAt_126 (by decide) (fun c89 => ?_) (fun c89 => ?_)
                  · replace hr := ip hr c89
                    refine VW.aload_n d9_looksAt_138 4 rfl ?_
                    refine VW.aload_n d9_looksAt_139 4 rfl ?_
                    refine VW.getI (k := 11) d9_looksAt_140 (oo_9 o9_114) rfl fl_9_151 ck9 ?_
                    obtain ⟨h90, e91, hr⟩ := hlt hr
                    refine VW.putI (k := 14) d9_looksAt_143 (oo_9 o9_114) rfl fl_9_212 ck9 rfl rfl rfl rfl ?_
                    refine VW.heq e91 ?_
                    refine VW.aload_n d9_looksAt_146 4 rfl ?_
                    refine VW.iload d9_looksAt_147 0 rfl ?_
                    obtain ⟨h92, e93, hr⟩ := hlt hr
                    refine VW.putI (k := 16) d9_looksAt_149 (oo_9 o9_114) rfl fl_9_215 ck9 rfl rfl rfl rfl ?_
                    refine VW.heq e93 ?_
                    refine VW.iconst (v := 0) d9_looksAt_152 ic_0 ?_
                    refine VW.istore (lo' := [(8, .int 0), (7, .int 0), (6, .int 1), (5, .int 0), (4, .int 0), (0, .ref (γ.2.2.1 114)), (1, .int x1), (2, .int x2), (3, .int x3)]) d9_looksAt_153 (by decide) rfl ?_
                    exact VW.sub [5, 0] rfl (s_9_looksAt_155 hd hR FU 0 h92 hr)
                  · replace hr := im hr c89
                    refine VW.iload d9_looksAt_129 0 rfl ?_
                    refine VW.aload_n d9_looksAt_131 4 rfl ?_
                    refine VW.getI (k := 16) d9_looksAt_132 (oo_9 o9_114) rfl fl_9_215 ck9 ?_
                    refine VW.icmp_ge 184 d9_looksAt_135 (by decide) (fun c94 => ?_) (fun c94 => ?_)
                    · replace hr := ip hr c94
                      exact VW.vret d9_looksAt_184 hR (rV hr)
                    · replace hr := im hr c94
                      refine VW.aload_n d9_looksAt_138 4 rfl ?_
                      refine VW.aload_n d9_looksAt_139 4 rfl ?_
                      refine VW.getI (k := 11) d9_looksAt_140 (oo_9 o9_114) rfl fl_9_151 ck9 ?_
                      obtain ⟨h95, e96, hr⟩ := hlt hr
                      refine VW.putI (k := 14) d9_looksAt_143 (oo_9 o9_114) rfl fl_9_212 ck9 rfl rfl rfl rfl ?_
                      refine VW.heq e96 ?_
                      refine VW.aload_n d9_looksAt_146 4 rfl ?_
                      refine VW.iload d9_looksAt_147 0 rfl ?_
                      obtain ⟨h97, e98, hr⟩ := hlt hr
                      refine VW.putI (k := 16) d9_looksAt_149 (oo_9 o9_114) rfl fl_9_215 ck9 rfl rfl rfl rfl ?_
                      refine VW.heq e98 ?_
                      refine VW.iconst (v := 0) d9_looksAt_152 ic_0 ?_
                      refine VW.istore (lo' := [(8, .int 0), (7, .int 0), (6, .int 1), (5, .int 0), (4, .int 0), (0, .ref (γ.2.2.1 114)), (1, .int x1), (2, .int x2), (3, .int x3)]) d9_looksAt_153 (by decide) rfl ?_
                      exact VW.sub [5, 0] rfl (s_9_looksAt_155 hd hR FU 0 h97 hr)
            · replace hr := im hr c84
              refine VW.iload_n d9_looksAt_85 5 rfl ?_
              refine VW.iconst (v := 1) d9_looksAt_86 ic_1 ?_
              refine VW.icmp_ne 95 d9_looksAt_87 (by decide) (fun c99 => ?_) (fun c99 => ?_)
              · replace hr := ip hr c99
                refine VW.iload d9_looksAt_90 1 rfl ?_
                refine VW.goto 96 d9_looksAt_92 (by decide) ?_
                refine VW.istore (lo' := [(7, .int 0), (6, .int 1), (5, .int 0), (4, .int 0), (0, .ref (γ.2.2.1 114)), (1, .int x1), (2, .int x2), (3, .int x3)]) d9_looksAt_96 (by decide) rfl ?_
                refine VW.aload_n d9_looksAt_98 4 rfl ?_
                refine VW.dup d9_looksAt_99 rfl ?_
                refine VW.getI (k := 17) d9_looksAt_100 (oo_9 o9_114) rfl fl_9_209 ck9 ?_
                refine VW.iload d9_looksAt_103 1 rfl ?_
                refine VW.if_eq 112 d9_looksAt_105 (by decide) (fun c100 => ?_) (fun c100 => ?_)
                · exact absurd c100 (by decide)
                · skip
                  refine VW.iconst (v := 1) d9_looksAt_108 ic_1 ?_
                  refine VW.goto 113 d9_looksAt_109 (by decide) ?_
                  refine VW.iadd d9_looksAt_113 ?_
                  obtain ⟨h101, e102, hr⟩ := hlt hr
                  refine VW.putI (k := 17) d9_looksAt_114 (oo_9 o9_114) rfl fl_9_209 ck9 rfl rfl rfl rfl ?_
                  refine VW.heq e102 ?_
                  refine VW.iload d9_looksAt_117 1 rfl ?_
                  refine VW.if_eq 184 d9_looksAt_119 (by decide) (fun c103 => ?_) (fun c103 => ?_)
                  · exact absurd c103 (by decide)
                  · skip
                    refine VW.aload_n d9_looksAt_122 4 rfl ?_
                    refine VW.getI (k := 14) d9_looksAt_123 (oo_9 o9_114) rfl fl_9_212 ck9 ?_
                    refine VW.if_eq 138 d9_looksAt_126 (by decide) (fun c104 => ?_) (fun c104 => ?_)
                    · replace hr := ip hr c104
                      refine VW.aload_n d9_looksAt_138 4 rfl ?_
                      refine VW.aload_n d9_looksAt_139 4 rfl ?_
                      refine VW.getI (k := 11) d9_looksAt_140 (oo_9 o9_114) rfl fl_9_151 ck9 ?_
                      obtain ⟨h105, e106, hr⟩ := hlt hr
                      refine VW.putI (k := 14) d9_looksAt_143 (oo_9 o9_114) rfl fl_9_212 ck9 rfl rfl rfl rfl ?_
                      refine VW.heq e106 ?_
                      refine VW.aload_n d9_looksAt_146 4 rfl ?_
                      refine VW.iload d9_looksAt_147 0 rfl ?_
                      obtain ⟨h107, e108, hr⟩ := hlt hr
                      refine VW.putI (k := 16) d9_looksAt_149 (oo_9 o9_114) rfl fl_9_215 ck9 rfl rfl rfl rfl ?_
                      refine VW.heq e108 ?_
                      refine VW.iconst (v := 0) d9_looksAt_152 ic_0 ?_
                      refine VW.istore (lo' := [(8, .int 0), (7, .int 0), (6, .int 1), (5, .int 0), (4, .int 0), (0, .ref (γ.2.2.1 114)), (1, .int x1), (2, .int x2), (3, .int x3)]) d9_looksAt_153 (by decide) rfl ?_
                      exact VW.sub [5, 0] rfl (s_9_looksAt_155 hd hR FU 0 h107 hr)
                    · replace hr := im hr c104
                      refine VW.iload d9_looksAt_129 0 rfl ?_
                      refine VW.aload_n d9_looksAt_131 4 rfl ?_
                      refine VW.getI (k := 16) d9_looksAt_132 (oo_9 o9_114) rfl fl_9_215 ck9 ?_
                      refine VW.icmp_ge 184 d9_looksAt_135 (by decide) (fun c109 => ?_) (fun c109 => ?_)
                      · replace hr := ip hr c109
                        exact VW.vret d9_looksAt_184 hR (rV hr)
                      · replace hr := im hr c109
                        refine VW.aload_n d9_looksAt_138 4 rfl ?_
                        refine VW.aload_n d9_looksAt_139 4 rfl ?_
                        refine VW.getI (k := 11) d9_looksAt_140 (oo_9 o9_114) rfl fl_9_151 ck9 ?_
                        obtain ⟨h110, e111, hr⟩ := hlt hr
                        refine VW.putI (k := 14) d9_looksAt_143 (oo_9 o9_114) rfl fl_9_212 ck9 rfl rfl rfl rfl ?_
                        refine VW.heq e111 ?_
                        refine VW.aload_n d9_looksAt_146 4 rfl ?_
                        refine VW.iload d9_looksAt_147 0 rfl ?_
                        obtain ⟨h112, e113, hr⟩ := hlt hr
                        refine VW.putI (k := 16) d9_looksAt_149 (oo_9 o9_114) rfl fl_9_215 ck9 rfl rfl rfl rfl ?_
                        refine VW.heq e113 ?_
                        refine VW.iconst (v := 0) d9_looksAt_152 ic_0 ?_
                        refine VW.istore (lo' := [(8, .int 0), (7, .int 0), (6, .int 1), (5, .int 0), (4, .int 0), (0, .ref (γ.2.2.1 114)), (1, .int x1), (2, .int x2), (3, .int x3)]) d9_looksAt_153 (by decide) rfl ?_
                        exact VW.sub [5, 0] rfl (s_9_looksAt_155 hd hR FU 0 h112 hr)
              · replace hr := im hr c99
                refine VW.iconst (v := 0) d9_looksAt_95 ic_0 ?_
                refine VW.istore (lo' := [(7, .int 0), (6, .int 1), (5, .int 0), (4, .int 0), (0, .ref (γ.2.2.1 114)), (1, .int x1), (2, .int x2), (3, .int x3)]) d9_looksAt_96 (by decide) rfl ?_
                refine VW.aload_n d9_looksAt_98 4 rfl ?_
                refine VW.dup d9_looksAt_99 rfl ?_
                refine VW.getI (k := 17) d9_looksAt_100 (oo_9 o9_114) rfl fl_9_209 ck9 ?_
                refine VW.iload d9_looksAt_103 1 rfl ?_
                refine VW.if_eq 112 d9_looksAt_105 (by decide) (fun c114 => ?_) (fun c114 => ?_)
                · exact absurd c114 (by decide)
                · skip
                  refine VW.iconst (v := 1) d9_looksAt_108 ic_1 ?_
                  refine VW.goto 113 d9_looksAt_109 (by decide) ?_
                  refine VW.iadd d9_looksAt_113 ?_
                  obtain ⟨h115, e116, hr⟩ := hlt hr
                  refine VW.putI (k := 17) d9_looksAt_114 (oo_9 o9_114) rfl fl_9_209 ck9 rfl rfl rfl rfl ?_
                  refine VW.heq e116 ?_
                  refine VW.iload d9_looksAt_117 1 rfl ?_
                  refine VW.if_eq 184 d9_looksAt_119 (by decide) (fun c117 => ?_) (fun c117 => ?_)
                  · exact absurd c117 (by decide)
                  · skip
                    refine VW.aload_n d9_looksAt_122 4 rfl ?_
                    refine VW.getI (k := 14) d9_looksAt_123 (oo_9 o9_114) rfl fl_9_212 ck9 ?_
                    refine VW.if_eq 138 d9_looksAt_126 (by decide) (fun c118 => ?_) (fun c118 => ?_)
                    · replace hr := ip hr c118
                      refine VW.aload_n d9_looksAt_138 4 rfl ?_
                      refine VW.aload_n d9_looksAt_139 4 rfl ?_
                      refine VW.getI (k := 11) d9_looksAt_140 (oo_9 o9_114) rfl fl_9_151 ck9 ?_
                      obtain ⟨h119, e120, hr⟩ := hlt hr
                      refine VW.putI (k := 14) d9_looksAt_143 (oo_9 o9_114) rfl fl_9_212 ck9 rfl rfl rfl rfl ?_
                      refine VW.heq e120 ?_
                      refine VW.aload_n d9_looksAt_146 4 rfl ?_
                      refine VW.iload d9_looksAt_147 0 rfl ?_
                      obtain ⟨h121, e122, hr⟩ := hlt hr
                      refine VW.putI (k := 16) d9_looksAt_149 (oo_9 o9_114) rfl fl_9_215 ck9 rfl rfl rfl rfl ?_
                      refine VW.heq e122 ?_
                      refine VW.iconst (v := 0) d9_looksAt_152 ic_0 ?_
                      refine VW.istore (lo' := [(8, .int 0), (7, .int 0), (6, .int 1), (5, .int 0), (4, .int 0), (0, .ref (γ.2.2.1 114)), (1, .int x1), (2, .int x2), (3, .int x3)]) d9_looksAt_153 (by decide) rfl ?_
                      exact VW.sub [5, 0] rfl (s_9_looksAt_155 hd hR FU 0 h121 hr)
                    · replace hr := im hr c118
                      refine VW.iload d9_looksAt_129 0 rfl ?_
                      refine VW.aload_n d9_looksAt_131 4 rfl ?_
                      refine VW.getI (k := 16) d9_looksAt_132 (oo_9 o9_114) rfl fl_9_215 ck9 ?_
                      refine VW.icmp_ge 184 d9_looksAt_135 (by decide) (fun c123 => ?_) (fun c123 => ?_)
                      · replace hr := ip hr c123
                        exact VW.vret d9_looksAt_184 hR (rV hr)
                      · replace hr := im hr c123
                        refine VW.aload_n d9_looksAt_138 4 rfl ?_
                        refine VW.aload_n d9_looksAt_139 4 rfl ?_
                        refine VW.getI (k := 11) d9_looksAt_140 (oo_9 o9_114) rfl fl_9_151 ck9 ?_
                        obtain ⟨h124, e125, hr⟩ := hlt hr
                        refine VW.putI (k := 14) d9_looksAt_143 (oo_9 o9_114) rfl fl_9_212 ck9 rfl rfl rfl rfl ?_
                        refine VW.heq e125 ?_
                        refine VW.aload_n d9_looksAt_146 4 rfl ?_
                        refine VW.iload d9_looksAt_147 0 rfl ?_
                        obtain ⟨h126, e127, hr⟩ := hlt hr
                        refine VW.putI (k := 16) d9_looksAt_149 (oo_9 o9_114) rfl fl_9_215 ck9 rfl rfl rfl rfl ?_
                        refine VW.heq e127 ?_
                        refine VW.iconst (v := 0) d9_looksAt_152 ic_0 ?_
                        refine VW.istore (lo' := [(8, .int 0), (7, .int 0), (6, .int 1), (5, .int 0), (4, .int 0), (0, .ref (γ.2.2.1 114)), (1, .int x1), (2, .int x2), (3, .int x3)]) d9_looksAt_153 (by decide) rfl ?_
                        exact VW.sub [5, 0] rfl (s_9_looksAt_155 hd hR FU 0 h126 hr)
        · replace hr := im hr c68
          refine VW.aload_n d9_looksAt_69 2 rfl ?_
          refine VW.iload_n d9_looksAt_70 3 rfl ?_
          obtain ⟨r129, h130, e128, hr⟩ := bno2 hr
          refine VW.callV (As := [.int x1]) (st := []) d9_looksAt_71 mi_9_isHeard cv_9_206 (oo_9 o9_114) ⟨rfl, rfl⟩ (by decide) (dl1 hd) _ rfl (Nat.le_of_ble_eq_true rfl) rfl (c_9_isHeard (dl hd rfl) e128) (kI ?_)
          refine VW.istore (lo' := [(6, .int r129), (5, .int 0), (4, .int 0), (0, .ref (γ.2.2.1 114)), (1, .int x1), (2, .int x2), (3, .int x3)]) d9_looksAt_74 (by decide) rfl ?_
          refine VW.iload_n d9_looksAt_76 5 rfl ?_
          refine VW.if_ne 85 d9_looksAt_77 (by decide) (fun c131 => ?_) (fun c131 => ?_)
          · replace hr := ip hr c131
            refine VW.iload d9_looksAt_80 2 rfl ?_
            refine VW.goto 96 d9_looksAt_82 (by decide) ?_
            refine VW.istore (lo' := [(7, .int 0), (6, .int r129), (5, .int 0), (4, .int 0), (0, .ref (γ.2.2.1 114)), (1, .int x1), (2, .int x2), (3, .int x3)]) d9_looksAt_96 (by decide) rfl ?_
            refine VW.aload_n d9_looksAt_98 4 rfl ?_
            refine VW.dup d9_looksAt_99 rfl ?_
            refine VW.getI (k := 17) d9_looksAt_100 (oo_9 o9_114) rfl fl_9_209 ck9 ?_
            refine VW.iload d9_looksAt_103 1 rfl ?_
            refine VW.if_eq 112 d9_looksAt_105 (by decide) (fun c132 => ?_) (fun c132 => ?_)
            · replace hr := ip hr c132
              refine VW.iconst (v := 0) d9_looksAt_112 ic_0 ?_
              refine VW.iadd d9_looksAt_113 ?_
              obtain ⟨h133, e134, hr⟩ := hlt hr
              refine VW.putI (k := 17) d9_looksAt_114 (oo_9 o9_114) rfl fl_9_209 ck9 rfl rfl rfl rfl ?_
              refine VW.heq e134 ?_
              refine VW.iload d9_looksAt_117 1 rfl ?_
              refine VW.if_eq 184 d9_looksAt_119 (by decide) (fun c135 => ?_) (fun c135 => ?_)
              · replace hr := ip hr c135
                exact VW.vret d9_looksAt_184 hR (rV hr)
              · replace hr := im hr c135
                refine VW.aload_n d9_looksAt_122 4 rfl ?_
                refine VW.getI (k := 14) d9_looksAt_123 (oo_9 o9_114) rfl fl_9_212 ck9 ?_
                refine VW.if_eq 138 d9_looksAt_126 (by decide) (fun c136 => ?_) (fun c136 => ?_)
                · replace hr := ip hr c136
                  refine VW.aload_n d9_looksAt_138 4 rfl ?_
                  refine VW.aload_n d9_looksAt_139 4 rfl ?_
                  refine VW.getI (k := 11) d9_looksAt_140 (oo_9 o9_114) rfl fl_9_151 ck9 ?_
                  obtain ⟨h137, e138, hr⟩ := hlt hr
                  refine VW.putI (k := 14) d9_looksAt_143 (oo_9 o9_114) rfl fl_9_212 ck9 rfl rfl rfl rfl ?_
                  refine VW.heq e138 ?_
                  refine VW.aload_n d9_looksAt_146 4 rfl ?_
                  refine VW.iload d9_looksAt_147 0 rfl ?_
                  obtain ⟨h139, e140, hr⟩ := hlt hr
                  refine VW.putI (k := 16) d9_looksAt_149 (oo_9 o9_114) rfl fl_9_215 ck9 rfl rfl rfl rfl ?_
                  refine VW.heq e140 ?_
                  refine VW.iconst (v := 0) d9_looksAt_152 ic_0 ?_
                  refine VW.istore (lo' := [(8, .int 0), (7, .int 0), (6, .int r129), (5, .int 0), (4, .int 0), (0, .ref (γ.2.2.1 114)), (1, .int x1), (2, .int x2), (3, .int x3)]) d9_looksAt_153 (by decide) rfl ?_
                  exact VW.sub [5, 0] rfl (s_9_looksAt_155 hd hR FU 0 h139 hr)
                · replace hr := im hr c136
                  refine VW.iload d9_looksAt_129 0 rfl ?_
                  refine VW.aload_n d9_looksAt_131 4 rfl ?_
                  refine VW.getI (k := 16) d9_looksAt_132 (oo_9 o9_114) rfl fl_9_215 ck9 ?_
                  refine VW.icmp_ge 184 d9_looksAt_135 (by decide) (fun c141 => ?_) (fun c141 => ?_)
                  · replace hr := ip hr c141
                    exact VW.vret d9_looksAt_184 hR (rV hr)
                  · replace hr := im hr c141
                    refine VW.aload_n d9_looksAt_138 4 rfl ?_
                    refine VW.aload_n d9_looksAt_139 4 rfl ?_
                    refine VW.getI (k := 11) d9_looksAt_140 (oo_9 o9_114) rfl fl_9_151 ck9 ?_
                    obtain ⟨h142, e143, hr⟩ := hlt hr
                    refine VW.putI (k := 14) d9_looksAt_143 (oo_9 o9_114) rfl fl_9_212 ck9 rfl rfl rfl rfl ?_
                    refine VW.heq e143 ?_
                    refine VW.aload_n d9_looksAt_146 4 rfl ?_
                    refine VW.iload d9_looksAt_147 0 rfl ?_
                    obtain ⟨h144, e145, hr⟩ := hlt hr
                    refine VW.putI (k := 16) d9_looksAt_149 (oo_9 o9_114) rfl fl_9_215 ck9 rfl rfl rfl rfl ?_
                    refine VW.heq e145 ?_
                    refine VW.iconst (v := 0) d9_looksAt_152 ic_0 ?_
                    refine VW.istore (lo' := [(8, .int 0), (7, .int 0), (6, .int r129), (5, .int 0), (4, .int 0), (0, .ref (γ.2.2.1 114)), (1, .int x1), (2, .int x2), (3, .int x3)]) d9_looksAt_153 (by decide) rfl ?_
                    exact VW.sub [5, 0] rfl (s_9_looksAt_155 hd hR FU 0 h144 hr)
            · replace hr := im hr c132
              refine VW.iconst (v := 1) d9_looksAt_108 ic_1 ?_
              refine VW.goto 113 d9_looksAt_109 (by decide) ?_
              refine VW.iadd d9_looksAt_113 ?_
              obtain ⟨h146, e147, hr⟩ := hlt hr
              refine VW.putI (k := 17) d9_looksAt_114 (oo_9 o9_114) rfl fl_9_209 ck9 rfl rfl rfl rfl ?_
              refine VW.heq e147 ?_
              refine VW.iload d9_looksAt_117 1 rfl ?_
              refine VW.if_eq 184 d9_looksAt_119 (by decide) (fun c148 => ?_) (fun c148 => ?_)
              · replace hr := ip hr c148
                exact VW.vret d9_looksAt_184 hR (rV hr)
              · replace hr := im hr c148
                refine VW.aload_n d9_looksAt_122 4 rfl ?_
                refine VW.getI (k := 14) d9_looksAt_123 (oo_9 o9_114) rfl fl_9_212 ck9 ?_
                refine VW.if_eq 138 d9_looksAt_126 (by decide) (fun c149 => ?_) (fun c149 => ?_)
                · replace hr := ip hr c149
                  refine VW.aload_n d9_looksAt_138 4 rfl ?_
                  refine VW.aload_n d9_looksAt_139 4 rfl ?_
                  refine VW.getI (k := 11) d9_looksAt_140 (oo_9 o9_114) rfl fl_9_151 ck9 ?_
                  obtain ⟨h150, e151, hr⟩ := hlt hr
                  refine VW.putI (k := 14) d9_looksAt_143 (oo_9 o9_114) rfl fl_9_212 ck9 rfl rfl rfl rfl ?_
                  refine VW.heq e151 ?_
                  refine VW.aload_n d9_looksAt_146 4 rfl ?_
                  refine VW.iload d9_looksAt_147 0 rfl ?_
                  obtain ⟨h152, e153, hr⟩ := hlt hr
                  refine VW.putI (k := 16) d9_looksAt_149 (oo_9 o9_114) rfl fl_9_215 ck9 rfl rfl rfl rfl ?_
                  refine VW.heq e153 ?_
                  refine VW.iconst (v := 0) d9_looksAt_152 ic_0 ?_
                  refine VW.istore (lo' := [(8, .int 0), (7, .int 0), (6, .int r129), (5, .int 0), (4, .int 0), (0, .ref (γ.2.2.1 114)), (1, .int x1), (2, .int x2), (3, .int x3)]) d9_looksAt_153 (by decide) rfl ?_
                  exact VW.sub [5, 0] rfl (s_9_looksAt_155 hd hR FU 0 h152 hr)
                · replace hr := im hr c149
                  refine VW.iload d9_looksAt_129 0 rfl ?_
                  refine VW.aload_n d9_looksAt_131 4 rfl ?_
                  refine VW.getI (k := 16) d9_looksAt_132 (oo_9 o9_114) rfl fl_9_215 ck9 ?_
                  refine VW.icmp_ge 184 d9_looksAt_135 (by decide) (fun c154 => ?_) (fun c154 => ?_)
                  · replace hr := ip hr c154
                    exact VW.vret d9_looksAt_184 hR (rV hr)
                  · replace hr := im hr c154
                    refine VW.aload_n d9_looksAt_138 4 rfl ?_
                    refine VW.aload_n d9_looksAt_139 4 rfl ?_
                    refine VW.getI (k := 11) d9_looksAt_140 (oo_9 o9_114) rfl fl_9_151 ck9 ?_
                    obtain ⟨h155, e156, hr⟩ := hlt hr
                    refine VW.putI (k := 14) d9_looksAt_143 (oo_9 o9_114) rfl fl_9_212 ck9 rfl rfl rfl rfl ?_
                    refine VW.heq e156 ?_
                    refine VW.aload_n d9_looksAt_146 4 rfl ?_
                    refine VW.iload d9_looksAt_147 0 rfl ?_
                    obtain ⟨h157, e158, hr⟩ := hlt hr
                    refine VW.putI (k := 16) d9_looksAt_149 (oo_9 o9_114) rfl fl_9_215 ck9 rfl rfl rfl rfl ?_
                    refine VW.heq e158 ?_
                    refine VW.iconst (v := 0) d9_looksAt_152 ic_0 ?_
                    refine VW.istore (lo' := [(8, .int 0), (7, .int 0), (6, .int r129), (5, .int 0), (4, .int 0), (0, .ref (γ.2.2.1 114)), (1, .int x1), (2, .int x2), (3, .int x3)]) d9_looksAt_153 (by decide) rfl ?_
                    exact VW.sub [5, 0] rfl (s_9_looksAt_155 hd hR FU 0 h157 hr)
          · replace hr := im hr c131
            refine VW.iload_n d9_looksAt_85 5 rfl ?_
            refine VW.iconst (v := 1) d9_looksAt_86 ic_1 ?_
            refine VW.icmp_ne 95 d9_looksAt_87 (by decide) (fun c159 => ?_) (fun c159 => ?_)
            · replace hr := ip hr c159
              refine VW.iload d9_looksAt_90 1 rfl ?_
              refine VW.goto 96 d9_looksAt_92 (by decide) ?_
              refine VW.istore (lo' := [(7, .int 0), (6, .int r129), (5, .int 0), (4, .int 0), (0, .ref (γ.2.2.1 114)), (1, .int x1), (2, .int x2), (3, .int x3)]) d9_looksAt_96 (by decide) rfl ?_
              refine VW.aload_n d9_looksAt_98 4 rfl ?_
              refine VW.dup d9_looksAt_99 rfl ?_
              refine VW.getI (k := 17) d9_looksAt_100 (oo_9 o9_114) rfl fl_9_209 ck9 ?_
              refine VW.iload d9_looksAt_103 1 rfl ?_
              refine VW.if_eq 112 d9_looksAt_105 (by decide) (fun c160 => ?_) (fun c160 => ?_)
              · replace hr := ip hr c160
                refine VW.iconst (v := 0) d9_looksAt_112 ic_0 ?_
                refine VW.iadd d9_looksAt_113 ?_
                obtain ⟨h161, e162, hr⟩ := hlt hr
                refine VW.putI (k := 17) d9_looksAt_114 (oo_9 o9_114) rfl fl_9_209 ck9 rfl rfl rfl rfl ?_
                refine VW.heq e162 ?_
                refine VW.iload d9_looksAt_117 1 rfl ?_
                refine VW.if_eq 184 d9_looksAt_119 (by decide) (fun c163 => ?_) (fun c163 => ?_)
                · replace hr := ip hr c163
                  exact VW.vret d9_looksAt_184 hR (rV hr)
                · replace hr := im hr c163
                  refine VW.aload_n d9_looksAt_122 4 rfl ?_
                  refine VW.getI (k := 14) d9_looksAt_123 (oo_9 o9_114) rfl fl_9_212 ck9 ?_
                  refine VW.if_eq 138 d9_looksAt_126 (by decide) (fun c164 => ?_) (fun c164 => ?_)
                  · replace hr := ip hr c164
                    refine VW.aload_n d9_looksAt_138 4 rfl ?_
                    refine VW.aload_n d9_looksAt_139 4 rfl ?_
                    refine VW.getI (k := 11) d9_looksAt_140 (oo_9 o9_114) rfl fl_9_151 ck9 ?_
                    obtain ⟨h165, e166, hr⟩ := hlt hr
                    refine VW.putI (k := 14) d9_looksAt_143 (oo_9 o9_114) rfl fl_9_212 ck9 rfl rfl rfl rfl ?_
                    refine VW.heq e166 ?_
                    refine VW.aload_n d9_looksAt_146 4 rfl ?_
                    refine VW.iload d9_looksAt_147 0 rfl ?_
                    obtain ⟨h167, e168, hr⟩ := hlt hr
                    refine VW.putI (k := 16) d9_looksAt_149 (oo_9 o9_114) rfl fl_9_215 ck9 rfl rfl rfl rfl ?_
                    refine VW.heq e168 ?_
                    refine VW.iconst (v := 0) d9_looksAt_152 ic_0 ?_
                    refine VW.istore (lo' := [(8, .int 0), (7, .int 0), (6, .int r129), (5, .int 0), (4, .int 0), (0, .ref (γ.2.2.1 114)), (1, .int x1), (2, .int x2), (3, .int x3)]) d9_looksAt_153 (by decide) rfl ?_
                    exact VW.sub [5, 0] rfl (s_9_looksAt_155 hd hR FU 0 h167 hr)
                  · replace hr := im hr c164
                    refine VW.iload d9_looksAt_129 0 rfl ?_
                    refine VW.aload_n d9_looksAt_131 4 rfl ?_
                    refine VW.getI (k := 16) d9_looksAt_132 (oo_9 o9_114) rfl fl_9_215 ck9 ?_
                    refine VW.icmp_ge 184 d9_looksAt_135 (by decide) (fun c169 => ?_) (fun c169 => ?_)
                    · replace hr := ip hr c169
                      exact VW.vret d9_looksAt_184 hR (rV hr)
                    · replace hr := im hr c169
                      refine VW.aload_n d9_looksAt_138 4 rfl ?_
                      refine VW.aload_n d9_looksAt_139 4 rfl ?_
                      refine VW.getI (k := 11) d9_looksAt_140 (oo_9 o9_114) rfl fl_9_151 ck9 ?_
                      obtain ⟨h170, e171, hr⟩ := hlt hr
                      refine VW.putI (k := 14) d9_looksAt_143 (oo_9 o9_114) rfl fl_9_212 ck9 rfl rfl rfl rfl ?_
                      refine VW.heq e171 ?_
                      refine VW.aload_n d9_looksAt_146 4 rfl ?_
                      refine VW.iload d9_looksAt_147 0 rfl ?_
                      obtain ⟨h172, e173, hr⟩ := hlt hr
                      refine VW.putI (k := 16) d9_looksAt_149 (oo_9 o9_114) rfl fl_9_215 ck9 rfl rfl rfl rfl ?_
                      refine VW.heq e173 ?_
                      refine VW.iconst (v := 0) d9_looksAt_152 ic_0 ?_
                      refine VW.istore (lo' := [(8, .int 0), (7, .int 0), (6, .int r129), (5, .int 0), (4, .int 0), (0, .ref (γ.2.2.1 114)), (1, .int x1), (2, .int x2), (3, .int x3)]) d9_looksAt_153 (by decide) rfl ?_
                      exact VW.sub [5, 0] rfl (s_9_looksAt_155 hd hR FU 0 h172 hr)
              · replace hr := im hr c160
                refine VW.iconst (v := 1) d9_looksAt_108 ic_1 ?_
                refine VW.goto 113 d9_looksAt_109 (by decide) ?_
                refine VW.iadd d9_looksAt_113 ?_
                obtain ⟨h174, e175, hr⟩ := hlt hr
                refine VW.putI (k := 17) d9_looksAt_114 (oo_9 o9_114) rfl fl_9_209 ck9 rfl rfl rfl rfl ?_
                refine VW.heq e175 ?_
                refine VW.iload d9_looksAt_117 1 rfl ?_
                refine VW.if_eq 184 d9_looksAt_119 (by decide) (fun c176 => ?_) (fun c176 => ?_)
                · replace hr := ip hr c176
                  exact VW.vret d9_looksAt_184 hR (rV hr)
                · replace hr := im hr c176
                  refine VW.aload_n d9_looksAt_122 4 rfl ?_
                  refine VW.getI (k := 14) d9_looksAt_123 (oo_9 o9_114) rfl fl_9_212 ck9 ?_
                  refine VW.if_eq 138 d9_looksAt_126 (by decide) (fun c177 => ?_) (fun c177 => ?_)
                  · replace hr := ip hr c177
                    refine VW.aload_n d9_looksAt_138 4 rfl ?_
                    refine VW.aload_n d9_looksAt_139 4 rfl ?_
                    refine VW.getI (k := 11) d9_looksAt_140 (oo_9 o9_114) rfl fl_9_151 ck9 ?_
                    obtain ⟨h178, e179, hr⟩ := hlt hr
                    refine VW.putI (k := 14) d9_looksAt_143 (oo_9 o9_114) rfl fl_9_212 ck9 rfl rfl rfl rfl ?_
                    refine VW.heq e179 ?_
                    refine VW.aload_n d9_looksAt_146 4 rfl ?_
                    refine VW.iload d9_looksAt_147 0 rfl ?_
                    obtain ⟨h180, e181, hr⟩ := hlt hr
                    refine VW.putI (k := 16) d9_looksAt_149 (oo_9 o9_114) rfl fl_9_215 ck9 rfl rfl rfl rfl ?_
                    refine VW.heq e181 ?_
                    refine VW.iconst (v := 0) d9_looksAt_152 ic_0 ?_
                    refine VW.istore (lo' := [(8, .int 0), (7, .int 0), (6, .int r129), (5, .int 0), (4, .int 0), (0, .ref (γ.2.2.1 114)), (1, .int x1), (2, .int x2), (3, .int x3)]) d9_looksAt_153 (by decide) rfl ?_
                    exact VW.sub [5, 0] rfl (s_9_looksAt_155 hd hR FU 0 h180 hr)
                  · replace hr := im hr c177
                    refine VW.iload d9_looksAt_129 0 rfl ?_
                    refine VW.aload_n d9_looksAt_131 4 rfl ?_
                    refine VW.getI (k := 16) d9_looksAt_132 (oo_9 o9_114) rfl fl_9_215 ck9 ?_
                    refine VW.icmp_ge 184 d9_looksAt_135 (by decide) (fun c182 => ?_) (fun c182 => ?_)
                    · replace hr := ip hr c182
                      exact VW.vret d9_looksAt_184 hR (rV hr)
                    · replace hr := im hr c182
                      refine VW.aload_n d9_looksAt_138 4 rfl ?_
                      refine VW.aload_n d9_looksAt_139 4 rfl ?_
                      refine VW.getI (k := 11) d9_looksAt_140 (oo_9 o9_114) rfl fl_9_151 ck9 ?_
                      obtain ⟨h183, e184, hr⟩ := hlt hr
                      refine VW.putI (k := 14) d9_looksAt_143 (oo_9 o9_114) rfl fl_9_212 ck9 rfl rfl rfl rfl ?_
                      refine VW.heq e184 ?_
                      refine VW.aload_n d9_looksAt_146 4 rfl ?_
                      refine VW.iload d9_looksAt_147 0 rfl ?_
                      obtain ⟨h185, e186, hr⟩ := hlt hr
                      refine VW.putI (k := 16) d9_looksAt_149 (oo_9 o9_114) rfl fl_9_215 ck9 rfl rfl rfl rfl ?_
                      refine VW.heq e186 ?_
                      refine VW.iconst (v := 0) d9_looksAt_152 ic_0 ?_
                      refine VW.istore (lo' := [(8, .int 0), (7, .int 0), (6, .int r129), (5, .int 0), (4, .int 0), (0, .ref (γ.2.2.1 114)), (1, .int x1), (2, .int x2), (3, .int x3)]) d9_looksAt_153 (by decide) rfl ?_
                      exact VW.sub [5, 0] rfl (s_9_looksAt_155 hd hR FU 0 h185 hr)
            · replace hr := im hr c159
              refine VW.iconst (v := 0) d9_looksAt_95 ic_0 ?_
              refine VW.istore (lo' := [(7, .int 0), (6, .int r129), (5, .int 0), (4, .int 0), (0, .ref (γ.2.2.1 114)), (1, .int x1), (2, .int x2), (3, .int x3)]) d9_looksAt_96 (by decide) rfl ?_
              refine VW.aload_n d9_looksAt_98 4 rfl ?_
              refine VW.dup d9_looksAt_99 rfl ?_
              refine VW.getI (k := 17) d9_looksAt_100 (oo_9 o9_114) rfl fl_9_209 ck9 ?_
              refine VW.iload d9_looksAt_103 1 rfl ?_
              refine VW.if_eq 112 d9_looksAt_105 (by decide) (fun c187 => ?_) (fun c187 => ?_)
              · replace hr := ip hr c187
                refine VW.iconst (v := 0) d9_looksAt_112 ic_0 ?_
                refine VW.iadd d9_looksAt_113 ?_
                obtain ⟨h188, e189, hr⟩ := hlt hr
                refine VW.putI (k := 17) d9_looksAt_114 (oo_9 o9_114) rfl fl_9_209 ck9 rfl rfl rfl rfl ?_
                refine VW.heq e189 ?_
                refine VW.iload d9_looksAt_117 1 rfl ?_
                refine VW.if_eq 184 d9_looksAt_119 (by decide) (fun c190 => ?_) (fun c190 => ?_)
                · replace hr := ip hr c190
                  exact VW.vret d9_looksAt_184 hR (rV hr)
                · replace hr := im hr c190
                  refine VW.aload_n d9_looksAt_122 4 rfl ?_
                  refine VW.getI (k := 14) d9_looksAt_123 (oo_9 o9_114) rfl fl_9_212 ck9 ?_
                  refine VW.if_eq 138 d9_looksAt_126 (by decide) (fun c191 => ?_) (fun c191 => ?_)
                  · replace hr := ip hr c191
                    refine VW.aload_n d9_looksAt_138 4 rfl ?_
                    refine VW.aload_n d9_looksAt_139 4 rfl ?_
                    refine VW.getI (k := 11) d9_looksAt_140 (oo_9 o9_114) rfl fl_9_151 ck9 ?_
                    obtain ⟨h192, e193, hr⟩ := hlt hr
                    refine VW.putI (k := 14) d9_looksAt_143 (oo_9 o9_114) rfl fl_9_212 ck9 rfl rfl rfl rfl ?_
                    refine VW.heq e193 ?_
                    refine VW.aload_n d9_looksAt_146 4 rfl ?_
                    refine VW.iload d9_looksAt_147 0 rfl ?_
                    obtain ⟨h194, e195, hr⟩ := hlt hr
                    refine VW.putI (k := 16) d9_looksAt_149 (oo_9 o9_114) rfl fl_9_215 ck9 rfl rfl rfl rfl ?_
                    refine VW.heq e195 ?_
                    refine VW.iconst (v := 0) d9_looksAt_152 ic_0 ?_
                    refine VW.istore (lo' := [(8, .int 0), (7, .int 0), (6, .int r129), (5, .int 0), (4, .int 0), (0, .ref (γ.2.2.1 114)), (1, .int x1), (2, .int x2), (3, .int x3)]) d9_looksAt_153 (by decide) rfl ?_
                    exact VW.sub [5, 0] rfl (s_9_looksAt_155 hd hR FU 0 h194 hr)
                  · replace hr := im hr c191
                    refine VW.iload d9_looksAt_129 0 rfl ?_
                    refine VW.aload_n d9_looksAt_131 4 rfl ?_
                    refine VW.getI (k := 16) d9_looksAt_132 (oo_9 o9_114) rfl fl_9_215 ck9 ?_
                    refine VW.icmp_ge 184 d9_looksAt_135 (by decide) (fun c196 => ?_) (fun c196 => ?_)
                    · replace hr := ip hr c196
                      exact VW.vret d9_looksAt_184 hR (rV hr)
                    · replace hr := im hr c196
                      refine VW.aload_n d9_looksAt_138 4 rfl ?_
                      refine VW.aload_n d9_looksAt_139 4 rfl ?_
                      refine VW.getI (k := 11) d9_looksAt_140 (oo_9 o9_114) rfl fl_9_151 ck9 ?_
                      obtain ⟨h197, e198, hr⟩ := hlt hr
                      refine VW.putI (k := 14) d9_looksAt_143 (oo_9 o9_114) rfl fl_9_212 ck9 rfl rfl rfl rfl ?_
                      refine VW.heq e198 ?_
                      refine VW.aload_n d9_looksAt_146 4 rfl ?_
                      refine VW.iload d9_looksAt_147 0 rfl ?_
                      obtain ⟨h199, e200, hr⟩ := hlt hr
                      refine VW.putI (k := 16) d9_looksAt_149 (oo_9 o9_114) rfl fl_9_215 ck9 rfl rfl rfl rfl ?_
                      refine VW.heq e200 ?_
                      refine VW.iconst (v := 0) d9_looksAt_152 ic_0 ?_
                      refine VW.istore (lo' := [(8, .int 0), (7, .int 0), (6, .int r129), (5, .int 0), (4, .int 0), (0, .ref (γ.2.2.1 114)), (1, .int x1), (2, .int x2), (3, .int x3)]) d9_looksAt_153 (by decide) rfl ?_
                      exact VW.sub [5, 0] rfl (s_9_looksAt_155 hd hR FU 0 h199 hr)
              · replace hr := im hr c187
                refine VW.iconst (v := 1) d9_looksAt_108 ic_1 ?_
                refine VW.goto 113 d9_looksAt_109 (by decide) ?_
                refine VW.iadd d9_looksAt_113 ?_
                obtain ⟨h201, e202, hr⟩ := hlt hr
                refine VW.putI (k := 17) d9_looksAt_114 (oo_9 o9_114) rfl fl_9_209 ck9 rfl rfl rfl rfl ?_
                refine VW.heq e202 ?_
                refine VW.iload d9_looksAt_117 1 rfl ?_
                refine VW.if_eq 184 d9_looksAt_119 (by decide) (fun c203 => ?_) (fun c203 => ?_)
                · replace hr := ip hr c203
                  exact VW.vret d9_looksAt_184 hR (rV hr)
                · replace hr := im hr c203
                  refine VW.aload_n d9_looksAt_122 4 rfl ?_
                  refine VW.getI (k := 14) d9_looksAt_123 (oo_9 o9_114) rfl fl_9_212 ck9 ?_
                  refine VW.if_eq 138 d9_looksAt_126 (by decide) (fun c204 => ?_) (fun c204 => ?_)
                  · replace hr := ip hr c204
                    refine VW.aload_n d9_looksAt_138 4 rfl ?_
                    refine VW.aload_n d9_looksAt_139 4 rfl ?_
                    refine VW.getI (k := 11) d9_looksAt_140 (oo_9 o9_114) rfl fl_9_151 ck9 ?_
                    obtain ⟨h205, e206, hr⟩ := hlt hr
                    refine VW.putI (k := 14) d9_looksAt_143 (oo_9 o9_114) rfl fl_9_212 ck9 rfl rfl rfl rfl ?_
                    refine VW.heq e206 ?_
                    refine VW.aload_n d9_looksAt_146 4 rfl ?_
                    refine VW.iload d9_looksAt_147 0 rfl ?_
                    obtain ⟨h207, e208, hr⟩ := hlt hr
                    refine VW.putI (k := 16) d9_looksAt_149 (oo_9 o9_114) rfl fl_9_215 ck9 rfl rfl rfl rfl ?_
                    refine VW.heq e208 ?_
                    refine VW.iconst (v := 0) d9_looksAt_152 ic_0 ?_
                    refine VW.istore (lo' := [(8, .int 0), (7, .int 0), (6, .int r129), (5, .int 0), (4, .int 0), (0, .ref (γ.2.2.1 114)), (1, .int x1), (2, .int x2), (3, .int x3)]) d9_looksAt_153 (by decide) rfl ?_
                    exact VW.sub [5, 0] rfl (s_9_looksAt_155 hd hR FU 0 h207 hr)
                  · replace hr := im hr c204
                    refine VW.iload d9_looksAt_129 0 rfl ?_
                    refine VW.aload_n d9_looksAt_131 4 rfl ?_
                    refine VW.getI (k := 16) d9_looksAt_132 (oo_9 o9_114) rfl fl_9_215 ck9 ?_
                    refine VW.icmp_ge 184 d9_looksAt_135 (by decide) (fun c209 => ?_) (fun c209 => ?_)
                    · replace hr := ip hr c209
                      exact VW.vret d9_looksAt_184 hR (rV hr)
                    · replace hr := im hr c209
                      refine VW.aload_n d9_looksAt_138 4 rfl ?_
                      refine VW.aload_n d9_looksAt_139 4 rfl ?_
                      refine VW.getI (k := 11) d9_looksAt_140 (oo_9 o9_114) rfl fl_9_151 ck9 ?_
                      obtain ⟨h210, e211, hr⟩ := hlt hr
                      refine VW.putI (k := 14) d9_looksAt_143 (oo_9 o9_114) rfl fl_9_212 ck9 rfl rfl rfl rfl ?_
                      refine VW.heq e211 ?_
                      refine VW.aload_n d9_looksAt_146 4 rfl ?_
                      refine VW.iload d9_looksAt_147 0 rfl ?_
                      obtain ⟨h212, e213, hr⟩ := hlt hr
                      refine VW.putI (k := 16) d9_looksAt_149 (oo_9 o9_114) rfl fl_9_215 ck9 rfl rfl rfl rfl ?_
                      refine VW.heq e213 ?_
                      refine VW.iconst (v := 0) d9_looksAt_152 ic_0 ?_
                      refine VW.istore (lo' := [(8, .int 0), (7, .int 0), (6, .int r129), (5, .int 0), (4, .int 0), (0, .ref (γ.2.2.1 114)), (1, .int x1), (2, .int x2), (3, .int x3)]) d9_looksAt_153 (by decide) rfl ?_
                      exact VW.sub [5, 0] rfl (s_9_looksAt_155 hd hR FU 0 h212 hr)
    · replace hr := im hr c2
      refine VW.aload_n d9_looksAt_25 1 rfl ?_
      refine VW.iload_n d9_looksAt_26 2 rfl ?_
      obtain ⟨r215, e214, hr⟩ := bno hr
      refine VW.callV (As := [.int x1]) (st := []) d9_looksAt_27 mi_9_lossNow cv_9_167 (oo_9 o9_114) ⟨rfl, rfl⟩ (by decide) (dl1 hd) _ rfl (Nat.le_of_ble_eq_true rfl) rfl (c_9_lossNow (dl hd rfl) e214) (kI ?_)
      refine VW.istore (lo' := [(5, .int r215), (4, .int 0), (0, .ref (γ.2.2.1 114)), (1, .int x1), (2, .int x2), (3, .int x3)]) d9_looksAt_30 (by decide) rfl ?_
      refine VW.iload_n d9_looksAt_32 4 rfl ?_
      refine VW.if_ne 50 d9_looksAt_33 (by decide) (fun c216 => ?_) (fun c216 => ?_)
      · replace hr := ip hr c216
        refine VW.iload d9_looksAt_36 0 rfl ?_
        refine VW.iload_n d9_looksAt_38 5 rfl ?_
        refine VW.icmp_gt 46 d9_looksAt_39 (by decide) (fun c217 => ?_) (fun c217 => ?_)
        · replace hr := ip hr c217
          refine VW.iconst (v := 0) d9_looksAt_46 ic_0 ?_
          refine VW.goto 74 d9_looksAt_47 (by decide) ?_
          refine VW.istore (lo' := [(6, .int 0), (5, .int r215), (4, .int 0), (0, .ref (γ.2.2.1 114)), (1, .int x1), (2, .int x2), (3, .int x3)]) d9_looksAt_74 (by decide) rfl ?_
          refine VW.iload_n d9_looksAt_76 5 rfl ?_
          refine VW.if_ne 85 d9_looksAt_77 (by decide) (fun c218 => ?_) (fun c218 => ?_)
          · replace hr := ip hr c218
            refine VW.iload d9_looksAt_80 2 rfl ?_
            refine VW.goto 96 d9_looksAt_82 (by decide) ?_
            refine VW.istore (lo' := [(7, .int 0), (6, .int 0), (5, .int r215), (4, .int 0), (0, .ref (γ.2.2.1 114)), (1, .int x1), (2, .int x2), (3, .int x3)]) d9_looksAt_96 (by decide) rfl ?_
            refine VW.aload_n d9_looksAt_98 4 rfl ?_
            refine VW.dup d9_looksAt_99 rfl ?_
            refine VW.getI (k := 17) d9_looksAt_100 (oo_9 o9_114) rfl fl_9_209 ck9 ?_
            refine VW.iload d9_looksAt_103 1 rfl ?_
            refine VW.if_eq 112 d9_looksAt_105 (by decide) (fun c219 => ?_) (fun c219 => ?_)
            · skip
              refine VW.iconst (v := 0) d9_looksAt_112 ic_0 ?_
              refine VW.iadd d9_looksAt_113 ?_
              obtain ⟨h220, e221, hr⟩ := hlt hr
              refine VW.putI (k := 17) d9_looksAt_114 (oo_9 o9_114) rfl fl_9_209 ck9 rfl rfl rfl rfl ?_
              refine VW.heq e221 ?_
              refine VW.iload d9_looksAt_117 1 rfl ?_
              refine VW.if_eq 184 d9_looksAt_119 (by decide) (fun c222 => ?_) (fun c222 => ?_)
              · skip
                exact VW.vret d9_looksAt_184 hR (rV hr)
              · exact (c222 (by decide)).elim
            · exact (c219 (by decide)).elim
          · replace hr := im hr c218
            refine VW.iload_n d9_looksAt_85 5 rfl ?_
            refine VW.iconst (v := 1) d9_looksAt_86 ic_1 ?_
            refine VW.icmp_ne 95 d9_looksAt_87 (by decide) (fun c223 => ?_) (fun c223 => ?_)
            · replace hr := ip hr c223
              refine VW.iload d9_looksAt_90 1 rfl ?_
              refine VW.goto 96 d9_looksAt_92 (by decide) ?_
              refine VW.istore (lo' := [(7, .int r215), (6, .int 0), (5, .int r215), (4, .int 0), (0, .ref (γ.2.2.1 114)), (1, .int x1), (2, .int x2), (3, .int x3)]) d9_looksAt_96 (by decide) rfl ?_
              refine VW.aload_n d9_looksAt_98 4 rfl ?_
              refine VW.dup d9_looksAt_99 rfl ?_
              refine VW.getI (k := 17) d9_looksAt_100 (oo_9 o9_114) rfl fl_9_209 ck9 ?_
              refine VW.iload d9_looksAt_103 1 rfl ?_
              refine VW.if_eq 112 d9_looksAt_105 (by decide) (fun c224 => ?_) (fun c224 => ?_)
              · skip
                refine VW.iconst (v := 0) d9_looksAt_112 ic_0 ?_
                refine VW.iadd d9_looksAt_113 ?_
                obtain ⟨h225, e226, hr⟩ := hlt hr
                refine VW.putI (k := 17) d9_looksAt_114 (oo_9 o9_114) rfl fl_9_209 ck9 rfl rfl rfl rfl ?_
                refine VW.heq e226 ?_
                refine VW.iload d9_looksAt_117 1 rfl ?_
                refine VW.if_eq 184 d9_looksAt_119 (by decide) (fun c227 => ?_) (fun c227 => ?_)
                · skip
                  exact VW.vret d9_looksAt_184 hR (rV hr)
                · exact (c227 (by decide)).elim
              · exact (c224 (by decide)).elim
            · replace hr := im hr c223
              refine VW.iconst (v := 0) d9_looksAt_95 ic_0 ?_
              refine VW.istore (lo' := [(7, .int 0), (6, .int 0), (5, .int r215), (4, .int 0), (0, .ref (γ.2.2.1 114)), (1, .int x1), (2, .int x2), (3, .int x3)]) d9_looksAt_96 (by decide) rfl ?_
              refine VW.aload_n d9_looksAt_98 4 rfl ?_
              refine VW.dup d9_looksAt_99 rfl ?_
              refine VW.getI (k := 17) d9_looksAt_100 (oo_9 o9_114) rfl fl_9_209 ck9 ?_
              refine VW.iload d9_looksAt_103 1 rfl ?_
              refine VW.if_eq 112 d9_looksAt_105 (by decide) (fun c228 => ?_) (fun c228 => ?_)
              · skip
                refine VW.iconst (v := 0) d9_looksAt_112 ic_0 ?_
                refine VW.iadd d9_looksAt_113 ?_
                obtain ⟨h229, e230, hr⟩ := hlt hr
                refine VW.putI (k := 17) d9_looksAt_114 (oo_9 o9_114) rfl fl_9_209 ck9 rfl rfl rfl rfl ?_
                refine VW.heq e230 ?_
                refine VW.iload d9_looksAt_117 1 rfl ?_
                refine VW.if_eq 184 d9_looksAt_119 (by decide) (fun c231 => ?_) (fun c231 => ?_)
                · skip
                  exact VW.vret d9_looksAt_184 hR (rV hr)
                · exact (c231 (by decide)).elim
              · exact (c228 (by decide)).elim
        · replace hr := im hr c217
          refine VW.iconst (v := 1) d9_looksAt_42 ic_1 ?_
          refine VW.goto 74 d9_looksAt_43 (by decide) ?_
          refine VW.istore (lo' := [(6, .int 1), (5, .int r215), (4, .int 0), (0, .ref (γ.2.2.1 114)), (1, .int x1), (2, .int x2), (3, .int x3)]) d9_looksAt_74 (by decide) rfl ?_
          refine VW.iload_n d9_looksAt_76 5 rfl ?_
          refine VW.if_ne 85 d9_looksAt_77 (by decide) (fun c232 => ?_) (fun c232 => ?_)
          · replace hr := ip hr c232
            refine VW.iload d9_looksAt_80 2 rfl ?_
            refine VW.goto 96 d9_looksAt_82 (by decide) ?_
            refine VW.istore (lo' := [(7, .int 0), (6, .int 1), (5, .int r215), (4, .int 0), (0, .ref (γ.2.2.1 114)), (1, .int x1), (2, .int x2), (3, .int x3)]) d9_looksAt_96 (by decide) rfl ?_
            refine VW.aload_n d9_looksAt_98 4 rfl ?_
            refine VW.dup d9_looksAt_99 rfl ?_
            refine VW.getI (k := 17) d9_looksAt_100 (oo_9 o9_114) rfl fl_9_209 ck9 ?_
            refine VW.iload d9_looksAt_103 1 rfl ?_
            refine VW.if_eq 112 d9_looksAt_105 (by decide) (fun c233 => ?_) (fun c233 => ?_)
            · exact absurd c233 (by decide)
            · skip
              refine VW.iconst (v := 1) d9_looksAt_108 ic_1 ?_
              refine VW.goto 113 d9_looksAt_109 (by decide) ?_
              refine VW.iadd d9_looksAt_113 ?_
              obtain ⟨h234, e235, hr⟩ := hlt hr
              refine VW.putI (k := 17) d9_looksAt_114 (oo_9 o9_114) rfl fl_9_209 ck9 rfl rfl rfl rfl ?_
              refine VW.heq e235 ?_
              refine VW.iload d9_looksAt_117 1 rfl ?_
              refine VW.if_eq 184 d9_looksAt_119 (by decide) (fun c236 => ?_) (fun c236 => ?_)
              · exact absurd c236 (by decide)
              · skip
                refine VW.aload_n d9_looksAt_122 4 rfl ?_
                refine VW.getI (k := 14) d9_looksAt_123 (oo_9 o9_114) rfl fl_9_212 ck9 ?_
                refine VW.if_eq 138 d9_looksAt_126 (by decide) (fun c237 => ?_) (fun c237 => ?_)
                · replace hr := ip hr c237
                  refine VW.aload_n d9_looksAt_138 4 rfl ?_
                  refine VW.aload_n d9_looksAt_139 4 rfl ?_
                  refine VW.getI (k := 11) d9_looksAt_140 (oo_9 o9_114) rfl fl_9_151 ck9 ?_
                  obtain ⟨h238, e239, hr⟩ := hlt hr
                  refine VW.putI (k := 14) d9_looksAt_143 (oo_9 o9_114) rfl fl_9_212 ck9 rfl rfl rfl rfl ?_
                  refine VW.heq e239 ?_
                  refine VW.aload_n d9_looksAt_146 4 rfl ?_
                  refine VW.iload d9_looksAt_147 0 rfl ?_
                  obtain ⟨h240, e241, hr⟩ := hlt hr
                  refine VW.putI (k := 16) d9_looksAt_149 (oo_9 o9_114) rfl fl_9_215 ck9 rfl rfl rfl rfl ?_
                  refine VW.heq e241 ?_
                  refine VW.iconst (v := 0) d9_looksAt_152 ic_0 ?_
                  refine VW.istore (lo' := [(8, .int 0), (7, .int 0), (6, .int 1), (5, .int r215), (4, .int 0), (0, .ref (γ.2.2.1 114)), (1, .int x1), (2, .int x2), (3, .int x3)]) d9_looksAt_153 (by decide) rfl ?_
                  exact VW.sub [5, 0] rfl (s_9_looksAt_155 hd hR FU 0 h240 hr)
                · replace hr := im hr c237
                  refine VW.iload d9_looksAt_129 0 rfl ?_
                  refine VW.aload_n d9_looksAt_131 4 rfl ?_
                  refine VW.getI (k := 16) d9_looksAt_132 (oo_9 o9_114) rfl fl_9_215 ck9 ?_
                  refine VW.icmp_ge 184 d9_looksAt_135 (by decide) (fun c242 => ?_) (fun c242 => ?_)
                  · replace hr := ip hr c242
                    exact VW.vret d9_looksAt_184 hR (rV hr)
                  · replace hr := im hr c242
                    refine VW.aload_n d9_looksAt_138 4 rfl ?_
                    refine VW.aload_n d9_looksAt_139 4 rfl ?_
                    refine VW.getI (k := 11) d9_looksAt_140 (oo_9 o9_114) rfl fl_9_151 ck9 ?_
                    obtain ⟨h243, e244, hr⟩ := hlt hr
                    refine VW.putI (k := 14) d9_looksAt_143 (oo_9 o9_114) rfl fl_9_212 ck9 rfl rfl rfl rfl ?_
                    refine VW.heq e244 ?_
                    refine VW.aload_n d9_looksAt_146 4 rfl ?_
                    refine VW.iload d9_looksAt_147 0 rfl ?_
                    obtain ⟨h245, e246, hr⟩ := hlt hr
                    refine VW.putI (k := 16) d9_looksAt_149 (oo_9 o9_114) rfl fl_9_215 ck9 rfl rfl rfl rfl ?_
                    refine VW.heq e246 ?_
                    refine VW.iconst (v := 0) d9_looksAt_152 ic_0 ?_
                    refine VW.istore (lo' := [(8, .int 0), (7, .int 0), (6, .int 1), (5, .int r215), (4, .int 0), (0, .ref (γ.2.2.1 114)), (1, .int x1), (2, .int x2), (3, .int x3)]) d9_looksAt_153 (by decide) rfl ?_
                    exact VW.sub [5, 0] rfl (s_9_looksAt_155 hd hR FU 0 h245 hr)
          · replace hr := im hr c232
            refine VW.iload_n d9_looksAt_85 5 rfl ?_
            refine VW.iconst (v := 1) d9_looksAt_86 ic_1 ?_
            refine VW.icmp_ne 95 d9_looksAt_87 (by decide) (fun c247 => ?_) (fun c247 => ?_)
            · replace hr := ip hr c247
              refine VW.iload d9_looksAt_90 1 rfl ?_
              refine VW.goto 96 d9_looksAt_92 (by decide) ?_
              refine VW.istore (lo' := [(7, .int r215), (6, .int 1), (5, .int r215), (4, .int 0), (0, .ref (γ.2.2.1 114)), (1, .int x1), (2, .int x2), (3, .int x3)]) d9_looksAt_96 (by decide) rfl ?_
              refine VW.aload_n d9_looksAt_98 4 rfl ?_
              refine VW.dup d9_looksAt_99 rfl ?_
              refine VW.getI (k := 17) d9_looksAt_100 (oo_9 o9_114) rfl fl_9_209 ck9 ?_
              refine VW.iload d9_looksAt_103 1 rfl ?_
              refine VW.if_eq 112 d9_looksAt_105 (by decide) (fun c248 => ?_) (fun c248 => ?_)
              · exact absurd c248 (by decide)
              · skip
                refine VW.iconst (v := 1) d9_looksAt_108 ic_1 ?_
                refine VW.goto 113 d9_looksAt_109 (by decide) ?_
                refine VW.iadd d9_looksAt_113 ?_
                obtain ⟨h249, e250, hr⟩ := hlt hr
                refine VW.putI (k := 17) d9_looksAt_114 (oo_9 o9_114) rfl fl_9_209 ck9 rfl rfl rfl rfl ?_
                refine VW.heq e250 ?_
                refine VW.iload d9_looksAt_117 1 rfl ?_
                refine VW.if_eq 184 d9_looksAt_119 (by decide) (fun c251 => ?_) (fun c251 => ?_)
                · exact absurd c251 (by decide)
                · skip
                  refine VW.aload_n d9_looksAt_122 4 rfl ?_
                  refine VW.getI (k := 14) d9_looksAt_123 (oo_9 o9_114) rfl fl_9_212 ck9 ?_
                  refine VW.if_eq 138 d9_looksAt_126 (by decide) (fun c252 => ?_) (fun c252 => ?_)
                  · replace hr := ip hr c252
                    refine VW.aload_n d9_looksAt_138 4 rfl ?_
                    refine VW.aload_n d9_looksAt_139 4 rfl ?_
                    refine VW.getI (k := 11) d9_looksAt_140 (oo_9 o9_114) rfl fl_9_151 ck9 ?_
                    obtain ⟨h253, e254, hr⟩ := hlt hr
                    refine VW.putI (k := 14) d9_looksAt_143 (oo_9 o9_114) rfl fl_9_212 ck9 rfl rfl rfl rfl ?_
                    refine VW.heq e254 ?_
                    refine VW.aload_n d9_looksAt_146 4 rfl ?_
                    refine VW.iload d9_looksAt_147 0 rfl ?_
                    obtain ⟨h255, e256, hr⟩ := hlt hr
                    refine VW.putI (k := 16) d9_looksAt_149 (oo_9 o9_114) rfl fl_9_215 ck9 rfl rfl rfl rfl ?_
                    refine VW.heq e256 ?_
                    refine VW.iconst (v := 0) d9_looksAt_152 ic_0 ?_
                    refine VW.istore (lo' := [(8, .int 0), (7, .int r215), (6, .int 1), (5, .int r215), (4, .int 0), (0, .ref (γ.2.2.1 114)), (1, .int x1), (2, .int x2), (3, .int x3)]) d9_looksAt_153 (by decide) rfl ?_
                    exact VW.sub [5, 0] rfl (s_9_looksAt_155 hd hR FU 0 h255 hr)
                  · replace hr := im hr c252
                    refine VW.iload d9_looksAt_129 0 rfl ?_
                    refine VW.aload_n d9_looksAt_131 4 rfl ?_
                    refine VW.getI (k := 16) d9_looksAt_132 (oo_9 o9_114) rfl fl_9_215 ck9 ?_
                    refine VW.icmp_ge 184 d9_looksAt_135 (by decide) (fun c257 => ?_) (fun c257 => ?_)
                    · replace hr := ip hr c257
                      exact VW.vret d9_looksAt_184 hR (rV hr)
                    · replace hr := im hr c257
                      refine VW.aload_n d9_looksAt_138 4 rfl ?_
                      refine VW.aload_n d9_looksAt_139 4 rfl ?_
                      refine VW.getI (k := 11) d9_looksAt_140 (oo_9 o9_114) rfl fl_9_151 ck9 ?_
                      obtain ⟨h258, e259, hr⟩ := hlt hr
                      refine VW.putI (k := 14) d9_looksAt_143 (oo_9 o9_114) rfl fl_9_212 ck9 rfl rfl rfl rfl ?_
                      refine VW.heq e259 ?_
                      refine VW.aload_n d9_looksAt_146 4 rfl ?_
                      refine VW.iload d9_looksAt_147 0 rfl ?_
                      obtain ⟨h260, e261, hr⟩ := hlt hr
                      refine VW.putI (k := 16) d9_looksAt_149 (oo_9 o9_114) rfl fl_9_215 ck9 rfl rfl rfl rfl ?_
                      refine VW.heq e261 ?_
                      refine VW.iconst (v := 0) d9_looksAt_152 ic_0 ?_
                      refine VW.istore (lo' := [(8, .int 0), (7, .int r215), (6, .int 1), (5, .int r215), (4, .int 0), (0, .ref (γ.2.2.1 114)), (1, .int x1), (2, .int x2), (3, .int x3)]) d9_looksAt_153 (by decide) rfl ?_
                      exact VW.sub [5, 0] rfl (s_9_looksAt_155 hd hR FU 0 h260 hr)
            · replace hr := im hr c247
              refine VW.iconst (v := 0) d9_looksAt_95 ic_0 ?_
              refine VW.istore (lo' := [(7, .int 0), (6, .int 1), (5, .int r215), (4, .int 0), (0, .ref (γ.2.2.1 114)), (1, .int x1), (2, .int x2), (3, .int x3)]) d9_looksAt_96 (by decide) rfl ?_
              refine VW.aload_n d9_looksAt_98 4 rfl ?_
              refine VW.dup d9_looksAt_99 rfl ?_
              refine VW.getI (k := 17) d9_looksAt_100 (oo_9 o9_114) rfl fl_9_209 ck9 ?_
              refine VW.iload d9_looksAt_103 1 rfl ?_
              refine VW.if_eq 112 d9_looksAt_105 (by decide) (fun c262 => ?_) (fun c262 => ?_)
              · exact absurd c262 (by decide)
              · skip
                refine VW.iconst (v := 1) d9_looksAt_108 ic_1 ?_
                refine VW.goto 113 d9_looksAt_109 (by decide) ?_
                refine VW.iadd d9_looksAt_113 ?_
                obtain ⟨h263, e264, hr⟩ := hlt hr
                refine VW.putI (k := 17) d9_looksAt_114 (oo_9 o9_114) rfl fl_9_209 ck9 rfl rfl rfl rfl ?_
                refine VW.heq e264 ?_
                refine VW.iload d9_looksAt_117 1 rfl ?_
                refine VW.if_eq 184 d9_looksAt_119 (by decide) (fun c265 => ?_) (fun c265 => ?_)
                · exact absurd c265 (by decide)
                · skip
                  refine VW.aload_n d9_looksAt_122 4 rfl ?_
                  refine VW.getI (k := 14) d9_looksAt_123 (oo_9 o9_114) rfl fl_9_212 ck9 ?_
                  refine VW.if_eq 138 d9_looksAt_126 (by decide) (fun c266 => ?_) (fun c266 => ?_)
                  · replace hr := ip hr c266
                    refine VW.aload_n d9_looksAt_138 4 rfl ?_
                    refine VW.aload_n d9_looksAt_139 4 rfl ?_
                    refine VW.getI (k := 11) d9_looksAt_140 (oo_9 o9_114) rfl fl_9_151 ck9 ?_
                    obtain ⟨h267, e268, hr⟩ := hlt hr
                    refine VW.putI (k := 14) d9_looksAt_143 (oo_9 o9_114) rfl fl_9_212 ck9 rfl rfl rfl rfl ?_
                    refine VW.heq e268 ?_
                    refine VW.aload_n d9_looksAt_146 4 rfl ?_
                    refine VW.iload d9_looksAt_147 0 rfl ?_
                    obtain ⟨h269, e270, hr⟩ := hlt hr
                    refine VW.putI (k := 16) d9_looksAt_149 (oo_9 o9_114) rfl fl_9_215 ck9 rfl rfl rfl rfl ?_
                    refine VW.heq e270 ?_
                    refine VW.iconst (v := 0) d9_looksAt_152 ic_0 ?_
                    refine VW.istore (lo' := [(8, .int 0), (7, .int 0), (6, .int 1), (5, .int r215), (4, .int 0), (0, .ref (γ.2.2.1 114)), (1, .int x1), (2, .int x2), (3, .int x3)]) d9_looksAt_153 (by decide) rfl ?_
                    exact VW.sub [5, 0] rfl (s_9_looksAt_155 hd hR FU 0 h269 hr)
                  · replace hr := im hr c266
                    refine VW.iload d9_looksAt_129 0 rfl ?_
                    refine VW.aload_n d9_looksAt_131 4 rfl ?_
                    refine VW.getI (k := 16) d9_looksAt_132 (oo_9 o9_114) rfl fl_9_215 ck9 ?_
                    refine VW.icmp_ge 184 d9_looksAt_135 (by decide) (fun c271 => ?_) (fun c271 => ?_)
                    · replace hr := ip hr c271
                      exact VW.vret d9_looksAt_184 hR (rV hr)
                    · replace hr := im hr c271
                      refine VW.aload_n d9_looksAt_138 4 rfl ?_
                      refine VW.aload_n d9_looksAt_139 4 rfl ?_
                      refine VW.getI (k := 11) d9_looksAt_140 (oo_9 o9_114) rfl fl_9_151 ck9 ?_
                      obtain ⟨h272, e273, hr⟩ := hlt hr
                      refine VW.putI (k := 14) d9_looksAt_143 (oo_9 o9_114) rfl fl_9_212 ck9 rfl rfl rfl rfl ?_
                      refine VW.heq e273 ?_
                      refine VW.aload_n d9_looksAt_146 4 rfl ?_
                      refine VW.iload d9_looksAt_147 0 rfl ?_
                      obtain ⟨h274, e275, hr⟩ := hlt hr
                      refine VW.putI (k := 16) d9_looksAt_149 (oo_9 o9_114) rfl fl_9_215 ck9 rfl rfl rfl rfl ?_
                      refine VW.heq e275 ?_
                      refine VW.iconst (v := 0) d9_looksAt_152 ic_0 ?_
                      refine VW.istore (lo' := [(8, .int 0), (7, .int 0), (6, .int 1), (5, .int r215), (4, .int 0), (0, .ref (γ.2.2.1 114)), (1, .int x1), (2, .int x2), (3, .int x3)]) d9_looksAt_153 (by decide) rfl ?_
                      exact VW.sub [5, 0] rfl (s_9_looksAt_155 hd hR FU 0 h274 hr)
      · replace hr := im hr c216
        refine VW.iload_n d9_looksAt_50 4 rfl ?_
        refine VW.iconst (v := 1) d9_looksAt_51 ic_1 ?_
        refine VW.icmp_ne 69 d9_looksAt_52 (by decide) (fun c276 => ?_) (fun c276 => ?_)
        · replace hr := ip hr c276
          refine VW.iload d9_looksAt_55 1 rfl ?_
          refine VW.iload_n d9_looksAt_57 5 rfl ?_
          refine VW.icmp_gt 65 d9_looksAt_58 (by decide) (fun c277 => ?_) (fun c277 => ?_)
          · replace hr := ip hr c277
            refine VW.iconst (v := 0) d9_looksAt_65 ic_0 ?_
            refine VW.goto 74 d9_looksAt_66 (by decide) ?_
            refine VW.istore (lo' := [(6, .int 0), (5, .int r215), (4, .int 0), (0, .ref (γ.2.2.1 114)), (1, .int x1), (2, .int x2), (3, .int x3)]) d9_looksAt_74 (by decide) rfl ?_
            refine VW.iload_n d9_looksAt_76 5 rfl ?_
            refine VW.if_ne 85 d9_looksAt_77 (by decide) (fun c278 => ?_) (fun c278 => ?_)
            · replace hr := ip hr c278
              refine VW.iload d9_looksAt_80 2 rfl ?_
              refine VW.goto 96 d9_looksAt_82 (by decide) ?_
              refine VW.istore (lo' := [(7, .int 0), (6, .int 0), (5, .int r215), (4, .int 0), (0, .ref (γ.2.2.1 114)), (1, .int x1), (2, .int x2), (3, .int x3)]) d9_looksAt_96 (by decide) rfl ?_
              refine VW.aload_n d9_looksAt_98 4 rfl ?_
              refine VW.dup d9_looksAt_99 rfl ?_
              refine VW.getI (k := 17) d9_looksAt_100 (oo_9 o9_114) rfl fl_9_209 ck9 ?_
              refine VW.iload d9_looksAt_103 1 rfl ?_
              refine VW.if_eq 112 d9_looksAt_105 (by decide) (fun c279 => ?_) (fun c279 => ?_)
              · skip
                refine VW.iconst (v := 0) d9_looksAt_112 ic_0 ?_
                refine VW.iadd d9_looksAt_113 ?_
                obtain ⟨h280, e281, hr⟩ := hlt hr
                refine VW.putI (k := 17) d9_looksAt_114 (oo_9 o9_114) rfl fl_9_209 ck9 rfl rfl rfl rfl ?_
                refine VW.heq e281 ?_
                refine VW.iload d9_looksAt_117 1 rfl ?_
                refine VW.if_eq 184 d9_looksAt_119 (by decide) (fun c282 => ?_) (fun c282 => ?_)
                · skip
                  exact VW.vret d9_looksAt_184 hR (rV hr)
                · exact (c282 (by decide)).elim
              · exact (c279 (by decide)).elim
            · replace hr := im hr c278
              refine VW.iload_n d9_looksAt_85 5 rfl ?_
              refine VW.iconst (v := 1) d9_looksAt_86 ic_1 ?_
              refine VW.icmp_ne 95 d9_looksAt_87 (by decide) (fun c283 => ?_) (fun c283 => ?_)
              · replace hr := ip hr c283
                refine VW.iload d9_looksAt_90 1 rfl ?_
                refine VW.goto 96 d9_looksAt_92 (by decide) ?_
                refine VW.istore (lo' := [(7, .int r215), (6, .int 0), (5, .int r215), (4, .int 0), (0, .ref (γ.2.2.1 114)), (1, .int x1), (2, .int x2), (3, .int x3)]) d9_looksAt_96 (by decide) rfl ?_
                refine VW.aload_n d9_looksAt_98 4 rfl ?_
                refine VW.dup d9_looksAt_99 rfl ?_
                refine VW.getI (k := 17) d9_looksAt_100 (oo_9 o9_114) rfl fl_9_209 ck9 ?_
                refine VW.iload d9_looksAt_103 1 rfl ?_
                refine VW.if_eq 112 d9_looksAt_105 (by decide) (fun c284 => ?_) (fun c284 => ?_)
                · skip
                  refine VW.iconst (v := 0) d9_looksAt_112 ic_0 ?_
                  refine VW.iadd d9_looksAt_113 ?_
                  obtain ⟨h285, e286, hr⟩ := hlt hr
                  refine VW.putI (k := 17) d9_looksAt_114 (oo_9 o9_114) rfl fl_9_209 ck9 rfl rfl rfl rfl ?_
                  refine VW.heq e286 ?_
                  refine VW.iload d9_looksAt_117 1 rfl ?_
                  refine VW.if_eq 184 d9_looksAt_119 (by decide) (fun c287 => ?_) (fun c287 => ?_)
                  · skip
                    exact VW.vret d9_looksAt_184 hR (rV hr)
                  · exact (c287 (by decide)).elim
                · exact (c284 (by decide)).elim
              · replace hr := im hr c283
                refine VW.iconst (v := 0) d9_looksAt_95 ic_0 ?_
                refine VW.istore (lo' := [(7, .int 0), (6, .int 0), (5, .int r215), (4, .int 0), (0, .ref (γ.2.2.1 114)), (1, .int x1), (2, .int x2), (3, .int x3)]) d9_looksAt_96 (by decide) rfl ?_
                refine VW.aload_n d9_looksAt_98 4 rfl ?_
                refine VW.dup d9_looksAt_99 rfl ?_
                refine VW.getI (k := 17) d9_looksAt_100 (oo_9 o9_114) rfl fl_9_209 ck9 ?_
                refine VW.iload d9_looksAt_103 1 rfl ?_
                refine VW.if_eq 112 d9_looksAt_105 (by decide) (fun c288 => ?_) (fun c288 => ?_)
                · skip
                  refine VW.iconst (v := 0) d9_looksAt_112 ic_0 ?_
                  refine VW.iadd d9_looksAt_113 ?_
                  obtain ⟨h289, e290, hr⟩ := hlt hr
                  refine VW.putI (k := 17) d9_looksAt_114 (oo_9 o9_114) rfl fl_9_209 ck9 rfl rfl rfl rfl ?_
                  refine VW.heq e290 ?_
                  refine VW.iload d9_looksAt_117 1 rfl ?_
                  refine VW.if_eq 184 d9_looksAt_119 (by decide) (fun c291 => ?_) (fun c291 => ?_)
                  · skip
                    exact VW.vret d9_looksAt_184 hR (rV hr)
                  · exact (c291 (by decide)).elim
                · exact (c288 (by decide)).elim
          · replace hr := im hr c277
            refine VW.iconst (v := 1) d9_looksAt_61 ic_1 ?_
            refine VW.goto 74 d9_looksAt_62 (by decide) ?_
            refine VW.istore (lo' := [(6, .int 1), (5, .int r215), (4, .int 0), (0, .ref (γ.2.2.1 114)), (1, .int x1), (2, .int x2), (3, .int x3)]) d9_looksAt_74 (by decide) rfl ?_
            refine VW.iload_n d9_looksAt_76 5 rfl ?_
            refine VW.if_ne 85 d9_looksAt_77 (by decide) (fun c292 => ?_) (fun c292 => ?_)
            · replace hr := ip hr c292
              refine VW.iload d9_looksAt_80 2 rfl ?_
              refine VW.goto 96 d9_looksAt_82 (by decide) ?_
              refine VW.istore (lo' := [(7, .int 0), (6, .int 1), (5, .int r215), (4, .int 0), (0, .ref (γ.2.2.1 114)), (1, .int x1), (2, .int x2), (3, .int x3)]) d9_looksAt_96 (by decide) rfl ?_
              refine VW.aload_n d9_looksAt_98 4 rfl ?_
              refine VW.dup d9_looksAt_99 rfl ?_
              refine VW.getI (k := 17) d9_looksAt_100 (oo_9 o9_114) rfl fl_9_209 ck9 ?_
              refine VW.iload d9_looksAt_103 1 rfl ?_
              refine VW.if_eq 112 d9_looksAt_105 (by decide) (fun c293 => ?_) (fun c293 => ?_)
              · exact absurd c293 (by decide)
              · skip
                refine VW.iconst (v := 1) d9_looksAt_108 ic_1 ?_
                refine VW.goto 113 d9_looksAt_109 (by decide) ?_
                refine VW.iadd d9_looksAt_113 ?_
                obtain ⟨h294, e295, hr⟩ := hlt hr
                refine VW.putI (k := 17) d9_looksAt_114 (oo_9 o9_114) rfl fl_9_209 ck9 rfl rfl rfl rfl ?_
                refine VW.heq e295 ?_
                refine VW.iload d9_looksAt_117 1 rfl ?_
                refine VW.if_eq 184 d9_looksAt_119 (by decide) (fun c296 => ?_) (fun c296 => ?_)
                · exact absurd c296 (by decide)
                · skip
                  refine VW.aload_n d9_looksAt_122 4 rfl ?_
                  refine VW.getI (k := 14) d9_looksAt_123 (oo_9 o9_114) rfl fl_9_212 ck9 ?_
                  refine VW.if_eq 138 d9_looksAt_126 (by decide) (fun c297 => ?_) (fun c297 => ?_)
                  · replace hr := ip hr c297
                    refine VW.aload_n d9_looksAt_138 4 rfl ?_
                    refine VW.aload_n d9_looksAt_139 4 rfl ?_
                    refine VW.getI (k := 11) d9_looksAt_140 (oo_9 o9_114) rfl fl_9_151 ck9 ?_
                    obtain ⟨h298, e299, hr⟩ := hlt hr
                    refine VW.putI (k := 14) d9_looksAt_143 (oo_9 o9_114) rfl fl_9_212 ck9 rfl rfl rfl rfl ?_
                    refine VW.heq e299 ?_
                    refine VW.aload_n d9_looksAt_146 4 rfl ?_
                    refine VW.iload d9_looksAt_147 0 rfl ?_
                    obtain ⟨h300, e301, hr⟩ := hlt hr
                    refine VW.putI (k := 16) d9_looksAt_149 (oo_9 o9_114) rfl fl_9_215 ck9 rfl rfl rfl rfl ?_
                    refine VW.heq e301 ?_
                    refine VW.iconst (v := 0) d9_looksAt_152 ic_0 ?_
                    refine VW.istore (lo' := [(8, .int 0), (7, .int 0), (6, .int 1), (5, .int r215), (4, .int 0), (0, .ref (γ.2.2.1 114)), (1, .int x1), (2, .int x2), (3, .int x3)]) d9_looksAt_153 (by decide) rfl ?_
                    exact VW.sub [5, 0] rfl (s_9_looksAt_155 hd hR FU 0 h300 hr)
                  · replace hr := im hr c297
                    refine VW.iload d9_looksAt_129 0 rfl ?_
                    refine VW.aload_n d9_looksAt_131 4 rfl ?_
                    refine VW.getI (k := 16) d9_looksAt_132 (oo_9 o9_114) rfl fl_9_215 ck9 ?_
                    refine VW.icmp_ge 184 d9_looksAt_135 (by decide) (fun c302 => ?_) (fun c302 => ?_)
                    · replace hr := ip hr c302
                      exact VW.vret d9_looksAt_184 hR (rV hr)
                    · replace hr := im hr c302
                      refine VW.aload_n d9_looksAt_138 4 rfl ?_
                      refine VW.aload_n d9_looksAt_139 4 rfl ?_
                      refine VW.getI (k := 11) d9_looksAt_140 (oo_9 o9_114) rfl fl_9_151 ck9 ?_
                      obtain ⟨h303, e304, hr⟩ := hlt hr
                      refine VW.putI (k := 14) d9_looksAt_143 (oo_9 o9_114) rfl fl_9_212 ck9 rfl rfl rfl rfl ?_
                      refine VW.heq e304 ?_
                      refine VW.aload_n d9_looksAt_146 4 rfl ?_
                      refine VW.iload d9_looksAt_147 0 rfl ?_
                      obtain ⟨h305, e306, hr⟩ := hlt hr
                      refine VW.putI (k := 16) d9_looksAt_149 (oo_9 o9_114) rfl fl_9_215 ck9 rfl rfl rfl rfl ?_
                      refine VW.heq e306 ?_
                      refine VW.iconst (v := 0) d9_looksAt_152 ic_0 ?_
                      refine VW.istore (lo' := [(8, .int 0), (7, .int 0), (6, .int 1), (5, .int r215), (4, .int 0), (0, .ref (γ.2.2.1 114)), (1, .int x1), (2, .int x2), (3, .int x3)]) d9_looksAt_153 (by decide) rfl ?_
                      exact VW.sub [5, 0] rfl (s_9_looksAt_155 hd hR FU 0 h305 hr)
            · replace hr := im hr c292
              refine VW.iload_n d9_looksAt_85 5 rfl ?_
              refine VW.iconst (v := 1) d9_looksAt_86 ic_1 ?_
              refine VW.icmp_ne 95 d9_looksAt_87 (by decide) (fun c307 => ?_) (fun c307 => ?_)
              · replace hr := ip hr c307
                refine VW.iload d9_looksAt_90 1 rfl ?_
                refine VW.goto 96 d9_looksAt_92 (by decide) ?_
                refine VW.istore (lo' := [(7, .int r215), (6, .int 1), (5, .int r215), (4, .int 0), (0, .ref (γ.2.2.1 114)), (1, .int x1), (2, .int x2), (3, .int x3)]) d9_looksAt_96 (by decide) rfl ?_
                refine VW.aload_n d9_looksAt_98 4 rfl ?_
                refine VW.dup d9_looksAt_99 rfl ?_
                refine VW.getI (k := 17) d9_looksAt_100 (oo_9 o9_114) rfl fl_9_209 ck9 ?_
                refine VW.iload d9_looksAt_103 1 rfl ?_
                refine VW.if_eq 112 d9_looksAt_105 (by decide) (fun c308 => ?_) (fun c308 => ?_)
                · exact absurd c308 (by decide)
                · skip
                  refine VW.iconst (v := 1) d9_looksAt_108 ic_1 ?_
                  refine VW.goto 113 d9_looksAt_109 (by decide) ?_
                  refine VW.iadd d9_looksAt_113 ?_
                  obtain ⟨h309, e310, hr⟩ := hlt hr
                  refine VW.putI (k := 17) d9_looksAt_114 (oo_9 o9_114) rfl fl_9_209 ck9 rfl rfl rfl rfl ?_
                  refine VW.heq e310 ?_
                  refine VW.iload d9_looksAt_117 1 rfl ?_
                  refine VW.if_eq 184 d9_looksAt_119 (by decide) (fun c311 => ?_) (fun c311 => ?_)
                  · exact absurd c311 (by decide)
                  · skip
                    refine VW.aload_n d9_looksAt_122 4 rfl ?_
                    refine VW.getI (k := 14) d9_looksAt_123 (oo_9 o9_114) rfl fl_9_212 ck9 ?_
                    refine VW.if_eq 138 d9_looksAt_126 (by decide) (fun c312 => ?_) (fun c312 => ?_)
                    · replace hr := ip hr c312
                      refine VW.aload_n d9_looksAt_138 4 rfl ?_
                      refine VW.aload_n d9_looksAt_139 4 rfl ?_
                      refine VW.getI (k := 11) d9_looksAt_140 (oo_9 o9_114) rfl fl_9_151 ck9 ?_
                      obtain ⟨h313, e314, hr⟩ := hlt hr
                      refine VW.putI (k := 14) d9_looksAt_143 (oo_9 o9_114) rfl fl_9_212 ck9 rfl rfl rfl rfl ?_
                      refine VW.heq e314 ?_
                      refine VW.aload_n d9_looksAt_146 4 rfl ?_
                      refine VW.iload d9_looksAt_147 0 rfl ?_
                      obtain ⟨h315, e316, hr⟩ := hlt hr
                      refine VW.putI (k := 16) d9_looksAt_149 (oo_9 o9_114) rfl fl_9_215 ck9 rfl rfl rfl rfl ?_
                      refine VW.heq e316 ?_
                      refine VW.iconst (v := 0) d9_looksAt_152 ic_0 ?_
                      refine VW.istore (lo' := [(8, .int 0), (7, .int r215), (6, .int 1), (5, .int r215), (4, .int 0), (0, .ref (γ.2.2.1 114)), (1, .int x1), (2, .int x2), (3, .int x3)]) d9_looksAt_153 (by decide) rfl ?_
                      exact VW.sub [5, 0] rfl (s_9_looksAt_155 hd hR FU 0 h315 hr)
                    · replace hr := im hr c312
                      refine VW.iload d9_looksAt_129 0 rfl ?_
                      refine VW.aload_n d9_looksAt_131 4 rfl ?_
                      refine VW.getI (k := 16) d9_looksAt_132 (oo_9 o9_114) rfl fl_9_215 ck9 ?_
                      refine VW.icmp_ge 184 d9_looksAt_135 (by decide) (fun c317 => ?_) (fun c317 => ?_)
                      · replace hr := ip hr c317
                        exact VW.vret d9_looksAt_184 hR (rV hr)
                      · replace hr := im hr c317
                        refine VW.aload_n d9_looksAt_138 4 rfl ?_
                        refine VW.aload_n d9_looksAt_139 4 rfl ?_
                        refine VW.getI (k := 11) d9_looksAt_140 (oo_9 o9_114) rfl fl_9_151 ck9 ?_
                        obtain ⟨h318, e319, hr⟩ := hlt hr
                        refine VW.putI (k := 14) d9_looksAt_143 (oo_9 o9_114) rfl fl_9_212 ck9 rfl rfl rfl rfl ?_
                        refine VW.heq e319 ?_
                        refine VW.aload_n d9_looksAt_146 4 rfl ?_
                        refine VW.iload d9_looksAt_147 0 rfl ?_
                        obtain ⟨h320, e321, hr⟩ := hlt hr
                        refine VW.putI (k := 16) d9_looksAt_149 (oo_9 o9_114) rfl fl_9_215 ck9 rfl rfl rfl rfl ?_
                        refine VW.heq e321 ?_
                        refine VW.iconst (v := 0) d9_looksAt_152 ic_0 ?_
                        refine VW.istore (lo' := [(8, .int 0), (7, .int r215), (6, .int 1), (5, .int r215), (4, .int 0), (0, .ref (γ.2.2.1 114)), (1, .int x1), (2, .int x2), (3, .int x3)]) d9_looksAt_153 (by decide) rfl ?_
                        exact VW.sub [5, 0] rfl (s_9_looksAt_155 hd hR FU 0 h320 hr)
              · replace hr := im hr c307
                refine VW.iconst (v := 0) d9_looksAt_95 ic_0 ?_
                refine VW.istore (lo' := [(7, .int 0), (6, .int 1), (5, .int r215), (4, .int 0), (0, .ref (γ.2.2.1 114)), (1, .int x1), (2, .int x2), (3, .int x3)]) d9_looksAt_96 (by decide) rfl ?_
                refine VW.aload_n d9_looksAt_98 4 rfl ?_
                refine VW.dup d9_looksAt_99 rfl ?_
                refine VW.getI (k := 17) d9_looksAt_100 (oo_9 o9_114) rfl fl_9_209 ck9 ?_
                refine VW.iload d9_looksAt_103 1 rfl ?_
                refine VW.if_eq 112 d9_looksAt_105 (by decide) (fun c322 => ?_) (fun c322 => ?_)
                · exact absurd c322 (by decide)
                · skip
                  refine VW.iconst (v := 1) d9_looksAt_108 ic_1 ?_
                  refine VW.goto 113 d9_looksAt_109 (by decide) ?_
                  refine VW.iadd d9_looksAt_113 ?_
                  obtain ⟨h323, e324, hr⟩ := hlt hr
                  refine VW.putI (k := 17) d9_looksAt_114 (oo_9 o9_114) rfl fl_9_209 ck9 rfl rfl rfl rfl ?_
                  refine VW.heq e324 ?_
                  refine VW.iload d9_looksAt_117 1 rfl ?_
                  refine VW.if_eq 184 d9_looksAt_119 (by decide) (fun c325 => ?_) (fun c325 => ?_)
                  · exact absurd c325 (by decide)
                  · skip
                    refine VW.aload_n d9_looksAt_122 4 rfl ?_
                    refine VW.getI (k := 14) d9_looksAt_123 (oo_9 o9_114) rfl fl_9_212 ck9 ?_
                    refine VW.if_eq 138 d9_looksAt_126 (by decide) (fun c326 => ?_) (fun c326 => ?_)
                    · replace hr := ip hr c326
                      refine VW.aload_n d9_looksAt_138 4 rfl ?_
                      refine VW.aload_n d9_looksAt_139 4 rfl ?_
                      refine VW.getI (k := 11) d9_looksAt_140 (oo_9 o9_114) rfl fl_9_151 ck9 ?_
                      obtain ⟨h327, e328, hr⟩ := hlt hr
                      refine VW.putI (k := 14) d9_looksAt_143 (oo_9 o9_114) rfl fl_9_212 ck9 rfl rfl rfl rfl ?_
                      refine VW.heq e328 ?_
                      refine VW.aload_n d9_looksAt_146 4 rfl ?_
                      refine VW.iload d9_looksAt_147 0 rfl ?_
                      obtain ⟨h329, e330, hr⟩ := hlt hr
                      refine VW.putI (k := 16) d9_looksAt_149 (oo_9 o9_114) rfl fl_9_215 ck9 rfl rfl rfl rfl ?_
                      refine VW.heq e330 ?_
                      refine VW.iconst (v := 0) d9_looksAt_152 ic_0 ?_
                      refine VW.istore (lo' := [(8, .int 0), (7, .int 0), (6, .int 1), (5, .int r215), (4, .int 0), (0, .ref (γ.2.2.1 114)), (1, .int x1), (2, .int x2), (3, .int x3)]) d9_looksAt_153 (by decide) rfl ?_
                      exact VW.sub [5, 0] rfl (s_9_looksAt_155 hd hR FU 0 h329 hr)
                    · replace hr := im hr c326
                      refine VW.iload d9_looksAt_129 0 rfl ?_
                      refine VW.aload_n d9_looksAt_131 4 rfl ?_
                      refine VW.getI (k := 16) d9_looksAt_132 (oo_9 o9_114) rfl fl_9_215 ck9 ?_
                      refine VW.icmp_ge 184 d9_looksAt_135 (by decide) (fun c331 => ?_) (fun c331 => ?_)
                      · replace hr := ip hr c331
                        exact VW.vret d9_looksAt_184 hR (rV hr)
                      · replace hr := im hr c331
                        refine VW.aload_n d9_looksAt_138 4 rfl ?_
                        refine VW.aload_n d9_looksAt_139 4 rfl ?_
                        refine VW.getI (k := 11) d9_looksAt_140 (oo_9 o9_114) rfl fl_9_151 ck9 ?_
                        obtain ⟨h332, e333, hr⟩ := hlt hr
                        refine VW.putI (k := 14) d9_looksAt_143 (oo_9 o9_114) rfl fl_9_212 ck9 rfl rfl rfl rfl ?_
                        refine VW.heq e333 ?_
                        refine VW.aload_n d9_looksAt_146 4 rfl ?_
                        refine VW.iload d9_looksAt_147 0 rfl ?_
                        obtain ⟨h334, e335, hr⟩ := hlt hr
                        refine VW.putI (k := 16) d9_looksAt_149 (oo_9 o9_114) rfl fl_9_215 ck9 rfl rfl rfl rfl ?_
                        refine VW.heq e335 ?_
                        refine VW.iconst (v := 0) d9_looksAt_152 ic_0 ?_
                        refine VW.istore (lo' := [(8, .int 0), (7, .int 0), (6, .int 1), (5, .int r215), (4, .int 0), (0, .ref (γ.2.2.1 114)), (1, .int x1), (2, .int x2), (3, .int x3)]) d9_looksAt_153 (by decide) rfl ?_
                        exact VW.sub [5, 0] rfl (s_9_looksAt_155 hd hR FU 0 h334 hr)
        · replace hr := im hr c276
          refine VW.aload_n d9_looksAt_69 2 rfl ?_
          refine VW.iload_n d9_looksAt_70 3 rfl ?_
          obtain ⟨r337, h338, e336, hr⟩ := bno2 hr
          refine VW.callV (As := [.int x1]) (st := []) d9_looksAt_71 mi_9_isHeard cv_9_206 (oo_9 o9_114) ⟨rfl, rfl⟩ (by decide) (dl1 hd) _ rfl (Nat.le_of_ble_eq_true rfl) rfl (c_9_isHeard (dl hd rfl) e336) (kI ?_)
          refine VW.istore (lo' := [(6, .int r337), (5, .int r215), (4, .int 0), (0, .ref (γ.2.2.1 114)), (1, .int x1), (2, .int x2), (3, .int x3)]) d9_looksAt_74 (by decide) rfl ?_
          refine VW.iload_n d9_looksAt_76 5 rfl ?_
          refine VW.if_ne 85 d9_looksAt_77 (by decide) (fun c339 => ?_) (fun c339 => ?_)
          · replace hr := ip hr c339
            refine VW.iload d9_looksAt_80 2 rfl ?_
            refine VW.goto 96 d9_looksAt_82 (by decide) ?_
            refine VW.istore (lo' := [(7, .int 0), (6, .int r337), (5, .int r215), (4, .int 0), (0, .ref (γ.2.2.1 114)), (1, .int x1), (2, .int x2), (3, .int x3)]) d9_looksAt_96 (by decide) rfl ?_
            refine VW.aload_n d9_looksAt_98 4 rfl ?_
            refine VW.dup d9_looksAt_99 rfl ?_
            refine VW.getI (k := 17) d9_looksAt_100 (oo_9 o9_114) rfl fl_9_209 ck9 ?_
            refine VW.iload d9_looksAt_103 1 rfl ?_
            refine VW.if_eq 112 d9_looksAt_105 (by decide) (fun c340 => ?_) (fun c340 => ?_)
            · replace hr := ip hr c340
              refine VW.iconst (v := 0) d9_looksAt_112 ic_0 ?_
              refine VW.iadd d9_looksAt_113 ?_
              obtain ⟨h341, e342, hr⟩ := hlt hr
              refine VW.putI (k := 17) d9_looksAt_114 (oo_9 o9_114) rfl fl_9_209 ck9 rfl rfl rfl rfl ?_
              refine VW.heq e342 ?_
              refine VW.iload d9_looksAt_117 1 rfl ?_
              refine VW.if_eq 184 d9_looksAt_119 (by decide) (fun c343 => ?_) (fun c343 => ?_)
              · replace hr := ip hr c343
                exact VW.vret d9_looksAt_184 hR (rV hr)
              · replace hr := im hr c343
                refine VW.aload_n d9_looksAt_122 4 rfl ?_
                refine VW.getI (k := 14) d9_looksAt_123 (oo_9 o9_114) rfl fl_9_212 ck9 ?_
                refine VW.if_eq 138 d9_looksAt_126 (by decide) (fun c344 => ?_) (fun c344 => ?_)
                · replace hr := ip hr c344
                  refine VW.aload_n d9_looksAt_138 4 rfl ?_
                  refine VW.aload_n d9_looksAt_139 4 rfl ?_
                  refine VW.getI (k := 11) d9_looksAt_140 (oo_9 o9_114) rfl fl_9_151 ck9 ?_
                  obtain ⟨h345, e346, hr⟩ := hlt hr
                  refine VW.putI (k := 14) d9_looksAt_143 (oo_9 o9_114) rfl fl_9_212 ck9 rfl rfl rfl rfl ?_
                  refine VW.heq e346 ?_
                  refine VW.aload_n d9_looksAt_146 4 rfl ?_
                  refine VW.iload d9_looksAt_147 0 rfl ?_
                  obtain ⟨h347, e348, hr⟩ := hlt hr
                  refine VW.putI (k := 16) d9_looksAt_149 (oo_9 o9_114) rfl fl_9_215 ck9 rfl rfl rfl rfl ?_
                  refine VW.heq e348 ?_
                  refine VW.iconst (v := 0) d9_looksAt_152 ic_0 ?_
                  refine VW.istore (lo' := [(8, .int 0), (7, .int 0), (6, .int r337), (5, .int r215), (4, .int 0), (0, .ref (γ.2.2.1 114)), (1, .int x1), (2, .int x2), (3, .int x3)]) d9_looksAt_153 (by decide) rfl ?_
                  exact VW.sub [5, 0] rfl (s_9_looksAt_155 hd hR FU 0 h347 hr)
                · replace hr := im hr c344
                  refine VW.iload d9_looksAt_129 0 rfl ?_
                  refine VW.aload_n d9_looksAt_131 4 rfl ?_
                  refine VW.getI (k := 16) d9_looksAt_132 (oo_9 o9_114) rfl fl_9_215 ck9 ?_
                  refine VW.icmp_ge 184 d9_looksAt_135 (by decide) (fun c349 => ?_) (fun c349 => ?_)
                  · replace hr := ip hr c349
                    exact VW.vret d9_looksAt_184 hR (rV hr)
                  · replace hr := im hr c349
                    refine VW.aload_n d9_looksAt_138 4 rfl ?_
                    refine VW.aload_n d9_looksAt_139 4 rfl ?_
                    refine VW.getI (k := 11) d9_looksAt_140 (oo_9 o9_114) rfl fl_9_151 ck9 ?_
                    obtain ⟨h350, e351, hr⟩ := hlt hr
                    refine VW.putI (k := 14) d9_looksAt_143 (oo_9 o9_114) rfl fl_9_212 ck9 rfl rfl rfl rfl ?_
                    refine VW.heq e351 ?_
                    refine VW.aload_n d9_looksAt_146 4 rfl ?_
                    refine VW.iload d9_looksAt_147 0 rfl ?_
                    obtain ⟨h352, e353, hr⟩ := hlt hr
                    refine VW.putI (k := 16) d9_looksAt_149 (oo_9 o9_114) rfl fl_9_215 ck9 rfl rfl rfl rfl ?_
                    refine VW.heq e353 ?_
                    refine VW.iconst (v := 0) d9_looksAt_152 ic_0 ?_
                    refine VW.istore (lo' := [(8, .int 0), (7, .int 0), (6, .int r337), (5, .int r215), (4, .int 0), (0, .ref (γ.2.2.1 114)), (1, .int x1), (2, .int x2), (3, .int x3)]) d9_looksAt_153 (by decide) rfl ?_
                    exact VW.sub [5, 0] rfl (s_9_looksAt_155 hd hR FU 0 h352 hr)
            · replace hr := im hr c340
              refine VW.iconst (v := 1) d9_looksAt_108 ic_1 ?_
              refine VW.goto 113 d9_looksAt_109 (by decide) ?_
              refine VW.iadd d9_looksAt_113 ?_
              obtain ⟨h354, e355, hr⟩ := hlt hr
              refine VW.putI (k := 17) d9_looksAt_114 (oo_9 o9_114) rfl fl_9_209 ck9 rfl rfl rfl rfl ?_
              refine VW.heq e355 ?_
              refine VW.iload d9_looksAt_117 1 rfl ?_
              refine VW.if_eq 184 d9_looksAt_119 (by decide) (fun c356 => ?_) (fun c356 => ?_)
              · replace hr := ip hr c356
                exact VW.vret d9_looksAt_184 hR (rV hr)
              · replace hr := im hr c356
                refine VW.aload_n d9_looksAt_122 4 rfl ?_
                refine VW.getI (k := 14) d9_looksAt_123 (oo_9 o9_114) rfl fl_9_212 ck9 ?_
                refine VW.if_eq 138 d9_looksAt_126 (by decide) (fun c357 => ?_) (fun c357 => ?_)
                · replace hr := ip hr c357
                  refine VW.aload_n d9_looksAt_138 4 rfl ?_
                  refine VW.aload_n d9_looksAt_139 4 rfl ?_
                  refine VW.getI (k := 11) d9_looksAt_140 (oo_9 o9_114) rfl fl_9_151 ck9 ?_
                  obtain ⟨h358, e359, hr⟩ := hlt hr
                  refine VW.putI (k := 14) d9_looksAt_143 (oo_9 o9_114) rfl fl_9_212 ck9 rfl rfl rfl rfl ?_
                  refine VW.heq e359 ?_
                  refine VW.aload_n d9_looksAt_146 4 rfl ?_
                  refine VW.iload d9_looksAt_147 0 rfl ?_
                  obtain ⟨h360, e361, hr⟩ := hlt hr
                  refine VW.putI (k := 16) d9_looksAt_149 (oo_9 o9_114) rfl fl_9_215 ck9 rfl rfl rfl rfl ?_
                  refine VW.heq e361 ?_
                  refine VW.iconst (v := 0) d9_looksAt_152 ic_0 ?_
                  refine VW.istore (lo' := [(8, .int 0), (7, .int 0), (6, .int r337), (5, .int r215), (4, .int 0), (0, .ref (γ.2.2.1 114)), (1, .int x1), (2, .int x2), (3, .int x3)]) d9_looksAt_153 (by decide) rfl ?_
                  exact VW.sub [5, 0] rfl (s_9_looksAt_155 hd hR FU 0 h360 hr)
                · replace hr := im hr c357
                  refine VW.iload d9_looksAt_129 0 rfl ?_
                  refine VW.aload_n d9_looksAt_131 4 rfl ?_
                  refine VW.getI (k := 16) d9_looksAt_132 (oo_9 o9_114) rfl fl_9_215 ck9 ?_
                  refine VW.icmp_ge 184 d9_looksAt_135 (by decide) (fun c362 => ?_) (fun c362 => ?_)
                  · replace hr := ip hr c362
                    exact VW.vret d9_looksAt_184 hR (rV hr)
                  · replace hr := im hr c362
                    refine VW.aload_n d9_looksAt_138 4 rfl ?_
                    refine VW.aload_n d9_looksAt_139 4 rfl ?_
                    refine VW.getI (k := 11) d9_looksAt_140 (oo_9 o9_114) rfl fl_9_151 ck9 ?_
                    obtain ⟨h363, e364, hr⟩ := hlt hr
                    refine VW.putI (k := 14) d9_looksAt_143 (oo_9 o9_114) rfl fl_9_212 ck9 rfl rfl rfl rfl ?_
                    refine VW.heq e364 ?_
                    refine VW.aload_n d9_looksAt_146 4 rfl ?_
                    refine VW.iload d9_looksAt_147 0 rfl ?_
                    obtain ⟨h365, e366, hr⟩ := hlt hr
                    refine VW.putI (k := 16) d9_looksAt_149 (oo_9 o9_114) rfl fl_9_215 ck9 rfl rfl rfl rfl ?_
                    refine VW.heq e366 ?_
                    refine VW.iconst (v := 0) d9_looksAt_152 ic_0 ?_
                    refine VW.istore (lo' := [(8, .int 0), (7, .int 0), (6, .int r337), (5, .int r215), (4, .int 0), (0, .ref (γ.2.2.1 114)), (1, .int x1), (2, .int x2), (3, .int x3)]) d9_looksAt_153 (by decide) rfl ?_
                    exact VW.sub [5, 0] rfl (s_9_looksAt_155 hd hR FU 0 h365 hr)
          · replace hr := im hr c339
            refine VW.iload_n d9_looksAt_85 5 rfl ?_
            refine VW.iconst (v := 1) d9_looksAt_86 ic_1 ?_
            refine VW.icmp_ne 95 d9_looksAt_87 (by decide) (fun c367 => ?_) (fun c367 => ?_)
            · replace hr := ip hr c367
              refine VW.iload d9_looksAt_90 1 rfl ?_
              refine VW.goto 96 d9_looksAt_92 (by decide) ?_
              refine VW.istore (lo' := [(7, .int r215), (6, .int r337), (5, .int r215), (4, .int 0), (0, .ref (γ.2.2.1 114)), (1, .int x1), (2, .int x2), (3, .int x3)]) d9_looksAt_96 (by decide) rfl ?_
              refine VW.aload_n d9_looksAt_98 4 rfl ?_
              refine VW.dup d9_looksAt_99 rfl ?_
              refine VW.getI (k := 17) d9_looksAt_100 (oo_9 o9_114) rfl fl_9_209 ck9 ?_
              refine VW.iload d9_looksAt_103 1 rfl ?_
              refine VW.if_eq 112 d9_looksAt_105 (by decide) (fun c368 => ?_) (fun c368 => ?_)
              · replace hr := ip hr c368
                refine VW.iconst (v := 0) d9_looksAt_112 ic_0 ?_
                refine VW.iadd d9_looksAt_113 ?_
                obtain ⟨h369, e370, hr⟩ := hlt hr
                refine VW.putI (k := 17) d9_looksAt_114 (oo_9 o9_114) rfl fl_9_209 ck9 rfl rfl rfl rfl ?_
                refine VW.heq e370 ?_
                refine VW.iload d9_looksAt_117 1 rfl ?_
                refine VW.if_eq 184 d9_looksAt_119 (by decide) (fun c371 => ?_) (fun c371 => ?_)
                · replace hr := ip hr c371
                  exact VW.vret d9_looksAt_184 hR (rV hr)
                · replace hr := im hr c371
                  refine VW.aload_n d9_looksAt_122 4 rfl ?_
                  refine VW.getI (k := 14) d9_looksAt_123 (oo_9 o9_114) rfl fl_9_212 ck9 ?_
                  refine VW.if_eq 138 d9_looksAt_126 (by decide) (fun c372 => ?_) (fun c372 => ?_)
                  · replace hr := ip hr c372
                    refine VW.aload_n d9_looksAt_138 4 rfl ?_
                    refine VW.aload_n d9_looksAt_139 4 rfl ?_
                    refine VW.getI (k := 11) d9_looksAt_140 (oo_9 o9_114) rfl fl_9_151 ck9 ?_
                    obtain ⟨h373, e374, hr⟩ := hlt hr
                    refine VW.putI (k := 14) d9_looksAt_143 (oo_9 o9_114) rfl fl_9_212 ck9 rfl rfl rfl rfl ?_
                    refine VW.heq e374 ?_
                    refine VW.aload_n d9_looksAt_146 4 rfl ?_
                    refine VW.iload d9_looksAt_147 0 rfl ?_
                    obtain ⟨h375, e376, hr⟩ := hlt hr
                    refine VW.putI (k := 16) d9_looksAt_149 (oo_9 o9_114) rfl fl_9_215 ck9 rfl rfl rfl rfl ?_
                    refine VW.heq e376 ?_
                    refine VW.iconst (v := 0) d9_looksAt_152 ic_0 ?_
                    refine VW.istore (lo' := [(8, .int 0), (7, .int r215), (6, .int r337), (5, .int r215), (4, .int 0), (0, .ref (γ.2.2.1 114)), (1, .int x1), (2, .int x2), (3, .int x3)]) d9_looksAt_153 (by decide) rfl ?_
                    exact VW.sub [5, 0] rfl (s_9_looksAt_155 hd hR FU 0 h375 hr)
                  · replace hr := im hr c372
                    refine VW.iload d9_looksAt_129 0 rfl ?_
                    refine VW.aload_n d9_looksAt_131 4 rfl ?_
                    refine VW.getI (k := 16) d9_looksAt_132 (oo_9 o9_114) rfl fl_9_215 ck9 ?_
                    refine VW.icmp_ge 184 d9_looksAt_135 (by decide) (fun c377 => ?_) (fun c377 => ?_)
                    · replace hr := ip hr c377
                      exact VW.vret d9_looksAt_184 hR (rV hr)
                    · replace hr := im hr c377
                      refine VW.aload_n d9_looksAt_138 4 rfl ?_
                      refine VW.aload_n d9_looksAt_139 4 rfl ?_
                      refine VW.getI (k := 11) d9_looksAt_140 (oo_9 o9_114) rfl fl_9_151 ck9 ?_
                      obtain ⟨h378, e379, hr⟩ := hlt hr
                      refine VW.putI (k := 14) d9_looksAt_143 (oo_9 o9_114) rfl fl_9_212 ck9 rfl rfl rfl rfl ?_
                      refine VW.heq e379 ?_
                      refine VW.aload_n d9_looksAt_146 4 rfl ?_
                      refine VW.iload d9_looksAt_147 0 rfl ?_
                      obtain ⟨h380, e381, hr⟩ := hlt hr
                      refine VW.putI (k := 16) d9_looksAt_149 (oo_9 o9_114) rfl fl_9_215 ck9 rfl rfl rfl rfl ?_
                      refine VW.heq e381 ?_
                      refine VW.iconst (v := 0) d9_looksAt_152 ic_0 ?_
                      refine VW.istore (lo' := [(8, .int 0), (7, .int r215), (6, .int r337), (5, .int r215), (4, .int 0), (0, .ref (γ.2.2.1 114)), (1, .int x1), (2, .int x2), (3, .int x3)]) d9_looksAt_153 (by decide) rfl ?_
                      exact VW.sub [5, 0] rfl (s_9_looksAt_155 hd hR FU 0 h380 hr)
              · replace hr := im hr c368
                refine VW.iconst (v := 1) d9_looksAt_108 ic_1 ?_
                refine VW.goto 113 d9_looksAt_109 (by decide) ?_
                refine VW.iadd d9_looksAt_113 ?_
                obtain ⟨h382, e383, hr⟩ := hlt hr
                refine VW.putI (k := 17) d9_looksAt_114 (oo_9 o9_114) rfl fl_9_209 ck9 rfl rfl rfl rfl ?_
                refine VW.heq e383 ?_
                refine VW.iload d9_looksAt_117 1 rfl ?_
                refine VW.if_eq 184 d9_looksAt_119 (by decide) (fun c384 => ?_) (fun c384 => ?_)
                · replace hr := ip hr c384
                  exact VW.vret d9_looksAt_184 hR (rV hr)
                · replace hr := im hr c384
                  refine VW.aload_n d9_looksAt_122 4 rfl ?_
                  refine VW.getI (k := 14) d9_looksAt_123 (oo_9 o9_114) rfl fl_9_212 ck9 ?_
                  refine VW.if_eq 138 d9_looksAt_126 (by decide) (fun c385 => ?_) (fun c385 => ?_)
                  · replace hr := ip hr c385
                    refine VW.aload_n d9_looksAt_138 4 rfl ?_
                    refine VW.aload_n d9_looksAt_139 4 rfl ?_
                    refine VW.getI (k := 11) d9_looksAt_140 (oo_9 o9_114) rfl fl_9_151 ck9 ?_
                    obtain ⟨h386, e387, hr⟩ := hlt hr
                    refine VW.putI (k := 14) d9_looksAt_143 (oo_9 o9_114) rfl fl_9_212 ck9 rfl rfl rfl rfl ?_
                    refine VW.heq e387 ?_
                    refine VW.aload_n d9_looksAt_146 4 rfl ?_
                    refine VW.iload d9_looksAt_147 0 rfl ?_
                    obtain ⟨h388, e389, hr⟩ := hlt hr
                    refine VW.putI (k := 16) d9_looksAt_149 (oo_9 o9_114) rfl fl_9_215 ck9 rfl rfl rfl rfl ?_
                    refine VW.heq e389 ?_
                    refine VW.iconst (v := 0) d9_looksAt_152 ic_0 ?_
                    refine VW.istore (lo' := [(8, .int 0), (7, .int r215), (6, .int r337), (5, .int r215), (4, .int 0), (0, .ref (γ.2.2.1 114)), (1, .int x1), (2, .int x2), (3, .int x3)]) d9_looksAt_153 (by decide) rfl ?_
                    exact VW.sub [5, 0] rfl (s_9_looksAt_155 hd hR FU 0 h388 hr)
                  · replace hr := im hr c385
                    refine VW.iload d9_looksAt_129 0 rfl ?_
                    refine VW.aload_n d9_looksAt_131 4 rfl ?_
                    refine VW.getI (k := 16) d9_looksAt_132 (oo_9 o9_114) rfl fl_9_215 ck9 ?_
                    refine VW.icmp_ge 184 d9_looksAt_135 (by decide) (fun c390 => ?_) (fun c390 => ?_)
                    · replace hr := ip hr c390
                      exact VW.vret d9_looksAt_184 hR (rV hr)
                    · replace hr := im hr c390
                      refine VW.aload_n d9_looksAt_138 4 rfl ?_
                      refine VW.aload_n d9_looksAt_139 4 rfl ?_
                      refine VW.getI (k := 11) d9_looksAt_140 (oo_9 o9_114) rfl fl_9_151 ck9 ?_
                      obtain ⟨h391, e392, hr⟩ := hlt hr
                      refine VW.putI (k := 14) d9_looksAt_143 (oo_9 o9_114) rfl fl_9_212 ck9 rfl rfl rfl rfl ?_
                      refine VW.heq e392 ?_
                      refine VW.aload_n d9_looksAt_146 4 rfl ?_
                      refine VW.iload d9_looksAt_147 0 rfl ?_
                      obtain ⟨h393, e394, hr⟩ := hlt hr
                      refine VW.putI (k := 16) d9_looksAt_149 (oo_9 o9_114) rfl fl_9_215 ck9 rfl rfl rfl rfl ?_
                      refine VW.heq e394 ?_
                      refine VW.iconst (v := 0) d9_looksAt_152 ic_0 ?_
                      refine VW.istore (lo' := [(8, .int 0), (7, .int r215), (6, .int r337), (5, .int r215), (4, .int 0), (0, .ref (γ.2.2.1 114)), (1, .int x1), (2, .int x2), (3, .int x3)]) d9_looksAt_153 (by decide) rfl ?_
                      exact VW.sub [5, 0] rfl (s_9_looksAt_155 hd hR FU 0 h393 hr)
            · replace hr := im hr c367
              refine VW.iconst (v := 0) d9_looksAt_95 ic_0 ?_
              refine VW.istore (lo' := [(7, .int 0), (6, .int r337), (5, .int r215), (4, .int 0), (0, .ref (γ.2.2.1 114)), (1, .int x1), (2, .int x2), (3, .int x3)]) d9_looksAt_96 (by decide) rfl ?_
              refine VW.aload_n d9_looksAt_98 4 rfl ?_
              refine VW.dup d9_looksAt_99 rfl ?_
              refine VW.getI (k := 17) d9_looksAt_100 (oo_9 o9_114) rfl fl_9_209 ck9 ?_
              refine VW.iload d9_looksAt_103 1 rfl ?_
              refine VW.if_eq 112 d9_looksAt_105 (by decide) (fun c395 => ?_) (fun c395 => ?_)
              · replace hr := ip hr c395
                refine VW.iconst (v := 0) d9_looksAt_112 ic_0 ?_
                refine VW.iadd d9_looksAt_113 ?_
                obtain ⟨h396, e397, hr⟩ := hlt hr
                refine VW.putI (k := 17) d9_looksAt_114 (oo_9 o9_114) rfl fl_9_209 ck9 rfl rfl rfl rfl ?_
                refine VW.heq e397 ?_
                refine VW.iload d9_looksAt_117 1 rfl ?_
                refine VW.if_eq 184 d9_looksAt_119 (by decide) (fun c398 => ?_) (fun c398 => ?_)
                · replace hr := ip hr c398
                  exact VW.vret d9_looksAt_184 hR (rV hr)
                · replace hr := im hr c398
                  refine VW.aload_n d9_looksAt_122 4 rfl ?_
                  refine VW.getI (k := 14) d9_looksAt_123 (oo_9 o9_114) rfl fl_9_212 ck9 ?_
                  refine VW.if_eq 138 d9_looksAt_126 (by decide) (fun c399 => ?_) (fun c399 => ?_)
                  · replace hr := ip hr c399
                    refine VW.aload_n d9_looksAt_138 4 rfl ?_
                    refine VW.aload_n d9_looksAt_139 4 rfl ?_
                    refine VW.getI (k := 11) d9_looksAt_140 (oo_9 o9_114) rfl fl_9_151 ck9 ?_
                    obtain ⟨h400, e401, hr⟩ := hlt hr
                    refine VW.putI (k := 14) d9_looksAt_143 (oo_9 o9_114) rfl fl_9_212 ck9 rfl rfl rfl rfl ?_
                    refine VW.heq e401 ?_
                    refine VW.aload_n d9_looksAt_146 4 rfl ?_
                    refine VW.iload d9_looksAt_147 0 rfl ?_
                    obtain ⟨h402, e403, hr⟩ := hlt hr
                    refine VW.putI (k := 16) d9_looksAt_149 (oo_9 o9_114) rfl fl_9_215 ck9 rfl rfl rfl rfl ?_
                    refine VW.heq e403 ?_
                    refine VW.iconst (v := 0) d9_looksAt_152 ic_0 ?_
                    refine VW.istore (lo' := [(8, .int 0), (7, .int 0), (6, .int r337), (5, .int r215), (4, .int 0), (0, .ref (γ.2.2.1 114)), (1, .int x1), (2, .int x2), (3, .int x3)]) d9_looksAt_153 (by decide) rfl ?_
                    exact VW.sub [5, 0] rfl (s_9_looksAt_155 hd hR FU 0 h402 hr)
                  · replace hr := im hr c399
                    refine VW.iload d9_looksAt_129 0 rfl ?_
                    refine VW.aload_n d9_looksAt_131 4 rfl ?_
                    refine VW.getI (k := 16) d9_looksAt_132 (oo_9 o9_114) rfl fl_9_215 ck9 ?_
                    refine VW.icmp_ge 184 d9_looksAt_135 (by decide) (fun c404 => ?_) (fun c404 => ?_)
                    · replace hr := ip hr c404
                      exact VW.vret d9_looksAt_184 hR (rV hr)
                    · replace hr := im hr c404
                      refine VW.aload_n d9_looksAt_138 4 rfl ?_
                      refine VW.aload_n d9_looksAt_139 4 rfl ?_
                      refine VW.getI (k := 11) d9_looksAt_140 (oo_9 o9_114) rfl fl_9_151 ck9 ?_
                      obtain ⟨h405, e406, hr⟩ := hlt hr
                      refine VW.putI (k := 14) d9_looksAt_143 (oo_9 o9_114) rfl fl_9_212 ck9 rfl rfl rfl rfl ?_
                      refine VW.heq e406 ?_
                      refine VW.aload_n d9_looksAt_146 4 rfl ?_
                      refine VW.iload d9_looksAt_147 0 rfl ?_
                      obtain ⟨h407, e408, hr⟩ := hlt hr
                      refine VW.putI (k := 16) d9_looksAt_149 (oo_9 o9_114) rfl fl_9_215 ck9 rfl rfl rfl rfl ?_
                      refine VW.heq e408 ?_
                      refine VW.iconst (v := 0) d9_looksAt_152 ic_0 ?_
                      refine VW.istore (lo' := [(8, .int 0), (7, .int 0), (6, .int r337), (5, .int r215), (4, .int 0), (0, .ref (γ.2.2.1 114)), (1, .int x1), (2, .int x2), (3, .int x3)]) d9_looksAt_153 (by decide) rfl ?_
                      exact VW.sub [5, 0] rfl (s_9_looksAt_155 hd hR FU 0 h407 hr)
              · replace hr := im hr c395
                refine VW.iconst (v := 1) d9_looksAt_108 ic_1 ?_
                refine VW.goto 113 d9_looksAt_109 (by decide) ?_
                refine VW.iadd d9_looksAt_113 ?_
                obtain ⟨h409, e410, hr⟩ := hlt hr
                refine VW.putI (k := 17) d9_looksAt_114 (oo_9 o9_114) rfl fl_9_209 ck9 rfl rfl rfl rfl ?_
                refine VW.heq e410 ?_
                refine VW.iload d9_looksAt_117 1 rfl ?_
                refine VW.if_eq 184 d9_looksAt_119 (by decide) (fun c411 => ?_) (fun c411 => ?_)
                · replace hr := ip hr c411
                  exact VW.vret d9_looksAt_184 hR (rV hr)
                · replace hr := im hr c411
                  refine VW.aload_n d9_looksAt_122 4 rfl ?_
                  refine VW.getI (k := 14) d9_looksAt_123 (oo_9 o9_114) rfl fl_9_212 ck9 ?_
                  refine VW.if_eq 138 d9_looksAt_126 (by decide) (fun c412 => ?_) (fun c412 => ?_)
                  · replace hr := ip hr c412
                    refine VW.aload_n d9_looksAt_138 4 rfl ?_
                    refine VW.aload_n d9_looksAt_139 4 rfl ?_
                    refine VW.getI (k := 11) d9_looksAt_140 (oo_9 o9_114) rfl fl_9_151 ck9 ?_
                    obtain ⟨h413, e414, hr⟩ := hlt hr
                    refine VW.putI (k := 14) d9_looksAt_143 (oo_9 o9_114) rfl fl_9_212 ck9 rfl rfl rfl rfl ?_
                    refine VW.heq e414 ?_
                    refine VW.aload_n d9_looksAt_146 4 rfl ?_
                    refine VW.iload d9_looksAt_147 0 rfl ?_
                    obtain ⟨h415, e416, hr⟩ := hlt hr
                    refine VW.putI (k := 16) d9_looksAt_149 (oo_9 o9_114) rfl fl_9_215 ck9 rfl rfl rfl rfl ?_
                    refine VW.heq e416 ?_
                    refine VW.iconst (v := 0) d9_looksAt_152 ic_0 ?_
                    refine VW.istore (lo' := [(8, .int 0), (7, .int 0), (6, .int r337), (5, .int r215), (4, .int 0), (0, .ref (γ.2.2.1 114)), (1, .int x1), (2, .int x2), (3, .int x3)]) d9_looksAt_153 (by decide) rfl ?_
                    exact VW.sub [5, 0] rfl (s_9_looksAt_155 hd hR FU 0 h415 hr)
                  · replace hr := im hr c412
                    refine VW.iload d9_looksAt_129 0 rfl ?_
                    refine VW.aload_n d9_looksAt_131 4 rfl ?_
                    refine VW.getI (k := 16) d9_looksAt_132 (oo_9 o9_114) rfl fl_9_215 ck9 ?_
                    refine VW.icmp_ge 184 d9_looksAt_135 (by decide) (fun c417 => ?_) (fun c417 => ?_)
                    · replace hr := ip hr c417
                      exact VW.vret d9_looksAt_184 hR (rV hr)
                    · replace hr := im hr c417
                      refine VW.aload_n d9_looksAt_138 4 rfl ?_
                      refine VW.aload_n d9_looksAt_139 4 rfl ?_
                      refine VW.getI (k := 11) d9_looksAt_140 (oo_9 o9_114) rfl fl_9_151 ck9 ?_
                      obtain ⟨h418, e419, hr⟩ := hlt hr
                      refine VW.putI (k := 14) d9_looksAt_143 (oo_9 o9_114) rfl fl_9_212 ck9 rfl rfl rfl rfl ?_
                      refine VW.heq e419 ?_
                      refine VW.aload_n d9_looksAt_146 4 rfl ?_
                      refine VW.iload d9_looksAt_147 0 rfl ?_
                      obtain ⟨h420, e421, hr⟩ := hlt hr
                      refine VW.putI (k := 16) d9_looksAt_149 (oo_9 o9_114) rfl fl_9_215 ck9 rfl rfl rfl rfl ?_
                      refine VW.heq e421 ?_
                      refine VW.iconst (v := 0) d9_looksAt_152 ic_0 ?_
                      refine VW.istore (lo' := [(8, .int 0), (7, .int 0), (6, .int r337), (5, .int r215), (4, .int 0), (0, .ref (γ.2.2.1 114)), (1, .int x1), (2, .int x2), (3, .int x3)]) d9_looksAt_153 (by decide) rfl ?_
                      exact VW.sub [5, 0] rfl (s_9_looksAt_155 hd hR FU 0 h420 hr)
  · replace hr := im hr c1
    refine VW.aload_n d9_looksAt_9 0 rfl ?_
    refine VW.iload_n d9_looksAt_10 1 rfl ?_
    obtain ⟨r423, h424, e422, hr⟩ := bno2 hr
    refine VW.callV (As := [.int x1]) (st := []) d9_looksAt_11 mi_9_offNow cv_9_164 (oo_9 o9_114) ⟨rfl, rfl⟩ (by decide) (dl1 hd) _ rfl (Nat.le_of_ble_eq_true rfl) rfl (c_9_offNow (dl hd rfl) e422) (kI ?_)
    refine VW.istore (lo' := [(4, .int r423), (0, .ref (γ.2.2.1 114)), (1, .int x1), (2, .int x2), (3, .int x3)]) d9_looksAt_14 (by decide) rfl ?_
    refine VW.iload_n d9_looksAt_16 3 rfl ?_
    refine VW.iconst (v := 2) d9_looksAt_17 ic_2 ?_
    refine VW.icmp_ne 25 d9_looksAt_18 (by decide) (fun c425 => ?_) (fun c425 => ?_)
    · replace hr := ip hr c425
      refine VW.iconst (v := 0) d9_looksAt_21 ic_0 ?_
      refine VW.goto 30 d9_looksAt_22 (by decide) ?_
      refine VW.istore (lo' := [(5, .int 0), (4, .int r423), (0, .ref (γ.2.2.1 114)), (1, .int x1), (2, .int x2), (3, .int x3)]) d9_looksAt_30 (by decide) rfl ?_
      refine VW.iload_n d9_looksAt_32 4 rfl ?_
      refine VW.if_ne 50 d9_looksAt_33 (by decide) (fun c426 => ?_) (fun c426 => ?_)
      · replace hr := ip hr c426
        refine VW.iload d9_looksAt_36 0 rfl ?_
        refine VW.iload_n d9_looksAt_38 5 rfl ?_
        refine VW.icmp_gt 46 d9_looksAt_39 (by decide) (fun c427 => ?_) (fun c427 => ?_)
        · replace hr := ip hr c427
          refine VW.iconst (v := 0) d9_looksAt_46 ic_0 ?_
          refine VW.goto 74 d9_looksAt_47 (by decide) ?_
          refine VW.istore (lo' := [(6, .int 0), (5, .int 0), (4, .int r423), (0, .ref (γ.2.2.1 114)), (1, .int x1), (2, .int x2), (3, .int x3)]) d9_looksAt_74 (by decide) rfl ?_
          refine VW.iload_n d9_looksAt_76 5 rfl ?_
          refine VW.if_ne 85 d9_looksAt_77 (by decide) (fun c428 => ?_) (fun c428 => ?_)
          · replace hr := ip hr c428
            refine VW.iload d9_looksAt_80 2 rfl ?_
            refine VW.goto 96 d9_looksAt_82 (by decide) ?_
            refine VW.istore (lo' := [(7, .int r423), (6, .int 0), (5, .int 0), (4, .int r423), (0, .ref (γ.2.2.1 114)), (1, .int x1), (2, .int x2), (3, .int x3)]) d9_looksAt_96 (by decide) rfl ?_
            refine VW.aload_n d9_looksAt_98 4 rfl ?_
            refine VW.dup d9_looksAt_99 rfl ?_
            refine VW.getI (k := 17) d9_looksAt_100 (oo_9 o9_114) rfl fl_9_209 ck9 ?_
            refine VW.iload d9_looksAt_103 1 rfl ?_
            refine VW.if_eq 112 d9_looksAt_105 (by decide) (fun c429 => ?_) (fun c429 => ?_)
            · skip
              refine VW.iconst (v := 0) d9_looksAt_112 ic_0 ?_
              refine VW.iadd d9_looksAt_113 ?_
              obtain ⟨h430, e431, hr⟩ := hlt hr
              refine VW.putI (k := 17) d9_looksAt_114 (oo_9 o9_114) rfl fl_9_209 ck9 rfl rfl rfl rfl ?_
              refine VW.heq e431 ?_
              refine VW.iload d9_looksAt_117 1 rfl ?_
              refine VW.if_eq 184 d9_looksAt_119 (by decide) (fun c432 => ?_) (fun c432 => ?_)
              · skip
                exact VW.vret d9_looksAt_184 hR (rV hr)
              · exact (c432 (by decide)).elim
            · exact (c429 (by decide)).elim
          · replace hr := im hr c428
            refine VW.iload_n d9_looksAt_85 5 rfl ?_
            refine VW.iconst (v := 1) d9_looksAt_86 ic_1 ?_
            refine VW.icmp_ne 95 d9_looksAt_87 (by decide) (fun c433 => ?_) (fun c433 => ?_)
            · replace hr := ip hr c433
              refine VW.iload d9_looksAt_90 1 rfl ?_
              refine VW.goto 96 d9_looksAt_92 (by decide) ?_
              refine VW.istore (lo' := [(7, .int 0), (6, .int 0), (5, .int 0), (4, .int r423), (0, .ref (γ.2.2.1 114)), (1, .int x1), (2, .int x2), (3, .int x3)]) d9_looksAt_96 (by decide) rfl ?_
              refine VW.aload_n d9_looksAt_98 4 rfl ?_
              refine VW.dup d9_looksAt_99 rfl ?_
              refine VW.getI (k := 17) d9_looksAt_100 (oo_9 o9_114) rfl fl_9_209 ck9 ?_
              refine VW.iload d9_looksAt_103 1 rfl ?_
              refine VW.if_eq 112 d9_looksAt_105 (by decide) (fun c434 => ?_) (fun c434 => ?_)
              · skip
                refine VW.iconst (v := 0) d9_looksAt_112 ic_0 ?_
                refine VW.iadd d9_looksAt_113 ?_
                obtain ⟨h435, e436, hr⟩ := hlt hr
                refine VW.putI (k := 17) d9_looksAt_114 (oo_9 o9_114) rfl fl_9_209 ck9 rfl rfl rfl rfl ?_
                refine VW.heq e436 ?_
                refine VW.iload d9_looksAt_117 1 rfl ?_
                refine VW.if_eq 184 d9_looksAt_119 (by decide) (fun c437 => ?_) (fun c437 => ?_)
                · skip
                  exact VW.vret d9_looksAt_184 hR (rV hr)
                · exact (c437 (by decide)).elim
              · exact (c434 (by decide)).elim
            · replace hr := im hr c433
              refine VW.iconst (v := 0) d9_looksAt_95 ic_0 ?_
              refine VW.istore (lo' := [(7, .int 0), (6, .int 0), (5, .int 0), (4, .int r423), (0, .ref (γ.2.2.1 114)), (1, .int x1), (2, .int x2), (3, .int x3)]) d9_looksAt_96 (by decide) rfl ?_
              refine VW.aload_n d9_looksAt_98 4 rfl ?_
              refine VW.dup d9_looksAt_99 rfl ?_
              refine VW.getI (k := 17) d9_looksAt_100 (oo_9 o9_114) rfl fl_9_209 ck9 ?_
              refine VW.iload d9_looksAt_103 1 rfl ?_
              refine VW.if_eq 112 d9_looksAt_105 (by decide) (fun c438 => ?_) (fun c438 => ?_)
              · skip
                refine VW.iconst (v := 0) d9_looksAt_112 ic_0 ?_
                refine VW.iadd d9_looksAt_113 ?_
                obtain ⟨h439, e440, hr⟩ := hlt hr
                refine VW.putI (k := 17) d9_looksAt_114 (oo_9 o9_114) rfl fl_9_209 ck9 rfl rfl rfl rfl ?_
                refine VW.heq e440 ?_
                refine VW.iload d9_looksAt_117 1 rfl ?_
                refine VW.if_eq 184 d9_looksAt_119 (by decide) (fun c441 => ?_) (fun c441 => ?_)
                · skip
                  exact VW.vret d9_looksAt_184 hR (rV hr)
                · exact (c441 (by decide)).elim
              · exact (c438 (by decide)).elim
        · replace hr := im hr c427
          refine VW.iconst (v := 1) d9_looksAt_42 ic_1 ?_
          refine VW.goto 74 d9_looksAt_43 (by decide) ?_
          refine VW.istore (lo' := [(6, .int 1), (5, .int 0), (4, .int r423), (0, .ref (γ.2.2.1 114)), (1, .int x1), (2, .int x2), (3, .int x3)]) d9_looksAt_74 (by decide) rfl ?_
          refine VW.iload_n d9_looksAt_76 5 rfl ?_
          refine VW.if_ne 85 d9_looksAt_77 (by decide) (fun c442 => ?_) (fun c442 => ?_)
          · replace hr := ip hr c442
            refine VW.iload d9_looksAt_80 2 rfl ?_
            refine VW.goto 96 d9_looksAt_82 (by decide) ?_
            refine VW.istore (lo' := [(7, .int r423), (6, .int 1), (5, .int 0), (4, .int r423), (0, .ref (γ.2.2.1 114)), (1, .int x1), (2, .int x2), (3, .int x3)]) d9_looksAt_96 (by decide) rfl ?_
            refine VW.aload_n d9_looksAt_98 4 rfl ?_
            refine VW.dup d9_looksAt_99 rfl ?_
            refine VW.getI (k := 17) d9_looksAt_100 (oo_9 o9_114) rfl fl_9_209 ck9 ?_
            refine VW.iload d9_looksAt_103 1 rfl ?_
            refine VW.if_eq 112 d9_looksAt_105 (by decide) (fun c443 => ?_) (fun c443 => ?_)
            · exact absurd c443 (by decide)
            · skip
              refine VW.iconst (v := 1) d9_looksAt_108 ic_1 ?_
              refine VW.goto 113 d9_looksAt_109 (by decide) ?_
              refine VW.iadd d9_looksAt_113 ?_
              obtain ⟨h444, e445, hr⟩ := hlt hr
              refine VW.putI (k := 17) d9_looksAt_114 (oo_9 o9_114) rfl fl_9_209 ck9 rfl rfl rfl rfl ?_
              refine VW.heq e445 ?_
              refine VW.iload d9_looksAt_117 1 rfl ?_
              refine VW.if_eq 184 d9_looksAt_119 (by decide) (fun c446 => ?_) (fun c446 => ?_)
              · exact absurd c446 (by decide)
              · skip
                refine VW.aload_n d9_looksAt_122 4 rfl ?_
                refine VW.getI (k := 14) d9_looksAt_123 (oo_9 o9_114) rfl fl_9_212 ck9 ?_
                refine VW.if_eq 138 d9_looksAt_126 (by decide) (fun c447 => ?_) (fun c447 => ?_)
                · replace hr := ip hr c447
                  refine VW.aload_n d9_looksAt_138 4 rfl ?_
                  refine VW.aload_n d9_looksAt_139 4 rfl ?_
                  refine VW.getI (k := 11) d9_looksAt_140 (oo_9 o9_114) rfl fl_9_151 ck9 ?_
                  obtain ⟨h448, e449, hr⟩ := hlt hr
                  refine VW.putI (k := 14) d9_looksAt_143 (oo_9 o9_114) rfl fl_9_212 ck9 rfl rfl rfl rfl ?_
                  refine VW.heq e449 ?_
                  refine VW.aload_n d9_looksAt_146 4 rfl ?_
                  refine VW.iload d9_looksAt_147 0 rfl ?_
                  obtain ⟨h450, e451, hr⟩ := hlt hr
                  refine VW.putI (k := 16) d9_looksAt_149 (oo_9 o9_114) rfl fl_9_215 ck9 rfl rfl rfl rfl ?_
                  refine VW.heq e451 ?_
                  refine VW.iconst (v := 0) d9_looksAt_152 ic_0 ?_
                  refine VW.istore (lo' := [(8, .int 0), (7, .int r423), (6, .int 1), (5, .int 0), (4, .int r423), (0, .ref (γ.2.2.1 114)), (1, .int x1), (2, .int x2), (3, .int x3)]) d9_looksAt_153 (by decide) rfl ?_
                  exact VW.sub [5, 0] rfl (s_9_looksAt_155 hd hR FU 0 h450 hr)
                · replace hr := im hr c447
                  refine VW.iload d9_looksAt_129 0 rfl ?_
                  refine VW.aload_n d9_looksAt_131 4 rfl ?_
                  refine VW.getI (k := 16) d9_looksAt_132 (oo_9 o9_114) rfl fl_9_215 ck9 ?_
                  refine VW.icmp_ge 184 d9_looksAt_135 (by decide) (fun c452 => ?_) (fun c452 => ?_)
                  · replace hr := ip hr c452
                    exact VW.vret d9_looksAt_184 hR (rV hr)
                  · replace hr := im hr c452
                    refine VW.aload_n d9_looksAt_138 4 rfl ?_
                    refine VW.aload_n d9_looksAt_139 4 rfl ?_
                    refine VW.getI (k := 11) d9_looksAt_140 (oo_9 o9_114) rfl fl_9_151 ck9 ?_
                    obtain ⟨h453, e454, hr⟩ := hlt hr
                    refine VW.putI (k := 14) d9_looksAt_143 (oo_9 o9_114) rfl fl_9_212 ck9 rfl rfl rfl rfl ?_
                    refine VW.heq e454 ?_
                    refine VW.aload_n d9_looksAt_146 4 rfl ?_
                    refine VW.iload d9_looksAt_147 0 rfl ?_
                    obtain ⟨h455, e456, hr⟩ := hlt hr
                    refine VW.putI (k := 16) d9_looksAt_149 (oo_9 o9_114) rfl fl_9_215 ck9 rfl rfl rfl rfl ?_
                    refine VW.heq e456 ?_
                    refine VW.iconst (v := 0) d9_looksAt_152 ic_0 ?_
                    refine VW.istore (lo' := [(8, .int 0), (7, .int r423), (6, .int 1), (5, .int 0), (4, .int r423), (0, .ref (γ.2.2.1 114)), (1, .int x1), (2, .int x2), (3, .int x3)]) d9_looksAt_153 (by decide) rfl ?_
                    exact VW.sub [5, 0] rfl (s_9_looksAt_155 hd hR FU 0 h455 hr)
          · replace hr := im hr c442
            refine VW.iload_n d9_looksAt_85 5 rfl ?_
            refine VW.iconst (v := 1) d9_looksAt_86 ic_1 ?_
            refine VW.icmp_ne 95 d9_looksAt_87 (by decide) (fun c457 => ?_) (fun c457 => ?_)
            · replace hr := ip hr c457
              refine VW.iload d9_looksAt_90 1 rfl ?_
              refine VW.goto 96 d9_looksAt_92 (by decide) ?_
              refine VW.istore (lo' := [(7, .int 0), (6, .int 1), (5, .int 0), (4, .int r423), (0, .ref (γ.2.2.1 114)), (1, .int x1), (2, .int x2), (3, .int x3)]) d9_looksAt_96 (by decide) rfl ?_
              refine VW.aload_n d9_looksAt_98 4 rfl ?_
              refine VW.dup d9_looksAt_99 rfl ?_
              refine VW.getI (k := 17) d9_looksAt_100 (oo_9 o9_114) rfl fl_9_209 ck9 ?_
              refine VW.iload d9_looksAt_103 1 rfl ?_
              refine VW.if_eq 112 d9_looksAt_105 (by decide) (fun c458 => ?_) (fun c458 => ?_)
              · exact absurd c458 (by decide)
              · skip
                refine VW.iconst (v := 1) d9_looksAt_108 ic_1 ?_
                refine VW.goto 113 d9_looksAt_109 (by decide) ?_
                refine VW.iadd d9_looksAt_113 ?_
                obtain ⟨h459, e460, hr⟩ := hlt hr
                refine VW.putI (k := 17) d9_looksAt_114 (oo_9 o9_114) rfl fl_9_209 ck9 rfl rfl rfl rfl ?_
                refine VW.heq e460 ?_
                refine VW.iload d9_looksAt_117 1 rfl ?_
                refine VW.if_eq 184 d9_looksAt_119 (by decide) (fun c461 => ?_) (fun c461 => ?_)
                · exact absurd c461 (by decide)
                · skip
                  refine VW.aload_n d9_looksAt_122 4 rfl ?_
                  refine VW.getI (k := 14) d9_looksAt_123 (oo_9 o9_114) rfl fl_9_212 ck9 ?_
                  refine VW.if_eq 138 d9_looksAt_126 (by decide) (fun c462 => ?_) (fun c462 => ?_)
                  · replace hr := ip hr c462
                    refine VW.aload_n d9_looksAt_138 4 rfl ?_
                    refine VW.aload_n d9_looksAt_139 4 rfl ?_
                    refine VW.getI (k := 11) d9_looksAt_140 (oo_9 o9_114) rfl fl_9_151 ck9 ?_
                    obtain ⟨h463, e464, hr⟩ := hlt hr
                    refine VW.putI (k := 14) d9_looksAt_143 (oo_9 o9_114) rfl fl_9_212 ck9 rfl rfl rfl rfl ?_
                    refine VW.heq e464 ?_
                    refine VW.aload_n d9_looksAt_146 4 rfl ?_
                    refine VW.iload d9_looksAt_147 0 rfl ?_
                    obtain ⟨h465, e466, hr⟩ := hlt hr
                    refine VW.putI (k := 16) d9_looksAt_149 (oo_9 o9_114) rfl fl_9_215 ck9 rfl rfl rfl rfl ?_
                    refine VW.heq e466 ?_
                    refine VW.iconst (v := 0) d9_looksAt_152 ic_0 ?_
                    refine VW.istore (lo' := [(8, .int 0), (7, .int 0), (6, .int 1), (5, .int 0), (4, .int r423), (0, .ref (γ.2.2.1 114)), (1, .int x1), (2, .int x2), (3, .int x3)]) d9_looksAt_153 (by decide) rfl ?_
                    exact VW.sub [5, 0] rfl (s_9_looksAt_155 hd hR FU 0 h465 hr)
                  · replace hr := im hr c462
                    refine VW.iload d9_looksAt_129 0 rfl ?_
                    refine VW.aload_n d9_looksAt_131 4 rfl ?_
                    refine VW.getI (k := 16) d9_looksAt_132 (oo_9 o9_114) rfl fl_9_215 ck9 ?_
                    refine VW.icmp_ge 184 d9_looksAt_135 (by decide) (fun c467 => ?_) (fun c467 => ?_)
                    · replace hr := ip hr c467
                      exact VW.vret d9_looksAt_184 hR (rV hr)
                    · replace hr := im hr c467
                      refine VW.aload_n d9_looksAt_138 4 rfl ?_
                      refine VW.aload_n d9_looksAt_139 4 rfl ?_
                      refine VW.getI (k := 11) d9_looksAt_140 (oo_9 o9_114) rfl fl_9_151 ck9 ?_
                      obtain ⟨h468, e469, hr⟩ := hlt hr
                      refine VW.putI (k := 14) d9_looksAt_143 (oo_9 o9_114) rfl fl_9_212 ck9 rfl rfl rfl rfl ?_
                      refine VW.heq e469 ?_
                      refine VW.aload_n d9_looksAt_146 4 rfl ?_
                      refine VW.iload d9_looksAt_147 0 rfl ?_
                      obtain ⟨h470, e471, hr⟩ := hlt hr
                      refine VW.putI (k := 16) d9_looksAt_149 (oo_9 o9_114) rfl fl_9_215 ck9 rfl rfl rfl rfl ?_
                      refine VW.heq e471 ?_
                      refine VW.iconst (v := 0) d9_looksAt_152 ic_0 ?_
                      refine VW.istore (lo' := [(8, .int 0), (7, .int 0), (6, .int 1), (5, .int 0), (4, .int r423), (0, .ref (γ.2.2.1 114)), (1, .int x1), (2, .int x2), (3, .int x3)]) d9_looksAt_153 (by decide) rfl ?_
                      exact VW.sub [5, 0] rfl (s_9_looksAt_155 hd hR FU 0 h470 hr)
            · replace hr := im hr c457
              refine VW.iconst (v := 0) d9_looksAt_95 ic_0 ?_
              refine VW.istore (lo' := [(7, .int 0), (6, .int 1), (5, .int 0), (4, .int r423), (0, .ref (γ.2.2.1 114)), (1, .int x1), (2, .int x2), (3, .int x3)]) d9_looksAt_96 (by decide) rfl ?_
              refine VW.aload_n d9_looksAt_98 4 rfl ?_
              refine VW.dup d9_looksAt_99 rfl ?_
              refine VW.getI (k := 17) d9_looksAt_100 (oo_9 o9_114) rfl fl_9_209 ck9 ?_
              refine VW.iload d9_looksAt_103 1 rfl ?_
              refine VW.if_eq 112 d9_looksAt_105 (by decide) (fun c472 => ?_) (fun c472 => ?_)
              · exact absurd c472 (by decide)
              · skip
                refine VW.iconst (v := 1) d9_looksAt_108 ic_1 ?_
                refine VW.goto 113 d9_looksAt_109 (by decide) ?_
                refine VW.iadd d9_looksAt_113 ?_
                obtain ⟨h473, e474, hr⟩ := hlt hr
                refine VW.putI (k := 17) d9_looksAt_114 (oo_9 o9_114) rfl fl_9_209 ck9 rfl rfl rfl rfl ?_
                refine VW.heq e474 ?_
                refine VW.iload d9_looksAt_117 1 rfl ?_
                refine VW.if_eq 184 d9_looksAt_119 (by decide) (fun c475 => ?_) (fun c475 => ?_)
                · exact absurd c475 (by decide)
                · skip
                  refine VW.aload_n d9_looksAt_122 4 rfl ?_
                  refine VW.getI (k := 14) d9_looksAt_123 (oo_9 o9_114) rfl fl_9_212 ck9 ?_
                  refine VW.if_eq 138 d9_looksAt_126 (by decide) (fun c476 => ?_) (fun c476 => ?_)
                  · replace hr := ip hr c476
                    refine VW.aload_n d9_looksAt_138 4 rfl ?_
                    refine VW.aload_n d9_looksAt_139 4 rfl ?_
                    refine VW.getI (k := 11) d9_looksAt_140 (oo_9 o9_114) rfl fl_9_151 ck9 ?_
                    obtain ⟨h477, e478, hr⟩ := hlt hr
                    refine VW.putI (k := 14) d9_looksAt_143 (oo_9 o9_114) rfl fl_9_212 ck9 rfl rfl rfl rfl ?_
                    refine VW.heq e478 ?_
                    refine VW.aload_n d9_looksAt_146 4 rfl ?_
                    refine VW.iload d9_looksAt_147 0 rfl ?_
                    obtain ⟨h479, e480, hr⟩ := hlt hr
                    refine VW.putI (k := 16) d9_looksAt_149 (oo_9 o9_114) rfl fl_9_215 ck9 rfl rfl rfl rfl ?_
                    refine VW.heq e480 ?_
                    refine VW.iconst (v := 0) d9_looksAt_152 ic_0 ?_
                    refine VW.istore (lo' := [(8, .int 0), (7, .int 0), (6, .int 1), (5, .int 0), (4, .int r423), (0, .ref (γ.2.2.1 114)), (1, .int x1), (2, .int x2), (3, .int x3)]) d9_looksAt_153 (by decide) rfl ?_
                    exact VW.sub [5, 0] rfl (s_9_looksAt_155 hd hR FU 0 h479 hr)
                  · replace hr := im hr c476
                    refine VW.iload d9_looksAt_129 0 rfl ?_
                    refine VW.aload_n d9_looksAt_131 4 rfl ?_
                    refine VW.getI (k := 16) d9_looksAt_132 (oo_9 o9_114) rfl fl_9_215 ck9 ?_
                    refine VW.icmp_ge 184 d9_looksAt_135 (by decide) (fun c481 => ?_) (fun c481 => ?_)
                    · replace hr := ip hr c481
                      exact VW.vret d9_looksAt_184 hR (rV hr)
                    · replace hr := im hr c481
                      refine VW.aload_n d9_looksAt_138 4 rfl ?_
                      refine VW.aload_n d9_looksAt_139 4 rfl ?_
                      refine VW.getI (k := 11) d9_looksAt_140 (oo_9 o9_114) rfl fl_9_151 ck9 ?_
                      obtain ⟨h482, e483, hr⟩ := hlt hr
                      refine VW.putI (k := 14) d9_looksAt_143 (oo_9 o9_114) rfl fl_9_212 ck9 rfl rfl rfl rfl ?_
                      refine VW.heq e483 ?_
                      refine VW.aload_n d9_looksAt_146 4 rfl ?_
                      refine VW.iload d9_looksAt_147 0 rfl ?_
                      obtain ⟨h484, e485, hr⟩ := hlt hr
                      refine VW.putI (k := 16) d9_looksAt_149 (oo_9 o9_114) rfl fl_9_215 ck9 rfl rfl rfl rfl ?_
                      refine VW.heq e485 ?_
                      refine VW.iconst (v := 0) d9_looksAt_152 ic_0 ?_
                      refine VW.istore (lo' := [(8, .int 0), (7, .int 0), (6, .int 1), (5, .int 0), (4, .int r423), (0, .ref (γ.2.2.1 114)), (1, .int x1), (2, .int x2), (3, .int x3)]) d9_looksAt_153 (by decide) rfl ?_
                      exact VW.sub [5, 0] rfl (s_9_looksAt_155 hd hR FU 0 h484 hr)
      · replace hr := im hr c426
        refine VW.iload_n d9_looksAt_50 4 rfl ?_
        refine VW.iconst (v := 1) d9_looksAt_51 ic_1 ?_
        refine VW.icmp_ne 69 d9_looksAt_52 (by decide) (fun c486 => ?_) (fun c486 => ?_)
        · replace hr := ip hr c486
          refine VW.iload d9_looksAt_55 1 rfl ?_
          refine VW.iload_n d9_looksAt_57 5 rfl ?_
          refine VW.icmp_gt 65 d9_looksAt_58 (by decide) (fun c487 => ?_) (fun c487 => ?_)
          · replace hr := ip hr c487
            refine VW.iconst (v := 0) d9_looksAt_65 ic_0 ?_
            refine VW.goto 74 d9_looksAt_66 (by decide) ?_
            refine VW.istore (lo' := [(6, .int 0), (5, .int 0), (4, .int r423), (0, .ref (γ.2.2.1 114)), (1, .int x1), (2, .int x2), (3, .int x3)]) d9_looksAt_74 (by decide) rfl ?_
            refine VW.iload_n d9_looksAt_76 5 rfl ?_
            refine VW.if_ne 85 d9_looksAt_77 (by decide) (fun c488 => ?_) (fun c488 => ?_)
            · replace hr := ip hr c488
              refine VW.iload d9_looksAt_80 2 rfl ?_
              refine VW.goto 96 d9_looksAt_82 (by decide) ?_
              refine VW.istore (lo' := [(7, .int r423), (6, .int 0), (5, .int 0), (4, .int r423), (0, .ref (γ.2.2.1 114)), (1, .int x1), (2, .int x2), (3, .int x3)]) d9_looksAt_96 (by decide) rfl ?_
              refine VW.aload_n d9_looksAt_98 4 rfl ?_
              refine VW.dup d9_looksAt_99 rfl ?_
              refine VW.getI (k := 17) d9_looksAt_100 (oo_9 o9_114) rfl fl_9_209 ck9 ?_
              refine VW.iload d9_looksAt_103 1 rfl ?_
              refine VW.if_eq 112 d9_looksAt_105 (by decide) (fun c489 => ?_) (fun c489 => ?_)
              · skip
                refine VW.iconst (v := 0) d9_looksAt_112 ic_0 ?_
                refine VW.iadd d9_looksAt_113 ?_
                obtain ⟨h490, e491, hr⟩ := hlt hr
                refine VW.putI (k := 17) d9_looksAt_114 (oo_9 o9_114) rfl fl_9_209 ck9 rfl rfl rfl rfl ?_
                refine VW.heq e491 ?_
                refine VW.iload d9_looksAt_117 1 rfl ?_
                refine VW.if_eq 184 d9_looksAt_119 (by decide) (fun c492 => ?_) (fun c492 => ?_)
                · skip
                  exact VW.vret d9_looksAt_184 hR (rV hr)
                · exact (c492 (by decide)).elim
              · exact (c489 (by decide)).elim
            · replace hr := im hr c488
              refine VW.iload_n d9_looksAt_85 5 rfl ?_
              refine VW.iconst (v := 1) d9_looksAt_86 ic_1 ?_
              refine VW.icmp_ne 95 d9_looksAt_87 (by decide) (fun c493 => ?_) (fun c493 => ?_)
              · replace hr := ip hr c493
                refine VW.iload d9_looksAt_90 1 rfl ?_
                refine VW.goto 96 d9_looksAt_92 (by decide) ?_
                refine VW.istore (lo' := [(7, .int 0), (6, .int 0), (5, .int 0), (4, .int r423), (0, .ref (γ.2.2.1 114)), (1, .int x1), (2, .int x2), (3, .int x3)]) d9_looksAt_96 (by decide) rfl ?_
                refine VW.aload_n d9_looksAt_98 4 rfl ?_
                refine VW.dup d9_looksAt_99 rfl ?_
                refine VW.getI (k := 17) d9_looksAt_100 (oo_9 o9_114) rfl fl_9_209 ck9 ?_
                refine VW.iload d9_looksAt_103 1 rfl ?_
                refine VW.if_eq 112 d9_looksAt_105 (by decide) (fun c494 => ?_) (fun c494 => ?_)
                · skip
                  refine VW.iconst (v := 0) d9_looksAt_112 ic_0 ?_
                  refine VW.iadd d9_looksAt_113 ?_
                  obtain ⟨h495, e496, hr⟩ := hlt hr
                  refine VW.putI (k := 17) d9_looksAt_114 (oo_9 o9_114) rfl fl_9_209 ck9 rfl rfl rfl rfl ?_
                  refine VW.heq e496 ?_
                  refine VW.iload d9_looksAt_117 1 rfl ?_
                  refine VW.if_eq 184 d9_looksAt_119 (by decide) (fun c497 => ?_) (fun c497 => ?_)
                  · skip
                    exact VW.vret d9_looksAt_184 hR (rV hr)
                  · exact (c497 (by decide)).elim
                · exact (c494 (by decide)).elim
              · replace hr := im hr c493
                refine VW.iconst (v := 0) d9_looksAt_95 ic_0 ?_
                refine VW.istore (lo' := [(7, .int 0), (6, .int 0), (5, .int 0), (4, .int r423), (0, .ref (γ.2.2.1 114)), (1, .int x1), (2, .int x2), (3, .int x3)]) d9_looksAt_96 (by decide) rfl ?_
                refine VW.aload_n d9_looksAt_98 4 rfl ?_
                refine VW.dup d9_looksAt_99 rfl ?_
                refine VW.getI (k := 17) d9_looksAt_100 (oo_9 o9_114) rfl fl_9_209 ck9 ?_
                refine VW.iload d9_looksAt_103 1 rfl ?_
                refine VW.if_eq 112 d9_looksAt_105 (by decide) (fun c498 => ?_) (fun c498 => ?_)
                · skip
                  refine VW.iconst (v := 0) d9_looksAt_112 ic_0 ?_
                  refine VW.iadd d9_looksAt_113 ?_
                  obtain ⟨h499, e500, hr⟩ := hlt hr
                  refine VW.putI (k := 17) d9_looksAt_114 (oo_9 o9_114) rfl fl_9_209 ck9 rfl rfl rfl rfl ?_
                  refine VW.heq e500 ?_
                  refine VW.iload d9_looksAt_117 1 rfl ?_
                  refine VW.if_eq 184 d9_looksAt_119 (by decide) (fun c501 => ?_) (fun c501 => ?_)
                  · skip
                    exact VW.vret d9_looksAt_184 hR (rV hr)
                  · exact (c501 (by decide)).elim
                · exact (c498 (by decide)).elim
          · replace hr := im hr c487
            refine VW.iconst (v := 1) d9_looksAt_61 ic_1 ?_
            refine VW.goto 74 d9_looksAt_62 (by decide) ?_
            refine VW.istore (lo' := [(6, .int 1), (5, .int 0), (4, .int r423), (0, .ref (γ.2.2.1 114)), (1, .int x1), (2, .int x2), (3, .int x3)]) d9_looksAt_74 (by decide) rfl ?_
            refine VW.iload_n d9_looksAt_76 5 rfl ?_
            refine VW.if_ne 85 d9_looksAt_77 (by decide) (fun c502 => ?_) (fun c502 => ?_)
            · replace hr := ip hr c502
              refine VW.iload d9_looksAt_80 2 rfl ?_
              refine VW.goto 96 d9_looksAt_82 (by decide) ?_
              refine VW.istore (lo' := [(7, .int r423), (6, .int 1), (5, .int 0), (4, .int r423), (0, .ref (γ.2.2.1 114)), (1, .int x1), (2, .int x2), (3, .int x3)]) d9_looksAt_96 (by decide) rfl ?_
              refine VW.aload_n d9_looksAt_98 4 rfl ?_
              refine VW.dup d9_looksAt_99 rfl ?_
              refine VW.getI (k := 17) d9_looksAt_100 (oo_9 o9_114) rfl fl_9_209 ck9 ?_
              refine VW.iload d9_looksAt_103 1 rfl ?_
              refine VW.if_eq 112 d9_looksAt_105 (by decide) (fun c503 => ?_) (fun c503 => ?_)
              · exact absurd c503 (by decide)
              · skip
                refine VW.iconst (v := 1) d9_looksAt_108 ic_1 ?_
                refine VW.goto 113 d9_looksAt_109 (by decide) ?_
                refine VW.iadd d9_looksAt_113 ?_
                obtain ⟨h504, e505, hr⟩ := hlt hr
                refine VW.putI (k := 17) d9_looksAt_114 (oo_9 o9_114) rfl fl_9_209 ck9 rfl rfl rfl rfl ?_
                refine VW.heq e505 ?_
                refine VW.iload d9_looksAt_117 1 rfl ?_
                refine VW.if_eq 184 d9_looksAt_119 (by decide) (fun c506 => ?_) (fun c506 => ?_)
                · exact absurd c506 (by decide)
                · skip
                  refine VW.aload_n d9_looksAt_122 4 rfl ?_
                  refine VW.getI (k := 14) d9_looksAt_123 (oo_9 o9_114) rfl fl_9_212 ck9 ?_
                  refine VW.if_eq 138 d9_looksAt_126 (by decide) (fun c507 => ?_) (fun c507 => ?_)
                  · replace hr := ip hr c507
                    refine VW.aload_n d9_looksAt_138 4 rfl ?_
                    refine VW.aload_n d9_looksAt_139 4 rfl ?_
                    refine VW.getI (k := 11) d9_looksAt_140 (oo_9 o9_114) rfl fl_9_151 ck9 ?_
                    obtain ⟨h508, e509, hr⟩ := hlt hr
                    refine VW.putI (k := 14) d9_looksAt_143 (oo_9 o9_114) rfl fl_9_212 ck9 rfl rfl rfl rfl ?_
                    refine VW.heq e509 ?_
                    refine VW.aload_n d9_looksAt_146 4 rfl ?_
                    refine VW.iload d9_looksAt_147 0 rfl ?_
                    obtain ⟨h510, e511, hr⟩ := hlt hr
                    refine VW.putI (k := 16) d9_looksAt_149 (oo_9 o9_114) rfl fl_9_215 ck9 rfl rfl rfl rfl ?_
                    refine VW.heq e511 ?_
                    refine VW.iconst (v := 0) d9_looksAt_152 ic_0 ?_
                    refine VW.istore (lo' := [(8, .int 0), (7, .int r423), (6, .int 1), (5, .int 0), (4, .int r423), (0, .ref (γ.2.2.1 114)), (1, .int x1), (2, .int x2), (3, .int x3)]) d9_looksAt_153 (by decide) rfl ?_
                    exact VW.sub [5, 0] rfl (s_9_looksAt_155 hd hR FU 0 h510 hr)
                  · replace hr := im hr c507
                    refine VW.iload d9_looksAt_129 0 rfl ?_
                    refine VW.aload_n d9_looksAt_131 4 rfl ?_
                    refine VW.getI (k := 16) d9_looksAt_132 (oo_9 o9_114) rfl fl_9_215 ck9 ?_
                    refine VW.icmp_ge 184 d9_looksAt_135 (by decide) (fun c512 => ?_) (fun c512 => ?_)
                    · replace hr := ip hr c512
                      exact VW.vret d9_looksAt_184 hR (rV hr)
                    · replace hr := im hr c512
                      refine VW.aload_n d9_looksAt_138 4 rfl ?_
                      refine VW.aload_n d9_looksAt_139 4 rfl ?_
                      refine VW.getI (k := 11) d9_looksAt_140 (oo_9 o9_114) rfl fl_9_151 ck9 ?_
                      obtain ⟨h513, e514, hr⟩ := hlt hr
                      refine VW.putI (k := 14) d9_looksAt_143 (oo_9 o9_114) rfl fl_9_212 ck9 rfl rfl rfl rfl ?_
                      refine VW.heq e514 ?_
                      refine VW.aload_n d9_looksAt_146 4 rfl ?_
                      refine VW.iload d9_looksAt_147 0 rfl ?_
                      obtain ⟨h515, e516, hr⟩ := hlt hr
                      refine VW.putI (k := 16) d9_looksAt_149 (oo_9 o9_114) rfl fl_9_215 ck9 rfl rfl rfl rfl ?_
                      refine VW.heq e516 ?_
                      refine VW.iconst (v := 0) d9_looksAt_152 ic_0 ?_
                      refine VW.istore (lo' := [(8, .int 0), (7, .int r423), (6, .int 1), (5, .int 0), (4, .int r423), (0, .ref (γ.2.2.1 114)), (1, .int x1), (2, .int x2), (3, .int x3)]) d9_looksAt_153 (by decide) rfl ?_
                      exact VW.sub [5, 0] rfl (s_9_looksAt_155 hd hR FU 0 h515 hr)
            · replace hr := im hr c502
              refine VW.iload_n d9_looksAt_85 5 rfl ?_
              refine VW.iconst (v := 1) d9_looksAt_86 ic_1 ?_
              refine VW.icmp_ne 95 d9_looksAt_87 (by decide) (fun c517 => ?_) (fun c517 => ?_)
              · replace hr := ip hr c517
                refine VW.iload d9_looksAt_90 1 rfl ?_
                refine VW.goto 96 d9_looksAt_92 (by decide) ?_
                refine VW.istore (lo' := [(7, .int 0), (6, .int 1), (5, .int 0), (4, .int r423), (0, .ref (γ.2.2.1 114)), (1, .int x1), (2, .int x2), (3, .int x3)]) d9_looksAt_96 (by decide) rfl ?_
                refine VW.aload_n d9_looksAt_98 4 rfl ?_
                refine VW.dup d9_looksAt_99 rfl ?_
                refine VW.getI (k := 17) d9_looksAt_100 (oo_9 o9_114) rfl fl_9_209 ck9 ?_
                refine VW.iload d9_looksAt_103 1 rfl ?_
                refine VW.if_eq 112 d9_looksAt_105 (by decide) (fun c518 => ?_) (fun c518 => ?_)
                · exact absurd c518 (by decide)
                · skip
                  refine VW.iconst (v := 1) d9_looksAt_108 ic_1 ?_
                  refine VW.goto 113 d9_looksAt_109 (by decide) ?_
                  refine VW.iadd d9_looksAt_113 ?_
                  obtain ⟨h519, e520, hr⟩ := hlt hr
                  refine VW.putI (k := 17) d9_looksAt_114 (oo_9 o9_114) rfl fl_9_209 ck9 rfl rfl rfl rfl ?_
                  refine VW.heq e520 ?_
                  refine VW.iload d9_looksAt_117 1 rfl ?_
                  refine VW.if_eq 184 d9_looksAt_119 (by decide) (fun c521 => ?_) (fun c521 => ?_)
                  · exact absurd c521 (by decide)
                  · skip
                    refine VW.aload_n d9_looksAt_122 4 rfl ?_
                    refine VW.getI (k := 14) d9_looksAt_123 (oo_9 o9_114) rfl fl_9_212 ck9 ?_
                    refine VW.if_eq 138 d9_looksAt_126 (by decide) (fun c522 => ?_) (fun c522 => ?_)
                    · replace hr := ip hr c522
                      refine VW.aload_n d9_looksAt_138 4 rfl ?_
                      refine VW.aload_n d9_looksAt_139 4 rfl ?_
                      refine VW.getI (k := 11) d9_looksAt_140 (oo_9 o9_114) rfl fl_9_151 ck9 ?_
                      obtain ⟨h523, e524, hr⟩ := hlt hr
                      refine VW.putI (k := 14) d9_looksAt_143 (oo_9 o9_114) rfl fl_9_212 ck9 rfl rfl rfl rfl ?_
                      refine VW.heq e524 ?_
                      refine VW.aload_n d9_looksAt_146 4 rfl ?_
                      refine VW.iload d9_looksAt_147 0 rfl ?_
                      obtain ⟨h525, e526, hr⟩ := hlt hr
                      refine VW.putI (k := 16) d9_looksAt_149 (oo_9 o9_114) rfl fl_9_215 ck9 rfl rfl rfl rfl ?_
                      refine VW.heq e526 ?_
                      refine VW.iconst (v := 0) d9_looksAt_152 ic_0 ?_
                      refine VW.istore (lo' := [(8, .int 0), (7, .int 0), (6, .int 1), (5, .int 0), (4, .int r423), (0, .ref (γ.2.2.1 114)), (1, .int x1), (2, .int x2), (3, .int x3)]) d9_looksAt_153 (by decide) rfl ?_
                      exact VW.sub [5, 0] rfl (s_9_looksAt_155 hd hR FU 0 h525 hr)
                    · replace hr := im hr c522
                      refine VW.iload d9_looksAt_129 0 rfl ?_
                      refine VW.aload_n d9_looksAt_131 4 rfl ?_
                      refine VW.getI (k := 16) d9_looksAt_132 (oo_9 o9_114) rfl fl_9_215 ck9 ?_
                      refine VW.icmp_ge 184 d9_looksAt_135 (by decide) (fun c527 => ?_) (fun c527 => ?_)
                      · replace hr := ip hr c527
                        exact VW.vret d9_looksAt_184 hR (rV hr)
                      · replace hr := im hr c527
                        refine VW.aload_n d9_looksAt_138 4 rfl ?_
                        refine VW.aload_n d9_looksAt_139 4 rfl ?_
                        refine VW.getI (k := 11) d9_looksAt_140 (oo_9 o9_114) rfl fl_9_151 ck9 ?_
                        obtain ⟨h528, e529, hr⟩ := hlt hr
                        refine VW.putI (k := 14) d9_looksAt_143 (oo_9 o9_114) rfl fl_9_212 ck9 rfl rfl rfl rfl ?_
                        refine VW.heq e529 ?_
                        refine VW.aload_n d9_looksAt_146 4 rfl ?_
                        refine VW.iload d9_looksAt_147 0 rfl ?_
                        obtain ⟨h530, e531, hr⟩ := hlt hr
                        refine VW.putI (k := 16) d9_looksAt_149 (oo_9 o9_114) rfl fl_9_215 ck9 rfl rfl rfl rfl ?_
                        refine VW.heq e531 ?_
                        refine VW.iconst (v := 0) d9_looksAt_152 ic_0 ?_
                        refine VW.istore (lo' := [(8, .int 0), (7, .int 0), (6, .int 1), (5, .int 0), (4, .int r423), (0, .ref (γ.2.2.1 114)), (1, .int x1), (2, .int x2), (3, .int x3)]) d9_looksAt_153 (by decide) rfl ?_
                        exact VW.sub [5, 0] rfl (s_9_looksAt_155 hd hR FU 0 h530 hr)
              · replace hr := im hr c517
                refine VW.iconst (v := 0) d9_looksAt_95 ic_0 ?_
                refine VW.istore (lo' := [(7, .int 0), (6, .int 1), (5, .int 0), (4, .int r423), (0, .ref (γ.2.2.1 114)), (1, .int x1), (2, .int x2), (3, .int x3)]) d9_looksAt_96 (by decide) rfl ?_
                refine VW.aload_n d9_looksAt_98 4 rfl ?_
                refine VW.dup d9_looksAt_99 rfl ?_
                refine VW.getI (k := 17) d9_looksAt_100 (oo_9 o9_114) rfl fl_9_209 ck9 ?_
                refine VW.iload d9_looksAt_103 1 rfl ?_
                refine VW.if_eq 112 d9_looksAt_105 (by decide) (fun c532 => ?_) (fun c532 => ?_)
                · exact absurd c532 (by decide)
                · skip
                  refine VW.iconst (v := 1) d9_looksAt_108 ic_1 ?_
                  refine VW.goto 113 d9_looksAt_109 (by decide) ?_
                  refine VW.iadd d9_looksAt_113 ?_
                  obtain ⟨h533, e534, hr⟩ := hlt hr
                  refine VW.putI (k := 17) d9_looksAt_114 (oo_9 o9_114) rfl fl_9_209 ck9 rfl rfl rfl rfl ?_
                  refine VW.heq e534 ?_
                  refine VW.iload d9_looksAt_117 1 rfl ?_
                  refine VW.if_eq 184 d9_looksAt_119 (by decide) (fun c535 => ?_) (fun c535 => ?_)
                  · exact absurd c535 (by decide)
                  · skip
                    refine VW.aload_n d9_looksAt_122 4 rfl ?_
                    refine VW.getI (k := 14) d9_looksAt_123 (oo_9 o9_114) rfl fl_9_212 ck9 ?_
                    refine VW.if_eq 138 d9_looksAt_126 (by decide) (fun c536 => ?_) (fun c536 => ?_)
                    · replace hr := ip hr c536
                      refine VW.aload_n d9_looksAt_138 4 rfl ?_
                      refine VW.aload_n d9_looksAt_139 4 rfl ?_
                      refine VW.getI (k := 11) d9_looksAt_140 (oo_9 o9_114) rfl fl_9_151 ck9 ?_
                      obtain ⟨h537, e538, hr⟩ := hlt hr
                      refine VW.putI (k := 14) d9_looksAt_143 (oo_9 o9_114) rfl fl_9_212 ck9 rfl rfl rfl rfl ?_
                      refine VW.heq e538 ?_
                      refine VW.aload_n d9_looksAt_146 4 rfl ?_
                      refine VW.iload d9_looksAt_147 0 rfl ?_
                      obtain ⟨h539, e540, hr⟩ := hlt hr
                      refine VW.putI (k := 16) d9_looksAt_149 (oo_9 o9_114) rfl fl_9_215 ck9 rfl rfl rfl rfl ?_
                      refine VW.heq e540 ?_
                      refine VW.iconst (v := 0) d9_looksAt_152 ic_0 ?_
                      refine VW.istore (lo' := [(8, .int 0), (7, .int 0), (6, .int 1), (5, .int 0), (4, .int r423), (0, .ref (γ.2.2.1 114)), (1, .int x1), (2, .int x2), (3, .int x3)]) d9_looksAt_153 (by decide) rfl ?_
                      exact VW.sub [5, 0] rfl (s_9_looksAt_155 hd hR FU 0 h539 hr)
                    · replace hr := im hr c536
                      refine VW.iload d9_looksAt_129 0 rfl ?_
                      refine VW.aload_n d9_looksAt_131 4 rfl ?_
                      refine VW.getI (k := 16) d9_looksAt_132 (oo_9 o9_114) rfl fl_9_215 ck9 ?_
                      refine VW.icmp_ge 184 d9_looksAt_135 (by decide) (fun c541 => ?_) (fun c541 => ?_)
                      · replace hr := ip hr c541
                        exact VW.vret d9_looksAt_184 hR (rV hr)
                      · replace hr := im hr c541
                        refine VW.aload_n d9_looksAt_138 4 rfl ?_
                        refine VW.aload_n d9_looksAt_139 4 rfl ?_
                        refine VW.getI (k := 11) d9_looksAt_140 (oo_9 o9_114) rfl fl_9_151 ck9 ?_
                        obtain ⟨h542, e543, hr⟩ := hlt hr
                        refine VW.putI (k := 14) d9_looksAt_143 (oo_9 o9_114) rfl fl_9_212 ck9 rfl rfl rfl rfl ?_
                        refine VW.heq e543 ?_
                        refine VW.aload_n d9_looksAt_146 4 rfl ?_
                        refine VW.iload d9_looksAt_147 0 rfl ?_
                        obtain ⟨h544, e545, hr⟩ := hlt hr
                        refine VW.putI (k := 16) d9_looksAt_149 (oo_9 o9_114) rfl fl_9_215 ck9 rfl rfl rfl rfl ?_
                        refine VW.heq e545 ?_
                        refine VW.iconst (v := 0) d9_looksAt_152 ic_0 ?_
                        refine VW.istore (lo' := [(8, .int 0), (7, .int 0), (6, .int 1), (5, .int 0), (4, .int r423), (0, .ref (γ.2.2.1 114)), (1, .int x1), (2, .int x2), (3, .int x3)]) d9_looksAt_153 (by decide) rfl ?_
                        exact VW.sub [5, 0] rfl (s_9_looksAt_155 hd hR FU 0 h544 hr)
        · replace hr := im hr c486
          refine VW.aload_n d9_looksAt_69 2 rfl ?_
          refine VW.iload_n d9_looksAt_70 3 rfl ?_
          obtain ⟨r547, h548, e546, hr⟩ := bno2 hr
          refine VW.callV (As := [.int x1]) (st := []) d9_looksAt_71 mi_9_isHeard cv_9_206 (oo_9 o9_114) ⟨rfl, rfl⟩ (by decide) (dl1 hd) _ rfl (Nat.le_of_ble_eq_true rfl) rfl (c_9_isHeard (dl hd rfl) e546) (kI ?_)
          refine VW.istore (lo' := [(6, .int r547), (5, .int 0), (4, .int r423), (0, .ref (γ.2.2.1 114)), (1, .int x1), (2, .int x2), (3, .int x3)]) d9_looksAt_74 (by decide) rfl ?_
          refine VW.iload_n d9_looksAt_76 5 rfl ?_
          refine VW.if_ne 85 d9_looksAt_77 (by decide) (fun c549 => ?_) (fun c549 => ?_)
          · replace hr := ip hr c549
            refine VW.iload d9_looksAt_80 2 rfl ?_
            refine VW.goto 96 d9_looksAt_82 (by decide) ?_
            refine VW.istore (lo' := [(7, .int r423), (6, .int r547), (5, .int 0), (4, .int r423), (0, .ref (γ.2.2.1 114)), (1, .int x1), (2, .int x2), (3, .int x3)]) d9_looksAt_96 (by decide) rfl ?_
            refine VW.aload_n d9_looksAt_98 4 rfl ?_
            refine VW.dup d9_looksAt_99 rfl ?_
            refine VW.getI (k := 17) d9_looksAt_100 (oo_9 o9_114) rfl fl_9_209 ck9 ?_
            refine VW.iload d9_looksAt_103 1 rfl ?_
            refine VW.if_eq 112 d9_looksAt_105 (by decide) (fun c550 => ?_) (fun c550 => ?_)
            · replace hr := ip hr c550
              refine VW.iconst (v := 0) d9_looksAt_112 ic_0 ?_
              refine VW.iadd d9_looksAt_113 ?_
              obtain ⟨h551, e552, hr⟩ := hlt hr
              refine VW.putI (k := 17) d9_looksAt_114 (oo_9 o9_114) rfl fl_9_209 ck9 rfl rfl rfl rfl ?_
              refine VW.heq e552 ?_
              refine VW.iload d9_looksAt_117 1 rfl ?_
              refine VW.if_eq 184 d9_looksAt_119 (by decide) (fun c553 => ?_) (fun c553 => ?_)
              · replace hr := ip hr c553
                exact VW.vret d9_looksAt_184 hR (rV hr)
              · replace hr := im hr c553
                refine VW.aload_n d9_looksAt_122 4 rfl ?_
                refine VW.getI (k := 14) d9_looksAt_123 (oo_9 o9_114) rfl fl_9_212 ck9 ?_
                refine VW.if_eq 138 d9_looksAt_126 (by decide) (fun c554 => ?_) (fun c554 => ?_)
                · replace hr := ip hr c554
                  refine VW.aload_n d9_looksAt_138 4 rfl ?_
                  refine VW.aload_n d9_looksAt_139 4 rfl ?_
                  refine VW.getI (k := 11) d9_looksAt_140 (oo_9 o9_114) rfl fl_9_151 ck9 ?_
                  obtain ⟨h555, e556, hr⟩ := hlt hr
                  refine VW.putI (k := 14) d9_looksAt_143 (oo_9 o9_114) rfl fl_9_212 ck9 rfl rfl rfl rfl ?_
                  refine VW.heq e556 ?_
                  refine VW.aload_n d9_looksAt_146 4 rfl ?_
                  refine VW.iload d9_looksAt_147 0 rfl ?_
                  obtain ⟨h557, e558, hr⟩ := hlt hr
                  refine VW.putI (k := 16) d9_looksAt_149 (oo_9 o9_114) rfl fl_9_215 ck9 rfl rfl rfl rfl ?_
                  refine VW.heq e558 ?_
                  refine VW.iconst (v := 0) d9_looksAt_152 ic_0 ?_
                  refine VW.istore (lo' := [(8, .int 0), (7, .int r423), (6, .int r547), (5, .int 0), (4, .int r423), (0, .ref (γ.2.2.1 114)), (1, .int x1), (2, .int x2), (3, .int x3)]) d9_looksAt_153 (by decide) rfl ?_
                  exact VW.sub [5, 0] rfl (s_9_looksAt_155 hd hR FU 0 h557 hr)
                · replace hr := im hr c554
                  refine VW.iload d9_looksAt_129 0 rfl ?_
                  refine VW.aload_n d9_looksAt_131 4 rfl ?_
                  refine VW.getI (k := 16) d9_looksAt_132 (oo_9 o9_114) rfl fl_9_215 ck9 ?_
                  refine VW.icmp_ge 184 d9_looksAt_135 (by decide) (fun c559 => ?_) (fun c559 => ?_)
                  · replace hr := ip hr c559
                    exact VW.vret d9_looksAt_184 hR (rV hr)
                  · replace hr := im hr c559
                    refine VW.aload_n d9_looksAt_138 4 rfl ?_
                    refine VW.aload_n d9_looksAt_139 4 rfl ?_
                    refine VW.getI (k := 11) d9_looksAt_140 (oo_9 o9_114) rfl fl_9_151 ck9 ?_
                    obtain ⟨h560, e561, hr⟩ := hlt hr
                    refine VW.putI (k := 14) d9_looksAt_143 (oo_9 o9_114) rfl fl_9_212 ck9 rfl rfl rfl rfl ?_
                    refine VW.heq e561 ?_
                    refine VW.aload_n d9_looksAt_146 4 rfl ?_
                    refine VW.iload d9_looksAt_147 0 rfl ?_
                    obtain ⟨h562, e563, hr⟩ := hlt hr
                    refine VW.putI (k := 16) d9_looksAt_149 (oo_9 o9_114) rfl fl_9_215 ck9 rfl rfl rfl rfl ?_
                    refine VW.heq e563 ?_
                    refine VW.iconst (v := 0) d9_looksAt_152 ic_0 ?_
                    refine VW.istore (lo' := [(8, .int 0), (7, .int r423), (6, .int r547), (5, .int 0), (4, .int r423), (0, .ref (γ.2.2.1 114)), (1, .int x1), (2, .int x2), (3, .int x3)]) d9_looksAt_153 (by decide) rfl ?_
                    exact VW.sub [5, 0] rfl (s_9_looksAt_155 hd hR FU 0 h562 hr)
            · replace hr := im hr c550
              refine VW.iconst (v := 1) d9_looksAt_108 ic_1 ?_
              refine VW.goto 113 d9_looksAt_109 (by decide) ?_
              refine VW.iadd d9_looksAt_113 ?_
              obtain ⟨h564, e565, hr⟩ := hlt hr
              refine VW.putI (k := 17) d9_looksAt_114 (oo_9 o9_114) rfl fl_9_209 ck9 rfl rfl rfl rfl ?_
              refine VW.heq e565 ?_
              refine VW.iload d9_looksAt_117 1 rfl ?_
              refine VW.if_eq 184 d9_looksAt_119 (by decide) (fun c566 => ?_) (fun c566 => ?_)
              · replace hr := ip hr c566
                exact VW.vret d9_looksAt_184 hR (rV hr)
              · replace hr := im hr c566
                refine VW.aload_n d9_looksAt_122 4 rfl ?_
                refine VW.getI (k := 14) d9_looksAt_123 (oo_9 o9_114) rfl fl_9_212 ck9 ?_
                refine VW.if_eq 138 d9_looksAt_126 (by decide) (fun c567 => ?_) (fun c567 => ?_)
                · replace hr := ip hr c567
                  refine VW.aload_n d9_looksAt_138 4 rfl ?_
                  refine VW.aload_n d9_looksAt_139 4 rfl ?_
                  refine VW.getI (k := 11) d9_looksAt_140 (oo_9 o9_114) rfl fl_9_151 ck9 ?_
                  obtain ⟨h568, e569, hr⟩ := hlt hr
                  refine VW.putI (k := 14) d9_looksAt_143 (oo_9 o9_114) rfl fl_9_212 ck9 rfl rfl rfl rfl ?_
                  refine VW.heq e569 ?_
                  refine VW.aload_n d9_looksAt_146 4 rfl ?_
                  refine VW.iload d9_looksAt_147 0 rfl ?_
                  obtain ⟨h570, e571, hr⟩ := hlt hr
                  refine VW.putI (k := 16) d9_looksAt_149 (oo_9 o9_114) rfl fl_9_215 ck9 rfl rfl rfl rfl ?_
                  refine VW.heq e571 ?_
                  refine VW.iconst (v := 0) d9_looksAt_152 ic_0 ?_
                  refine VW.istore (lo' := [(8, .int 0), (7, .int r423), (6, .int r547), (5, .int 0), (4, .int r423), (0, .ref (γ.2.2.1 114)), (1, .int x1), (2, .int x2), (3, .int x3)]) d9_looksAt_153 (by decide) rfl ?_
                  exact VW.sub [5, 0] rfl (s_9_looksAt_155 hd hR FU 0 h570 hr)
                · replace hr := im hr c567
                  refine VW.iload d9_looksAt_129 0 rfl ?_
                  refine VW.aload_n d9_looksAt_131 4 rfl ?_
                  refine VW.getI (k := 16) d9_looksAt_132 (oo_9 o9_114) rfl fl_9_215 ck9 ?_
                  refine VW.icmp_ge 184 d9_looksAt_135 (by decide) (fun c572 => ?_) (fun c572 => ?_)
                  · replace hr := ip hr c572
                    exact VW.vret d9_looksAt_184 hR (rV hr)
                  · replace hr := im hr c572
                    refine VW.aload_n d9_looksAt_138 4 rfl ?_
                    refine VW.aload_n d9_looksAt_139 4 rfl ?_
                    refine VW.getI (k := 11) d9_looksAt_140 (oo_9 o9_114) rfl fl_9_151 ck9 ?_
                    obtain ⟨h573, e574, hr⟩ := hlt hr
                    refine VW.putI (k := 14) d9_looksAt_143 (oo_9 o9_114) rfl fl_9_212 ck9 rfl rfl rfl rfl ?_
                    refine VW.heq e574 ?_
                    refine VW.aload_n d9_looksAt_146 4 rfl ?_
                    refine VW.iload d9_looksAt_147 0 rfl ?_
                    obtain ⟨h575, e576, hr⟩ := hlt hr
                    refine VW.putI (k := 16) d9_looksAt_149 (oo_9 o9_114) rfl fl_9_215 ck9 rfl rfl rfl rfl ?_
                    refine VW.heq e576 ?_
                    refine VW.iconst (v := 0) d9_looksAt_152 ic_0 ?_
                    refine VW.istore (lo' := [(8, .int 0), (7, .int r423), (6, .int r547), (5, .int 0), (4, .int r423), (0, .ref (γ.2.2.1 114)), (1, .int x1), (2, .int x2), (3, .int x3)]) d9_looksAt_153 (by decide) rfl ?_
                    exact VW.sub [5, 0] rfl (s_9_looksAt_155 hd hR FU 0 h575 hr)
          · replace hr := im hr c549
            refine VW.iload_n d9_looksAt_85 5 rfl ?_
            refine VW.iconst (v := 1) d9_looksAt_86 ic_1 ?_
            refine VW.icmp_ne 95 d9_looksAt_87 (by decide) (fun c577 => ?_) (fun c577 => ?_)
            · replace hr := ip hr c577
              refine VW.iload d9_looksAt_90 1 rfl ?_
              refine VW.goto 96 d9_looksAt_92 (by decide) ?_
              refine VW.istore (lo' := [(7, .int 0), (6, .int r547), (5, .int 0), (4, .int r423), (0, .ref (γ.2.2.1 114)), (1, .int x1), (2, .int x2), (3, .int x3)]) d9_looksAt_96 (by decide) rfl ?_
              refine VW.aload_n d9_looksAt_98 4 rfl ?_
              refine VW.dup d9_looksAt_99 rfl ?_
              refine VW.getI (k := 17) d9_looksAt_100 (oo_9 o9_114) rfl fl_9_209 ck9 ?_
              refine VW.iload d9_looksAt_103 1 rfl ?_
              refine VW.if_eq 112 d9_looksAt_105 (by decide) (fun c578 => ?_) (fun c578 => ?_)
              · replace hr := ip hr c578
                refine VW.iconst (v := 0) d9_looksAt_112 ic_0 ?_
                refine VW.iadd d9_looksAt_113 ?_
                obtain ⟨h579, e580, hr⟩ := hlt hr
                refine VW.putI (k := 17) d9_looksAt_114 (oo_9 o9_114) rfl fl_9_209 ck9 rfl rfl rfl rfl ?_
                refine VW.heq e580 ?_
                refine VW.iload d9_looksAt_117 1 rfl ?_
                refine VW.if_eq 184 d9_looksAt_119 (by decide) (fun c581 => ?_) (fun c581 => ?_)
                · replace hr := ip hr c581
                  exact VW.vret d9_looksAt_184 hR (rV hr)
                · replace hr := im hr c581
                  refine VW.aload_n d9_looksAt_122 4 rfl ?_
                  refine VW.getI (k := 14) d9_looksAt_123 (oo_9 o9_114) rfl fl_9_212 ck9 ?_
                  refine VW.if_eq 138 d9_looksAt_126 (by decide) (fun c582 => ?_) (fun c582 => ?_)
                  · replace hr := ip hr c582
                    refine VW.aload_n d9_looksAt_138 4 rfl ?_
                    refine VW.aload_n d9_looksAt_139 4 rfl ?_
                    refine VW.getI (k := 11) d9_looksAt_140 (oo_9 o9_114) rfl fl_9_151 ck9 ?_
                    obtain ⟨h583, e584, hr⟩ := hlt hr
                    refine VW.putI (k := 14) d9_looksAt_143 (oo_9 o9_114) rfl fl_9_212 ck9 rfl rfl rfl rfl ?_
                    refine VW.heq e584 ?_
                    refine VW.aload_n d9_looksAt_146 4 rfl ?_
                    refine VW.iload d9_looksAt_147 0 rfl ?_
                    obtain ⟨h585, e586, hr⟩ := hlt hr
                    refine VW.putI (k := 16) d9_looksAt_149 (oo_9 o9_114) rfl fl_9_215 ck9 rfl rfl rfl rfl ?_
                    refine VW.heq e586 ?_
                    refine VW.iconst (v := 0) d9_looksAt_152 ic_0 ?_
                    refine VW.istore (lo' := [(8, .int 0), (7, .int 0), (6, .int r547), (5, .int 0), (4, .int r423), (0, .ref (γ.2.2.1 114)), (1, .int x1), (2, .int x2), (3, .int x3)]) d9_looksAt_153 (by decide) rfl ?_
                    exact VW.sub [5, 0] rfl (s_9_looksAt_155 hd hR FU 0 h585 hr)
                  · replace hr := im hr c582
                    refine VW.iload d9_looksAt_129 0 rfl ?_
                    refine VW.aload_n d9_looksAt_131 4 rfl ?_
                    refine VW.getI (k := 16) d9_looksAt_132 (oo_9 o9_114) rfl fl_9_215 ck9 ?_
                    refine VW.icmp_ge 184 d9_looksAt_135 (by decide) (fun c587 => ?_) (fun c587 => ?_)
                    · replace hr := ip hr c587
                      exact VW.vret d9_looksAt_184 hR (rV hr)
                    · replace hr := im hr c587
                      refine VW.aload_n d9_looksAt_138 4 rfl ?_
                      refine VW.aload_n d9_looksAt_139 4 rfl ?_
                      refine VW.getI (k := 11) d9_looksAt_140 (oo_9 o9_114) rfl fl_9_151 ck9 ?_
                      obtain ⟨h588, e589, hr⟩ := hlt hr
                      refine VW.putI (k := 14) d9_looksAt_143 (oo_9 o9_114) rfl fl_9_212 ck9 rfl rfl rfl rfl ?_
                      refine VW.heq e589 ?_
                      refine VW.aload_n d9_looksAt_146 4 rfl ?_
                      refine VW.iload d9_looksAt_147 0 rfl ?_
                      obtain ⟨h590, e591, hr⟩ := hlt hr
                      refine VW.putI (k := 16) d9_looksAt_149 (oo_9 o9_114) rfl fl_9_215 ck9 rfl rfl rfl rfl ?_
                      refine VW.heq e591 ?_
                      refine VW.iconst (v := 0) d9_looksAt_152 ic_0 ?_
                      refine VW.istore (lo' := [(8, .int 0), (7, .int 0), (6, .int r547), (5, .int 0), (4, .int r423), (0, .ref (γ.2.2.1 114)), (1, .int x1), (2, .int x2), (3, .int x3)]) d9_looksAt_153 (by decide) rfl ?_
                      exact VW.sub [5, 0] rfl (s_9_looksAt_155 hd hR FU 0 h590 hr)
              · replace hr := im hr c578
                refine VW.iconst (v := 1) d9_looksAt_108 ic_1 ?_
                refine VW.goto 113 d9_looksAt_109 (by decide) ?_
                refine VW.iadd d9_looksAt_113 ?_
                obtain ⟨h592, e593, hr⟩ := hlt hr
                refine VW.putI (k := 17) d9_looksAt_114 (oo_9 o9_114) rfl fl_9_209 ck9 rfl rfl rfl rfl ?_
                refine VW.heq e593 ?_
                refine VW.iload d9_looksAt_117 1 rfl ?_
                refine VW.if_eq 184 d9_looksAt_119 (by decide) (fun c594 => ?_) (fun c594 => ?_)
                · replace hr := ip hr c594
                  exact VW.vret d9_looksAt_184 hR (rV hr)
                · replace hr := im hr c594
                  refine VW.aload_n d9_looksAt_122 4 rfl ?_
                  refine VW.getI (k := 14) d9_looksAt_123 (oo_9 o9_114) rfl fl_9_212 ck9 ?_
                  refine VW.if_eq 138 d9_looksAt_126 (by decide) (fun c595 => ?_) (fun c595 => ?_)
                  · replace hr := ip hr c595
                    refine VW.aload_n d9_looksAt_138 4 rfl ?_
                    refine VW.aload_n d9_looksAt_139 4 rfl ?_
                    refine VW.getI (k := 11) d9_looksAt_140 (oo_9 o9_114) rfl fl_9_151 ck9 ?_
                    obtain ⟨h596, e597, hr⟩ := hlt hr
                    refine VW.putI (k := 14) d9_looksAt_143 (oo_9 o9_114) rfl fl_9_212 ck9 rfl rfl rfl rfl ?_
                    refine VW.heq e597 ?_
                    refine VW.aload_n d9_looksAt_146 4 rfl ?_
                    refine VW.iload d9_looksAt_147 0 rfl ?_
                    obtain ⟨h598, e599, hr⟩ := hlt hr
                    refine VW.putI (k := 16) d9_looksAt_149 (oo_9 o9_114) rfl fl_9_215 ck9 rfl rfl rfl rfl ?_
                    refine VW.heq e599 ?_
                    refine VW.iconst (v := 0) d9_looksAt_152 ic_0 ?_
                    refine VW.istore (lo' := [(8, .int 0), (7, .int 0), (6, .int r547), (5, .int 0), (4, .int r423), (0, .ref (γ.2.2.1 114)), (1, .int x1), (2, .int x2), (3, .int x3)]) d9_looksAt_153 (by decide) rfl ?_
                    exact VW.sub [5, 0] rfl (s_9_looksAt_155 hd hR FU 0 h598 hr)
                  · replace hr := im hr c595
                    refine VW.iload d9_looksAt_129 0 rfl ?_
                    refine VW.aload_n d9_looksAt_131 4 rfl ?_
                    refine VW.getI (k := 16) d9_looksAt_132 (oo_9 o9_114) rfl fl_9_215 ck9 ?_
                    refine VW.icmp_ge 184 d9_looksAt_135 (by decide) (fun c600 => ?_) (fun c600 => ?_)
                    · replace hr := ip hr c600
                      exact VW.vret d9_looksAt_184 hR (rV hr)
                    · replace hr := im hr c600
                      refine VW.aload_n d9_looksAt_138 4 rfl ?_
                      refine VW.aload_n d9_looksAt_139 4 rfl ?_
                      refine VW.getI (k := 11) d9_looksAt_140 (oo_9 o9_114) rfl fl_9_151 ck9 ?_
                      obtain ⟨h601, e602, hr⟩ := hlt hr
                      refine VW.putI (k := 14) d9_looksAt_143 (oo_9 o9_114) rfl fl_9_212 ck9 rfl rfl rfl rfl ?_
                      refine VW.heq e602 ?_
                      refine VW.aload_n d9_looksAt_146 4 rfl ?_
                      refine VW.iload d9_looksAt_147 0 rfl ?_
                      obtain ⟨h603, e604, hr⟩ := hlt hr
                      refine VW.putI (k := 16) d9_looksAt_149 (oo_9 o9_114) rfl fl_9_215 ck9 rfl rfl rfl rfl ?_
                      refine VW.heq e604 ?_
                      refine VW.iconst (v := 0) d9_looksAt_152 ic_0 ?_
                      refine VW.istore (lo' := [(8, .int 0), (7, .int 0), (6, .int r547), (5, .int 0), (4, .int r423), (0, .ref (γ.2.2.1 114)), (1, .int x1), (2, .int x2), (3, .int x3)]) d9_looksAt_153 (by decide) rfl ?_
                      exact VW.sub [5, 0] rfl (s_9_looksAt_155 hd hR FU 0 h603 hr)
            · replace hr := im hr c577
              refine VW.iconst (v := 0) d9_looksAt_95 ic_0 ?_
              refine VW.istore (lo' := [(7, .int 0), (6, .int r547), (5, .int 0), (4, .int r423), (0, .ref (γ.2.2.1 114)), (1, .int x1), (2, .int x2), (3, .int x3)]) d9_looksAt_96 (by decide) rfl ?_
              refine VW.aload_n d9_looksAt_98 4 rfl ?_
              refine VW.dup d9_looksAt_99 rfl ?_
              refine VW.getI (k := 17) d9_looksAt_100 (oo_9 o9_114) rfl fl_9_209 ck9 ?_
              refine VW.iload d9_looksAt_103 1 rfl ?_
              refine VW.if_eq 112 d9_looksAt_105 (by decide) (fun c605 => ?_) (fun c605 => ?_)
              · replace hr := ip hr c605
                refine VW.iconst (v := 0) d9_looksAt_112 ic_0 ?_
                refine VW.iadd d9_looksAt_113 ?_
                obtain ⟨h606, e607, hr⟩ := hlt hr
                refine VW.putI (k := 17) d9_looksAt_114 (oo_9 o9_114) rfl fl_9_209 ck9 rfl rfl rfl rfl ?_
                refine VW.heq e607 ?_
                refine VW.iload d9_looksAt_117 1 rfl ?_
                refine VW.if_eq 184 d9_looksAt_119 (by decide) (fun c608 => ?_) (fun c608 => ?_)
                · replace hr := ip hr c608
                  exact VW.vret d9_looksAt_184 hR (rV hr)
                · replace hr := im hr c608
                  refine VW.aload_n d9_looksAt_122 4 rfl ?_
                  refine VW.getI (k := 14) d9_looksAt_123 (oo_9 o9_114) rfl fl_9_212 ck9 ?_
                  refine VW.if_eq 138 d9_looksAt_126 (by decide) (fun c609 => ?_) (fun c609 => ?_)
                  · replace hr := ip hr c609
                    refine VW.aload_n d9_looksAt_138 4 rfl ?_
                    refine VW.aload_n d9_looksAt_139 4 rfl ?_
                    refine VW.getI (k := 11) d9_looksAt_140 (oo_9 o9_114) rfl fl_9_151 ck9 ?_
                    obtain ⟨h610, e611, hr⟩ := hlt hr
                    refine VW.putI (k := 14) d9_looksAt_143 (oo_9 o9_114) rfl fl_9_212 ck9 rfl rfl rfl rfl ?_
                    refine VW.heq e611 ?_
                    refine VW.aload_n d9_looksAt_146 4 rfl ?_
                    refine VW.iload d9_looksAt_147 0 rfl ?_
                    obtain ⟨h612, e613, hr⟩ := hlt hr
                    refine VW.putI (k := 16) d9_looksAt_149 (oo_9 o9_114) rfl fl_9_215 ck9 rfl rfl rfl rfl ?_
                    refine VW.heq e613 ?_
                    refine VW.iconst (v := 0) d9_looksAt_152 ic_0 ?_
                    refine VW.istore (lo' := [(8, .int 0), (7, .int 0), (6, .int r547), (5, .int 0), (4, .int r423), (0, .ref (γ.2.2.1 114)), (1, .int x1), (2, .int x2), (3, .int x3)]) d9_looksAt_153 (by decide) rfl ?_
                    exact VW.sub [5, 0] rfl (s_9_looksAt_155 hd hR FU 0 h612 hr)
                  · replace hr := im hr c609
                    refine VW.iload d9_looksAt_129 0 rfl ?_
                    refine VW.aload_n d9_looksAt_131 4 rfl ?_
                    refine VW.getI (k := 16) d9_looksAt_132 (oo_9 o9_114) rfl fl_9_215 ck9 ?_
                    refine VW.icmp_ge 184 d9_looksAt_135 (by decide) (fun c614 => ?_) (fun c614 => ?_)
                    · replace hr := ip hr c614
                      exact VW.vret d9_looksAt_184 hR (rV hr)
                    · replace hr := im hr c614
                      refine VW.aload_n d9_looksAt_138 4 rfl ?_
                      refine VW.aload_n d9_looksAt_139 4 rfl ?_
                      refine VW.getI (k := 11) d9_looksAt_140 (oo_9 o9_114) rfl fl_9_151 ck9 ?_
                      obtain ⟨h615, e616, hr⟩ := hlt hr
                      refine VW.putI (k := 14) d9_looksAt_143 (oo_9 o9_114) rfl fl_9_212 ck9 rfl rfl rfl rfl ?_
                      refine VW.heq e616 ?_
                      refine VW.aload_n d9_looksAt_146 4 rfl ?_
                      refine VW.iload d9_looksAt_147 0 rfl ?_
                      obtain ⟨h617, e618, hr⟩ := hlt hr
                      refine VW.putI (k := 16) d9_looksAt_149 (oo_9 o9_114) rfl fl_9_215 ck9 rfl rfl rfl rfl ?_
                      refine VW.heq e618 ?_
                      refine VW.iconst (v := 0) d9_looksAt_152 ic_0 ?_
                      refine VW.istore (lo' := [(8, .int 0), (7, .int 0), (6, .int r547), (5, .int 0), (4, .int r423), (0, .ref (γ.2.2.1 114)), (1, .int x1), (2, .int x2), (3, .int x3)]) d9_looksAt_153 (by decide) rfl ?_
                      exact VW.sub [5, 0] rfl (s_9_looksAt_155 hd hR FU 0 h617 hr)
              · replace hr := im hr c605
                refine VW.iconst (v := 1) d9_looksAt_108 ic_1 ?_
                refine VW.goto 113 d9_looksAt_109 (by decide) ?_
                refine VW.iadd d9_looksAt_113 ?_
                obtain ⟨h619, e620, hr⟩ := hlt hr
                refine VW.putI (k := 17) d9_looksAt_114 (oo_9 o9_114) rfl fl_9_209 ck9 rfl rfl rfl rfl ?_
                refine VW.heq e620 ?_
                refine VW.iload d9_looksAt_117 1 rfl ?_
                refine VW.if_eq 184 d9_looksAt_119 (by decide) (fun c621 => ?_) (fun c621 => ?_)
                · replace hr := ip hr c621
                  exact VW.vret d9_looksAt_184 hR (rV hr)
                · replace hr := im hr c621
                  refine VW.aload_n d9_looksAt_122 4 rfl ?_
                  refine VW.getI (k := 14) d9_looksAt_123 (oo_9 o9_114) rfl fl_9_212 ck9 ?_
                  refine VW.if_eq 138 d9_looksAt_126 (by decide) (fun c622 => ?_) (fun c622 => ?_)
                  · replace hr := ip hr c622
                    refine VW.aload_n d9_looksAt_138 4 rfl ?_
                    refine VW.aload_n d9_looksAt_139 4 rfl ?_
                    refine VW.getI (k := 11) d9_looksAt_140 (oo_9 o9_114) rfl fl_9_151 ck9 ?_
                    obtain ⟨h623, e624, hr⟩ := hlt hr
                    refine VW.putI (k := 14) d9_looksAt_143 (oo_9 o9_114) rfl fl_9_212 ck9 rfl rfl rfl rfl ?_
                    refine VW.heq e624 ?_
                    refine VW.aload_n d9_looksAt_146 4 rfl ?_
                    refine VW.iload d9_looksAt_147 0 rfl ?_
                    obtain ⟨h625, e626, hr⟩ := hlt hr
                    refine VW.putI (k := 16) d9_looksAt_149 (oo_9 o9_114) rfl fl_9_215 ck9 rfl rfl rfl rfl ?_
                    refine VW.heq e626 ?_
                    refine VW.iconst (v := 0) d9_looksAt_152 ic_0 ?_
                    refine VW.istore (lo' := [(8, .int 0), (7, .int 0), (6, .int r547), (5, .int 0), (4, .int r423), (0, .ref (γ.2.2.1 114)), (1, .int x1), (2, .int x2), (3, .int x3)]) d9_looksAt_153 (by decide) rfl ?_
                    exact VW.sub [5, 0] rfl (s_9_looksAt_155 hd hR FU 0 h625 hr)
                  · replace hr := im hr c622
                    refine VW.iload d9_looksAt_129 0 rfl ?_
                    refine VW.aload_n d9_looksAt_131 4 rfl ?_
                    refine VW.getI (k := 16) d9_looksAt_132 (oo_9 o9_114) rfl fl_9_215 ck9 ?_
                    refine VW.icmp_ge 184 d9_looksAt_135 (by decide) (fun c627 => ?_) (fun c627 => ?_)
                    · replace hr := ip hr c627
                      exact VW.vret d9_looksAt_184 hR (rV hr)
                    · replace hr := im hr c627
                      refine VW.aload_n d9_looksAt_138 4 rfl ?_
                      refine VW.aload_n d9_looksAt_139 4 rfl ?_
                      refine VW.getI (k := 11) d9_looksAt_140 (oo_9 o9_114) rfl fl_9_151 ck9 ?_
                      obtain ⟨h628, e629, hr⟩ := hlt hr
                      refine VW.putI (k := 14) d9_looksAt_143 (oo_9 o9_114) rfl fl_9_212 ck9 rfl rfl rfl rfl ?_
                      refine VW.heq e629 ?_
                      refine VW.aload_n d9_looksAt_146 4 rfl ?_
                      refine VW.iload d9_looksAt_147 0 rfl ?_
                      obtain ⟨h630, e631, hr⟩ := hlt hr
                      refine VW.putI (k := 16) d9_looksAt_149 (oo_9 o9_114) rfl fl_9_215 ck9 rfl rfl rfl rfl ?_
                      refine VW.heq e631 ?_
                      refine VW.iconst (v := 0) d9_looksAt_152 ic_0 ?_
                      refine VW.istore (lo' := [(8, .int 0), (7, .int 0), (6, .int r547), (5, .int 0), (4, .int r423), (0, .ref (γ.2.2.1 114)), (1, .int x1), (2, .int x2), (3, .int x3)]) d9_looksAt_153 (by decide) rfl ?_
                      exact VW.sub [5, 0] rfl (s_9_looksAt_155 hd hR FU 0 h630 hr)
    · replace hr := im hr c425
      refine VW.aload_n d9_looksAt_25 1 rfl ?_
      refine VW.iload_n d9_looksAt_26 2 rfl ?_
      obtain ⟨r633, e632, hr⟩ := bno hr
      refine VW.callV (As := [.int x1]) (st := []) d9_looksAt_27 mi_9_lossNow cv_9_167 (oo_9 o9_114) ⟨rfl, rfl⟩ (by decide) (dl1 hd) _ rfl (Nat.le_of_ble_eq_true rfl) rfl (c_9_lossNow (dl hd rfl) e632) (kI ?_)
      refine VW.istore (lo' := [(5, .int r633), (4, .int r423), (0, .ref (γ.2.2.1 114)), (1, .int x1), (2, .int x2), (3, .int x3)]) d9_looksAt_30 (by decide) rfl ?_
      refine VW.iload_n d9_looksAt_32 4 rfl ?_
      refine VW.if_ne 50 d9_looksAt_33 (by decide) (fun c634 => ?_) (fun c634 => ?_)
      · replace hr := ip hr c634
        refine VW.iload d9_looksAt_36 0 rfl ?_
        refine VW.iload_n d9_looksAt_38 5 rfl ?_
        refine VW.icmp_gt 46 d9_looksAt_39 (by decide) (fun c635 => ?_) (fun c635 => ?_)
        · replace hr := ip hr c635
          refine VW.iconst (v := 0) d9_looksAt_46 ic_0 ?_
          refine VW.goto 74 d9_looksAt_47 (by decide) ?_
          refine VW.istore (lo' := [(6, .int 0), (5, .int r633), (4, .int r423), (0, .ref (γ.2.2.1 114)), (1, .int x1), (2, .int x2), (3, .int x3)]) d9_looksAt_74 (by decide) rfl ?_
          refine VW.iload_n d9_looksAt_76 5 rfl ?_
          refine VW.if_ne 85 d9_looksAt_77 (by decide) (fun c636 => ?_) (fun c636 => ?_)
          · replace hr := ip hr c636
            refine VW.iload d9_looksAt_80 2 rfl ?_
            refine VW.goto 96 d9_looksAt_82 (by decide) ?_
            refine VW.istore (lo' := [(7, .int r423), (6, .int 0), (5, .int r633), (4, .int r423), (0, .ref (γ.2.2.1 114)), (1, .int x1), (2, .int x2), (3, .int x3)]) d9_looksAt_96 (by decide) rfl ?_
            refine VW.aload_n d9_looksAt_98 4 rfl ?_
            refine VW.dup d9_looksAt_99 rfl ?_
            refine VW.getI (k := 17) d9_looksAt_100 (oo_9 o9_114) rfl fl_9_209 ck9 ?_
            refine VW.iload d9_looksAt_103 1 rfl ?_
            refine VW.if_eq 112 d9_looksAt_105 (by decide) (fun c637 => ?_) (fun c637 => ?_)
            · skip
              refine VW.iconst (v := 0) d9_looksAt_112 ic_0 ?_
              refine VW.iadd d9_looksAt_113 ?_
              obtain ⟨h638, e639, hr⟩ := hlt hr
              refine VW.putI (k := 17) d9_looksAt_114 (oo_9 o9_114) rfl fl_9_209 ck9 rfl rfl rfl rfl ?_
              refine VW.heq e639 ?_
              refine VW.iload d9_looksAt_117 1 rfl ?_
              refine VW.if_eq 184 d9_looksAt_119 (by decide) (fun c640 => ?_) (fun c640 => ?_)
              · skip
                exact VW.vret d9_looksAt_184 hR (rV hr)
              · exact (c640 (by decide)).elim
            · exact (c637 (by decide)).elim
          · replace hr := im hr c636
            refine VW.iload_n d9_looksAt_85 5 rfl ?_
            refine VW.iconst (v := 1) d9_looksAt_86 ic_1 ?_
            refine VW.icmp_ne 95 d9_looksAt_87 (by decide) (fun c641 => ?_) (fun c641 => ?_)
            · replace hr := ip hr c641
              refine VW.iload d9_looksAt_90 1 rfl ?_
              refine VW.goto 96 d9_looksAt_92 (by decide) ?_
              refine VW.istore (lo' := [(7, .int r633), (6, .int 0), (5, .int r633), (4, .int r423), (0, .ref (γ.2.2.1 114)), (1, .int x1), (2, .int x2), (3, .int x3)]) d9_looksAt_96 (by decide) rfl ?_
              refine VW.aload_n d9_looksAt_98 4 rfl ?_
              refine VW.dup d9_looksAt_99 rfl ?_
              refine VW.getI (k := 17) d9_looksAt_100 (oo_9 o9_114) rfl fl_9_209 ck9 ?_
              refine VW.iload d9_looksAt_103 1 rfl ?_
              refine VW.if_eq 112 d9_looksAt_105 (by decide) (fun c642 => ?_) (fun c642 => ?_)
              · skip
                refine VW.iconst (v := 0) d9_looksAt_112 ic_0 ?_
                refine VW.iadd d9_looksAt_113 ?_
                obtain ⟨h643, e644, hr⟩ := hlt hr
                refine VW.putI (k := 17) d9_looksAt_114 (oo_9 o9_114) rfl fl_9_209 ck9 rfl rfl rfl rfl ?_
                refine VW.heq e644 ?_
                refine VW.iload d9_looksAt_117 1 rfl ?_
                refine VW.if_eq 184 d9_looksAt_119 (by decide) (fun c645 => ?_) (fun c645 => ?_)
                · skip
                  exact VW.vret d9_looksAt_184 hR (rV hr)
                · exact (c645 (by decide)).elim
              · exact (c642 (by decide)).elim
            · replace hr := im hr c641
              refine VW.iconst (v := 0) d9_looksAt_95 ic_0 ?_
              refine VW.istore (lo' := [(7, .int 0), (6, .int 0), (5, .int r633), (4, .int r423), (0, .ref (γ.2.2.1 114)), (1, .int x1), (2, .int x2), (3, .int x3)]) d9_looksAt_96 (by decide) rfl ?_
              refine VW.aload_n d9_looksAt_98 4 rfl ?_
              refine VW.dup d9_looksAt_99 rfl ?_
              refine VW.getI (k := 17) d9_looksAt_100 (oo_9 o9_114) rfl fl_9_209 ck9 ?_
              refine VW.iload d9_looksAt_103 1 rfl ?_
              refine VW.if_eq 112 d9_looksAt_105 (by decide) (fun c646 => ?_) (fun c646 => ?_)
              · skip
                refine VW.iconst (v := 0) d9_looksAt_112 ic_0 ?_
                refine VW.iadd d9_looksAt_113 ?_
                obtain ⟨h647, e648, hr⟩ := hlt hr
                refine VW.putI (k := 17) d9_looksAt_114 (oo_9 o9_114) rfl fl_9_209 ck9 rfl rfl rfl rfl ?_
                refine VW.heq e648 ?_
                refine VW.iload d9_looksAt_117 1 rfl ?_
                refine VW.if_eq 184 d9_looksAt_119 (by decide) (fun c649 => ?_) (fun c649 => ?_)
                · skip
                  exact VW.vret d9_looksAt_184 hR (rV hr)
                · exact (c649 (by decide)).elim
              · exact (c646 (by decide)).elim
        · replace hr := im hr c635
          refine VW.iconst (v := 1) d9_looksAt_42 ic_1 ?_
          refine VW.goto 74 d9_looksAt_43 (by decide) ?_
          refine VW.istore (lo' := [(6, .int 1), (5, .int r633), (4, .int r423), (0, .ref (γ.2.2.1 114)), (1, .int x1), (2, .int x2), (3, .int x3)]) d9_looksAt_74 (by decide) rfl ?_
          refine VW.iload_n d9_looksAt_76 5 rfl ?_
          refine VW.if_ne 85 d9_looksAt_77 (by decide) (fun c650 => ?_) (fun c650 => ?_)
          · replace hr := ip hr c650
            refine VW.iload d9_looksAt_80 2 rfl ?_
            refine VW.goto 96 d9_looksAt_82 (by decide) ?_
            refine VW.istore (lo' := [(7, .int r423), (6, .int 1), (5, .int r633), (4, .int r423), (0, .ref (γ.2.2.1 114)), (1, .int x1), (2, .int x2), (3, .int x3)]) d9_looksAt_96 (by decide) rfl ?_
            refine VW.aload_n d9_looksAt_98 4 rfl ?_
            refine VW.dup d9_looksAt_99 rfl ?_
            refine VW.getI (k := 17) d9_looksAt_100 (oo_9 o9_114) rfl fl_9_209 ck9 ?_
            refine VW.iload d9_looksAt_103 1 rfl ?_
            refine VW.if_eq 112 d9_looksAt_105 (by decide) (fun c651 => ?_) (fun c651 => ?_)
            · exact absurd c651 (by decide)
            · skip
              refine VW.iconst (v := 1) d9_looksAt_108 ic_1 ?_
              refine VW.goto 113 d9_looksAt_109 (by decide) ?_
              refine VW.iadd d9_looksAt_113 ?_
              obtain ⟨h652, e653, hr⟩ := hlt hr
              refine VW.putI (k := 17) d9_looksAt_114 (oo_9 o9_114) rfl fl_9_209 ck9 rfl rfl rfl rfl ?_
              refine VW.heq e653 ?_
              refine VW.iload d9_looksAt_117 1 rfl ?_
              refine VW.if_eq 184 d9_looksAt_119 (by decide) (fun c654 => ?_) (fun c654 => ?_)
              · exact absurd c654 (by decide)
              · skip
                refine VW.aload_n d9_looksAt_122 4 rfl ?_
                refine VW.getI (k := 14) d9_looksAt_123 (oo_9 o9_114) rfl fl_9_212 ck9 ?_
                refine VW.if_eq 138 d9_looksAt_126 (by decide) (fun c655 => ?_) (fun c655 => ?_)
                · replace hr := ip hr c655
                  refine VW.aload_n d9_looksAt_138 4 rfl ?_
                  refine VW.aload_n d9_looksAt_139 4 rfl ?_
                  refine VW.getI (k := 11) d9_looksAt_140 (oo_9 o9_114) rfl fl_9_151 ck9 ?_
                  obtain ⟨h656, e657, hr⟩ := hlt hr
                  refine VW.putI (k := 14) d9_looksAt_143 (oo_9 o9_114) rfl fl_9_212 ck9 rfl rfl rfl rfl ?_
                  refine VW.heq e657 ?_
                  refine VW.aload_n d9_looksAt_146 4 rfl ?_
                  refine VW.iload d9_looksAt_147 0 rfl ?_
                  obtain ⟨h658, e659, hr⟩ := hlt hr
                  refine VW.putI (k := 16) d9_looksAt_149 (oo_9 o9_114) rfl fl_9_215 ck9 rfl rfl rfl rfl ?_
                  refine VW.heq e659 ?_
                  refine VW.iconst (v := 0) d9_looksAt_152 ic_0 ?_
                  refine VW.istore (lo' := [(8, .int 0), (7, .int r423), (6, .int 1), (5, .int r633), (4, .int r423), (0, .ref (γ.2.2.1 114)), (1, .int x1), (2, .int x2), (3, .int x3)]) d9_looksAt_153 (by decide) rfl ?_
                  exact VW.sub [5, 0] rfl (s_9_looksAt_155 hd hR FU 0 h658 hr)
                · replace hr := im hr c655
                  refine VW.iload d9_looksAt_129 0 rfl ?_
                  refine VW.aload_n d9_looksAt_131 4 rfl ?_
                  refine VW.getI (k := 16) d9_looksAt_132 (oo_9 o9_114) rfl fl_9_215 ck9 ?_
                  refine VW.icmp_ge 184 d9_looksAt_135 (by decide) (fun c660 => ?_) (fun c660 => ?_)
                  · replace hr := ip hr c660
                    exact VW.vret d9_looksAt_184 hR (rV hr)
                  · replace hr := im hr c660
                    refine VW.aload_n d9_looksAt_138 4 rfl ?_
                    refine VW.aload_n d9_looksAt_139 4 rfl ?_
                    refine VW.getI (k := 11) d9_looksAt_140 (oo_9 o9_114) rfl fl_9_151 ck9 ?_
                    obtain ⟨h661, e662, hr⟩ := hlt hr
                    refine VW.putI (k := 14) d9_looksAt_143 (oo_9 o9_114) rfl fl_9_212 ck9 rfl rfl rfl rfl ?_
                    refine VW.heq e662 ?_
                    refine VW.aload_n d9_looksAt_146 4 rfl ?_
                    refine VW.iload d9_looksAt_147 0 rfl ?_
                    obtain ⟨h663, e664, hr⟩ := hlt hr
                    refine VW.putI (k := 16) d9_looksAt_149 (oo_9 o9_114) rfl fl_9_215 ck9 rfl rfl rfl rfl ?_
                    refine VW.heq e664 ?_
                    refine VW.iconst (v := 0) d9_looksAt_152 ic_0 ?_
                    refine VW.istore (lo' := [(8, .int 0), (7, .int r423), (6, .int 1), (5, .int r633), (4, .int r423), (0, .ref (γ.2.2.1 114)), (1, .int x1), (2, .int x2), (3, .int x3)]) d9_looksAt_153 (by decide) rfl ?_
                    exact VW.sub [5, 0] rfl (s_9_looksAt_155 hd hR FU 0 h663 hr)
          · replace hr := im hr c650
            refine VW.iload_n d9_looksAt_85 5 rfl ?_
            refine VW.iconst (v := 1) d9_looksAt_86 ic_1 ?_
            refine VW.icmp_ne 95 d9_looksAt_87 (by decide) (fun c665 => ?_) (fun c665 => ?_)
            · replace hr := ip hr c665
              refine VW.iload d9_looksAt_90 1 rfl ?_
              refine VW.goto 96 d9_looksAt_92 (by decide) ?_
              refine VW.istore (lo' := [(7, .int r633), (6, .int 1), (5, .int r633), (4, .int r423), (0, .ref (γ.2.2.1 114)), (1, .int x1), (2, .int x2), (3, .int x3)]) d9_looksAt_96 (by decide) rfl ?_
              refine VW.aload_n d9_looksAt_98 4 rfl ?_
              refine VW.dup d9_looksAt_99 rfl ?_
              refine VW.getI (k := 17) d9_looksAt_100 (oo_9 o9_114) rfl fl_9_209 ck9 ?_
              refine VW.iload d9_looksAt_103 1 rfl ?_
              refine VW.if_eq 112 d9_looksAt_105 (by decide) (fun c666 => ?_) (fun c666 => ?_)
              · exact absurd c666 (by decide)
              · skip
                refine VW.iconst (v := 1) d9_looksAt_108 ic_1 ?_
                refine VW.goto 113 d9_looksAt_109 (by decide) ?_
                refine VW.iadd d9_looksAt_113 ?_
                obtain ⟨h667, e668, hr⟩ := hlt hr
                refine VW.putI (k := 17) d9_looksAt_114 (oo_9 o9_114) rfl fl_9_209 ck9 rfl rfl rfl rfl ?_
                refine VW.heq e668 ?_
                refine VW.iload d9_looksAt_117 1 rfl ?_
                refine VW.if_eq 184 d9_looksAt_119 (by decide) (fun c669 => ?_) (fun c669 => ?_)
                · exact absurd c669 (by decide)
                · skip
                  refine VW.aload_n d9_looksAt_122 4 rfl ?_
                  refine VW.getI (k := 14) d9_looksAt_123 (oo_9 o9_114) rfl fl_9_212 ck9 ?_
                  refine VW.if_eq 138 d9_looksAt_126 (by decide) (fun c670 => ?_) (fun c670 => ?_)
                  · replace hr := ip hr c670
                    refine VW.aload_n d9_looksAt_138 4 rfl ?_
                    refine VW.aload_n d9_looksAt_139 4 rfl ?_
                    refine VW.getI (k := 11) d9_looksAt_140 (oo_9 o9_114) rfl fl_9_151 ck9 ?_
                    obtain ⟨h671, e672, hr⟩ := hlt hr
                    refine VW.putI (k := 14) d9_looksAt_143 (oo_9 o9_114) rfl fl_9_212 ck9 rfl rfl rfl rfl ?_
                    refine VW.heq e672 ?_
                    refine VW.aload_n d9_looksAt_146 4 rfl ?_
                    refine VW.iload d9_looksAt_147 0 rfl ?_
                    obtain ⟨h673, e674, hr⟩ := hlt hr
                    refine VW.putI (k := 16) d9_looksAt_149 (oo_9 o9_114) rfl fl_9_215 ck9 rfl rfl rfl rfl ?_
                    refine VW.heq e674 ?_
                    refine VW.iconst (v := 0) d9_looksAt_152 ic_0 ?_
                    refine VW.istore (lo' := [(8, .int 0), (7, .int r633), (6, .int 1), (5, .int r633), (4, .int r423), (0, .ref (γ.2.2.1 114)), (1, .int x1), (2, .int x2), (3, .int x3)]) d9_looksAt_153 (by decide) rfl ?_
                    exact VW.sub [5, 0] rfl (s_9_looksAt_155 hd hR FU 0 h673 hr)
                  · replace hr := im hr c670
                    refine VW.iload d9_looksAt_129 0 rfl ?_
                    refine VW.aload_n d9_looksAt_131 4 rfl ?_
                    refine VW.getI (k := 16) d9_looksAt_132 (oo_9 o9_114) rfl fl_9_215 ck9 ?_
                    refine VW.icmp_ge 184 d9_looksAt_135 (by decide) (fun c675 => ?_) (fun c675 => ?_)
                    · replace hr := ip hr c675
                      exact VW.vret d9_looksAt_184 hR (rV hr)
                    · replace hr := im hr c675
                      refine VW.aload_n d9_looksAt_138 4 rfl ?_
                      refine VW.aload_n d9_looksAt_139 4 rfl ?_
                      refine VW.getI (k := 11) d9_looksAt_140 (oo_9 o9_114) rfl fl_9_151 ck9 ?_
                      obtain ⟨h676, e677, hr⟩ := hlt hr
                      refine VW.putI (k := 14) d9_looksAt_143 (oo_9 o9_114) rfl fl_9_212 ck9 rfl rfl rfl rfl ?_
                      refine VW.heq e677 ?_
                      refine VW.aload_n d9_looksAt_146 4 rfl ?_
                      refine VW.iload d9_looksAt_147 0 rfl ?_
                      obtain ⟨h678, e679, hr⟩ := hlt hr
                      refine VW.putI (k := 16) d9_looksAt_149 (oo_9 o9_114) rfl fl_9_215 ck9 rfl rfl rfl rfl ?_
                      refine VW.heq e679 ?_
                      refine VW.iconst (v := 0) d9_looksAt_152 ic_0 ?_
                      refine VW.istore (lo' := [(8, .int 0), (7, .int r633), (6, .int 1), (5, .int r633), (4, .int r423), (0, .ref (γ.2.2.1 114)), (1, .int x1), (2, .int x2), (3, .int x3)]) d9_looksAt_153 (by decide) rfl ?_
                      exact VW.sub [5, 0] rfl (s_9_looksAt_155 hd hR FU 0 h678 hr)
            · replace hr := im hr c665
              refine VW.iconst (v := 0) d9_looksAt_95 ic_0 ?_
              refine VW.istore (lo' := [(7, .int 0), (6, .int 1), (5, .int r633), (4, .int r423), (0, .ref (γ.2.2.1 114)), (1, .int x1), (2, .int x2), (3, .int x3)]) d9_looksAt_96 (by decide) rfl ?_
              refine VW.aload_n d9_looksAt_98 4 rfl ?_
              refine VW.dup d9_looksAt_99 rfl ?_
              refine VW.getI (k := 17) d9_looksAt_100 (oo_9 o9_114) rfl fl_9_209 ck9 ?_
              refine VW.iload d9_looksAt_103 1 rfl ?_
              refine VW.if_eq 112 d9_looksAt_105 (by decide) (fun c680 => ?_) (fun c680 => ?_)
              · exact absurd c680 (by decide)
              · skip
                refine VW.iconst (v := 1) d9_looksAt_108 ic_1 ?_
                refine VW.goto 113 d9_looksAt_109 (by decide) ?_
                refine VW.iadd d9_looksAt_113 ?_
                obtain ⟨h681, e682, hr⟩ := hlt hr
                refine VW.putI (k := 17) d9_looksAt_114 (oo_9 o9_114) rfl fl_9_209 ck9 rfl rfl rfl rfl ?_
                refine VW.heq e682 ?_
                refine VW.iload d9_looksAt_117 1 rfl ?_
                refine VW.if_eq 184 d9_looksAt_119 (by decide) (fun c683 => ?_) (fun c683 => ?_)
                · exact absurd c683 (by decide)
                · skip
                  refine VW.aload_n d9_looksAt_122 4 rfl ?_
                  refine VW.getI (k := 14) d9_looksAt_123 (oo_9 o9_114) rfl fl_9_212 ck9 ?_
                  refine VW.if_eq 138 d9_looksAt_126 (by decide) (fun c684 => ?_) (fun c684 => ?_)
                  · replace hr := ip hr c684
                    refine VW.aload_n d9_looksAt_138 4 rfl ?_
                    refine VW.aload_n d9_looksAt_139 4 rfl ?_
                    refine VW.getI (k := 11) d9_looksAt_140 (oo_9 o9_114) rfl fl_9_151 ck9 ?_
                    obtain ⟨h685, e686, hr⟩ := hlt hr
                    refine VW.putI (k := 14) d9_looksAt_143 (oo_9 o9_114) rfl fl_9_212 ck9 rfl rfl rfl rfl ?_
                    refine VW.heq e686 ?_
                    refine VW.aload_n d9_looksAt_146 4 rfl ?_
                    refine VW.iload d9_looksAt_147 0 rfl ?_
                    obtain ⟨h687, e688, hr⟩ := hlt hr
                    refine VW.putI (k := 16) d9_looksAt_149 (oo_9 o9_114) rfl fl_9_215 ck9 rfl rfl rfl rfl ?_
                    refine VW.heq e688 ?_
                    refine VW.iconst (v := 0) d9_looksAt_152 ic_0 ?_
                    refine VW.istore (lo' := [(8, .int 0), (7, .int 0), (6, .int 1), (5, .int r633), (4, .int r423), (0, .ref (γ.2.2.1 114)), (1, .int x1), (2, .int x2), (3, .int x3)]) d9_looksAt_153 (by decide) rfl ?_
                    exact VW.sub [5, 0] rfl (s_9_looksAt_155 hd hR FU 0 h687 hr)
                  · replace hr := im hr c684
                    refine VW.iload d9_looksAt_129 0 rfl ?_
                    refine VW.aload_n d9_looksAt_131 4 rfl ?_
                    refine VW.getI (k := 16) d9_looksAt_132 (oo_9 o9_114) rfl fl_9_215 ck9 ?_
                    refine VW.icmp_ge 184 d9_looksAt_135 (by decide) (fun c689 => ?_) (fun c689 => ?_)
                    · replace hr := ip hr c689
                      exact VW.vret d9_looksAt_184 hR (rV hr)
                    · replace hr := im hr c689
                      refine VW.aload_n d9_looksAt_138 4 rfl ?_
                      refine VW.aload_n d9_looksAt_139 4 rfl ?_
                      refine VW.getI (k := 11) d9_looksAt_140 (oo_9 o9_114) rfl fl_9_151 ck9 ?_
                      obtain ⟨h690, e691, hr⟩ := hlt hr
                      refine VW.putI (k := 14) d9_looksAt_143 (oo_9 o9_114) rfl fl_9_212 ck9 rfl rfl rfl rfl ?_
                      refine VW.heq e691 ?_
                      refine VW.aload_n d9_looksAt_146 4 rfl ?_
                      refine VW.iload d9_looksAt_147 0 rfl ?_
                      obtain ⟨h692, e693, hr⟩ := hlt hr
                      refine VW.putI (k := 16) d9_looksAt_149 (oo_9 o9_114) rfl fl_9_215 ck9 rfl rfl rfl rfl ?_
                      refine VW.heq e693 ?_
                      refine VW.iconst (v := 0) d9_looksAt_152 ic_0 ?_
                      refine VW.istore (lo' := [(8, .int 0), (7, .int 0), (6, .int 1), (5, .int r633), (4, .int r423), (0, .ref (γ.2.2.1 114)), (1, .int x1), (2, .int x2), (3, .int x3)]) d9_looksAt_153 (by decide) rfl ?_
                      exact VW.sub [5, 0] rfl (s_9_looksAt_155 hd hR FU 0 h692 hr)
      · replace hr := im hr c634
        refine VW.iload_n d9_looksAt_50 4 rfl ?_
        refine VW.iconst (v := 1) d9_looksAt_51 ic_1 ?_
        refine VW.icmp_ne 69 d9_looksAt_52 (by decide) (fun c694 => ?_) (fun c694 => ?_)
        · replace hr := ip hr c694
          refine VW.iload d9_looksAt_55 1 rfl ?_
          refine VW.iload_n d9_looksAt_57 5 rfl ?_
          refine VW.icmp_gt 65 d9_looksAt_58 (by decide) (fun c695 => ?_) (fun c695 => ?_)
          · replace hr := ip hr c695
            refine VW.iconst (v := 0) d9_looksAt_65 ic_0 ?_
            refine VW.goto 74 d9_looksAt_66 (by decide) ?_
            refine VW.istore (lo' := [(6, .int 0), (5, .int r633), (4, .int r423), (0, .ref (γ.2.2.1 114)), (1, .int x1), (2, .int x2), (3, .int x3)]) d9_looksAt_74 (by decide) rfl ?_
            refine VW.iload_n d9_looksAt_76 5 rfl ?_
            refine VW.if_ne 85 d9_looksAt_77 (by decide) (fun c696 => ?_) (fun c696 => ?_)
            · replace hr := ip hr c696
              refine VW.iload d9_looksAt_80 2 rfl ?_
              refine VW.goto 96 d9_looksAt_82 (by decide) ?_
              refine VW.istore (lo' := [(7, .int r423), (6, .int 0), (5, .int r633), (4, .int r423), (0, .ref (γ.2.2.1 114)), (1, .int x1), (2, .int x2), (3, .int x3)]) d9_looksAt_96 (by decide) rfl ?_
              refine VW.aload_n d9_looksAt_98 4 rfl ?_
              refine VW.dup d9_looksAt_99 rfl ?_
              refine VW.getI (k := 17) d9_looksAt_100 (oo_9 o9_114) rfl fl_9_209 ck9 ?_
              refine VW.iload d9_looksAt_103 1 rfl ?_
              refine VW.if_eq 112 d9_looksAt_105 (by decide) (fun c697 => ?_) (fun c697 => ?_)
              · skip
                refine VW.iconst (v := 0) d9_looksAt_112 ic_0 ?_
                refine VW.iadd d9_looksAt_113 ?_
                obtain ⟨h698, e699, hr⟩ := hlt hr
                refine VW.putI (k := 17) d9_looksAt_114 (oo_9 o9_114) rfl fl_9_209 ck9 rfl rfl rfl rfl ?_
                refine VW.heq e699 ?_
                refine VW.iload d9_looksAt_117 1 rfl ?_
                refine VW.if_eq 184 d9_looksAt_119 (by decide) (fun c700 => ?_) (fun c700 => ?_)
                · skip
                  exact VW.vret d9_looksAt_184 hR (rV hr)
                · exact (c700 (by decide)).elim
              · exact (c697 (by decide)).elim
            · replace hr := im hr c696
              refine VW.iload_n d9_looksAt_85 5 rfl ?_
              refine VW.iconst (v := 1) d9_looksAt_86 ic_1 ?_
              refine VW.icmp_ne 95 d9_looksAt_87 (by decide) (fun c701 => ?_) (fun c701 => ?_)
              · replace hr := ip hr c701
                refine VW.iload d9_looksAt_90 1 rfl ?_
                refine VW.goto 96 d9_looksAt_92 (by decide) ?_
                refine VW.istore (lo' := [(7, .int r633), (6, .int 0), (5, .int r633), (4, .int r423), (0, .ref (γ.2.2.1 114)), (1, .int x1), (2, .int x2), (3, .int x3)]) d9_looksAt_96 (by decide) rfl ?_
                refine VW.aload_n d9_looksAt_98 4 rfl ?_
                refine VW.dup d9_looksAt_99 rfl ?_
                refine VW.getI (k := 17) d9_looksAt_100 (oo_9 o9_114) rfl fl_9_209 ck9 ?_
                refine VW.iload d9_looksAt_103 1 rfl ?_
                refine VW.if_eq 112 d9_looksAt_105 (by decide) (fun c702 => ?_) (fun c702 => ?_)
                · skip
                  refine VW.iconst (v := 0) d9_looksAt_112 ic_0 ?_
                  refine VW.iadd d9_looksAt_113 ?_
                  obtain ⟨h703, e704, hr⟩ := hlt hr
                  refine VW.putI (k := 17) d9_looksAt_114 (oo_9 o9_114) rfl fl_9_209 ck9 rfl rfl rfl rfl ?_
                  refine VW.heq e704 ?_
                  refine VW.iload d9_looksAt_117 1 rfl ?_
                  refine VW.if_eq 184 d9_looksAt_119 (by decide) (fun c705 => ?_) (fun c705 => ?_)
                  · skip
                    exact VW.vret d9_looksAt_184 hR (rV hr)
                  · exact (c705 (by decide)).elim
                · exact (c702 (by decide)).elim
              · replace hr := im hr c701
                refine VW.iconst (v := 0) d9_looksAt_95 ic_0 ?_
                refine VW.istore (lo' := [(7, .int 0), (6, .int 0), (5, .int r633), (4, .int r423), (0, .ref (γ.2.2.1 114)), (1, .int x1), (2, .int x2), (3, .int x3)]) d9_looksAt_96 (by decide) rfl ?_
                refine VW.aload_n d9_looksAt_98 4 rfl ?_
                refine VW.dup d9_looksAt_99 rfl ?_
                refine VW.getI (k := 17) d9_looksAt_100 (oo_9 o9_114) rfl fl_9_209 ck9 ?_
                refine VW.iload d9_looksAt_103 1 rfl ?_
                refine VW.if_eq 112 d9_looksAt_105 (by decide) (fun c706 => ?_) (fun c706 => ?_)
                · skip
                  refine VW.iconst (v := 0) d9_looksAt_112 ic_0 ?_
                  refine VW.iadd d9_looksAt_113 ?_
                  obtain ⟨h707, e708, hr⟩ := hlt hr
                  refine VW.putI (k := 17) d9_looksAt_114 (oo_9 o9_114) rfl fl_9_209 ck9 rfl rfl rfl rfl ?_
                  refine VW.heq e708 ?_
                  refine VW.iload d9_looksAt_117 1 rfl ?_
                  refine VW.if_eq 184 d9_looksAt_119 (by decide) (fun c709 => ?_) (fun c709 => ?_)
                  · skip
                    exact VW.vret d9_looksAt_184 hR (rV hr)
                  · exact (c709 (by decide)).elim
                · exact (c706 (by decide)).elim
          · replace hr := im hr c695
            refine VW.iconst (v := 1) d9_looksAt_61 ic_1 ?_
            refine VW.goto 74 d9_looksAt_62 (by decide) ?_
            refine VW.istore (lo' := [(6, .int 1), (5, .int r633), (4, .int r423), (0, .ref (γ.2.2.1 114)), (1, .int x1), (2, .int x2), (3, .int x3)]) d9_looksAt_74 (by decide) rfl ?_
            refine VW.iload_n d9_looksAt_76 5 rfl ?_
            refine VW.if_ne 85 d9_looksAt_77 (by decide) (fun c710 => ?_) (fun c710 => ?_)
            · replace hr := ip hr c710
              refine VW.iload d9_looksAt_80 2 rfl ?_
              refine VW.goto 96 d9_looksAt_82 (by decide) ?_
              refine VW.istore (lo' := [(7, .int r423), (6, .int 1), (5, .int r633), (4, .int r423), (0, .ref (γ.2.2.1 114)), (1, .int x1), (2, .int x2), (3, .int x3)]) d9_looksAt_96 (by decide) rfl ?_
              refine VW.aload_n d9_looksAt_98 4 rfl ?_
              refine VW.dup d9_looksAt_99 rfl ?_
              refine VW.getI (k := 17) d9_looksAt_100 (oo_9 o9_114) rfl fl_9_209 ck9 ?_
              refine VW.iload d9_looksAt_103 1 rfl ?_
              refine VW.if_eq 112 d9_looksAt_105 (by decide) (fun c711 => ?_) (fun c711 => ?_)
              · exact absurd c711 (by decide)
              · skip
                refine VW.iconst (v := 1) d9_looksAt_108 ic_1 ?_
                refine VW.goto 113 d9_looksAt_109 (by decide) ?_
                refine VW.iadd d9_looksAt_113 ?_
                obtain ⟨h712, e713, hr⟩ := hlt hr
                refine VW.putI (k := 17) d9_looksAt_114 (oo_9 o9_114) rfl fl_9_209 ck9 rfl rfl rfl rfl ?_
                refine VW.heq e713 ?_
                refine VW.iload d9_looksAt_117 1 rfl ?_
                refine VW.if_eq 184 d9_looksAt_119 (by decide) (fun c714 => ?_) (fun c714 => ?_)
                · exact absurd c714 (by decide)
                · skip
                  refine VW.aload_n d9_looksAt_122 4 rfl ?_
                  refine VW.getI (k := 14) d9_looksAt_123 (oo_9 o9_114) rfl fl_9_212 ck9 ?_
                  refine VW.if_eq 138 d9_looksAt_126 (by decide) (fun c715 => ?_) (fun c715 => ?_)
                  · replace hr := ip hr c715
                    refine VW.aload_n d9_looksAt_138 4 rfl ?_
                    refine VW.aload_n d9_looksAt_139 4 rfl ?_
                    refine VW.getI (k := 11) d9_looksAt_140 (oo_9 o9_114) rfl fl_9_151 ck9 ?_
                    obtain ⟨h716, e717, hr⟩ := hlt hr
                    refine VW.putI (k := 14) d9_looksAt_143 (oo_9 o9_114) rfl fl_9_212 ck9 rfl rfl rfl rfl ?_
                    refine VW.heq e717 ?_
                    refine VW.aload_n d9_looksAt_146 4 rfl ?_
                    refine VW.iload d9_looksAt_147 0 rfl ?_
                    obtain ⟨h718, e719, hr⟩ := hlt hr
                    refine VW.putI (k := 16) d9_looksAt_149 (oo_9 o9_114) rfl fl_9_215 ck9 rfl rfl rfl rfl ?_
                    refine VW.heq e719 ?_
                    refine VW.iconst (v := 0) d9_looksAt_152 ic_0 ?_
                    refine VW.istore (lo' := [(8, .int 0), (7, .int r423), (6, .int 1), (5, .int r633), (4, .int r423), (0, .ref (γ.2.2.1 114)), (1, .int x1), (2, .int x2), (3, .int x3)]) d9_looksAt_153 (by decide) rfl ?_
                    exact VW.sub [5, 0] rfl (s_9_looksAt_155 hd hR FU 0 h718 hr)
                  · replace hr := im hr c715
                    refine VW.iload d9_looksAt_129 0 rfl ?_
                    refine VW.aload_n d9_looksAt_131 4 rfl ?_
                    refine VW.getI (k := 16) d9_looksAt_132 (oo_9 o9_114) rfl fl_9_215 ck9 ?_
                    refine VW.icmp_ge 184 d9_looksAt_135 (by decide) (fun c720 => ?_) (fun c720 => ?_)
                    · replace hr := ip hr c720
                      exact VW.vret d9_looksAt_184 hR (rV hr)
                    · replace hr := im hr c720
                      refine VW.aload_n d9_looksAt_138 4 rfl ?_
                      refine VW.aload_n d9_looksAt_139 4 rfl ?_
                      refine VW.getI (k := 11) d9_looksAt_140 (oo_9 o9_114) rfl fl_9_151 ck9 ?_
                      obtain ⟨h721, e722, hr⟩ := hlt hr
                      refine VW.putI (k := 14) d9_looksAt_143 (oo_9 o9_114) rfl fl_9_212 ck9 rfl rfl rfl rfl ?_
                      refine VW.heq e722 ?_
                      refine VW.aload_n d9_looksAt_146 4 rfl ?_
                      refine VW.iload d9_looksAt_147 0 rfl ?_
                      obtain ⟨h723, e724, hr⟩ := hlt hr
                      refine VW.putI (k := 16) d9_looksAt_149 (oo_9 o9_114) rfl fl_9_215 ck9 rfl rfl rfl rfl ?_
                      refine VW.heq e724 ?_
                      refine VW.iconst (v := 0) d9_looksAt_152 ic_0 ?_
                      refine VW.istore (lo' := [(8, .int 0), (7, .int r423), (6, .int 1), (5, .int r633), (4, .int r423), (0, .ref (γ.2.2.1 114)), (1, .int x1), (2, .int x2), (3, .int x3)]) d9_looksAt_153 (by decide) rfl ?_
                      exact VW.sub [5, 0] rfl (s_9_looksAt_155 hd hR FU 0 h723 hr)
            · replace hr := im hr c710
              refine VW.iload_n d9_looksAt_85 5 rfl ?_
              refine VW.iconst (v := 1) d9_looksAt_86 ic_1 ?_
              refine VW.icmp_ne 95 d9_looksAt_87 (by decide) (fun c725 => ?_) (fun c725 => ?_)
              · replace hr := ip hr c725
                refine VW.iload d9_looksAt_90 1 rfl ?_
                refine VW.goto 96 d9_looksAt_92 (by decide) ?_
                refine VW.istore (lo' := [(7, .int r633), (6, .int 1), (5, .int r633), (4, .int r423), (0, .ref (γ.2.2.1 114)), (1, .int x1), (2, .int x2), (3, .int x3)]) d9_looksAt_96 (by decide) rfl ?_
                refine VW.aload_n d9_looksAt_98 4 rfl ?_
                refine VW.dup d9_looksAt_99 rfl ?_
                refine VW.getI (k := 17) d9_looksAt_100 (oo_9 o9_114) rfl fl_9_209 ck9 ?_
                refine VW.iload d9_looksAt_103 1 rfl ?_
                refine VW.if_eq 112 d9_looksAt_105 (by decide) (fun c726 => ?_) (fun c726 => ?_)
                · exact absurd c726 (by decide)
                · skip
                  refine VW.iconst (v := 1) d9_looksAt_108 ic_1 ?_
                  refine VW.goto 113 d9_looksAt_109 (by decide) ?_
                  refine VW.iadd d9_looksAt_113 ?_
                  obtain ⟨h727, e728, hr⟩ := hlt hr
                  refine VW.putI (k := 17) d9_looksAt_114 (oo_9 o9_114) rfl fl_9_209 ck9 rfl rfl rfl rfl ?_
                  refine VW.heq e728 ?_
                  refine VW.iload d9_looksAt_117 1 rfl ?_
                  refine VW.if_eq 184 d9_looksAt_119 (by decide) (fun c729 => ?_) (fun c729 => ?_)
                  · exact absurd c729 (by decide)
                  · skip
                    refine VW.aload_n d9_looksAt_122 4 rfl ?_
                    refine VW.getI (k := 14) d9_looksAt_123 (oo_9 o9_114) rfl fl_9_212 ck9 ?_
                    refine VW.if_eq 138 d9_looksAt_126 (by decide) (fun c730 => ?_) (fun c730 => ?_)
                    · replace hr := ip hr c730
                      refine VW.aload_n d9_looksAt_138 4 rfl ?_
                      refine VW.aload_n d9_looksAt_139 4 rfl ?_
                      refine VW.getI (k := 11) d9_looksAt_140 (oo_9 o9_114) rfl fl_9_151 ck9 ?_
                      obtain ⟨h731, e732, hr⟩ := hlt hr
                      refine VW.putI (k := 14) d9_looksAt_143 (oo_9 o9_114) rfl fl_9_212 ck9 rfl rfl rfl rfl ?_
                      refine VW.heq e732 ?_
                      refine VW.aload_n d9_looksAt_146 4 rfl ?_
                      refine VW.iload d9_looksAt_147 0 rfl ?_
                      obtain ⟨h733, e734, hr⟩ := hlt hr
                      refine VW.putI (k := 16) d9_looksAt_149 (oo_9 o9_114) rfl fl_9_215 ck9 rfl rfl rfl rfl ?_
                      refine VW.heq e734 ?_
                      refine VW.iconst (v := 0) d9_looksAt_152 ic_0 ?_
                      refine VW.istore (lo' := [(8, .int 0), (7, .int r633), (6, .int 1), (5, .int r633), (4, .int r423), (0, .ref (γ.2.2.1 114)), (1, .int x1), (2, .int x2), (3, .int x3)]) d9_looksAt_153 (by decide) rfl ?_
                      exact VW.sub [5, 0] rfl (s_9_looksAt_155 hd hR FU 0 h733 hr)
                    · replace hr := im hr c730
                      refine VW.iload d9_looksAt_129 0 rfl ?_
                      refine VW.aload_n d9_looksAt_131 4 rfl ?_
                      refine VW.getI (k := 16) d9_looksAt_132 (oo_9 o9_114) rfl fl_9_215 ck9 ?_
                      refine VW.icmp_ge 184 d9_looksAt_135 (by decide) (fun c735 => ?_) (fun c735 => ?_)
                      · replace hr := ip hr c735
                        exact VW.vret d9_looksAt_184 hR (rV hr)
                      · replace hr := im hr c735
                        refine VW.aload_n d9_looksAt_138 4 rfl ?_
                        refine VW.aload_n d9_looksAt_139 4 rfl ?_
                        refine VW.getI (k := 11) d9_looksAt_140 (oo_9 o9_114) rfl fl_9_151 ck9 ?_
                        obtain ⟨h736, e737, hr⟩ := hlt hr
                        refine VW.putI (k := 14) d9_looksAt_143 (oo_9 o9_114) rfl fl_9_212 ck9 rfl rfl rfl rfl ?_
                        refine VW.heq e737 ?_
                        refine VW.aload_n d9_looksAt_146 4 rfl ?_
                        refine VW.iload d9_looksAt_147 0 rfl ?_
                        obtain ⟨h738, e739, hr⟩ := hlt hr
                        refine VW.putI (k := 16) d9_looksAt_149 (oo_9 o9_114) rfl fl_9_215 ck9 rfl rfl rfl rfl ?_
                        refine VW.heq e739 ?_
                        refine VW.iconst (v := 0) d9_looksAt_152 ic_0 ?_
                        refine VW.istore (lo' := [(8, .int 0), (7, .int r633), (6, .int 1), (5, .int r633), (4, .int r423), (0, .ref (γ.2.2.1 114)), (1, .int x1), (2, .int x2), (3, .int x3)]) d9_looksAt_153 (by decide) rfl ?_
                        exact VW.sub [5, 0] rfl (s_9_looksAt_155 hd hR FU 0 h738 hr)
              · replace hr := im hr c725
                refine VW.iconst (v := 0) d9_looksAt_95 ic_0 ?_
                refine VW.istore (lo' := [(7, .int 0), (6, .int 1), (5, .int r633), (4, .int r423), (0, .ref (γ.2.2.1 114)), (1, .int x1), (2, .int x2), (3, .int x3)]) d9_looksAt_96 (by decide) rfl ?_
                refine VW.aload_n d9_looksAt_98 4 rfl ?_
                refine VW.dup d9_looksAt_99 rfl ?_
                refine VW.getI (k := 17) d9_looksAt_100 (oo_9 o9_114) rfl fl_9_209 ck9 ?_
                refine VW.iload d9_looksAt_103 1 rfl ?_
                refine VW.if_eq 112 d9_looksAt_105 (by decide) (fun c740 => ?_) (fun c740 => ?_)
                · exact absurd c740 (by decide)
                · skip
                  refine VW.iconst (v := 1) d9_looksAt_108 ic_1 ?_
                  refine VW.goto 113 d9_looksAt_109 (by decide) ?_
                  refine VW.iadd d9_looksAt_113 ?_
                  obtain ⟨h741, e742, hr⟩ := hlt hr
                  refine VW.putI (k := 17) d9_looksAt_114 (oo_9 o9_114) rfl fl_9_209 ck9 rfl rfl rfl rfl ?_
                  refine VW.heq e742 ?_
                  refine VW.iload d9_looksAt_117 1 rfl ?_
                  refine VW.if_eq 184 d9_looksAt_119 (by decide) (fun c743 => ?_) (fun c743 => ?_)
                  · exact absurd c743 (by decide)
                  · skip
                    refine VW.aload_n d9_looksAt_122 4 rfl ?_
                    refine VW.getI (k := 14) d9_looksAt_123 (oo_9 o9_114) rfl fl_9_212 ck9 ?_
                    refine VW.if_eq 138 d9_looksAt_126 (by decide) (fun c744 => ?_) (fun c744 => ?_)
                    · replace hr := ip hr c744
                      refine VW.aload_n d9_looksAt_138 4 rfl ?_
                      refine VW.aload_n d9_looksAt_139 4 rfl ?_
                      refine VW.getI (k := 11) d9_looksAt_140 (oo_9 o9_114) rfl fl_9_151 ck9 ?_
                      obtain ⟨h745, e746, hr⟩ := hlt hr
                      refine VW.putI (k := 14) d9_looksAt_143 (oo_9 o9_114) rfl fl_9_212 ck9 rfl rfl rfl rfl ?_
                      refine VW.heq e746 ?_
                      refine VW.aload_n d9_looksAt_146 4 rfl ?_
                      refine VW.iload d9_looksAt_147 0 rfl ?_
                      obtain ⟨h747, e748, hr⟩ := hlt hr
                      refine VW.putI (k := 16) d9_looksAt_149 (oo_9 o9_114) rfl fl_9_215 ck9 rfl rfl rfl rfl ?_
                      refine VW.heq e748 ?_
                      refine VW.iconst (v := 0) d9_looksAt_152 ic_0 ?_
                      refine VW.istore (lo' := [(8, .int 0), (7, .int 0), (6, .int 1), (5, .int r633), (4, .int r423), (0, .ref (γ.2.2.1 114)), (1, .int x1), (2, .int x2), (3, .int x3)]) d9_looksAt_153 (by decide) rfl ?_
                      exact VW.sub [5, 0] rfl (s_9_looksAt_155 hd hR FU 0 h747 hr)
                    · replace hr := im hr c744
                      refine VW.iload d9_looksAt_129 0 rfl ?_
                      refine VW.aload_n d9_looksAt_131 4 rfl ?_
                      refine VW.getI (k := 16) d9_looksAt_132 (oo_9 o9_114) rfl fl_9_215 ck9 ?_
                      refine VW.icmp_ge 184 d9_looksAt_135 (by decide) (fun c749 => ?_) (fun c749 => ?_)
                      · replace hr := ip hr c749
                        exact VW.vret d9_looksAt_184 hR (rV hr)
                      · replace hr := im hr c749
                        refine VW.aload_n d9_looksAt_138 4 rfl ?_
                        refine VW.aload_n d9_looksAt_139 4 rfl ?_
                        refine VW.getI (k := 11) d9_looksAt_140 (oo_9 o9_114) rfl fl_9_151 ck9 ?_
                        obtain ⟨h750, e751, hr⟩ := hlt hr
                        refine VW.putI (k := 14) d9_looksAt_143 (oo_9 o9_114) rfl fl_9_212 ck9 rfl rfl rfl rfl ?_
                        refine VW.heq e751 ?_
                        refine VW.aload_n d9_looksAt_146 4 rfl ?_
                        refine VW.iload d9_looksAt_147 0 rfl ?_
                        obtain ⟨h752, e753, hr⟩ := hlt hr
                        refine VW.putI (k := 16) d9_looksAt_149 (oo_9 o9_114) rfl fl_9_215 ck9 rfl rfl rfl rfl ?_
                        refine VW.heq e753 ?_
                        refine VW.iconst (v := 0) d9_looksAt_152 ic_0 ?_
                        refine VW.istore (lo' := [(8, .int 0), (7, .int 0), (6, .int 1), (5, .int r633), (4, .int r423), (0, .ref (γ.2.2.1 114)), (1, .int x1), (2, .int x2), (3, .int x3)]) d9_looksAt_153 (by decide) rfl ?_
                        exact VW.sub [5, 0] rfl (s_9_looksAt_155 hd hR FU 0 h752 hr)
        · replace hr := im hr c694
          refine VW.aload_n d9_looksAt_69 2 rfl ?_
          refine VW.iload_n d9_looksAt_70 3 rfl ?_
          obtain ⟨r755, h756, e754, hr⟩ := bno2 hr
          refine VW.callV (As := [.int x1]) (st := []) d9_looksAt_71 mi_9_isHeard cv_9_206 (oo_9 o9_114) ⟨rfl, rfl⟩ (by decide) (dl1 hd) _ rfl (Nat.le_of_ble_eq_true rfl) rfl (c_9_isHeard (dl hd rfl) e754) (kI ?_)
          refine VW.istore (lo' := [(6, .int r755), (5, .int r633), (4, .int r423), (0, .ref (γ.2.2.1 114)), (1, .int x1), (2, .int x2), (3, .int x3)]) d9_looksAt_74 (by decide) rfl ?_
          refine VW.iload_n d9_looksAt_76 5 rfl ?_
          refine VW.if_ne 85 d9_looksAt_77 (by decide) (fun c757 => ?_) (fun c757 => ?_)
          · replace hr := ip hr c757
            refine VW.iload d9_looksAt_80 2 rfl ?_
            refine VW.goto 96 d9_looksAt_82 (by decide) ?_
            refine VW.istore (lo' := [(7, .int r423), (6, .int r755), (5, .int r633), (4, .int r423), (0, .ref (γ.2.2.1 114)), (1, .int x1), (2, .int x2), (3, .int x3)]) d9_looksAt_96 (by decide) rfl ?_
            refine VW.aload_n d9_looksAt_98 4 rfl ?_
            refine VW.dup d9_looksAt_99 rfl ?_
            refine VW.getI (k := 17) d9_looksAt_100 (oo_9 o9_114) rfl fl_9_209 ck9 ?_
            refine VW.iload d9_looksAt_103 1 rfl ?_
            refine VW.if_eq 112 d9_looksAt_105 (by decide) (fun c758 => ?_) (fun c758 => ?_)
            · replace hr := ip hr c758
              refine VW.iconst (v := 0) d9_looksAt_112 ic_0 ?_
              refine VW.iadd d9_looksAt_113 ?_
              obtain ⟨h759, e760, hr⟩ := hlt hr
              refine VW.putI (k := 17) d9_looksAt_114 (oo_9 o9_114) rfl fl_9_209 ck9 rfl rfl rfl rfl ?_
              refine VW.heq e760 ?_
              refine VW.iload d9_looksAt_117 1 rfl ?_
              refine VW.if_eq 184 d9_looksAt_119 (by decide) (fun c761 => ?_) (fun c761 => ?_)
              · replace hr := ip hr c761
                exact VW.vret d9_looksAt_184 hR (rV hr)
              · replace hr := im hr c761
                refine VW.aload_n d9_looksAt_122 4 rfl ?_
                refine VW.getI (k := 14) d9_looksAt_123 (oo_9 o9_114) rfl fl_9_212 ck9 ?_
                refine VW.if_eq 138 d9_looksAt_126 (by decide) (fun c762 => ?_) (fun c762 => ?_)
                · replace hr := ip hr c762
                  refine VW.aload_n d9_looksAt_138 4 rfl ?_
                  refine VW.aload_n d9_looksAt_139 4 rfl ?_
                  refine VW.getI (k := 11) d9_looksAt_140 (oo_9 o9_114) rfl fl_9_151 ck9 ?_
                  obtain ⟨h763, e764, hr⟩ := hlt hr
                  refine VW.putI (k := 14) d9_looksAt_143 (oo_9 o9_114) rfl fl_9_212 ck9 rfl rfl rfl rfl ?_
                  refine VW.heq e764 ?_
                  refine VW.aload_n d9_looksAt_146 4 rfl ?_
                  refine VW.iload d9_looksAt_147 0 rfl ?_
                  obtain ⟨h765, e766, hr⟩ := hlt hr
                  refine VW.putI (k := 16) d9_looksAt_149 (oo_9 o9_114) rfl fl_9_215 ck9 rfl rfl rfl rfl ?_
                  refine VW.heq e766 ?_
                  refine VW.iconst (v := 0) d9_looksAt_152 ic_0 ?_
                  refine VW.istore (lo' := [(8, .int 0), (7, .int r423), (6, .int r755), (5, .int r633), (4, .int r423), (0, .ref (γ.2.2.1 114)), (1, .int x1), (2, .int x2), (3, .int x3)]) d9_looksAt_153 (by decide) rfl ?_
                  exact VW.sub [5, 0] rfl (s_9_looksAt_155 hd hR FU 0 h765 hr)
                · replace hr := im hr c762
                  refine VW.iload d9_looksAt_129 0 rfl ?_
                  refine VW.aload_n d9_looksAt_131 4 rfl ?_
                  refine VW.getI (k := 16) d9_looksAt_132 (oo_9 o9_114) rfl fl_9_215 ck9 ?_
                  refine VW.icmp_ge 184 d9_looksAt_135 (by decide) (fun c767 => ?_) (fun c767 => ?_)
                  · replace hr := ip hr c767
                    exact VW.vret d9_looksAt_184 hR (rV hr)
                  · replace hr := im hr c767
                    refine VW.aload_n d9_looksAt_138 4 rfl ?_
                    refine VW.aload_n d9_looksAt_139 4 rfl ?_
                    refine VW.getI (k := 11) d9_looksAt_140 (oo_9 o9_114) rfl fl_9_151 ck9 ?_
                    obtain ⟨h768, e769, hr⟩ := hlt hr
                    refine VW.putI (k := 14) d9_looksAt_143 (oo_9 o9_114) rfl fl_9_212 ck9 rfl rfl rfl rfl ?_
                    refine VW.heq e769 ?_
                    refine VW.aload_n d9_looksAt_146 4 rfl ?_
                    refine VW.iload d9_looksAt_147 0 rfl ?_
                    obtain ⟨h770, e771, hr⟩ := hlt hr
                    refine VW.putI (k := 16) d9_looksAt_149 (oo_9 o9_114) rfl fl_9_215 ck9 rfl rfl rfl rfl ?_
                    refine VW.heq e771 ?_
                    refine VW.iconst (v := 0) d9_looksAt_152 ic_0 ?_
                    refine VW.istore (lo' := [(8, .int 0), (7, .int r423), (6, .int r755), (5, .int r633), (4, .int r423), (0, .ref (γ.2.2.1 114)), (1, .int x1), (2, .int x2), (3, .int x3)]) d9_looksAt_153 (by decide) rfl ?_
                    exact VW.sub [5, 0] rfl (s_9_looksAt_155 hd hR FU 0 h770 hr)
            · replace hr := im hr c758
              refine VW.iconst (v := 1) d9_looksAt_108 ic_1 ?_
              refine VW.goto 113 d9_looksAt_109 (by decide) ?_
              refine VW.iadd d9_looksAt_113 ?_
              obtain ⟨h772, e773, hr⟩ := hlt hr
              refine VW.putI (k := 17) d9_looksAt_114 (oo_9 o9_114) rfl fl_9_209 ck9 rfl rfl rfl rfl ?_
              refine VW.heq e773 ?_
              refine VW.iload d9_looksAt_117 1 rfl ?_
              refine VW.if_eq 184 d9_looksAt_119 (by decide) (fun c774 => ?_) (fun c774 => ?_)
              · replace hr := ip hr c774
                exact VW.vret d9_looksAt_184 hR (rV hr)
              · replace hr := im hr c774
                refine VW.aload_n d9_looksAt_122 4 rfl ?_
                refine VW.getI (k := 14) d9_looksAt_123 (oo_9 o9_114) rfl fl_9_212 ck9 ?_
                refine VW.if_eq 138 d9_looksAt_126 (by decide) (fun c775 => ?_) (fun c775 => ?_)
                · replace hr := ip hr c775
                  refine VW.aload_n d9_looksAt_138 4 rfl ?_
                  refine VW.aload_n d9_looksAt_139 4 rfl ?_
                  refine VW.getI (k := 11) d9_looksAt_140 (oo_9 o9_114) rfl fl_9_151 ck9 ?_
                  obtain ⟨h776, e777, hr⟩ := hlt hr
                  refine VW.putI (k := 14) d9_looksAt_143 (oo_9 o9_114) rfl fl_9_212 ck9 rfl rfl rfl rfl ?_
                  refine VW.heq e777 ?_
                  refine VW.aload_n d9_looksAt_146 4 rfl ?_
                  refine VW.iload d9_looksAt_147 0 rfl ?_
                  obtain ⟨h778, e779, hr⟩ := hlt hr
                  refine VW.putI (k := 16) d9_looksAt_149 (oo_9 o9_114) rfl fl_9_215 ck9 rfl rfl rfl rfl ?_
                  refine VW.heq e779 ?_
                  refine VW.iconst (v := 0) d9_looksAt_152 ic_0 ?_
                  refine VW.istore (lo' := [(8, .int 0), (7, .int r423), (6, .int r755), (5, .int r633), (4, .int r423), (0, .ref (γ.2.2.1 114)), (1, .int x1), (2, .int x2), (3, .int x3)]) d9_looksAt_153 (by decide) rfl ?_
                  exact VW.sub [5, 0] rfl (s_9_looksAt_155 hd hR FU 0 h778 hr)
                · replace hr := im hr c775
                  refine VW.iload d9_looksAt_129 0 rfl ?_
                  refine VW.aload_n d9_looksAt_131 4 rfl ?_
                  refine VW.getI (k := 16) d9_looksAt_132 (oo_9 o9_114) rfl fl_9_215 ck9 ?_
                  refine VW.icmp_ge 184 d9_looksAt_135 (by decide) (fun c780 => ?_) (fun c780 => ?_)
                  · replace hr := ip hr c780
                    exact VW.vret d9_looksAt_184 hR (rV hr)
                  · replace hr := im hr c780
                    refine VW.aload_n d9_looksAt_138 4 rfl ?_
                    refine VW.aload_n d9_looksAt_139 4 rfl ?_
                    refine VW.getI (k := 11) d9_looksAt_140 (oo_9 o9_114) rfl fl_9_151 ck9 ?_
                    obtain ⟨h781, e782, hr⟩ := hlt hr
                    refine VW.putI (k := 14) d9_looksAt_143 (oo_9 o9_114) rfl fl_9_212 ck9 rfl rfl rfl rfl ?_
                    refine VW.heq e782 ?_
                    refine VW.aload_n d9_looksAt_146 4 rfl ?_
                    refine VW.iload d9_looksAt_147 0 rfl ?_
                    obtain ⟨h783, e784, hr⟩ := hlt hr
                    refine VW.putI (k := 16) d9_looksAt_149 (oo_9 o9_114) rfl fl_9_215 ck9 rfl rfl rfl rfl ?_
                    refine VW.heq e784 ?_
                    refine VW.iconst (v := 0) d9_looksAt_152 ic_0 ?_
                    refine VW.istore (lo' := [(8, .int 0), (7, .int r423), (6, .int r755), (5, .int r633), (4, .int r423), (0, .ref (γ.2.2.1 114)), (1, .int x1), (2, .int x2), (3, .int x3)]) d9_looksAt_153 (by decide) rfl ?_
                    exact VW.sub [5, 0] rfl (s_9_looksAt_155 hd hR FU 0 h783 hr)
          · replace hr := im hr c757
            refine VW.iload_n d9_looksAt_85 5 rfl ?_
            refine VW.iconst (v := 1) d9_looksAt_86 ic_1 ?_
            refine VW.icmp_ne 95 d9_looksAt_87 (by decide) (fun c785 => ?_) (fun c785 => ?_)
            · replace hr := ip hr c785
              refine VW.iload d9_looksAt_90 1 rfl ?_
              refine VW.goto 96 d9_looksAt_92 (by decide) ?_
              refine VW.istore (lo' := [(7, .int r633), (6, .int r755), (5, .int r633), (4, .int r423), (0, .ref (γ.2.2.1 114)), (1, .int x1), (2, .int x2), (3, .int x3)]) d9_looksAt_96 (by decide) rfl ?_
              refine VW.aload_n d9_looksAt_98 4 rfl ?_
              refine VW.dup d9_looksAt_99 rfl ?_
              refine VW.getI (k := 17) d9_looksAt_100 (oo_9 o9_114) rfl fl_9_209 ck9 ?_
              refine VW.iload d9_looksAt_103 1 rfl ?_
              refine VW.if_eq 112 d9_looksAt_105 (by decide) (fun c786 => ?_) (fun c786 => ?_)
              · replace hr := ip hr c786
                refine VW.iconst (v := 0) d9_looksAt_112 ic_0 ?_
                refine VW.iadd d9_looksAt_113 ?_
                obtain ⟨h787, e788, hr⟩ := hlt hr
                refine VW.putI (k := 17) d9_looksAt_114 (oo_9 o9_114) rfl fl_9_209 ck9 rfl rfl rfl rfl ?_
                refine VW.heq e788 ?_
                refine VW.iload d9_looksAt_117 1 rfl ?_
                refine VW.if_eq 184 d9_looksAt_119 (by decide) (fun c789 => ?_) (fun c789 => ?_)
                · replace hr := ip hr c789
                  exact VW.vret d9_looksAt_184 hR (rV hr)
                · replace hr := im hr c789
                  refine VW.aload_n d9_looksAt_122 4 rfl ?_
                  refine VW.getI (k := 14) d9_looksAt_123 (oo_9 o9_114) rfl fl_9_212 ck9 ?_
                  refine VW.if_eq 138 d9_looksAt_126 (by decide) (fun c790 => ?_) (fun c790 => ?_)
                  · replace hr := ip hr c790
                    refine VW.aload_n d9_looksAt_138 4 rfl ?_
                    refine VW.aload_n d9_looksAt_139 4 rfl ?_
                    refine VW.getI (k := 11) d9_looksAt_140 (oo_9 o9_114) rfl fl_9_151 ck9 ?_
                    obtain ⟨h791, e792, hr⟩ := hlt hr
                    refine VW.putI (k := 14) d9_looksAt_143 (oo_9 o9_114) rfl fl_9_212 ck9 rfl rfl rfl rfl ?_
                    refine VW.heq e792 ?_
                    refine VW.aload_n d9_looksAt_146 4 rfl ?_
                    refine VW.iload d9_looksAt_147 0 rfl ?_
                    obtain ⟨h793, e794, hr⟩ := hlt hr
                    refine VW.putI (k := 16) d9_looksAt_149 (oo_9 o9_114) rfl fl_9_215 ck9 rfl rfl rfl rfl ?_
                    refine VW.heq e794 ?_
                    refine VW.iconst (v := 0) d9_looksAt_152 ic_0 ?_
                    refine VW.istore (lo' := [(8, .int 0), (7, .int r633), (6, .int r755), (5, .int r633), (4, .int r423), (0, .ref (γ.2.2.1 114)), (1, .int x1), (2, .int x2), (3, .int x3)]) d9_looksAt_153 (by decide) rfl ?_
                    exact VW.sub [5, 0] rfl (s_9_looksAt_155 hd hR FU 0 h793 hr)
                  · replace hr := im hr c790
                    refine VW.iload d9_looksAt_129 0 rfl ?_
                    refine VW.aload_n d9_looksAt_131 4 rfl ?_
                    refine VW.getI (k := 16) d9_looksAt_132 (oo_9 o9_114) rfl fl_9_215 ck9 ?_
                    refine VW.icmp_ge 184 d9_looksAt_135 (by decide) (fun c795 => ?_) (fun c795 => ?_)
                    · replace hr := ip hr c795
                      exact VW.vret d9_looksAt_184 hR (rV hr)
                    · replace hr := im hr c795
                      refine VW.aload_n d9_looksAt_138 4 rfl ?_
                      refine VW.aload_n d9_looksAt_139 4 rfl ?_
                      refine VW.getI (k := 11) d9_looksAt_140 (oo_9 o9_114) rfl fl_9_151 ck9 ?_
                      obtain ⟨h796, e797, hr⟩ := hlt hr
                      refine VW.putI (k := 14) d9_looksAt_143 (oo_9 o9_114) rfl fl_9_212 ck9 rfl rfl rfl rfl ?_
                      refine VW.heq e797 ?_
                      refine VW.aload_n d9_looksAt_146 4 rfl ?_
                      refine VW.iload d9_looksAt_147 0 rfl ?_
                      obtain ⟨h798, e799, hr⟩ := hlt hr
                      refine VW.putI (k := 16) d9_looksAt_149 (oo_9 o9_114) rfl fl_9_215 ck9 rfl rfl rfl rfl ?_
                      refine VW.heq e799 ?_
                      refine VW.iconst (v := 0) d9_looksAt_152 ic_0 ?_
                      refine VW.istore (lo' := [(8, .int 0), (7, .int r633), (6, .int r755), (5, .int r633), (4, .int r423), (0, .ref (γ.2.2.1 114)), (1, .int x1), (2, .int x2), (3, .int x3)]) d9_looksAt_153 (by decide) rfl ?_
                      exact VW.sub [5, 0] rfl (s_9_looksAt_155 hd hR FU 0 h798 hr)
              · replace hr := im hr c786
                refine VW.iconst (v := 1) d9_looksAt_108 ic_1 ?_
                refine VW.goto 113 d9_looksAt_109 (by decide) ?_
                refine VW.iadd d9_looksAt_113 ?_
                obtain ⟨h800, e801, hr⟩ := hlt hr
                refine VW.putI (k := 17) d9_looksAt_114 (oo_9 o9_114) rfl fl_9_209 ck9 rfl rfl rfl rfl ?_
                refine VW.heq e801 ?_
                refine VW.iload d9_looksAt_117 1 rfl ?_
                refine VW.if_eq 184 d9_looksAt_119 (by decide) (fun c802 => ?_) (fun c802 => ?_)
                · replace hr := ip hr c802
                  exact VW.vret d9_looksAt_184 hR (rV hr)
                · replace hr := im hr c802
                  refine VW.aload_n d9_looksAt_122 4 rfl ?_
                  refine VW.getI (k := 14) d9_looksAt_123 (oo_9 o9_114) rfl fl_9_212 ck9 ?_
                  refine VW.if_eq 138 d9_looksAt_126 (by decide) (fun c803 => ?_) (fun c803 => ?_)
                  · replace hr := ip hr c803
                    refine VW.aload_n d9_looksAt_138 4 rfl ?_
                    refine VW.aload_n d9_looksAt_139 4 rfl ?_
                    refine VW.getI (k := 11) d9_looksAt_140 (oo_9 o9_114) rfl fl_9_151 ck9 ?_
                    obtain ⟨h804, e805, hr⟩ := hlt hr
                    refine VW.putI (k := 14) d9_looksAt_143 (oo_9 o9_114) rfl fl_9_212 ck9 rfl rfl rfl rfl ?_
                    refine VW.heq e805 ?_
                    refine VW.aload_n d9_looksAt_146 4 rfl ?_
                    refine VW.iload d9_looksAt_147 0 rfl ?_
                    obtain ⟨h806, e807, hr⟩ := hlt hr
                    refine VW.putI (k := 16) d9_looksAt_149 (oo_9 o9_114) rfl fl_9_215 ck9 rfl rfl rfl rfl ?_
                    refine VW.heq e807 ?_
                    refine VW.iconst (v := 0) d9_looksAt_152 ic_0 ?_
                    refine VW.istore (lo' := [(8, .int 0), (7, .int r633), (6, .int r755), (5, .int r633), (4, .int r423), (0, .ref (γ.2.2.1 114)), (1, .int x1), (2, .int x2), (3, .int x3)]) d9_looksAt_153 (by decide) rfl ?_
                    exact VW.sub [5, 0] rfl (s_9_looksAt_155 hd hR FU 0 h806 hr)
                  · replace hr := im hr c803
                    refine VW.iload d9_looksAt_129 0 rfl ?_
                    refine VW.aload_n d9_looksAt_131 4 rfl ?_
                    refine VW.getI (k := 16) d9_looksAt_132 (oo_9 o9_114) rfl fl_9_215 ck9 ?_
                    refine VW.icmp_ge 184 d9_looksAt_135 (by decide) (fun c808 => ?_) (fun c808 => ?_)
                    · replace hr := ip hr c808
                      exact VW.vret d9_looksAt_184 hR (rV hr)
                    · replace hr := im hr c808
                      refine VW.aload_n d9_looksAt_138 4 rfl ?_
                      refine VW.aload_n d9_looksAt_139 4 rfl ?_
                      refine VW.getI (k := 11) d9_looksAt_140 (oo_9 o9_114) rfl fl_9_151 ck9 ?_
                      obtain ⟨h809, e810, hr⟩ := hlt hr
                      refine VW.putI (k := 14) d9_looksAt_143 (oo_9 o9_114) rfl fl_9_212 ck9 rfl rfl rfl rfl ?_
                      refine VW.heq e810 ?_
                      refine VW.aload_n d9_looksAt_146 4 rfl ?_
                      refine VW.iload d9_looksAt_147 0 rfl ?_
                      obtain ⟨h811, e812, hr⟩ := hlt hr
                      refine VW.putI (k := 16) d9_looksAt_149 (oo_9 o9_114) rfl fl_9_215 ck9 rfl rfl rfl rfl ?_
                      refine VW.heq e812 ?_
                      refine VW.iconst (v := 0) d9_looksAt_152 ic_0 ?_
                      refine VW.istore (lo' := [(8, .int 0), (7, .int r633), (6, .int r755), (5, .int r633), (4, .int r423), (0, .ref (γ.2.2.1 114)), (1, .int x1), (2, .int x2), (3, .int x3)]) d9_looksAt_153 (by decide) rfl ?_
                      exact VW.sub [5, 0] rfl (s_9_looksAt_155 hd hR FU 0 h811 hr)
            · replace hr := im hr c785
              refine VW.iconst (v := 0) d9_looksAt_95 ic_0 ?_
              refine VW.istore (lo' := [(7, .int 0), (6, .int r755), (5, .int r633), (4, .int r423), (0, .ref (γ.2.2.1 114)), (1, .int x1), (2, .int x2), (3, .int x3)]) d9_looksAt_96 (by decide) rfl ?_
              refine VW.aload_n d9_looksAt_98 4 rfl ?_
              refine VW.dup d9_looksAt_99 rfl ?_
              refine VW.getI (k := 17) d9_looksAt_100 (oo_9 o9_114) rfl fl_9_209 ck9 ?_
              refine VW.iload d9_looksAt_103 1 rfl ?_
              refine VW.if_eq 112 d9_looksAt_105 (by decide) (fun c813 => ?_) (fun c813 => ?_)
              · replace hr := ip hr c813
                refine VW.iconst (v := 0) d9_looksAt_112 ic_0 ?_
                refine VW.iadd d9_looksAt_113 ?_
                obtain ⟨h814, e815, hr⟩ := hlt hr
                refine VW.putI (k := 17) d9_looksAt_114 (oo_9 o9_114) rfl fl_9_209 ck9 rfl rfl rfl rfl ?_
                refine VW.heq e815 ?_
                refine VW.iload d9_looksAt_117 1 rfl ?_
                refine VW.if_eq 184 d9_looksAt_119 (by decide) (fun c816 => ?_) (fun c816 => ?_)
                · replace hr := ip hr c816
                  exact VW.vret d9_looksAt_184 hR (rV hr)
                · replace hr := im hr c816
                  refine VW.aload_n d9_looksAt_122 4 rfl ?_
                  refine VW.getI (k := 14) d9_looksAt_123 (oo_9 o9_114) rfl fl_9_212 ck9 ?_
                  refine VW.if_eq 138 d9_looksAt_126 (by decide) (fun c817 => ?_) (fun c817 => ?_)
                  · replace hr := ip hr c817
                    refine VW.aload_n d9_looksAt_138 4 rfl ?_
                    refine VW.aload_n d9_looksAt_139 4 rfl ?_
                    refine VW.getI (k := 11) d9_looksAt_140 (oo_9 o9_114) rfl fl_9_151 ck9 ?_
                    obtain ⟨h818, e819, hr⟩ := hlt hr
                    refine VW.putI (k := 14) d9_looksAt_143 (oo_9 o9_114) rfl fl_9_212 ck9 rfl rfl rfl rfl ?_
                    refine VW.heq e819 ?_
                    refine VW.aload_n d9_looksAt_146 4 rfl ?_
                    refine VW.iload d9_looksAt_147 0 rfl ?_
                    obtain ⟨h820, e821, hr⟩ := hlt hr
                    refine VW.putI (k := 16) d9_looksAt_149 (oo_9 o9_114) rfl fl_9_215 ck9 rfl rfl rfl rfl ?_
                    refine VW.heq e821 ?_
                    refine VW.iconst (v := 0) d9_looksAt_152 ic_0 ?_
                    refine VW.istore (lo' := [(8, .int 0), (7, .int 0), (6, .int r755), (5, .int r633), (4, .int r423), (0, .ref (γ.2.2.1 114)), (1, .int x1), (2, .int x2), (3, .int x3)]) d9_looksAt_153 (by decide) rfl ?_
                    exact VW.sub [5, 0] rfl (s_9_looksAt_155 hd hR FU 0 h820 hr)
                  · replace hr := im hr c817
                    refine VW.iload d9_looksAt_129 0 rfl ?_
                    refine VW.aload_n d9_looksAt_131 4 rfl ?_
                    refine VW.getI (k := 16) d9_looksAt_132 (oo_9 o9_114) rfl fl_9_215 ck9 ?_
                    refine VW.icmp_ge 184 d9_looksAt_135 (by decide) (fun c822 => ?_) (fun c822 => ?_)
                    · replace hr := ip hr c822
                      exact VW.vret d9_looksAt_184 hR (rV hr)
                    · replace hr := im hr c822
                      refine VW.aload_n d9_looksAt_138 4 rfl ?_
                      refine VW.aload_n d9_looksAt_139 4 rfl ?_
                      refine VW.getI (k := 11) d9_looksAt_140 (oo_9 o9_114) rfl fl_9_151 ck9 ?_
                      obtain ⟨h823, e824, hr⟩ := hlt hr
                      refine VW.putI (k := 14) d9_looksAt_143 (oo_9 o9_114) rfl fl_9_212 ck9 rfl rfl rfl rfl ?_
                      refine VW.heq e824 ?_
                      refine VW.aload_n d9_looksAt_146 4 rfl ?_
                      refine VW.iload d9_looksAt_147 0 rfl ?_
                      obtain ⟨h825, e826, hr⟩ := hlt hr
                      refine VW.putI (k := 16) d9_looksAt_149 (oo_9 o9_114) rfl fl_9_215 ck9 rfl rfl rfl rfl ?_
                      refine VW.heq e826 ?_
                      refine VW.iconst (v := 0) d9_looksAt_152 ic_0 ?_
                      refine VW.istore (lo' := [(8, .int 0), (7, .int 0), (6, .int r755), (5, .int r633), (4, .int r423), (0, .ref (γ.2.2.1 114)), (1, .int x1), (2, .int x2), (3, .int x3)]) d9_looksAt_153 (by decide) rfl ?_
                      exact VW.sub [5, 0] rfl (s_9_looksAt_155 hd hR FU 0 h825 hr)
              · replace hr := im hr c813
                refine VW.iconst (v := 1) d9_looksAt_108 ic_1 ?_
                refine VW.goto 113 d9_looksAt_109 (by decide) ?_
                refine VW.iadd d9_looksAt_113 ?_
                obtain ⟨h827, e828, hr⟩ := hlt hr
                refine VW.putI (k := 17) d9_looksAt_114 (oo_9 o9_114) rfl fl_9_209 ck9 rfl rfl rfl rfl ?_
                refine VW.heq e828 ?_
                refine VW.iload d9_looksAt_117 1 rfl ?_
                refine VW.if_eq 184 d9_looksAt_119 (by decide) (fun c829 => ?_) (fun c829 => ?_)
                · replace hr := ip hr c829
                  exact VW.vret d9_looksAt_184 hR (rV hr)
                · replace hr := im hr c829
                  refine VW.aload_n d9_looksAt_122 4 rfl ?_
                  refine VW.getI (k := 14) d9_looksAt_123 (oo_9 o9_114) rfl fl_9_212 ck9 ?_
                  refine VW.if_eq 138 d9_looksAt_126 (by decide) (fun c830 => ?_) (fun c830 => ?_)
                  · replace hr := ip hr c830
                    refine VW.aload_n d9_looksAt_138 4 rfl ?_
                    refine VW.aload_n d9_looksAt_139 4 rfl ?_
                    refine VW.getI (k := 11) d9_looksAt_140 (oo_9 o9_114) rfl fl_9_151 ck9 ?_
                    obtain ⟨h831, e832, hr⟩ := hlt hr
                    refine VW.putI (k := 14) d9_looksAt_143 (oo_9 o9_114) rfl fl_9_212 ck9 rfl rfl rfl rfl ?_
                    refine VW.heq e832 ?_
                    refine VW.aload_n d9_looksAt_146 4 rfl ?_
                    refine VW.iload d9_looksAt_147 0 rfl ?_
                    obtain ⟨h833, e834, hr⟩ := hlt hr
                    refine VW.putI (k := 16) d9_looksAt_149 (oo_9 o9_114) rfl fl_9_215 ck9 rfl rfl rfl rfl ?_
                    refine VW.heq e834 ?_
                    refine VW.iconst (v := 0) d9_looksAt_152 ic_0 ?_
                    refine VW.istore (lo' := [(8, .int 0), (7, .int 0), (6, .int r755), (5, .int r633), (4, .int r423), (0, .ref (γ.2.2.1 114)), (1, .int x1), (2, .int x2), (3, .int x3)]) d9_looksAt_153 (by decide) rfl ?_
                    exact VW.sub [5, 0] rfl (s_9_looksAt_155 hd hR FU 0 h833 hr)
                  · replace hr := im hr c830
                    refine VW.iload d9_looksAt_129 0 rfl ?_
                    refine VW.aload_n d9_looksAt_131 4 rfl ?_
                    refine VW.getI (k := 16) d9_looksAt_132 (oo_9 o9_114) rfl fl_9_215 ck9 ?_
                    refine VW.icmp_ge 184 d9_looksAt_135 (by decide) (fun c835 => ?_) (fun c835 => ?_)
                    · replace hr := ip hr c835
                      exact VW.vret d9_looksAt_184 hR (rV hr)
                    · replace hr := im hr c835
                      refine VW.aload_n d9_looksAt_138 4 rfl ?_
                      refine VW.aload_n d9_looksAt_139 4 rfl ?_
                      refine VW.getI (k := 11) d9_looksAt_140 (oo_9 o9_114) rfl fl_9_151 ck9 ?_
                      obtain ⟨h836, e837, hr⟩ := hlt hr
                      refine VW.putI (k := 14) d9_looksAt_143 (oo_9 o9_114) rfl fl_9_212 ck9 rfl rfl rfl rfl ?_
                      refine VW.heq e837 ?_
                      refine VW.aload_n d9_looksAt_146 4 rfl ?_
                      refine VW.iload d9_looksAt_147 0 rfl ?_
                      obtain ⟨h838, e839, hr⟩ := hlt hr
                      refine VW.putI (k := 16) d9_looksAt_149 (oo_9 o9_114) rfl fl_9_215 ck9 rfl rfl rfl rfl ?_
                      refine VW.heq e839 ?_
                      refine VW.iconst (v := 0) d9_looksAt_152 ic_0 ?_
                      refine VW.istore (lo' := [(8, .int 0), (7, .int 0), (6, .int r755), (5, .int r633), (4, .int r423), (0, .ref (γ.2.2.1 114)), (1, .int x1), (2, .int x2), (3, .int x3)]) d9_looksAt_153 (by decide) rfl ?_
                      exact VW.sub [5, 0] rfl (s_9_looksAt_155 hd hR FU 0 h838 hr)
