/-! contracts, calls, returns -/
def rm (d : Nat) : Room := { frames := d, cells := 0, slots := 0, locals := 64 * d }
/-- the world of a call's start -/
def wd (γ : Gm) (h : Hp) (U : State) : Prop := va_P γ.1 vwCl (cells γ h) U.heap ∧ va_K γ.1 vwCl (tyl γ) U ∧ (∀ h, va_D (Ac γ) (cells γ h)) ∧ stc γ (Ac γ) U U.heap
def Qm (γ : Gm) (Q : Option Value → Hp → Prop) : Array Value → State → Outcome → State → Prop := fun _ u oc t => (∃ (v : Option Value) (h : Hp), oc = .returned v ∧ Q v h ∧ va_P γ.1 vwCl (cells γ h) t.heap) ∧ va_F (Ac γ) u t
/-- a method's contract: at the depth d, with the arguments av, in the world h: it ends, and Q says with what and in which world -/
def MC (γ : Gm) (d : Nat) (y : MethodName) (cc : ByteArray) (nl : Nat) (ret : Option FieldType) (av : List Value) (h : Hp) (Q : Option Value → Hp → Prop) : Prop :=
  Met γ.2.2.2.2 y (wU y cc nl ret) (rm d) (va_Pc av (wd γ h)) (Qm γ Q) 0 0 (Ac γ)
/-- what a method's frame knows of its own end -/
def RT (γ : Gm) (ε : En) (ret : Option FieldType) (Q : Option Value → Hp → Prop) : Prop := match ε with
  | (_, _, _, s, _, args, below, meth, _, kc, ks, Z, A) => meth.sig.returnType = ret ∧ meth.locks = false ∧ kc = 0 ∧ ks = 0 ∧ Z = MQ below (Qm γ Q) args s 0 0 (Ac γ) ∧ A = Ac γ
theorem Ac_D {γ : Gm} {A : Nat → Prop} (h : ∀ h, va_D A (cells γ h)) : ∀ h, va_D (Ac γ) (cells γ h) := by
  intro g
  refine ⟨(h g).1, fun k q hk => ?_⟩
  simp only [cells, List.getElem?_mapIdx] at hk
  cases hs : shs[k]? with
  | none => rw [hs] at hk; cases hk
  | some S =>
    rw [hs] at hk
    cases hk
    exact ⟨k, sh_lt hs, rfl⟩
theorem MC.of {γ : Gm} {d : Nat} {y : MethodName} {cc : ByteArray} {nl : Nat} {ret : Option FieldType} {av : List Value} {h : Hp} {Q : Option Value → Hp → Prop} (M : mi y cc nl ret) (hnl : (lg_sl av).length ≤ nl)
    (body : ∀ ε : En, RT γ ε ret Q → VW γ ε cc y.cls nl d 0 (lv_args 0 av) [] h) : MC γ d y cc nl ret av h Q := by
  refine Met.ofW (cc := cc) (maxL := nl) (ret := ret) (ws' := lt) M.2 rfl ?_
  intro p e s m args below meth c s₁ B hml hv
  obtain ⟨rfl, hP, hK, hD, hC⟩ := hv
  have hts := atoms_spec (ws := wU y cc nl ret) B.pre
  have hl := lv_entry av (n := nl) hnl
  rw [lg_entry_eq]
  refine body (p, e, (headSpec (wU y cc nl ret) (rm d)).room, s, m, av.toArray, below, meth, c, 0, 0, MQ below (Qm γ Q) av.toArray s 0 0 (Ac γ), Ac γ) ⟨B.returns, B.notSynchronized, rfl, rfl, rfl, rfl⟩ ⟨B.exec, B.bytes, hml, findClass_of_methodNamed B.named, fun w hw => hts w (List.mem_cons_of_mem _ hw), hK, hD, hC, fun _ z => z, Nat.le_refl _, Nat.le_refl _, Nat.zero_le _, Nat.zero_le _⟩ s.heap [] _ hP va_S.rf hl
section VWC
variable {γ : Gm} {ε : En} {cc : ByteArray} {own : String} {nl dd pc n : Nat} {lo lo' : List (Nat × Value)} {st : List Value} {h : Hp} {Q : Option Value → Hp → Prop}
theorem VW.iret {x : Int32} (d : dec cc pc .ireturn 1 n) (r : RT γ ε (some .int) Q) (q : Q (some (.int x)) h) : VW γ ε cc own nl dd pc lo [.int x] h := by
  obtain ⟨p, e, R, s, m, args, below, meth, c, kc, ks, Z, A⟩ := ε
  obtain ⟨d, rfl⟩ := d
  obtain ⟨hr, hk, rfl, rfl, rfl, rfl⟩ := r
  intro O H locs ls hP hS hl
  exact W.iret O.1 O.2.1 hr (fun t ht hW => ⟨⟨_, h, rfl, q, by rw [ht]; exact hP⟩, hS.F ht⟩) hS.2.2 d hk
theorem VW.zret {x : Int32} (d : dec cc pc .ireturn 1 n) (r : RT γ ε (some .boolean) Q) (hx : narrow .boolean (.int x) = .int x) (q : Q (some (.int x)) h) : VW γ ε cc own nl dd pc lo [.int x] h := by
  obtain ⟨p, e, R, s, m, args, below, meth, c, kc, ks, Z, A⟩ := ε
  obtain ⟨d, rfl⟩ := d
  obtain ⟨hr, hk, rfl, rfl, rfl, rfl⟩ := r
  intro O H locs ls hP hS hl
  exact W.zret O.1 O.2.1 hr hx (fun t ht hW => ⟨⟨_, h, rfl, q, by rw [ht]; exact hP⟩, hS.F ht⟩) hS.2.2 d hk
theorem VW.lret {x : Int64} (d : dec cc pc .lreturn 1 n) (r : RT γ ε (some .long) Q) (q : Q (some (.long x)) h) : VW γ ε cc own nl dd pc lo [.long x] h := by
  obtain ⟨p, e, R, s, m, args, below, meth, c, kc, ks, Z, A⟩ := ε
  obtain ⟨d, rfl⟩ := d
  obtain ⟨hr, hk, rfl, rfl, rfl, rfl⟩ := r
  intro O H locs ls hP hS hl
  exact W.lret O.1 O.2.1 hr (fun t ht hW => ⟨⟨_, h, rfl, q, by rw [ht]; exact hP⟩, hS.F ht⟩) hS.2.2 d hk
theorem VW.aret {x : Nat} {C : String} (d : dec cc pc .areturn 1 n) (r : RT γ ε (some (.object C)) Q) (q : Q (some (.ref x)) h) : VW γ ε cc own nl dd pc lo [.ref x] h := by
  obtain ⟨p, e, R, s, m, args, below, meth, c, kc, ks, Z, A⟩ := ε
  obtain ⟨d, rfl⟩ := d
  obtain ⟨hr, hk, rfl, rfl, rfl, rfl⟩ := r
  intro O H locs ls hP hS hl
  exact W.aret O.1 O.2.1 hr (Or.inl ⟨_, rfl⟩) (Or.inr ⟨_, rfl⟩) (fun t ht hW => ⟨⟨_, h, rfl, q, by rw [ht]; exact hP⟩, hS.F ht⟩) hS.2.2 d hk
theorem VW.vret (d : dec cc pc .return_ 1 n) (r : RT γ ε none Q) (q : Q none h) : VW γ ε cc own nl dd pc lo [] h := by
  obtain ⟨p, e, R, s, m, args, below, meth, c, kc, ks, Z, A⟩ := ε
  obtain ⟨d, rfl⟩ := d
  obtain ⟨hr, hk, rfl, rfl, rfl, rfl⟩ := r
  intro O H locs ls hP hS hl
  exact W.vret O.1 O.2.1 hr (fun t ht hW => ⟨⟨_, h, rfl, q, by rw [ht]; exact hP⟩, hS.F ht⟩) hS.2.2 d hk
theorem pc_blind {γ : Gm} {av : List Value} {h : Hp} : FrameBlind (va_Pc av (wd γ h)) := fun a U g mk q => by
  obtain ⟨q0, qP, qK, qD, qC⟩ := q
  exact ⟨q0, qP, va_K.moved (u := U) (U := U.calling g mk a) (Vm.Alike.refl U.vm) qK, qD, stc.vm (U := U.calling g mk a) qC rfl⟩
theorem pc_at {γ : Gm} {p : Program} {e : Env} {R : Room} {s : State} {m : MethodId} {args : Array Value} {below : List Frame} {meth : Method} {c : Code} {kc ks : Nat} {Z : State → Prop} {A : Nat → Prop} {H : Heap} {locs : List Loc} (O : OKE γ (p, e, R, s, m, args, below, meth, c, kc, ks, Z, A) cc own nl dd) (hP : va_P γ.1 vwCl (cells γ h) H) (hS : va_S A s.heap H locs) (U : State) (hU : U.heap = H) (hW : s.WarmedH U.vm) : wd γ h U := by
  subst hU
  exact ⟨hP, va_K.moved hW.alike O.2.2.2.2.2.1, Ac_D O.2.2.2.2.2.2.1, O.2.2.2.2.2.2.2.1.go hW (fun a h1 h2 => hS.2.1 a h1 h2) O.2.2.2.2.2.2.2.2.1⟩
/-- behind a call -/
theorem back {γ : Gm} {p : Program} {e : Env} {R : Room} {s : State} {m : MethodId} {args : Array Value} {below : List Frame} {meth : Method} {c : Code} {kc ks : Nat} {Z : State → Prop} {A : Nat → Prop} {H : Heap} {locs : List Loc} {ls : Array Slot} {st0 : List Value} {a : Array Value} (O : OKE γ (p, e, R, s, m, args, below, meth, c, kc, ks, Z, A) cc own nl dd) (hS : va_S A s.heap H locs) (hl : lv_has ls nl lo)
    (hr : va_Run p γ.2.2.2.2 e R s m args below meth c H locs kc ks 0 0 (F0 m pc ls st0) st (Qm γ Q a) (Ac γ))
    (k : ∀ v h', Q v h' → VW γ (p, e, R, s, m, args, below, meth, c, kc, ks, Z, A) cc own nl dd (pc + 3) lo (v.toList ++ st) h') : W p γ.2.2.2.2 e R s m args below meth c H locs kc ks Z (F0 m pc ls st0) := by
  intro T hT X
  obtain ⟨v, st₀, t, T', L, h0, X', hL, e1, e2, ⟨⟨v', h', hv, hq, hp⟩, hz, hk⟩, hst⟩ := hr T hT X
  cases hv
  rw [h0] at hz hk
  have hsub := O.2.2.2.2.2.2.2.2.1
  obtain ⟨t2, a1, b1⟩ := k v h' hq O T'.heap (locs ++ L) ls (by rw [e1]; exact hp) ⟨Nat.le_trans hS.1 (by rw [e1]; exact hz), fun q h1 h2 => by rw [e1, hk q (Nat.lt_of_lt_of_le h1 hS.1) (fun z => h2 (hsub q z))]; exact hS.2.1 q h1 h2, fun q hq => by
      rcases List.mem_append.mp hq with h | h
      · exact hS.2.2 q h
      · exact hsub _ (hL q h)⟩ hl T' rfl X'
  exact ⟨t2, hst t2 a1, b1⟩
theorem good_wU {y : MethodName} {bc : ByteArray} {ml : Nat} {ret : Option FieldType} (M : mi y bc ml ret) : GoodIn lt (wU y bc ml ret) := fun w hw => by
  rcases List.mem_cons.mp hw with rfl | hw
  · exact ⟨M.1, lt_good M.1⟩
  · exact ⟨hw, lt_good hw⟩
theorem lv_rm {st : List Value} {m : MethodId} {ls : Array Slot} {st0 : List Value} (hw : (st.map fun v => v.category).sum ≤ 8) : 2 * (F0 m pc ls st0).monitorRoom + (st.map fun v => v.category).sum ≤ 8 := lv_room hw
theorem VW.callV {ix : Nat} {C : String} {y : MethodName} {bc : ByteArray} {ml k q : Nat} {cI : Nat} {fs : List (Option Nat)} {ret : Option FieldType} {As : List Value} (d : dec cc pc (.invokevirtual ix) 3 n) (M : mi y bc ml ret) (c0 : cv own ix C y k) (hs : sh q = some (.inr (.inr (cI, fs)))) (hC : vwCl[cI]? = some (cR cI) ∧ (cR cI).1 = C) (hml : ml ≤ 45) (hdd : 1 ≤ dd) (st0 : List Value) (hst : st0 = As.reverse ++ .ref (γ.2.2.1 q) :: st) (hw : (st.map fun v => v.category).sum ≤ 8) (hk : As.length = k)
    (hM : MC γ (dd - 1) y bc ml ret (.ref (γ.2.2.1 q) :: As) h Q) (kk : ∀ v h', Q v h' → VW γ ε cc own nl dd n lo (v.toList ++ st) h') : VW γ ε cc own nl dd pc lo st0 h := by
  obtain ⟨p, e, R, s, m, args, below, meth, c, kc, ks, Z, A⟩ := ε
  obtain ⟨d, rfl⟩ := d
  intro O H locs ls hP hS hl
  obtain ⟨r1, r2, r3, r4⟩ := O.2.2.2.2.2.2.2.2.2
  have hG : GoodIn lt (wsV own ix C y (wU y bc ml ret)) := fun w hw => by
    rcases List.mem_append.mp hw with hw | hw
    · simp only [List.mem_cons, List.not_mem_nil, or_false] at hw
      rcases hw with rfl | rfl | rfl | rfl
      · exact ⟨c0.1, lt_good c0.1⟩
      · exact ⟨c0.2.1, lt_good c0.2.1⟩
      · exact ⟨c0.2.2.1, lt_good c0.2.2.1⟩
      · exact ⟨c0.2.2.2.1, lt_good c0.2.2.2.1⟩
    · exact good_wU M w hw
  have cw : CallW R s args own C ix y bc ml ret (wU y bc ml ret) (rm (dd - 1)) 0 0 k := cwV k O.2.2.2.2.1 hG rfl rfl rfl c0.2.2.2.2 ⟨by show dd - 1 + 1 ≤ _; omega, by show 8 + (ml + 11) + 64 * (dd - 1) ≤ _; omega⟩
  have hrec := va_recv O.2.2.2.2.2.1 hP hC.1 (cells_at γ h hs)
  rw [hC.2] at hrec
  exact back O hS hl (va_runV (As := As) (rest := st) (Ts := lt) (own := own) ⟨O.1, O.2.1, O.2.2.1, O.2.2.2.1, O.2.2.2.2.1⟩ hM cw ⟨pc_blind, hrec, fun U hU hW => ⟨rfl, pc_at O hP hS U hU hW⟩⟩ rfl hk hl.1 hst (lv_rm hw) d ⟨r3, r4⟩) kk
theorem VW.callS {ix : Nat} {y : MethodName} {bc : ByteArray} {ml k : Nat} {ret : Option FieldType} {As : List Value} (d : dec cc pc (.invokestatic ix) 3 n) (M : mi y bc ml ret) (c0 : cs own ix y k) (hml : ml ≤ 45) (hdd : 1 ≤ dd) (st0 : List Value) (hst : st0 = As.reverse ++ st) (hw : (st.map fun v => v.category).sum ≤ 8) (hk : As.length = k)
    (hM : MC γ (dd - 1) y bc ml ret As h Q) (kk : ∀ v h', Q v h' → VW γ ε cc own nl dd n lo (v.toList ++ st) h') : VW γ ε cc own nl dd pc lo st0 h := by
  obtain ⟨p, e, R, s, m, args, below, meth, c, kc, ks, Z, A⟩ := ε
  obtain ⟨d, rfl⟩ := d
  intro O H locs ls hP hS hl
  obtain ⟨r1, r2, r3, r4⟩ := O.2.2.2.2.2.2.2.2.2
  have hG : GoodIn lt (wsS own ix y (wU y bc ml ret)) := fun w hw => by
    rcases List.mem_append.mp hw with hw | hw
    · simp only [List.mem_cons, List.not_mem_nil, or_false] at hw
      rcases hw with rfl | rfl | rfl
      · exact ⟨c0.1, lt_good c0.1⟩
      · exact ⟨c0.2.1, lt_good c0.2.1⟩
      · exact ⟨c0.2.2.1, lt_good c0.2.2.1⟩
    · exact good_wU M w hw
  have cw := cwS (R := R) (s := s) (args := args) (rm := rm (dd - 1)) (mc := 0) (ms := 0) k O.2.2.2.2.1 hG rfl rfl rfl c0.2.2.2 ⟨by show dd - 1 + 1 ≤ _; omega, by show 8 + (ml + 11) + 64 * (dd - 1) ≤ _; omega⟩
  exact back O hS hl (va_runS (As := As) (rest := st) (Ts := lt) (own := own) ⟨O.1, O.2.1, O.2.2.1, O.2.2.2.1, O.2.2.2.2.1⟩ hM cw ⟨pc_blind, fun U hU hW => ⟨rfl, pc_at O hP hS U hU hW⟩⟩ rfl hk hl.1 hst (lv_rm hw) d ⟨r3, r4⟩) kk
theorem VW.callN {ix : Nat} {y : MethodName} {host : String} {bc : ByteArray} {ml k : Nat} {ret : Option FieldType} {As : List Value} (d : dec cc pc (.invokestatic ix) 3 n) (M : mi y bc ml ret) (c0 : cn own ix y host k) (hml : ml ≤ 45) (hdd : 1 ≤ dd) (st0 : List Value) (hst : st0 = As.reverse ++ st) (hw : (st.map fun v => v.category).sum ≤ 8) (hk : As.length = k)
    (hM : MC γ (dd - 1) y bc ml ret As h Q) (kk : ∀ v h', Q v h' → VW γ ε cc own nl dd n lo (v.toList ++ st) h') : VW γ ε cc own nl dd pc lo st0 h := by
  obtain ⟨p, e, R, s, m, args, below, meth, c, kc, ks, Z, A⟩ := ε
  obtain ⟨d, rfl⟩ := d
  intro O H locs ls hP hS hl
  obtain ⟨r1, r2, r3, r4⟩ := O.2.2.2.2.2.2.2.2.2
  have cw := va_cnB (R := R) (s := s) (args := args) (rm := rm (dd - 1)) (mc := 0) (ms := 0) k O.2.2.2.2.1 (good_wU M) rfl rfl rfl (O.2.2.2.2.2.2.2.1.1 _ c0.1) (O.2.2.2.2.1 _ c0.2.2.1) c0.2.2.2 ⟨by show dd - 1 + 1 ≤ _; omega, by show 8 + (ml + 11) + 64 * (dd - 1) ≤ _; omega⟩
  exact back O hS hl (va_runSN (As := As) (rest := st) (Ts := lt) (own := own) ⟨O.1, O.2.1, O.2.2.1, O.2.2.2.1, O.2.2.2.2.1⟩ hM ⟨cw, O.2.2.2.2.1 _ c0.2.1, trivial⟩ ⟨pc_blind, fun U hU hW => ⟨rfl, pc_at O hP hS U hU hW⟩⟩ rfl hk hl.1 hst (lv_rm hw) d ⟨r3, r4⟩) kk
end VWC
