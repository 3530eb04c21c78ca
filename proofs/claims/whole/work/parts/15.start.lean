-- ===== end of PART A; then your names; then what follows =====
/-! THE CLAIM OUT OF ONE WALK OF THE LAW'S BODY. Your part is whole_start (and what it stands on); all else here is the same for every law, but numbers. -/
def R_law : String := "LipsThatFitLaw"
def lw_P (b : Addr) (xs : List Int32) (args : Array Value) (s : State) : Prop := args = #[.ref b] ∧ s.IntsAt b xs ∧ xs.length ≤ 3072 ∧ (Jvm.Cond.and given_1 narrow_1).before args s = true
def lw_Q (_ : Array Value) (s : State) (o : Outcome) (t : State) : Prop := o = .returned (some (.int 1)) ∧ Framed s o t [] 600000 7302250
def lw_Z (below : List Frame) (a : Array Value) (s : State) : State → Prop := fun t => ∃ o, t.status = .running ∧ Ended t below o ∧ lw_Q a s o t
/-- the law's own end, with 1 on the stack, nothing written that was there before, its room as the claim has it -/
theorem lw_ret {p : Program} {l : Launch} {e : Env} {s : State} {m : MethodId} {below : List Frame} {meth : Method} {c : Code} {b : Nat} (hx : p.tables.exec = Jvm.exec) (hb : c.code = code) (hr : meth.sig.returnType = ret) (hlocks : meth.locks = false) {pc : Nat} {H : Heap} {ls : Array Slot} (hdg : decode code pc = .ok (.ireturn, 1)) : W p l e room_1 s m #[Value.ref b] below meth c H [] 600000 7302250 (lw_Z below #[Value.ref b] s) (F0 m pc ls [.int 1]) := by
  intro T hT X
  obtain ⟨fs, hret, hrun, hended, hW, hframe⟩ := X.leave (v := some (.int 1)) (hlocks := hlocks) (fun h => by rw [hr] at h; cases h)
  have hmeth' : T.vm.method? m = some meth := X.method'
  refine ⟨T.setFrames fs, ?_, .returned (some (.int 1)), hrun, hended, rfl, ⟨_, rfl⟩, hW, hframe⟩
  jvm_step X.here [X.here.top, hx, hb, hdg, hmeth', hr, ret, narrow_b1]
  (try refine ⟨rfl, ?_⟩); (try refine ⟨rfl, ?_⟩)
  first | (intro acts; rw [hret _ acts rfl rfl rfl]) | rw [hret _ _ rfl rfl rfl]
  exact Steps.refl _
/-- what holds at the law's entry: the machine, the code, the tables' words (any of lw_tbl by 'hts w (by decide +kernel)'), the script of L ints xs at the cell b, what the Statement gives of the start (any of its parts by flat_of_before) -/
def lw_At (p : Program) (s : State) (m : MethodId) (meth : Method) (c : Code) (b L : Nat) (xs : Nat → Int32) : Prop :=
  p.tables.exec = Jvm.exec ∧ c.code = code ∧ meth.sig.returnType = ret ∧ c.maxLocals = 4 ∧ s.vm.findClass R_law = some m.cls ∧ (∀ w ∈ lw_tbl, w.before #[Value.ref b] s = true) ∧ va_X b L xs s s.heap ∧ b < s.heap.size ∧ meth.locks = false ∧ (Jvm.Cond.and given_1 narrow_1).before #[Value.ref b] s = true
/-- the world at first -/
def h0 : Hp := fun p => if p = 1 ∨ p = 48 then upd (fun _ => 0) 16 1 else if p = 36 ∨ p = 38 ∨ p = 40 ∨ p = 42 ∨ p = 44 ∨ p = 46 ∨ p = 83 ∨ p = 85 ∨ p = 87 ∨ p = 89 ∨ p = 91 ∨ p = 93 then upd (fun _ => 0) 5 1 else if p = 115 then upd (fun _ => 0) 4 1 else fun _ => 0
theorem map_fun (ad : Nat → Nat) (ps : List Nat) (l : List Nat) (e : ps.map ad = l) : (fun j : Nat => (ps[j]?).map ad) = fun j : Nat => l[j]? := by
  funext j
  rw [← e, List.getElem?_map]
theorem ups10 (ad : Nat → Nat) (p0 p1 p2 p3 p4 p5 p6 p7 p8 p9 : Nat) : (va_up (va_up (va_up (va_up (va_up (va_up (va_up (va_up (va_up (va_up (fun _ => none) 0 (some (ad p0))) 1 (some (ad p1))) 2 (some (ad p2))) 3 (some (ad p3))) 4 (some (ad p4))) 5 (some (ad p5))) 6 (some (ad p6))) 7 (some (ad p7))) 8 (some (ad p8))) 9 (some (ad p9))) = fun j : Nat => (([p0, p1, p2, p3, p4, p5, p6, p7, p8, p9] : List Nat)[j]?).map ad := by
  funext j
  match j with
  | 0 => rfl
  | 1 => rfl
  | 2 => rfl
  | 3 => rfl
  | 4 => rfl
  | 5 => rfl
  | 6 => rfl
  | 7 => rfl
  | 8 => rfl
  | 9 => rfl
  | k + 10 => simp [va_up]
theorem ups6 (ad : Nat → Nat) (p0 p1 p2 p3 p4 p5 : Nat) : (va_up (va_up (va_up (va_up (va_up (va_up (fun _ => none) 0 (some (ad p0))) 1 (some (ad p1))) 2 (some (ad p2))) 3 (some (ad p3))) 4 (some (ad p4))) 5 (some (ad p5))) = fun j : Nat => (([p0, p1, p2, p3, p4, p5] : List Nat)[j]?).map ad := by
  funext j
  match j with
  | 0 => rfl
  | 1 => rfl
  | 2 => rfl
  | 3 => rfl
  | 4 => rfl
  | 5 => rfl
  | k + 6 => simp [va_up]
def fvr (ad : Nat → Nat) (f : Nat → Int32) : Nat → List (Option Nat) → List Value
  | _, [] => []
  | k, none :: r => .int (f k) :: fvr ad f (k + 1) r
  | k, some q :: r => .ref (ad q) :: fvr ad f (k + 1) r
theorem fvr_map (γ : Gm) (f : Nat → Int32) : ∀ (r : List (Option Nat)) (k : Nat), r.mapIdx (fun p S => fo γ f (k + p) S) = fvr γ.2.2.1 f k r
  | [], _ => rfl
  | S :: r, k => by
    rw [List.mapIdx_cons]
    have e1 : (r.mapIdx fun i a => (fun p S => fo γ f (k + p) S) (i + 1) a) = r.mapIdx (fun p S => fo γ f (k + 1 + p) S) := by
      refine congrArg (fun g => List.mapIdx g r) (funext fun p => funext fun S => ?_)
      show fo γ f (k + (p + 1)) S = fo γ f (k + 1 + p) S
      rw [show k + (p + 1) = k + 1 + p by omega]
    rw [e1, fvr_map γ f r (k + 1)]
    cases S <;> rfl
theorem fv_r (γ : Gm) (f : Nat → Int32) (r : List (Option Nat)) : fv γ f r = fvr γ.2.2.1 f 0 r := by
  rw [← fvr_map]
  simp only [fv, Nat.zero_add]
theorem el_o (D : va_G) (ct : Nat → ClassId) (ad sa : Nat → Nat) (l : Launch) (h : Hp) (p c : Nat) (fs : List (Option Nat)) : el (D, ct, ad, sa, l) h p (.inr (.inr (c, fs))) = .inr (c, fvr ad (h p) 0 fs) := by
  show Sum.inr (c, fv _ _ fs) = _
  rw [fv_r]
theorem h0_0 : h0 0 = fun _ => 0 := (if_neg (by decide)).trans ((if_neg (by decide)).trans (if_neg (by decide)))
theorem wc_0 (D : va_G) (ct : Nat → ClassId) (ad sa : Nat → Nat) (l : Launch) : (((ad 0), .inr (8, [.ref (ad 1), .ref (ad 48), .ref (ad 95), .ref (ad 100), .ref (ad 103), .ref (ad 105), .ref (ad 113), .int 0])) : Nat × va_E) = (ad 0, el (D, ct, ad, sa, l) h0 0 (oS 8 0)) := by
  show _ = (ad 0, el (D, ct, ad, sa, l) h0 0 (.inr (.inr (8, [some 1, some 48, some 95, some 100, some 103, some 105, some 113, none]))))
  rw [el_o, h0_0]
  rfl
theorem h0_1 : h0 1 = upd (fun _ => 0) 16 1 := if_pos (by decide)
theorem wc_1 (D : va_G) (ct : Nat → ClassId) (ad sa : Nat → Nat) (l : Launch) : (((ad 1), .inr (7, [.ref (ad 2), .ref (ad 3), .ref (ad 4), .ref (ad 5), .ref (ad 6), .ref (ad 9), .ref (ad 12), .ref (ad 13), .ref (ad 14), .ref (ad 15), .int 0, .int 0, .int 0, .int 0, .int 0, .int 0, .int 1])) : Nat × va_E) = (ad 1, el (D, ct, ad, sa, l) h0 1 (oS 7 1)) := by
  show _ = (ad 1, el (D, ct, ad, sa, l) h0 1 (.inr (.inr (7, [some 2, some 3, some 4, some 5, some 6, some 9, some 12, some 13, some 14, some 15, none, none, none, none, none, none, none]))))
  rw [el_o, h0_1]
  rfl
theorem h0_2 : h0 2 = fun _ => 0 := (if_neg (by decide)).trans ((if_neg (by decide)).trans (if_neg (by decide)))
theorem wc_2 (D : va_G) (ct : Nat → ClassId) (ad sa : Nat → Nat) (l : Launch) : (((ad 2), eA (D, ct, ad, sa, l) 60) : Nat × va_E) = (ad 2, el (D, ct, ad, sa, l) h0 2 (.inl 60)) := by
  show _ = ((ad 2, .inl (ct 0, 60, .inl (h0 2))) : Nat × va_E)
  rw [h0_2]
theorem wc_3 (D : va_G) (ct : Nat → ClassId) (ad sa : Nat → Nat) (l : Launch) : (((ad 3), eR (D, ct, ad, sa, l) 1 10 (fun j : Nat => (([16, 18, 20, 22, 24, 26, 28, 30, 32, 34] : List Nat)[j]?).map ad)) : Nat × va_E) = (ad 3, el (D, ct, ad, sa, l) h0 3 (.inr (.inl (1, [16, 18, 20, 22, 24, 26, 28, 30, 32, 34])))) := rfl
theorem wc_4 (D : va_G) (ct : Nat → ClassId) (ad sa : Nat → Nat) (l : Launch) : (((ad 4), eR (D, ct, ad, sa, l) 2 6 (fun j : Nat => (([36, 38, 40, 42, 44, 46] : List Nat)[j]?).map ad)) : Nat × va_E) = (ad 4, el (D, ct, ad, sa, l) h0 4 (.inr (.inl (2, [36, 38, 40, 42, 44, 46])))) := rfl
theorem h0_5 : h0 5 = fun _ => 0 := (if_neg (by decide)).trans ((if_neg (by decide)).trans (if_neg (by decide)))
theorem wc_5 (D : va_G) (ct : Nat → ClassId) (ad sa : Nat → Nat) (l : Launch) : (((ad 5), eA (D, ct, ad, sa, l) 50) : Nat × va_E) = (ad 5, el (D, ct, ad, sa, l) h0 5 (.inl 50)) := by
  show _ = ((ad 5, .inl (ct 0, 50, .inl (h0 5))) : Nat × va_E)
  rw [h0_5]
theorem h0_6 : h0 6 = fun _ => 0 := (if_neg (by decide)).trans ((if_neg (by decide)).trans (if_neg (by decide)))
theorem wc_6 (D : va_G) (ct : Nat → ClassId) (ad sa : Nat → Nat) (l : Launch) : (((ad 6), .inr (5, [.ref (ad 7), .ref (ad 8), .int 0])) : Nat × va_E) = (ad 6, el (D, ct, ad, sa, l) h0 6 (oS 5 6)) := by
  show _ = (ad 6, el (D, ct, ad, sa, l) h0 6 (.inr (.inr (5, [some 7, some 8, none]))))
  rw [el_o, h0_6]
  rfl
theorem h0_7 : h0 7 = fun _ => 0 := (if_neg (by decide)).trans ((if_neg (by decide)).trans (if_neg (by decide)))
theorem wc_7 (D : va_G) (ct : Nat → ClassId) (ad sa : Nat → Nat) (l : Launch) : (((ad 7), eA (D, ct, ad, sa, l) 50) : Nat × va_E) = (ad 7, el (D, ct, ad, sa, l) h0 7 (.inl 50)) := by
  show _ = ((ad 7, .inl (ct 0, 50, .inl (h0 7))) : Nat × va_E)
  rw [h0_7]
theorem h0_8 : h0 8 = fun _ => 0 := (if_neg (by decide)).trans ((if_neg (by decide)).trans (if_neg (by decide)))
theorem wc_8 (D : va_G) (ct : Nat → ClassId) (ad sa : Nat → Nat) (l : Launch) : (((ad 8), eA (D, ct, ad, sa, l) 50) : Nat × va_E) = (ad 8, el (D, ct, ad, sa, l) h0 8 (.inl 50)) := by
  show _ = ((ad 8, .inl (ct 0, 50, .inl (h0 8))) : Nat × va_E)
  rw [h0_8]
theorem h0_9 : h0 9 = fun _ => 0 := (if_neg (by decide)).trans ((if_neg (by decide)).trans (if_neg (by decide)))
theorem wc_9 (D : va_G) (ct : Nat → ClassId) (ad sa : Nat → Nat) (l : Launch) : (((ad 9), .inr (5, [.ref (ad 10), .ref (ad 11), .int 0])) : Nat × va_E) = (ad 9, el (D, ct, ad, sa, l) h0 9 (oS 5 9)) := by
  show _ = (ad 9, el (D, ct, ad, sa, l) h0 9 (.inr (.inr (5, [some 10, some 11, none]))))
  rw [el_o, h0_9]
  rfl
theorem h0_10 : h0 10 = fun _ => 0 := (if_neg (by decide)).trans ((if_neg (by decide)).trans (if_neg (by decide)))
theorem wc_10 (D : va_G) (ct : Nat → ClassId) (ad sa : Nat → Nat) (l : Launch) : (((ad 10), eA (D, ct, ad, sa, l) 50) : Nat × va_E) = (ad 10, el (D, ct, ad, sa, l) h0 10 (.inl 50)) := by
  show _ = ((ad 10, .inl (ct 0, 50, .inl (h0 10))) : Nat × va_E)
  rw [h0_10]
theorem h0_11 : h0 11 = fun _ => 0 := (if_neg (by decide)).trans ((if_neg (by decide)).trans (if_neg (by decide)))
theorem wc_11 (D : va_G) (ct : Nat → ClassId) (ad sa : Nat → Nat) (l : Launch) : (((ad 11), eA (D, ct, ad, sa, l) 50) : Nat × va_E) = (ad 11, el (D, ct, ad, sa, l) h0 11 (.inl 50)) := by
  show _ = ((ad 11, .inl (ct 0, 50, .inl (h0 11))) : Nat × va_E)
  rw [h0_11]
theorem h0_12 : h0 12 = fun _ => 0 := (if_neg (by decide)).trans ((if_neg (by decide)).trans (if_neg (by decide)))
theorem wc_12 (D : va_G) (ct : Nat → ClassId) (ad sa : Nat → Nat) (l : Launch) : (((ad 12), eA (D, ct, ad, sa, l) 16) : Nat × va_E) = (ad 12, el (D, ct, ad, sa, l) h0 12 (.inl 16)) := by
  show _ = ((ad 12, .inl (ct 0, 16, .inl (h0 12))) : Nat × va_E)
  rw [h0_12]
theorem h0_13 : h0 13 = fun _ => 0 := (if_neg (by decide)).trans ((if_neg (by decide)).trans (if_neg (by decide)))
theorem wc_13 (D : va_G) (ct : Nat → ClassId) (ad sa : Nat → Nat) (l : Launch) : (((ad 13), eA (D, ct, ad, sa, l) 20) : Nat × va_E) = (ad 13, el (D, ct, ad, sa, l) h0 13 (.inl 20)) := by
  show _ = ((ad 13, .inl (ct 0, 20, .inl (h0 13))) : Nat × va_E)
  rw [h0_13]
theorem h0_14 : h0 14 = fun _ => 0 := (if_neg (by decide)).trans ((if_neg (by decide)).trans (if_neg (by decide)))
theorem wc_14 (D : va_G) (ct : Nat → ClassId) (ad sa : Nat → Nat) (l : Launch) : (((ad 14), eA (D, ct, ad, sa, l) 6) : Nat × va_E) = (ad 14, el (D, ct, ad, sa, l) h0 14 (.inl 6)) := by
  show _ = ((ad 14, .inl (ct 0, 6, .inl (h0 14))) : Nat × va_E)
  rw [h0_14]
theorem h0_15 : h0 15 = fun _ => 0 := (if_neg (by decide)).trans ((if_neg (by decide)).trans (if_neg (by decide)))
theorem wc_15 (D : va_G) (ct : Nat → ClassId) (ad sa : Nat → Nat) (l : Launch) : (((ad 15), eA (D, ct, ad, sa, l) 6) : Nat × va_E) = (ad 15, el (D, ct, ad, sa, l) h0 15 (.inl 6)) := by
  show _ = ((ad 15, .inl (ct 0, 6, .inl (h0 15))) : Nat × va_E)
  rw [h0_15]
theorem h0_16 : h0 16 = fun _ => 0 := (if_neg (by decide)).trans ((if_neg (by decide)).trans (if_neg (by decide)))
theorem wc_16 (D : va_G) (ct : Nat → ClassId) (ad sa : Nat → Nat) (l : Launch) : (((ad 16), .inr (6, [.ref (ad 17), .int 0, .int 0, .int 0])) : Nat × va_E) = (ad 16, el (D, ct, ad, sa, l) h0 16 (oS 6 16)) := by
  show _ = (ad 16, el (D, ct, ad, sa, l) h0 16 (.inr (.inr (6, [some 17, none, none, none]))))
  rw [el_o, h0_16]
  rfl
theorem h0_17 : h0 17 = fun _ => 0 := (if_neg (by decide)).trans ((if_neg (by decide)).trans (if_neg (by decide)))
theorem wc_17 (D : va_G) (ct : Nat → ClassId) (ad sa : Nat → Nat) (l : Launch) : (((ad 17), eA (D, ct, ad, sa, l) 5) : Nat × va_E) = (ad 17, el (D, ct, ad, sa, l) h0 17 (.inl 5)) := by
  show _ = ((ad 17, .inl (ct 0, 5, .inl (h0 17))) : Nat × va_E)
  rw [h0_17]
theorem h0_18 : h0 18 = fun _ => 0 := (if_neg (by decide)).trans ((if_neg (by decide)).trans (if_neg (by decide)))
theorem wc_18 (D : va_G) (ct : Nat → ClassId) (ad sa : Nat → Nat) (l : Launch) : (((ad 18), .inr (6, [.ref (ad 19), .int 0, .int 0, .int 0])) : Nat × va_E) = (ad 18, el (D, ct, ad, sa, l) h0 18 (oS 6 18)) := by
  show _ = (ad 18, el (D, ct, ad, sa, l) h0 18 (.inr (.inr (6, [some 19, none, none, none]))))
  rw [el_o, h0_18]
  rfl
theorem h0_19 : h0 19 = fun _ => 0 := (if_neg (by decide)).trans ((if_neg (by decide)).trans (if_neg (by decide)))
theorem wc_19 (D : va_G) (ct : Nat → ClassId) (ad sa : Nat → Nat) (l : Launch) : (((ad 19), eA (D, ct, ad, sa, l) 5) : Nat × va_E) = (ad 19, el (D, ct, ad, sa, l) h0 19 (.inl 5)) := by
  show _ = ((ad 19, .inl (ct 0, 5, .inl (h0 19))) : Nat × va_E)
  rw [h0_19]
theorem h0_20 : h0 20 = fun _ => 0 := (if_neg (by decide)).trans ((if_neg (by decide)).trans (if_neg (by decide)))
theorem wc_20 (D : va_G) (ct : Nat → ClassId) (ad sa : Nat → Nat) (l : Launch) : (((ad 20), .inr (6, [.ref (ad 21), .int 0, .int 0, .int 0])) : Nat × va_E) = (ad 20, el (D, ct, ad, sa, l) h0 20 (oS 6 20)) := by
  show _ = (ad 20, el (D, ct, ad, sa, l) h0 20 (.inr (.inr (6, [some 21, none, none, none]))))
  rw [el_o, h0_20]
  rfl
theorem h0_21 : h0 21 = fun _ => 0 := (if_neg (by decide)).trans ((if_neg (by decide)).trans (if_neg (by decide)))
theorem wc_21 (D : va_G) (ct : Nat → ClassId) (ad sa : Nat → Nat) (l : Launch) : (((ad 21), eA (D, ct, ad, sa, l) 5) : Nat × va_E) = (ad 21, el (D, ct, ad, sa, l) h0 21 (.inl 5)) := by
  show _ = ((ad 21, .inl (ct 0, 5, .inl (h0 21))) : Nat × va_E)
  rw [h0_21]
theorem h0_22 : h0 22 = fun _ => 0 := (if_neg (by decide)).trans ((if_neg (by decide)).trans (if_neg (by decide)))
theorem wc_22 (D : va_G) (ct : Nat → ClassId) (ad sa : Nat → Nat) (l : Launch) : (((ad 22), .inr (6, [.ref (ad 23), .int 0, .int 0, .int 0])) : Nat × va_E) = (ad 22, el (D, ct, ad, sa, l) h0 22 (oS 6 22)) := by
  show _ = (ad 22, el (D, ct, ad, sa, l) h0 22 (.inr (.inr (6, [some 23, none, none, none]))))
  rw [el_o, h0_22]
  rfl
theorem h0_23 : h0 23 = fun _ => 0 := (if_neg (by decide)).trans ((if_neg (by decide)).trans (if_neg (by decide)))
theorem wc_23 (D : va_G) (ct : Nat → ClassId) (ad sa : Nat → Nat) (l : Launch) : (((ad 23), eA (D, ct, ad, sa, l) 5) : Nat × va_E) = (ad 23, el (D, ct, ad, sa, l) h0 23 (.inl 5)) := by
  show _ = ((ad 23, .inl (ct 0, 5, .inl (h0 23))) : Nat × va_E)
  rw [h0_23]
theorem h0_24 : h0 24 = fun _ => 0 := (if_neg (by decide)).trans ((if_neg (by decide)).trans (if_neg (by decide)))
theorem wc_24 (D : va_G) (ct : Nat → ClassId) (ad sa : Nat → Nat) (l : Launch) : (((ad 24), .inr (6, [.ref (ad 25), .int 0, .int 0, .int 0])) : Nat × va_E) = (ad 24, el (D, ct, ad, sa, l) h0 24 (oS 6 24)) := by
  show _ = (ad 24, el (D, ct, ad, sa, l) h0 24 (.inr (.inr (6, [some 25, none, none, none]))))
  rw [el_o, h0_24]
  rfl
theorem h0_25 : h0 25 = fun _ => 0 := (if_neg (by decide)).trans ((if_neg (by decide)).trans (if_neg (by decide)))
theorem wc_25 (D : va_G) (ct : Nat → ClassId) (ad sa : Nat → Nat) (l : Launch) : (((ad 25), eA (D, ct, ad, sa, l) 5) : Nat × va_E) = (ad 25, el (D, ct, ad, sa, l) h0 25 (.inl 5)) := by
  show _ = ((ad 25, .inl (ct 0, 5, .inl (h0 25))) : Nat × va_E)
  rw [h0_25]
theorem h0_26 : h0 26 = fun _ => 0 := (if_neg (by decide)).trans ((if_neg (by decide)).trans (if_neg (by decide)))
theorem wc_26 (D : va_G) (ct : Nat → ClassId) (ad sa : Nat → Nat) (l : Launch) : (((ad 26), .inr (6, [.ref (ad 27), .int 0, .int 0, .int 0])) : Nat × va_E) = (ad 26, el (D, ct, ad, sa, l) h0 26 (oS 6 26)) := by
  show _ = (ad 26, el (D, ct, ad, sa, l) h0 26 (.inr (.inr (6, [some 27, none, none, none]))))
  rw [el_o, h0_26]
  rfl
theorem h0_27 : h0 27 = fun _ => 0 := (if_neg (by decide)).trans ((if_neg (by decide)).trans (if_neg (by decide)))
theorem wc_27 (D : va_G) (ct : Nat → ClassId) (ad sa : Nat → Nat) (l : Launch) : (((ad 27), eA (D, ct, ad, sa, l) 5) : Nat × va_E) = (ad 27, el (D, ct, ad, sa, l) h0 27 (.inl 5)) := by
  show _ = ((ad 27, .inl (ct 0, 5, .inl (h0 27))) : Nat × va_E)
  rw [h0_27]
theorem h0_28 : h0 28 = fun _ => 0 := (if_neg (by decide)).trans ((if_neg (by decide)).trans (if_neg (by decide)))
theorem wc_28 (D : va_G) (ct : Nat → ClassId) (ad sa : Nat → Nat) (l : Launch) : (((ad 28), .inr (6, [.ref (ad 29), .int 0, .int 0, .int 0])) : Nat × va_E) = (ad 28, el (D, ct, ad, sa, l) h0 28 (oS 6 28)) := by
  show _ = (ad 28, el (D, ct, ad, sa, l) h0 28 (.inr (.inr (6, [some 29, none, none, none]))))
  rw [el_o, h0_28]
  rfl
theorem h0_29 : h0 29 = fun _ => 0 := (if_neg (by decide)).trans ((if_neg (by decide)).trans (if_neg (by decide)))
theorem wc_29 (D : va_G) (ct : Nat → ClassId) (ad sa : Nat → Nat) (l : Launch) : (((ad 29), eA (D, ct, ad, sa, l) 5) : Nat × va_E) = (ad 29, el (D, ct, ad, sa, l) h0 29 (.inl 5)) := by
  show _ = ((ad 29, .inl (ct 0, 5, .inl (h0 29))) : Nat × va_E)
  rw [h0_29]
theorem h0_30 : h0 30 = fun _ => 0 := (if_neg (by decide)).trans ((if_neg (by decide)).trans (if_neg (by decide)))
theorem wc_30 (D : va_G) (ct : Nat → ClassId) (ad sa : Nat → Nat) (l : Launch) : (((ad 30), .inr (6, [.ref (ad 31), .int 0, .int 0, .int 0])) : Nat × va_E) = (ad 30, el (D, ct, ad, sa, l) h0 30 (oS 6 30)) := by
  show _ = (ad 30, el (D, ct, ad, sa, l) h0 30 (.inr (.inr (6, [some 31, none, none, none]))))
  rw [el_o, h0_30]
  rfl
theorem h0_31 : h0 31 = fun _ => 0 := (if_neg (by decide)).trans ((if_neg (by decide)).trans (if_neg (by decide)))
theorem wc_31 (D : va_G) (ct : Nat → ClassId) (ad sa : Nat → Nat) (l : Launch) : (((ad 31), eA (D, ct, ad, sa, l) 5) : Nat × va_E) = (ad 31, el (D, ct, ad, sa, l) h0 31 (.inl 5)) := by
  show _ = ((ad 31, .inl (ct 0, 5, .inl (h0 31))) : Nat × va_E)
  rw [h0_31]
theorem h0_32 : h0 32 = fun _ => 0 := (if_neg (by decide)).trans ((if_neg (by decide)).trans (if_neg (by decide)))
theorem wc_32 (D : va_G) (ct : Nat → ClassId) (ad sa : Nat → Nat) (l : Launch) : (((ad 32), .inr (6, [.ref (ad 33), .int 0, .int 0, .int 0])) : Nat × va_E) = (ad 32, el (D, ct, ad, sa, l) h0 32 (oS 6 32)) := by
  show _ = (ad 32, el (D, ct, ad, sa, l) h0 32 (.inr (.inr (6, [some 33, none, none, none]))))
  rw [el_o, h0_32]
  rfl
theorem h0_33 : h0 33 = fun _ => 0 := (if_neg (by decide)).trans ((if_neg (by decide)).trans (if_neg (by decide)))
theorem wc_33 (D : va_G) (ct : Nat → ClassId) (ad sa : Nat → Nat) (l : Launch) : (((ad 33), eA (D, ct, ad, sa, l) 5) : Nat × va_E) = (ad 33, el (D, ct, ad, sa, l) h0 33 (.inl 5)) := by
  show _ = ((ad 33, .inl (ct 0, 5, .inl (h0 33))) : Nat × va_E)
  rw [h0_33]
theorem h0_34 : h0 34 = fun _ => 0 := (if_neg (by decide)).trans ((if_neg (by decide)).trans (if_neg (by decide)))
theorem wc_34 (D : va_G) (ct : Nat → ClassId) (ad sa : Nat → Nat) (l : Launch) : (((ad 34), .inr (6, [.ref (ad 35), .int 0, .int 0, .int 0])) : Nat × va_E) = (ad 34, el (D, ct, ad, sa, l) h0 34 (oS 6 34)) := by
  show _ = (ad 34, el (D, ct, ad, sa, l) h0 34 (.inr (.inr (6, [some 35, none, none, none]))))
  rw [el_o, h0_34]
  rfl
theorem h0_35 : h0 35 = fun _ => 0 := (if_neg (by decide)).trans ((if_neg (by decide)).trans (if_neg (by decide)))
theorem wc_35 (D : va_G) (ct : Nat → ClassId) (ad sa : Nat → Nat) (l : Launch) : (((ad 35), eA (D, ct, ad, sa, l) 5) : Nat × va_E) = (ad 35, el (D, ct, ad, sa, l) h0 35 (.inl 5)) := by
  show _ = ((ad 35, .inl (ct 0, 5, .inl (h0 35))) : Nat × va_E)
  rw [h0_35]
theorem h0_36 : h0 36 = upd (fun _ => 0) 5 1 := (if_neg (by decide)).trans (if_pos (by decide))
theorem wc_36 (D : va_G) (ct : Nat → ClassId) (ad sa : Nat → Nat) (l : Launch) : (((ad 36), .inr (0, [.ref (ad 37), .int 0, .int 0, .int 0, .int 0, .int 1, .int 0])) : Nat × va_E) = (ad 36, el (D, ct, ad, sa, l) h0 36 (oS 0 36)) := by
  show _ = (ad 36, el (D, ct, ad, sa, l) h0 36 (.inr (.inr (0, [some 37, none, none, none, none, none, none]))))
  rw [el_o, h0_36]
  rfl
theorem h0_37 : h0 37 = fun _ => 0 := (if_neg (by decide)).trans ((if_neg (by decide)).trans (if_neg (by decide)))
theorem wc_37 (D : va_G) (ct : Nat → ClassId) (ad sa : Nat → Nat) (l : Launch) : (((ad 37), eA (D, ct, ad, sa, l) 3) : Nat × va_E) = (ad 37, el (D, ct, ad, sa, l) h0 37 (.inl 3)) := by
  show _ = ((ad 37, .inl (ct 0, 3, .inl (h0 37))) : Nat × va_E)
  rw [h0_37]
theorem h0_38 : h0 38 = upd (fun _ => 0) 5 1 := (if_neg (by decide)).trans (if_pos (by decide))
theorem wc_38 (D : va_G) (ct : Nat → ClassId) (ad sa : Nat → Nat) (l : Launch) : (((ad 38), .inr (0, [.ref (ad 39), .int 0, .int 0, .int 0, .int 0, .int 1, .int 0])) : Nat × va_E) = (ad 38, el (D, ct, ad, sa, l) h0 38 (oS 0 38)) := by
  show _ = (ad 38, el (D, ct, ad, sa, l) h0 38 (.inr (.inr (0, [some 39, none, none, none, none, none, none]))))
  rw [el_o, h0_38]
  rfl
theorem h0_39 : h0 39 = fun _ => 0 := (if_neg (by decide)).trans ((if_neg (by decide)).trans (if_neg (by decide)))
theorem wc_39 (D : va_G) (ct : Nat → ClassId) (ad sa : Nat → Nat) (l : Launch) : (((ad 39), eA (D, ct, ad, sa, l) 3) : Nat × va_E) = (ad 39, el (D, ct, ad, sa, l) h0 39 (.inl 3)) := by
  show _ = ((ad 39, .inl (ct 0, 3, .inl (h0 39))) : Nat × va_E)
  rw [h0_39]
theorem h0_40 : h0 40 = upd (fun _ => 0) 5 1 := (if_neg (by decide)).trans (if_pos (by decide))
theorem wc_40 (D : va_G) (ct : Nat → ClassId) (ad sa : Nat → Nat) (l : Launch) : (((ad 40), .inr (0, [.ref (ad 41), .int 0, .int 0, .int 0, .int 0, .int 1, .int 0])) : Nat × va_E) = (ad 40, el (D, ct, ad, sa, l) h0 40 (oS 0 40)) := by
  show _ = (ad 40, el (D, ct, ad, sa, l) h0 40 (.inr (.inr (0, [some 41, none, none, none, none, none, none]))))
  rw [el_o, h0_40]
  rfl
theorem h0_41 : h0 41 = fun _ => 0 := (if_neg (by decide)).trans ((if_neg (by decide)).trans (if_neg (by decide)))
theorem wc_41 (D : va_G) (ct : Nat → ClassId) (ad sa : Nat → Nat) (l : Launch) : (((ad 41), eA (D, ct, ad, sa, l) 3) : Nat × va_E) = (ad 41, el (D, ct, ad, sa, l) h0 41 (.inl 3)) := by
  show _ = ((ad 41, .inl (ct 0, 3, .inl (h0 41))) : Nat × va_E)
  rw [h0_41]
theorem h0_42 : h0 42 = upd (fun _ => 0) 5 1 := (if_neg (by decide)).trans (if_pos (by decide))
theorem wc_42 (D : va_G) (ct : Nat → ClassId) (ad sa : Nat → Nat) (l : Launch) : (((ad 42), .inr (0, [.ref (ad 43), .int 0, .int 0, .int 0, .int 0, .int 1, .int 0])) : Nat × va_E) = (ad 42, el (D, ct, ad, sa, l) h0 42 (oS 0 42)) := by
  show _ = (ad 42, el (D, ct, ad, sa, l) h0 42 (.inr (.inr (0, [some 43, none, none, none, none, none, none]))))
  rw [el_o, h0_42]
  rfl
theorem h0_43 : h0 43 = fun _ => 0 := (if_neg (by decide)).trans ((if_neg (by decide)).trans (if_neg (by decide)))
theorem wc_43 (D : va_G) (ct : Nat → ClassId) (ad sa : Nat → Nat) (l : Launch) : (((ad 43), eA (D, ct, ad, sa, l) 3) : Nat × va_E) = (ad 43, el (D, ct, ad, sa, l) h0 43 (.inl 3)) := by
  show _ = ((ad 43, .inl (ct 0, 3, .inl (h0 43))) : Nat × va_E)
  rw [h0_43]
theorem h0_44 : h0 44 = upd (fun _ => 0) 5 1 := (if_neg (by decide)).trans (if_pos (by decide))
theorem wc_44 (D : va_G) (ct : Nat → ClassId) (ad sa : Nat → Nat) (l : Launch) : (((ad 44), .inr (0, [.ref (ad 45), .int 0, .int 0, .int 0, .int 0, .int 1, .int 0])) : Nat × va_E) = (ad 44, el (D, ct, ad, sa, l) h0 44 (oS 0 44)) := by
  show _ = (ad 44, el (D, ct, ad, sa, l) h0 44 (.inr (.inr (0, [some 45, none, none, none, none, none, none]))))
  rw [el_o, h0_44]
  rfl
theorem h0_45 : h0 45 = fun _ => 0 := (if_neg (by decide)).trans ((if_neg (by decide)).trans (if_neg (by decide)))
theorem wc_45 (D : va_G) (ct : Nat → ClassId) (ad sa : Nat → Nat) (l : Launch) : (((ad 45), eA (D, ct, ad, sa, l) 3) : Nat × va_E) = (ad 45, el (D, ct, ad, sa, l) h0 45 (.inl 3)) := by
  show _ = ((ad 45, .inl (ct 0, 3, .inl (h0 45))) : Nat × va_E)
  rw [h0_45]
theorem h0_46 : h0 46 = upd (fun _ => 0) 5 1 := (if_neg (by decide)).trans (if_pos (by decide))
theorem wc_46 (D : va_G) (ct : Nat → ClassId) (ad sa : Nat → Nat) (l : Launch) : (((ad 46), .inr (0, [.ref (ad 47), .int 0, .int 0, .int 0, .int 0, .int 1, .int 0])) : Nat × va_E) = (ad 46, el (D, ct, ad, sa, l) h0 46 (oS 0 46)) := by
  show _ = (ad 46, el (D, ct, ad, sa, l) h0 46 (.inr (.inr (0, [some 47, none, none, none, none, none, none]))))
  rw [el_o, h0_46]
  rfl
theorem h0_47 : h0 47 = fun _ => 0 := (if_neg (by decide)).trans ((if_neg (by decide)).trans (if_neg (by decide)))
theorem wc_47 (D : va_G) (ct : Nat → ClassId) (ad sa : Nat → Nat) (l : Launch) : (((ad 47), eA (D, ct, ad, sa, l) 3) : Nat × va_E) = (ad 47, el (D, ct, ad, sa, l) h0 47 (.inl 3)) := by
  show _ = ((ad 47, .inl (ct 0, 3, .inl (h0 47))) : Nat × va_E)
  rw [h0_47]
theorem h0_48 : h0 48 = upd (fun _ => 0) 16 1 := if_pos (by decide)
theorem wc_48 (D : va_G) (ct : Nat → ClassId) (ad sa : Nat → Nat) (l : Launch) : (((ad 48), .inr (7, [.ref (ad 49), .ref (ad 50), .ref (ad 51), .ref (ad 52), .ref (ad 53), .ref (ad 56), .ref (ad 59), .ref (ad 60), .ref (ad 61), .ref (ad 62), .int 0, .int 0, .int 0, .int 0, .int 0, .int 0, .int 1])) : Nat × va_E) = (ad 48, el (D, ct, ad, sa, l) h0 48 (oS 7 48)) := by
  show _ = (ad 48, el (D, ct, ad, sa, l) h0 48 (.inr (.inr (7, [some 49, some 50, some 51, some 52, some 53, some 56, some 59, some 60, some 61, some 62, none, none, none, none, none, none, none]))))
  rw [el_o, h0_48]
  rfl
theorem h0_49 : h0 49 = fun _ => 0 := (if_neg (by decide)).trans ((if_neg (by decide)).trans (if_neg (by decide)))
theorem wc_49 (D : va_G) (ct : Nat → ClassId) (ad sa : Nat → Nat) (l : Launch) : (((ad 49), eA (D, ct, ad, sa, l) 60) : Nat × va_E) = (ad 49, el (D, ct, ad, sa, l) h0 49 (.inl 60)) := by
  show _ = ((ad 49, .inl (ct 0, 60, .inl (h0 49))) : Nat × va_E)
  rw [h0_49]
theorem wc_50 (D : va_G) (ct : Nat → ClassId) (ad sa : Nat → Nat) (l : Launch) : (((ad 50), eR (D, ct, ad, sa, l) 1 10 (fun j : Nat => (([63, 65, 67, 69, 71, 73, 75, 77, 79, 81] : List Nat)[j]?).map ad)) : Nat × va_E) = (ad 50, el (D, ct, ad, sa, l) h0 50 (.inr (.inl (1, [63, 65, 67, 69, 71, 73, 75, 77, 79, 81])))) := rfl
theorem wc_51 (D : va_G) (ct : Nat → ClassId) (ad sa : Nat → Nat) (l : Launch) : (((ad 51), eR (D, ct, ad, sa, l) 2 6 (fun j : Nat => (([83, 85, 87, 89, 91, 93] : List Nat)[j]?).map ad)) : Nat × va_E) = (ad 51, el (D, ct, ad, sa, l) h0 51 (.inr (.inl (2, [83, 85, 87, 89, 91, 93])))) := rfl
theorem h0_52 : h0 52 = fun _ => 0 := (if_neg (by decide)).trans ((if_neg (by decide)).trans (if_neg (by decide)))
theorem wc_52 (D : va_G) (ct : Nat → ClassId) (ad sa : Nat → Nat) (l : Launch) : (((ad 52), eA (D, ct, ad, sa, l) 50) : Nat × va_E) = (ad 52, el (D, ct, ad, sa, l) h0 52 (.inl 50)) := by
  show _ = ((ad 52, .inl (ct 0, 50, .inl (h0 52))) : Nat × va_E)
  rw [h0_52]
theorem h0_53 : h0 53 = fun _ => 0 := (if_neg (by decide)).trans ((if_neg (by decide)).trans (if_neg (by decide)))
theorem wc_53 (D : va_G) (ct : Nat → ClassId) (ad sa : Nat → Nat) (l : Launch) : (((ad 53), .inr (5, [.ref (ad 54), .ref (ad 55), .int 0])) : Nat × va_E) = (ad 53, el (D, ct, ad, sa, l) h0 53 (oS 5 53)) := by
  show _ = (ad 53, el (D, ct, ad, sa, l) h0 53 (.inr (.inr (5, [some 54, some 55, none]))))
  rw [el_o, h0_53]
  rfl
theorem h0_54 : h0 54 = fun _ => 0 := (if_neg (by decide)).trans ((if_neg (by decide)).trans (if_neg (by decide)))
theorem wc_54 (D : va_G) (ct : Nat → ClassId) (ad sa : Nat → Nat) (l : Launch) : (((ad 54), eA (D, ct, ad, sa, l) 50) : Nat × va_E) = (ad 54, el (D, ct, ad, sa, l) h0 54 (.inl 50)) := by
  show _ = ((ad 54, .inl (ct 0, 50, .inl (h0 54))) : Nat × va_E)
  rw [h0_54]
theorem h0_55 : h0 55 = fun _ => 0 := (if_neg (by decide)).trans ((if_neg (by decide)).trans (if_neg (by decide)))
theorem wc_55 (D : va_G) (ct : Nat → ClassId) (ad sa : Nat → Nat) (l : Launch) : (((ad 55), eA (D, ct, ad, sa, l) 50) : Nat × va_E) = (ad 55, el (D, ct, ad, sa, l) h0 55 (.inl 50)) := by
  show _ = ((ad 55, .inl (ct 0, 50, .inl (h0 55))) : Nat × va_E)
  rw [h0_55]
theorem h0_56 : h0 56 = fun _ => 0 := (if_neg (by decide)).trans ((if_neg (by decide)).trans (if_neg (by decide)))
theorem wc_56 (D : va_G) (ct : Nat → ClassId) (ad sa : Nat → Nat) (l : Launch) : (((ad 56), .inr (5, [.ref (ad 57), .ref (ad 58), .int 0])) : Nat × va_E) = (ad 56, el (D, ct, ad, sa, l) h0 56 (oS 5 56)) := by
  show _ = (ad 56, el (D, ct, ad, sa, l) h0 56 (.inr (.inr (5, [some 57, some 58, none]))))
  rw [el_o, h0_56]
  rfl
theorem h0_57 : h0 57 = fun _ => 0 := (if_neg (by decide)).trans ((if_neg (by decide)).trans (if_neg (by decide)))
theorem wc_57 (D : va_G) (ct : Nat → ClassId) (ad sa : Nat → Nat) (l : Launch) : (((ad 57), eA (D, ct, ad, sa, l) 50) : Nat × va_E) = (ad 57, el (D, ct, ad, sa, l) h0 57 (.inl 50)) := by
  show _ = ((ad 57, .inl (ct 0, 50, .inl (h0 57))) : Nat × va_E)
  rw [h0_57]
theorem h0_58 : h0 58 = fun _ => 0 := (if_neg (by decide)).trans ((if_neg (by decide)).trans (if_neg (by decide)))
theorem wc_58 (D : va_G) (ct : Nat → ClassId) (ad sa : Nat → Nat) (l : Launch) : (((ad 58), eA (D, ct, ad, sa, l) 50) : Nat × va_E) = (ad 58, el (D, ct, ad, sa, l) h0 58 (.inl 50)) := by
  show _ = ((ad 58, .inl (ct 0, 50, .inl (h0 58))) : Nat × va_E)
  rw [h0_58]
theorem h0_59 : h0 59 = fun _ => 0 := (if_neg (by decide)).trans ((if_neg (by decide)).trans (if_neg (by decide)))
theorem wc_59 (D : va_G) (ct : Nat → ClassId) (ad sa : Nat → Nat) (l : Launch) : (((ad 59), eA (D, ct, ad, sa, l) 16) : Nat × va_E) = (ad 59, el (D, ct, ad, sa, l) h0 59 (.inl 16)) := by
  show _ = ((ad 59, .inl (ct 0, 16, .inl (h0 59))) : Nat × va_E)
  rw [h0_59]
theorem h0_60 : h0 60 = fun _ => 0 := (if_neg (by decide)).trans ((if_neg (by decide)).trans (if_neg (by decide)))
theorem wc_60 (D : va_G) (ct : Nat → ClassId) (ad sa : Nat → Nat) (l : Launch) : (((ad 60), eA (D, ct, ad, sa, l) 20) : Nat × va_E) = (ad 60, el (D, ct, ad, sa, l) h0 60 (.inl 20)) := by
  show _ = ((ad 60, .inl (ct 0, 20, .inl (h0 60))) : Nat × va_E)
  rw [h0_60]
theorem h0_61 : h0 61 = fun _ => 0 := (if_neg (by decide)).trans ((if_neg (by decide)).trans (if_neg (by decide)))
theorem wc_61 (D : va_G) (ct : Nat → ClassId) (ad sa : Nat → Nat) (l : Launch) : (((ad 61), eA (D, ct, ad, sa, l) 6) : Nat × va_E) = (ad 61, el (D, ct, ad, sa, l) h0 61 (.inl 6)) := by
  show _ = ((ad 61, .inl (ct 0, 6, .inl (h0 61))) : Nat × va_E)
  rw [h0_61]
theorem h0_62 : h0 62 = fun _ => 0 := (if_neg (by decide)).trans ((if_neg (by decide)).trans (if_neg (by decide)))
theorem wc_62 (D : va_G) (ct : Nat → ClassId) (ad sa : Nat → Nat) (l : Launch) : (((ad 62), eA (D, ct, ad, sa, l) 6) : Nat × va_E) = (ad 62, el (D, ct, ad, sa, l) h0 62 (.inl 6)) := by
  show _ = ((ad 62, .inl (ct 0, 6, .inl (h0 62))) : Nat × va_E)
  rw [h0_62]
theorem h0_63 : h0 63 = fun _ => 0 := (if_neg (by decide)).trans ((if_neg (by decide)).trans (if_neg (by decide)))
theorem wc_63 (D : va_G) (ct : Nat → ClassId) (ad sa : Nat → Nat) (l : Launch) : (((ad 63), .inr (6, [.ref (ad 64), .int 0, .int 0, .int 0])) : Nat × va_E) = (ad 63, el (D, ct, ad, sa, l) h0 63 (oS 6 63)) := by
  show _ = (ad 63, el (D, ct, ad, sa, l) h0 63 (.inr (.inr (6, [some 64, none, none, none]))))
  rw [el_o, h0_63]
  rfl
theorem h0_64 : h0 64 = fun _ => 0 := (if_neg (by decide)).trans ((if_neg (by decide)).trans (if_neg (by decide)))
theorem wc_64 (D : va_G) (ct : Nat → ClassId) (ad sa : Nat → Nat) (l : Launch) : (((ad 64), eA (D, ct, ad, sa, l) 5) : Nat × va_E) = (ad 64, el (D, ct, ad, sa, l) h0 64 (.inl 5)) := by
  show _ = ((ad 64, .inl (ct 0, 5, .inl (h0 64))) : Nat × va_E)
  rw [h0_64]
theorem h0_65 : h0 65 = fun _ => 0 := (if_neg (by decide)).trans ((if_neg (by decide)).trans (if_neg (by decide)))
theorem wc_65 (D : va_G) (ct : Nat → ClassId) (ad sa : Nat → Nat) (l : Launch) : (((ad 65), .inr (6, [.ref (ad 66), .int 0, .int 0, .int 0])) : Nat × va_E) = (ad 65, el (D, ct, ad, sa, l) h0 65 (oS 6 65)) := by
  show _ = (ad 65, el (D, ct, ad, sa, l) h0 65 (.inr (.inr (6, [some 66, none, none, none]))))
  rw [el_o, h0_65]
  rfl
theorem h0_66 : h0 66 = fun _ => 0 := (if_neg (by decide)).trans ((if_neg (by decide)).trans (if_neg (by decide)))
theorem wc_66 (D : va_G) (ct : Nat → ClassId) (ad sa : Nat → Nat) (l : Launch) : (((ad 66), eA (D, ct, ad, sa, l) 5) : Nat × va_E) = (ad 66, el (D, ct, ad, sa, l) h0 66 (.inl 5)) := by
  show _ = ((ad 66, .inl (ct 0, 5, .inl (h0 66))) : Nat × va_E)
  rw [h0_66]
theorem h0_67 : h0 67 = fun _ => 0 := (if_neg (by decide)).trans ((if_neg (by decide)).trans (if_neg (by decide)))
theorem wc_67 (D : va_G) (ct : Nat → ClassId) (ad sa : Nat → Nat) (l : Launch) : (((ad 67), .inr (6, [.ref (ad 68), .int 0, .int 0, .int 0])) : Nat × va_E) = (ad 67, el (D, ct, ad, sa, l) h0 67 (oS 6 67)) := by
  show _ = (ad 67, el (D, ct, ad, sa, l) h0 67 (.inr (.inr (6, [some 68, none, none, none]))))
  rw [el_o, h0_67]
  rfl
theorem h0_68 : h0 68 = fun _ => 0 := (if_neg (by decide)).trans ((if_neg (by decide)).trans (if_neg (by decide)))
theorem wc_68 (D : va_G) (ct : Nat → ClassId) (ad sa : Nat → Nat) (l : Launch) : (((ad 68), eA (D, ct, ad, sa, l) 5) : Nat × va_E) = (ad 68, el (D, ct, ad, sa, l) h0 68 (.inl 5)) := by
  show _ = ((ad 68, .inl (ct 0, 5, .inl (h0 68))) : Nat × va_E)
  rw [h0_68]
theorem h0_69 : h0 69 = fun _ => 0 := (if_neg (by decide)).trans ((if_neg (by decide)).trans (if_neg (by decide)))
theorem wc_69 (D : va_G) (ct : Nat → ClassId) (ad sa : Nat → Nat) (l : Launch) : (((ad 69), .inr (6, [.ref (ad 70), .int 0, .int 0, .int 0])) : Nat × va_E) = (ad 69, el (D, ct, ad, sa, l) h0 69 (oS 6 69)) := by
  show _ = (ad 69, el (D, ct, ad, sa, l) h0 69 (.inr (.inr (6, [some 70, none, none, none]))))
  rw [el_o, h0_69]
  rfl
theorem h0_70 : h0 70 = fun _ => 0 := (if_neg (by decide)).trans ((if_neg (by decide)).trans (if_neg (by decide)))
theorem wc_70 (D : va_G) (ct : Nat → ClassId) (ad sa : Nat → Nat) (l : Launch) : (((ad 70), eA (D, ct, ad, sa, l) 5) : Nat × va_E) = (ad 70, el (D, ct, ad, sa, l) h0 70 (.inl 5)) := by
  show _ = ((ad 70, .inl (ct 0, 5, .inl (h0 70))) : Nat × va_E)
  rw [h0_70]
theorem h0_71 : h0 71 = fun _ => 0 := (if_neg (by decide)).trans ((if_neg (by decide)).trans (if_neg (by decide)))
theorem wc_71 (D : va_G) (ct : Nat → ClassId) (ad sa : Nat → Nat) (l : Launch) : (((ad 71), .inr (6, [.ref (ad 72), .int 0, .int 0, .int 0])) : Nat × va_E) = (ad 71, el (D, ct, ad, sa, l) h0 71 (oS 6 71)) := by
  show _ = (ad 71, el (D, ct, ad, sa, l) h0 71 (.inr (.inr (6, [some 72, none, none, none]))))
  rw [el_o, h0_71]
  rfl
theorem h0_72 : h0 72 = fun _ => 0 := (if_neg (by decide)).trans ((if_neg (by decide)).trans (if_neg (by decide)))
theorem wc_72 (D : va_G) (ct : Nat → ClassId) (ad sa : Nat → Nat) (l : Launch) : (((ad 72), eA (D, ct, ad, sa, l) 5) : Nat × va_E) = (ad 72, el (D, ct, ad, sa, l) h0 72 (.inl 5)) := by
  show _ = ((ad 72, .inl (ct 0, 5, .inl (h0 72))) : Nat × va_E)
  rw [h0_72]
theorem h0_73 : h0 73 = fun _ => 0 := (if_neg (by decide)).trans ((if_neg (by decide)).trans (if_neg (by decide)))
theorem wc_73 (D : va_G) (ct : Nat → ClassId) (ad sa : Nat → Nat) (l : Launch) : (((ad 73), .inr (6, [.ref (ad 74), .int 0, .int 0, .int 0])) : Nat × va_E) = (ad 73, el (D, ct, ad, sa, l) h0 73 (oS 6 73)) := by
  show _ = (ad 73, el (D, ct, ad, sa, l) h0 73 (.inr (.inr (6, [some 74, none, none, none]))))
  rw [el_o, h0_73]
  rfl
theorem h0_74 : h0 74 = fun _ => 0 := (if_neg (by decide)).trans ((if_neg (by decide)).trans (if_neg (by decide)))
theorem wc_74 (D : va_G) (ct : Nat → ClassId) (ad sa : Nat → Nat) (l : Launch) : (((ad 74), eA (D, ct, ad, sa, l) 5) : Nat × va_E) = (ad 74, el (D, ct, ad, sa, l) h0 74 (.inl 5)) := by
  show _ = ((ad 74, .inl (ct 0, 5, .inl (h0 74))) : Nat × va_E)
  rw [h0_74]
theorem h0_75 : h0 75 = fun _ => 0 := (if_neg (by decide)).trans ((if_neg (by decide)).trans (if_neg (by decide)))
theorem wc_75 (D : va_G) (ct : Nat → ClassId) (ad sa : Nat → Nat) (l : Launch) : (((ad 75), .inr (6, [.ref (ad 76), .int 0, .int 0, .int 0])) : Nat × va_E) = (ad 75, el (D, ct, ad, sa, l) h0 75 (oS 6 75)) := by
  show _ = (ad 75, el (D, ct, ad, sa, l) h0 75 (.inr (.inr (6, [some 76, none, none, none]))))
  rw [el_o, h0_75]
  rfl
theorem h0_76 : h0 76 = fun _ => 0 := (if_neg (by decide)).trans ((if_neg (by decide)).trans (if_neg (by decide)))
theorem wc_76 (D : va_G) (ct : Nat → ClassId) (ad sa : Nat → Nat) (l : Launch) : (((ad 76), eA (D, ct, ad, sa, l) 5) : Nat × va_E) = (ad 76, el (D, ct, ad, sa, l) h0 76 (.inl 5)) := by
  show _ = ((ad 76, .inl (ct 0, 5, .inl (h0 76))) : Nat × va_E)
  rw [h0_76]
theorem h0_77 : h0 77 = fun _ => 0 := (if_neg (by decide)).trans ((if_neg (by decide)).trans (if_neg (by decide)))
theorem wc_77 (D : va_G) (ct : Nat → ClassId) (ad sa : Nat → Nat) (l : Launch) : (((ad 77), .inr (6, [.ref (ad 78), .int 0, .int 0, .int 0])) : Nat × va_E) = (ad 77, el (D, ct, ad, sa, l) h0 77 (oS 6 77)) := by
  show _ = (ad 77, el (D, ct, ad, sa, l) h0 77 (.inr (.inr (6, [some 78, none, none, none]))))
  rw [el_o, h0_77]
  rfl
theorem h0_78 : h0 78 = fun _ => 0 := (if_neg (by decide)).trans ((if_neg (by decide)).trans (if_neg (by decide)))
theorem wc_78 (D : va_G) (ct : Nat → ClassId) (ad sa : Nat → Nat) (l : Launch) : (((ad 78), eA (D, ct, ad, sa, l) 5) : Nat × va_E) = (ad 78, el (D, ct, ad, sa, l) h0 78 (.inl 5)) := by
  show _ = ((ad 78, .inl (ct 0, 5, .inl (h0 78))) : Nat × va_E)
  rw [h0_78]
theorem h0_79 : h0 79 = fun _ => 0 := (if_neg (by decide)).trans ((if_neg (by decide)).trans (if_neg (by decide)))
theorem wc_79 (D : va_G) (ct : Nat → ClassId) (ad sa : Nat → Nat) (l : Launch) : (((ad 79), .inr (6, [.ref (ad 80), .int 0, .int 0, .int 0])) : Nat × va_E) = (ad 79, el (D, ct, ad, sa, l) h0 79 (oS 6 79)) := by
  show _ = (ad 79, el (D, ct, ad, sa, l) h0 79 (.inr (.inr (6, [some 80, none, none, none]))))
  rw [el_o, h0_79]
  rfl
theorem h0_80 : h0 80 = fun _ => 0 := (if_neg (by decide)).trans ((if_neg (by decide)).trans (if_neg (by decide)))
theorem wc_80 (D : va_G) (ct : Nat → ClassId) (ad sa : Nat → Nat) (l : Launch) : (((ad 80), eA (D, ct, ad, sa, l) 5) : Nat × va_E) = (ad 80, el (D, ct, ad, sa, l) h0 80 (.inl 5)) := by
  show _ = ((ad 80, .inl (ct 0, 5, .inl (h0 80))) : Nat × va_E)
  rw [h0_80]
theorem h0_81 : h0 81 = fun _ => 0 := (if_neg (by decide)).trans ((if_neg (by decide)).trans (if_neg (by decide)))
theorem wc_81 (D : va_G) (ct : Nat → ClassId) (ad sa : Nat → Nat) (l : Launch) : (((ad 81), .inr (6, [.ref (ad 82), .int 0, .int 0, .int 0])) : Nat × va_E) = (ad 81, el (D, ct, ad, sa, l) h0 81 (oS 6 81)) := by
  show _ = (ad 81, el (D, ct, ad, sa, l) h0 81 (.inr (.inr (6, [some 82, none, none, none]))))
  rw [el_o, h0_81]
  rfl
theorem h0_82 : h0 82 = fun _ => 0 := (if_neg (by decide)).trans ((if_neg (by decide)).trans (if_neg (by decide)))
theorem wc_82 (D : va_G) (ct : Nat → ClassId) (ad sa : Nat → Nat) (l : Launch) : (((ad 82), eA (D, ct, ad, sa, l) 5) : Nat × va_E) = (ad 82, el (D, ct, ad, sa, l) h0 82 (.inl 5)) := by
  show _ = ((ad 82, .inl (ct 0, 5, .inl (h0 82))) : Nat × va_E)
  rw [h0_82]
theorem h0_83 : h0 83 = upd (fun _ => 0) 5 1 := (if_neg (by decide)).trans (if_pos (by decide))
theorem wc_83 (D : va_G) (ct : Nat → ClassId) (ad sa : Nat → Nat) (l : Launch) : (((ad 83), .inr (0, [.ref (ad 84), .int 0, .int 0, .int 0, .int 0, .int 1, .int 0])) : Nat × va_E) = (ad 83, el (D, ct, ad, sa, l) h0 83 (oS 0 83)) := by
  show _ = (ad 83, el (D, ct, ad, sa, l) h0 83 (.inr (.inr (0, [some 84, none, none, none, none, none, none]))))
  rw [el_o, h0_83]
  rfl
theorem h0_84 : h0 84 = fun _ => 0 := (if_neg (by decide)).trans ((if_neg (by decide)).trans (if_neg (by decide)))
theorem wc_84 (D : va_G) (ct : Nat → ClassId) (ad sa : Nat → Nat) (l : Launch) : (((ad 84), eA (D, ct, ad, sa, l) 3) : Nat × va_E) = (ad 84, el (D, ct, ad, sa, l) h0 84 (.inl 3)) := by
  show _ = ((ad 84, .inl (ct 0, 3, .inl (h0 84))) : Nat × va_E)
  rw [h0_84]
theorem h0_85 : h0 85 = upd (fun _ => 0) 5 1 := (if_neg (by decide)).trans (if_pos (by decide))
theorem wc_85 (D : va_G) (ct : Nat → ClassId) (ad sa : Nat → Nat) (l : Launch) : (((ad 85), .inr (0, [.ref (ad 86), .int 0, .int 0, .int 0, .int 0, .int 1, .int 0])) : Nat × va_E) = (ad 85, el (D, ct, ad, sa, l) h0 85 (oS 0 85)) := by
  show _ = (ad 85, el (D, ct, ad, sa, l) h0 85 (.inr (.inr (0, [some 86, none, none, none, none, none, none]))))
  rw [el_o, h0_85]
  rfl
theorem h0_86 : h0 86 = fun _ => 0 := (if_neg (by decide)).trans ((if_neg (by decide)).trans (if_neg (by decide)))
theorem wc_86 (D : va_G) (ct : Nat → ClassId) (ad sa : Nat → Nat) (l : Launch) : (((ad 86), eA (D, ct, ad, sa, l) 3) : Nat × va_E) = (ad 86, el (D, ct, ad, sa, l) h0 86 (.inl 3)) := by
  show _ = ((ad 86, .inl (ct 0, 3, .inl (h0 86))) : Nat × va_E)
  rw [h0_86]
theorem h0_87 : h0 87 = upd (fun _ => 0) 5 1 := (if_neg (by decide)).trans (if_pos (by decide))
theorem wc_87 (D : va_G) (ct : Nat → ClassId) (ad sa : Nat → Nat) (l : Launch) : (((ad 87), .inr (0, [.ref (ad 88), .int 0, .int 0, .int 0, .int 0, .int 1, .int 0])) : Nat × va_E) = (ad 87, el (D, ct, ad, sa, l) h0 87 (oS 0 87)) := by
  show _ = (ad 87, el (D, ct, ad, sa, l) h0 87 (.inr (.inr (0, [some 88, none, none, none, none, none, none]))))
  rw [el_o, h0_87]
  rfl
theorem h0_88 : h0 88 = fun _ => 0 := (if_neg (by decide)).trans ((if_neg (by decide)).trans (if_neg (by decide)))
theorem wc_88 (D : va_G) (ct : Nat → ClassId) (ad sa : Nat → Nat) (l : Launch) : (((ad 88), eA (D, ct, ad, sa, l) 3) : Nat × va_E) = (ad 88, el (D, ct, ad, sa, l) h0 88 (.inl 3)) := by
  show _ = ((ad 88, .inl (ct 0, 3, .inl (h0 88))) : Nat × va_E)
  rw [h0_88]
theorem h0_89 : h0 89 = upd (fun _ => 0) 5 1 := (if_neg (by decide)).trans (if_pos (by decide))
theorem wc_89 (D : va_G) (ct : Nat → ClassId) (ad sa : Nat → Nat) (l : Launch) : (((ad 89), .inr (0, [.ref (ad 90), .int 0, .int 0, .int 0, .int 0, .int 1, .int 0])) : Nat × va_E) = (ad 89, el (D, ct, ad, sa, l) h0 89 (oS 0 89)) := by
  show _ = (ad 89, el (D, ct, ad, sa, l) h0 89 (.inr (.inr (0, [some 90, none, none, none, none, none, none]))))
  rw [el_o, h0_89]
  rfl
theorem h0_90 : h0 90 = fun _ => 0 := (if_neg (by decide)).trans ((if_neg (by decide)).trans (if_neg (by decide)))
theorem wc_90 (D : va_G) (ct : Nat → ClassId) (ad sa : Nat → Nat) (l : Launch) : (((ad 90), eA (D, ct, ad, sa, l) 3) : Nat × va_E) = (ad 90, el (D, ct, ad, sa, l) h0 90 (.inl 3)) := by
  show _ = ((ad 90, .inl (ct 0, 3, .inl (h0 90))) : Nat × va_E)
  rw [h0_90]
theorem h0_91 : h0 91 = upd (fun _ => 0) 5 1 := (if_neg (by decide)).trans (if_pos (by decide))
theorem wc_91 (D : va_G) (ct : Nat → ClassId) (ad sa : Nat → Nat) (l : Launch) : (((ad 91), .inr (0, [.ref (ad 92), .int 0, .int 0, .int 0, .int 0, .int 1, .int 0])) : Nat × va_E) = (ad 91, el (D, ct, ad, sa, l) h0 91 (oS 0 91)) := by
  show _ = (ad 91, el (D, ct, ad, sa, l) h0 91 (.inr (.inr (0, [some 92, none, none, none, none, none, none]))))
  rw [el_o, h0_91]
  rfl
theorem h0_92 : h0 92 = fun _ => 0 := (if_neg (by decide)).trans ((if_neg (by decide)).trans (if_neg (by decide)))
theorem wc_92 (D : va_G) (ct : Nat → ClassId) (ad sa : Nat → Nat) (l : Launch) : (((ad 92), eA (D, ct, ad, sa, l) 3) : Nat × va_E) = (ad 92, el (D, ct, ad, sa, l) h0 92 (.inl 3)) := by
  show _ = ((ad 92, .inl (ct 0, 3, .inl (h0 92))) : Nat × va_E)
  rw [h0_92]
theorem h0_93 : h0 93 = upd (fun _ => 0) 5 1 := (if_neg (by decide)).trans (if_pos (by decide))
theorem wc_93 (D : va_G) (ct : Nat → ClassId) (ad sa : Nat → Nat) (l : Launch) : (((ad 93), .inr (0, [.ref (ad 94), .int 0, .int 0, .int 0, .int 0, .int 1, .int 0])) : Nat × va_E) = (ad 93, el (D, ct, ad, sa, l) h0 93 (oS 0 93)) := by
  show _ = (ad 93, el (D, ct, ad, sa, l) h0 93 (.inr (.inr (0, [some 94, none, none, none, none, none, none]))))
  rw [el_o, h0_93]
  rfl
theorem h0_94 : h0 94 = fun _ => 0 := (if_neg (by decide)).trans ((if_neg (by decide)).trans (if_neg (by decide)))
theorem wc_94 (D : va_G) (ct : Nat → ClassId) (ad sa : Nat → Nat) (l : Launch) : (((ad 94), eA (D, ct, ad, sa, l) 3) : Nat × va_E) = (ad 94, el (D, ct, ad, sa, l) h0 94 (.inl 3)) := by
  show _ = ((ad 94, .inl (ct 0, 3, .inl (h0 94))) : Nat × va_E)
  rw [h0_94]
theorem h0_95 : h0 95 = fun _ => 0 := (if_neg (by decide)).trans ((if_neg (by decide)).trans (if_neg (by decide)))
theorem wc_95 (D : va_G) (ct : Nat → ClassId) (ad sa : Nat → Nat) (l : Launch) : (((ad 95), .inr (2, [.ref (ad 1), .ref (ad 96), .ref (ad 97), .ref (ad 98), .ref (ad 99), .int 0, .int 0, .int 0])) : Nat × va_E) = (ad 95, el (D, ct, ad, sa, l) h0 95 (oS 2 95)) := by
  show _ = (ad 95, el (D, ct, ad, sa, l) h0 95 (.inr (.inr (2, [some 1, some 96, some 97, some 98, some 99, none, none, none]))))
  rw [el_o, h0_95]
  rfl
theorem h0_96 : h0 96 = fun _ => 0 := (if_neg (by decide)).trans ((if_neg (by decide)).trans (if_neg (by decide)))
theorem wc_96 (D : va_G) (ct : Nat → ClassId) (ad sa : Nat → Nat) (l : Launch) : (((ad 96), eA (D, ct, ad, sa, l) 45) : Nat × va_E) = (ad 96, el (D, ct, ad, sa, l) h0 96 (.inl 45)) := by
  show _ = ((ad 96, .inl (ct 0, 45, .inl (h0 96))) : Nat × va_E)
  rw [h0_96]
theorem h0_97 : h0 97 = fun _ => 0 := (if_neg (by decide)).trans ((if_neg (by decide)).trans (if_neg (by decide)))
theorem wc_97 (D : va_G) (ct : Nat → ClassId) (ad sa : Nat → Nat) (l : Launch) : (((ad 97), eA (D, ct, ad, sa, l) 150) : Nat × va_E) = (ad 97, el (D, ct, ad, sa, l) h0 97 (.inl 150)) := by
  show _ = ((ad 97, .inl (ct 0, 150, .inl (h0 97))) : Nat × va_E)
  rw [h0_97]
theorem h0_98 : h0 98 = fun _ => 0 := (if_neg (by decide)).trans ((if_neg (by decide)).trans (if_neg (by decide)))
theorem wc_98 (D : va_G) (ct : Nat → ClassId) (ad sa : Nat → Nat) (l : Launch) : (((ad 98), eA (D, ct, ad, sa, l) 3) : Nat × va_E) = (ad 98, el (D, ct, ad, sa, l) h0 98 (.inl 3)) := by
  show _ = ((ad 98, .inl (ct 0, 3, .inl (h0 98))) : Nat × va_E)
  rw [h0_98]
theorem h0_99 : h0 99 = fun _ => 0 := (if_neg (by decide)).trans ((if_neg (by decide)).trans (if_neg (by decide)))
theorem wc_99 (D : va_G) (ct : Nat → ClassId) (ad sa : Nat → Nat) (l : Launch) : (((ad 99), eA (D, ct, ad, sa, l) 3) : Nat × va_E) = (ad 99, el (D, ct, ad, sa, l) h0 99 (.inl 3)) := by
  show _ = ((ad 99, .inl (ct 0, 3, .inl (h0 99))) : Nat × va_E)
  rw [h0_99]
theorem h0_100 : h0 100 = fun _ => 0 := (if_neg (by decide)).trans ((if_neg (by decide)).trans (if_neg (by decide)))
theorem wc_100 (D : va_G) (ct : Nat → ClassId) (ad sa : Nat → Nat) (l : Launch) : (((ad 100), .inr (1, [.ref (ad 101), .int 0, .ref (ad 102), .int 0, .int 0, .int 0, .int 0])) : Nat × va_E) = (ad 100, el (D, ct, ad, sa, l) h0 100 (oS 1 100)) := by
  show _ = (ad 100, el (D, ct, ad, sa, l) h0 100 (.inr (.inr (1, [some 101, none, some 102, none, none, none, none]))))
  rw [el_o, h0_100]
  rfl
theorem h0_101 : h0 101 = fun _ => 0 := (if_neg (by decide)).trans ((if_neg (by decide)).trans (if_neg (by decide)))
theorem wc_101 (D : va_G) (ct : Nat → ClassId) (ad sa : Nat → Nat) (l : Launch) : (((ad 101), eA (D, ct, ad, sa, l) 50) : Nat × va_E) = (ad 101, el (D, ct, ad, sa, l) h0 101 (.inl 50)) := by
  show _ = ((ad 101, .inl (ct 0, 50, .inl (h0 101))) : Nat × va_E)
  rw [h0_101]
theorem h0_102 : h0 102 = fun _ => 0 := (if_neg (by decide)).trans ((if_neg (by decide)).trans (if_neg (by decide)))
theorem wc_102 (D : va_G) (ct : Nat → ClassId) (ad sa : Nat → Nat) (l : Launch) : (((ad 102), eA (D, ct, ad, sa, l) 50) : Nat × va_E) = (ad 102, el (D, ct, ad, sa, l) h0 102 (.inl 50)) := by
  show _ = ((ad 102, .inl (ct 0, 50, .inl (h0 102))) : Nat × va_E)
  rw [h0_102]
theorem h0_103 : h0 103 = fun _ => 0 := (if_neg (by decide)).trans ((if_neg (by decide)).trans (if_neg (by decide)))
theorem wc_103 (D : va_G) (ct : Nat → ClassId) (ad sa : Nat → Nat) (l : Launch) : (((ad 103), .inr (4, [.ref (ad 104), .int 0, .int 0, .int 0, .int 0])) : Nat × va_E) = (ad 103, el (D, ct, ad, sa, l) h0 103 (oS 4 103)) := by
  show _ = (ad 103, el (D, ct, ad, sa, l) h0 103 (.inr (.inr (4, [some 104, none, none, none, none]))))
  rw [el_o, h0_103]
  rfl
theorem h0_104 : h0 104 = fun _ => 0 := (if_neg (by decide)).trans ((if_neg (by decide)).trans (if_neg (by decide)))
theorem wc_104 (D : va_G) (ct : Nat → ClassId) (ad sa : Nat → Nat) (l : Launch) : (((ad 104), eA (D, ct, ad, sa, l) 40) : Nat × va_E) = (ad 104, el (D, ct, ad, sa, l) h0 104 (.inl 40)) := by
  show _ = ((ad 104, .inl (ct 0, 40, .inl (h0 104))) : Nat × va_E)
  rw [h0_104]
theorem h0_105 : h0 105 = fun _ => 0 := (if_neg (by decide)).trans ((if_neg (by decide)).trans (if_neg (by decide)))
theorem wc_105 (D : va_G) (ct : Nat → ClassId) (ad sa : Nat → Nat) (l : Launch) : (((ad 105), .inr (3, [.ref (ad 106), .ref (ad 107), .ref (ad 108)])) : Nat × va_E) = (ad 105, el (D, ct, ad, sa, l) h0 105 (oS 3 105)) := by
  show _ = (ad 105, el (D, ct, ad, sa, l) h0 105 (.inr (.inr (3, [some 106, some 107, some 108]))))
  rw [el_o, h0_105]
  rfl
theorem h0_106 : h0 106 = fun _ => 0 := (if_neg (by decide)).trans ((if_neg (by decide)).trans (if_neg (by decide)))
theorem wc_106 (D : va_G) (ct : Nat → ClassId) (ad sa : Nat → Nat) (l : Launch) : (((ad 106), eA (D, ct, ad, sa, l) 4) : Nat × va_E) = (ad 106, el (D, ct, ad, sa, l) h0 106 (.inl 4)) := by
  show _ = ((ad 106, .inl (ct 0, 4, .inl (h0 106))) : Nat × va_E)
  rw [h0_106]
theorem h0_107 : h0 107 = fun _ => 0 := (if_neg (by decide)).trans ((if_neg (by decide)).trans (if_neg (by decide)))
theorem wc_107 (D : va_G) (ct : Nat → ClassId) (ad sa : Nat → Nat) (l : Launch) : (((ad 107), eA (D, ct, ad, sa, l) 4) : Nat × va_E) = (ad 107, el (D, ct, ad, sa, l) h0 107 (.inl 4)) := by
  show _ = ((ad 107, .inl (ct 0, 4, .inl (h0 107))) : Nat × va_E)
  rw [h0_107]
theorem wc_108 (D : va_G) (ct : Nat → ClassId) (ad sa : Nat → Nat) (l : Launch) : (((ad 108), eR (D, ct, ad, sa, l) 3 4 (fun j : Nat => (([109, 110, 111, 112] : List Nat)[j]?).map ad)) : Nat × va_E) = (ad 108, el (D, ct, ad, sa, l) h0 108 (.inr (.inl (3, [109, 110, 111, 112])))) := rfl
theorem h0_109 : h0 109 = fun _ => 0 := (if_neg (by decide)).trans ((if_neg (by decide)).trans (if_neg (by decide)))
theorem wc_109 (D : va_G) (ct : Nat → ClassId) (ad sa : Nat → Nat) (l : Launch) : (((ad 109), eA (D, ct, ad, sa, l) 40) : Nat × va_E) = (ad 109, el (D, ct, ad, sa, l) h0 109 (.inl 40)) := by
  show _ = ((ad 109, .inl (ct 0, 40, .inl (h0 109))) : Nat × va_E)
  rw [h0_109]
theorem h0_110 : h0 110 = fun _ => 0 := (if_neg (by decide)).trans ((if_neg (by decide)).trans (if_neg (by decide)))
theorem wc_110 (D : va_G) (ct : Nat → ClassId) (ad sa : Nat → Nat) (l : Launch) : (((ad 110), eA (D, ct, ad, sa, l) 40) : Nat × va_E) = (ad 110, el (D, ct, ad, sa, l) h0 110 (.inl 40)) := by
  show _ = ((ad 110, .inl (ct 0, 40, .inl (h0 110))) : Nat × va_E)
  rw [h0_110]
theorem h0_111 : h0 111 = fun _ => 0 := (if_neg (by decide)).trans ((if_neg (by decide)).trans (if_neg (by decide)))
theorem wc_111 (D : va_G) (ct : Nat → ClassId) (ad sa : Nat → Nat) (l : Launch) : (((ad 111), eA (D, ct, ad, sa, l) 40) : Nat × va_E) = (ad 111, el (D, ct, ad, sa, l) h0 111 (.inl 40)) := by
  show _ = ((ad 111, .inl (ct 0, 40, .inl (h0 111))) : Nat × va_E)
  rw [h0_111]
theorem h0_112 : h0 112 = fun _ => 0 := (if_neg (by decide)).trans ((if_neg (by decide)).trans (if_neg (by decide)))
theorem wc_112 (D : va_G) (ct : Nat → ClassId) (ad sa : Nat → Nat) (l : Launch) : (((ad 112), eA (D, ct, ad, sa, l) 40) : Nat × va_E) = (ad 112, el (D, ct, ad, sa, l) h0 112 (.inl 40)) := by
  show _ = ((ad 112, .inl (ct 0, 40, .inl (h0 112))) : Nat × va_E)
  rw [h0_112]
theorem h0_113 : h0 113 = fun _ => 0 := (if_neg (by decide)).trans ((if_neg (by decide)).trans (if_neg (by decide)))
theorem wc_113 (D : va_G) (ct : Nat → ClassId) (ad sa : Nat → Nat) (l : Launch) : (((ad 113), eA (D, ct, ad, sa, l) 6) : Nat × va_E) = (ad 113, el (D, ct, ad, sa, l) h0 113 (.inl 6)) := by
  show _ = ((ad 113, .inl (ct 0, 6, .inl (h0 113))) : Nat × va_E)
  rw [h0_113]
theorem h0_114 : h0 114 = fun _ => 0 := (if_neg (by decide)).trans ((if_neg (by decide)).trans (if_neg (by decide)))
theorem wc_114 (D : va_G) (ct : Nat → ClassId) (ad sa : Nat → Nat) (l : Launch) : (((ad 114), .inr (9, [.ref (ad 115), .ref (ad 116), .int 0, .ref (ad 117), .int 0, .int 0, .int 0, .int 0, .int 0, .int 0, .ref (ad 118), .int 0, .ref (ad 119), .int 0, .int 0, .ref (ad 120), .int 0, .int 0, .ref (ad 121), .int 0, .int 0, .ref (ad 122), .ref (ad 123), .ref (ad 124), .ref (ad 125)])) : Nat × va_E) = (ad 114, el (D, ct, ad, sa, l) h0 114 (oS 9 114)) := by
  show _ = (ad 114, el (D, ct, ad, sa, l) h0 114 (.inr (.inr (9, [some 115, some 116, none, some 117, none, none, none, none, none, none, some 118, none, some 119, none, none, some 120, none, none, some 121, none, none, some 122, some 123, some 124, some 125]))))
  rw [el_o, h0_114]
  rfl
theorem h0_115 : h0 115 = upd (fun _ => 0) 4 1 := (if_neg (by decide)).trans ((if_neg (by decide)).trans (if_pos (by decide)))
theorem wc_115 (D : va_G) (ct : Nat → ClassId) (ad sa : Nat → Nat) (l : Launch) : (((ad 115), .inl (ct 0, 380, .inl (upd (fun _ => 0) 4 1))) : Nat × va_E) = (ad 115, el (D, ct, ad, sa, l) h0 115 (.inl 380)) := by
  show _ = ((ad 115, .inl (ct 0, 380, .inl (h0 115))) : Nat × va_E)
  rw [h0_115]
theorem h0_116 : h0 116 = fun _ => 0 := (if_neg (by decide)).trans ((if_neg (by decide)).trans (if_neg (by decide)))
theorem wc_116 (D : va_G) (ct : Nat → ClassId) (ad sa : Nat → Nat) (l : Launch) : (((ad 116), eA (D, ct, ad, sa, l) 380) : Nat × va_E) = (ad 116, el (D, ct, ad, sa, l) h0 116 (.inl 380)) := by
  show _ = ((ad 116, .inl (ct 0, 380, .inl (h0 116))) : Nat × va_E)
  rw [h0_116]
theorem h0_117 : h0 117 = fun _ => 0 := (if_neg (by decide)).trans ((if_neg (by decide)).trans (if_neg (by decide)))
theorem wc_117 (D : va_G) (ct : Nat → ClassId) (ad sa : Nat → Nat) (l : Launch) : (((ad 117), eA (D, ct, ad, sa, l) 6) : Nat × va_E) = (ad 117, el (D, ct, ad, sa, l) h0 117 (.inl 6)) := by
  show _ = ((ad 117, .inl (ct 0, 6, .inl (h0 117))) : Nat × va_E)
  rw [h0_117]
theorem h0_118 : h0 118 = fun _ => 0 := (if_neg (by decide)).trans ((if_neg (by decide)).trans (if_neg (by decide)))
theorem wc_118 (D : va_G) (ct : Nat → ClassId) (ad sa : Nat → Nat) (l : Launch) : (((ad 118), eA (D, ct, ad, sa, l) 3) : Nat × va_E) = (ad 118, el (D, ct, ad, sa, l) h0 118 (.inl 3)) := by
  show _ = ((ad 118, .inl (ct 0, 3, .inl (h0 118))) : Nat × va_E)
  rw [h0_118]
theorem h0_119 : h0 119 = fun _ => 0 := (if_neg (by decide)).trans ((if_neg (by decide)).trans (if_neg (by decide)))
theorem wc_119 (D : va_G) (ct : Nat → ClassId) (ad sa : Nat → Nat) (l : Launch) : (((ad 119), eA (D, ct, ad, sa, l) 3) : Nat × va_E) = (ad 119, el (D, ct, ad, sa, l) h0 119 (.inl 3)) := by
  show _ = ((ad 119, .inl (ct 0, 3, .inl (h0 119))) : Nat × va_E)
  rw [h0_119]
theorem h0_120 : h0 120 = fun _ => 0 := (if_neg (by decide)).trans ((if_neg (by decide)).trans (if_neg (by decide)))
theorem wc_120 (D : va_G) (ct : Nat → ClassId) (ad sa : Nat → Nat) (l : Launch) : (((ad 120), eA (D, ct, ad, sa, l) 3) : Nat × va_E) = (ad 120, el (D, ct, ad, sa, l) h0 120 (.inl 3)) := by
  show _ = ((ad 120, .inl (ct 0, 3, .inl (h0 120))) : Nat × va_E)
  rw [h0_120]
theorem h0_121 : h0 121 = fun _ => 0 := (if_neg (by decide)).trans ((if_neg (by decide)).trans (if_neg (by decide)))
theorem wc_121 (D : va_G) (ct : Nat → ClassId) (ad sa : Nat → Nat) (l : Launch) : (((ad 121), eA (D, ct, ad, sa, l) 40) : Nat × va_E) = (ad 121, el (D, ct, ad, sa, l) h0 121 (.inl 40)) := by
  show _ = ((ad 121, .inl (ct 0, 40, .inl (h0 121))) : Nat × va_E)
  rw [h0_121]
theorem h0_122 : h0 122 = fun _ => 0 := (if_neg (by decide)).trans ((if_neg (by decide)).trans (if_neg (by decide)))
theorem wc_122 (D : va_G) (ct : Nat → ClassId) (ad sa : Nat → Nat) (l : Launch) : (((ad 122), eA (D, ct, ad, sa, l) 4) : Nat × va_E) = (ad 122, el (D, ct, ad, sa, l) h0 122 (.inl 4)) := by
  show _ = ((ad 122, .inl (ct 0, 4, .inl (h0 122))) : Nat × va_E)
  rw [h0_122]
theorem h0_123 : h0 123 = fun _ => 0 := (if_neg (by decide)).trans ((if_neg (by decide)).trans (if_neg (by decide)))
theorem wc_123 (D : va_G) (ct : Nat → ClassId) (ad sa : Nat → Nat) (l : Launch) : (((ad 123), eA (D, ct, ad, sa, l) 4) : Nat × va_E) = (ad 123, el (D, ct, ad, sa, l) h0 123 (.inl 4)) := by
  show _ = ((ad 123, .inl (ct 0, 4, .inl (h0 123))) : Nat × va_E)
  rw [h0_123]
theorem h0_124 : h0 124 = fun _ => 0 := (if_neg (by decide)).trans ((if_neg (by decide)).trans (if_neg (by decide)))
theorem wc_124 (D : va_G) (ct : Nat → ClassId) (ad sa : Nat → Nat) (l : Launch) : (((ad 124), eA (D, ct, ad, sa, l) 160) : Nat × va_E) = (ad 124, el (D, ct, ad, sa, l) h0 124 (.inl 160)) := by
  show _ = ((ad 124, .inl (ct 0, 160, .inl (h0 124))) : Nat × va_E)
  rw [h0_124]
theorem h0_125 : h0 125 = fun _ => 0 := (if_neg (by decide)).trans ((if_neg (by decide)).trans (if_neg (by decide)))
theorem wc_125 (D : va_G) (ct : Nat → ClassId) (ad sa : Nat → Nat) (l : Launch) : (((ad 125), eA (D, ct, ad, sa, l) 40) : Nat × va_E) = (ad 125, el (D, ct, ad, sa, l) h0 125 (.inl 40)) := by
  show _ = ((ad 125, .inl (ct 0, 40, .inl (h0 125))) : Nat × va_E)
  rw [h0_125]
/-- the places one behind the other -/
def clr (γ : Gm) (h : Hp) : Nat → List Sh → va_W
  | _, [] => []
  | k, S :: r => (γ.2.2.1 k, el γ h k S) :: clr γ h (k + 1) r
theorem clr_map (γ : Gm) (h : Hp) : ∀ (r : List Sh) (k : Nat), r.mapIdx (fun p S => (γ.2.2.1 (k + p), el γ h (k + p) S)) = clr γ h k r
  | [], _ => rfl
  | S :: r, k => by
    rw [List.mapIdx_cons]
    have e1 : (r.mapIdx fun i a => (fun p S => ((γ.2.2.1 (k + p), el γ h (k + p) S) : Nat × va_E)) (i + 1) a) = r.mapIdx (fun p S => (γ.2.2.1 (k + 1 + p), el γ h (k + 1 + p) S)) := by
      refine congrArg (fun g => List.mapIdx g r) (funext fun p => funext fun S => ?_)
      show ((γ.2.2.1 (k + (p + 1)), el γ h (k + (p + 1)) S) : Nat × va_E) = (γ.2.2.1 (k + 1 + p), el γ h (k + 1 + p) S)
      rw [show k + (p + 1) = k + 1 + p by omega]
    rw [e1, clr_map γ h r (k + 1)]
    rfl
set_option maxRecDepth 100000 in
set_option maxHeartbeats 8000000 in
theorem ws_cells (D : va_G) (ct : Nat → ClassId) (ad sa : Nat → Nat) (l : Launch) : [((ad 0), .inr (8, [.ref (ad 1), .ref (ad 48), .ref (ad 95), .ref (ad 100), .ref (ad 103), .ref (ad 105), .ref (ad 113), .int 0])), ((ad 1), .inr (7, [.ref (ad 2), .ref (ad 3), .ref (ad 4), .ref (ad 5), .ref (ad 6), .ref (ad 9), .ref (ad 12), .ref (ad 13), .ref (ad 14), .ref (ad 15), .int 0, .int 0, .int 0, .int 0, .int 0, .int 0, .int 1])), ((ad 2), eA (D, ct, ad, sa, l) 60), ((ad 3), eR (D, ct, ad, sa, l) 1 10 (fun j : Nat => (([16, 18, 20, 22, 24, 26, 28, 30, 32, 34] : List Nat)[j]?).map ad)), ((ad 4), eR (D, ct, ad, sa, l) 2 6 (fun j : Nat => (([36, 38, 40, 42, 44, 46] : List Nat)[j]?).map ad)), ((ad 5), eA (D, ct, ad, sa, l) 50), ((ad 6), .inr (5, [.ref (ad 7), .ref (ad 8), .int 0])), ((ad 7), eA (D, ct, ad, sa, l) 50), ((ad 8), eA (D, ct, ad, sa, l) 50), ((ad 9), .inr (5, [.ref (ad 10), .ref (ad 11), .int 0])), ((ad 10), eA (D, ct, ad, sa, l) 50), ((ad 11), eA (D, ct, ad, sa, l) 50), ((ad 12), eA (D, ct, ad, sa, l) 16), ((ad 13), eA (D, ct, ad, sa, l) 20), ((ad 14), eA (D, ct, ad, sa, l) 6), ((ad 15), eA (D, ct, ad, sa, l) 6), ((ad 16), .inr (6, [.ref (ad 17), .int 0, .int 0, .int 0])), ((ad 17), eA (D, ct, ad, sa, l) 5), ((ad 18), .inr (6, [.ref (ad 19), .int 0, .int 0, .int 0])), ((ad 19), eA (D, ct, ad, sa, l) 5), ((ad 20), .inr (6, [.ref (ad 21), .int 0, .int 0, .int 0])), ((ad 21), eA (D, ct, ad, sa, l) 5), ((ad 22), .inr (6, [.ref (ad 23), .int 0, .int 0, .int 0])), ((ad 23), eA (D, ct, ad, sa, l) 5), ((ad 24), .inr (6, [.ref (ad 25), .int 0, .int 0, .int 0])), ((ad 25), eA (D, ct, ad, sa, l) 5), ((ad 26), .inr (6, [.ref (ad 27), .int 0, .int 0, .int 0])), ((ad 27), eA (D, ct, ad, sa, l) 5), ((ad 28), .inr (6, [.ref (ad 29), .int 0, .int 0, .int 0])), ((ad 29), eA (D, ct, ad, sa, l) 5), ((ad 30), .inr (6, [.ref (ad 31), .int 0, .int 0, .int 0])), ((ad 31), eA (D, ct, ad, sa, l) 5), ((ad 32), .inr (6, [.ref (ad 33), .int 0, .int 0, .int 0])), ((ad 33), eA (D, ct, ad, sa, l) 5), ((ad 34), .inr (6, [.ref (ad 35), .int 0, .int 0, .int 0])), ((ad 35), eA (D, ct, ad, sa, l) 5), ((ad 36), .inr (0, [.ref (ad 37), .int 0, .int 0, .int 0, .int 0, .int 1, .int 0])), ((ad 37), eA (D, ct, ad, sa, l) 3), ((ad 38), .inr (0, [.ref (ad 39), .int 0, .int 0, .int 0, .int 0, .int 1, .int 0])), ((ad 39), eA (D, ct, ad, sa, l) 3), ((ad 40), .inr (0, [.ref (ad 41), .int 0, .int 0, .int 0, .int 0, .int 1, .int 0])), ((ad 41), eA (D, ct, ad, sa, l) 3), ((ad 42), .inr (0, [.ref (ad 43), .int 0, .int 0, .int 0, .int 0, .int 1, .int 0])), ((ad 43), eA (D, ct, ad, sa, l) 3), ((ad 44), .inr (0, [.ref (ad 45), .int 0, .int 0, .int 0, .int 0, .int 1, .int 0])), ((ad 45), eA (D, ct, ad, sa, l) 3), ((ad 46), .inr (0, [.ref (ad 47), .int 0, .int 0, .int 0, .int 0, .int 1, .int 0])), ((ad 47), eA (D, ct, ad, sa, l) 3), ((ad 48), .inr (7, [.ref (ad 49), .ref (ad 50), .ref (ad 51), .ref (ad 52), .ref (ad 53), .ref (ad 56), .ref (ad 59), .ref (ad 60), .ref (ad 61), .ref (ad 62), .int 0, .int 0, .int 0, .int 0, .int 0, .int 0, .int 1])), ((ad 49), eA (D, ct, ad, sa, l) 60), ((ad 50), eR (D, ct, ad, sa, l) 1 10 (fun j : Nat => (([63, 65, 67, 69, 71, 73, 75, 77, 79, 81] : List Nat)[j]?).map ad)), ((ad 51), eR (D, ct, ad, sa, l) 2 6 (fun j : Nat => (([83, 85, 87, 89, 91, 93] : List Nat)[j]?).map ad)), ((ad 52), eA (D, ct, ad, sa, l) 50), ((ad 53), .inr (5, [.ref (ad 54), .ref (ad 55), .int 0])), ((ad 54), eA (D, ct, ad, sa, l) 50), ((ad 55), eA (D, ct, ad, sa, l) 50), ((ad 56), .inr (5, [.ref (ad 57), .ref (ad 58), .int 0])), ((ad 57), eA (D, ct, ad, sa, l) 50), ((ad 58), eA (D, ct, ad, sa, l) 50), ((ad 59), eA (D, ct, ad, sa, l) 16), ((ad 60), eA (D, ct, ad, sa, l) 20), ((ad 61), eA (D, ct, ad, sa, l) 6), ((ad 62), eA (D, ct, ad, sa, l) 6), ((ad 63), .inr (6, [.ref (ad 64), .int 0, .int 0, .int 0])), ((ad 64), eA (D, ct, ad, sa, l) 5), ((ad 65), .inr (6, [.ref (ad 66), .int 0, .int 0, .int 0])), ((ad 66), eA (D, ct, ad, sa, l) 5), ((ad 67), .inr (6, [.ref (ad 68), .int 0, .int 0, .int 0])), ((ad 68), eA (D, ct, ad, sa, l) 5), ((ad 69), .inr (6, [.ref (ad 70), .int 0, .int 0, .int 0])), ((ad 70), eA (D, ct, ad, sa, l) 5), ((ad 71), .inr (6, [.ref (ad 72), .int 0, .int 0, .int 0])), ((ad 72), eA (D, ct, ad, sa, l) 5), ((ad 73), .inr (6, [.ref (ad 74), .int 0, .int 0, .int 0])), ((ad 74), eA (D, ct, ad, sa, l) 5), ((ad 75), .inr (6, [.ref (ad 76), .int 0, .int 0, .int 0])), ((ad 76), eA (D, ct, ad, sa, l) 5), ((ad 77), .inr (6, [.ref (ad 78), .int 0, .int 0, .int 0])), ((ad 78), eA (D, ct, ad, sa, l) 5), ((ad 79), .inr (6, [.ref (ad 80), .int 0, .int 0, .int 0])), ((ad 80), eA (D, ct, ad, sa, l) 5), ((ad 81), .inr (6, [.ref (ad 82), .int 0, .int 0, .int 0])), ((ad 82), eA (D, ct, ad, sa, l) 5), ((ad 83), .inr (0, [.ref (ad 84), .int 0, .int 0, .int 0, .int 0, .int 1, .int 0])), ((ad 84), eA (D, ct, ad, sa, l) 3), ((ad 85), .inr (0, [.ref (ad 86), .int 0, .int 0, .int 0, .int 0, .int 1, .int 0])), ((ad 86), eA (D, ct, ad, sa, l) 3), ((ad 87), .inr (0, [.ref (ad 88), .int 0, .int 0, .int 0, .int 0, .int 1, .int 0])), ((ad 88), eA (D, ct, ad, sa, l) 3), ((ad 89), .inr (0, [.ref (ad 90), .int 0, .int 0, .int 0, .int 0, .int 1, .int 0])), ((ad 90), eA (D, ct, ad, sa, l) 3), ((ad 91), .inr (0, [.ref (ad 92), .int 0, .int 0, .int 0, .int 0, .int 1, .int 0])), ((ad 92), eA (D, ct, ad, sa, l) 3), ((ad 93), .inr (0, [.ref (ad 94), .int 0, .int 0, .int 0, .int 0, .int 1, .int 0])), ((ad 94), eA (D, ct, ad, sa, l) 3), ((ad 95), .inr (2, [.ref (ad 1), .ref (ad 96), .ref (ad 97), .ref (ad 98), .ref (ad 99), .int 0, .int 0, .int 0])), ((ad 96), eA (D, ct, ad, sa, l) 45), ((ad 97), eA (D, ct, ad, sa, l) 150), ((ad 98), eA (D, ct, ad, sa, l) 3), ((ad 99), eA (D, ct, ad, sa, l) 3), ((ad 100), .inr (1, [.ref (ad 101), .int 0, .ref (ad 102), .int 0, .int 0, .int 0, .int 0])), ((ad 101), eA (D, ct, ad, sa, l) 50), ((ad 102), eA (D, ct, ad, sa, l) 50), ((ad 103), .inr (4, [.ref (ad 104), .int 0, .int 0, .int 0, .int 0])), ((ad 104), eA (D, ct, ad, sa, l) 40), ((ad 105), .inr (3, [.ref (ad 106), .ref (ad 107), .ref (ad 108)])), ((ad 106), eA (D, ct, ad, sa, l) 4), ((ad 107), eA (D, ct, ad, sa, l) 4), ((ad 108), eR (D, ct, ad, sa, l) 3 4 (fun j : Nat => (([109, 110, 111, 112] : List Nat)[j]?).map ad)), ((ad 109), eA (D, ct, ad, sa, l) 40), ((ad 110), eA (D, ct, ad, sa, l) 40), ((ad 111), eA (D, ct, ad, sa, l) 40), ((ad 112), eA (D, ct, ad, sa, l) 40), ((ad 113), eA (D, ct, ad, sa, l) 6), ((ad 114), .inr (9, [.ref (ad 115), .ref (ad 116), .int 0, .ref (ad 117), .int 0, .int 0, .int 0, .int 0, .int 0, .int 0, .ref (ad 118), .int 0, .ref (ad 119), .int 0, .int 0, .ref (ad 120), .int 0, .int 0, .ref (ad 121), .int 0, .int 0, .ref (ad 122), .ref (ad 123), .ref (ad 124), .ref (ad 125)])), ((ad 115), .inl (ct 0, 380, .inl (upd (fun _ => 0) 4 1))), ((ad 116), eA (D, ct, ad, sa, l) 380), ((ad 117), eA (D, ct, ad, sa, l) 6), ((ad 118), eA (D, ct, ad, sa, l) 3), ((ad 119), eA (D, ct, ad, sa, l) 3), ((ad 120), eA (D, ct, ad, sa, l) 3), ((ad 121), eA (D, ct, ad, sa, l) 40), ((ad 122), eA (D, ct, ad, sa, l) 4), ((ad 123), eA (D, ct, ad, sa, l) 4), ((ad 124), eA (D, ct, ad, sa, l) 160), ((ad 125), eA (D, ct, ad, sa, l) 40)] = cells (D, ct, ad, sa, l) h0 := by
  have e1 : cells (D, ct, ad, sa, l) h0 = clr (D, ct, ad, sa, l) h0 0 shs := by
    rw [← clr_map]
    simp only [cells, Nat.zero_add]
  rw [e1]
  exact congr (congrArg List.cons (wc_0 D ct ad sa l)) (congr (congrArg List.cons (wc_1 D ct ad sa l)) (congr (congrArg List.cons (wc_2 D ct ad sa l)) (congr (congrArg List.cons (wc_3 D ct ad sa l)) (congr (congrArg List.cons (wc_4 D ct ad sa l)) (congr (congrArg List.cons (wc_5 D ct ad sa l)) (congr (congrArg List.cons (wc_6 D ct ad sa l)) (congr (congrArg List.cons (wc_7 D ct ad sa l)) (congr (congrArg List.cons (wc_8 D ct ad sa l)) (congr (congrArg List.cons (wc_9 D ct ad sa l)) (congr (congrArg List.cons (wc_10 D ct ad sa l)) (congr (congrArg List.cons (wc_11 D ct ad sa l)) (congr (congrArg List.cons (wc_12 D ct ad sa l)) (congr (congrArg List.cons (wc_13 D ct ad sa l)) (congr (congrArg List.cons (wc_14 D ct ad sa l)) (congr (congrArg List.cons (wc_15 D ct ad sa l)) (congr (congrArg List.cons (wc_16 D ct ad sa l)) (congr (congrArg List.cons (wc_17 D ct ad sa l)) (congr (congrArg List.cons (wc_18 D ct ad sa l)) (congr (congrArg List.cons (wc_19 D ct ad sa l)) (congr (congrArg List.cons (wc_20 D ct ad sa l)) (congr (congrArg List.cons (wc_21 D ct ad sa l)) (congr (congrArg List.cons (wc_22 D ct ad sa l)) (congr (congrArg List.cons (wc_23 D ct ad sa l)) (congr (congrArg List.cons (wc_24 D ct ad sa l)) (congr (congrArg List.cons (wc_25 D ct ad sa l)) (congr (congrArg List.cons (wc_26 D ct ad sa l)) (congr (congrArg List.cons (wc_27 D ct ad sa l)) (congr (congrArg List.cons (wc_28 D ct ad sa l)) (congr (congrArg List.cons (wc_29 D ct ad sa l)) (congr (congrArg List.cons (wc_30 D ct ad sa l)) (congr (congrArg List.cons (wc_31 D ct ad sa l)) (congr (congrArg List.cons (wc_32 D ct ad sa l)) (congr (congrArg List.cons (wc_33 D ct ad sa l)) (congr (congrArg List.cons (wc_34 D ct ad sa l)) (congr (congrArg List.cons (wc_35 D ct ad sa l)) (congr (congrArg List.cons (wc_36 D ct ad sa l)) (congr (congrArg List.cons (wc_37 D ct ad sa l)) (congr (congrArg List.cons (wc_38 D ct ad sa l)) (congr (congrArg List.cons (wc_39 D ct ad sa l)) (congr (congrArg List.cons (wc_40 D ct ad sa l)) (congr (congrArg List.cons (wc_41 D ct ad sa l)) (congr (congrArg List.cons (wc_42 D ct ad sa l)) (congr (congrArg List.cons (wc_43 D ct ad sa l)) (congr (congrArg List.cons (wc_44 D ct ad sa l)) (congr (congrArg List.cons (wc_45 D ct ad sa l)) (congr (congrArg List.cons (wc_46 D ct ad sa l)) (congr (congrArg List.cons (wc_47 D ct ad sa l)) (congr (congrArg List.cons (wc_48 D ct ad sa l)) (congr (congrArg List.cons (wc_49 D ct ad sa l)) (congr (congrArg List.cons (wc_50 D ct ad sa l)) (congr (congrArg List.cons (wc_51 D ct ad sa l)) (congr (congrArg List.cons (wc_52 D ct ad sa l)) (congr (congrArg List.cons (wc_53 D ct ad sa l)) (congr (congrArg List.cons (wc_54 D ct ad sa l)) (congr (congrArg List.cons (wc_55 D ct ad sa l)) (congr (congrArg List.cons (wc_56 D ct ad sa l)) (congr (congrArg List.cons (wc_57 D ct ad sa l)) (congr (congrArg List.cons (wc_58 D ct ad sa l)) (congr (congrArg List.cons (wc_59 D ct ad sa l)) (congr (congrArg List.cons (wc_60 D ct ad sa l)) (congr (congrArg List.cons (wc_61 D ct ad sa l)) (congr (congrArg List.cons (wc_62 D ct ad sa l)) (congr (congrArg List.cons (wc_63 D ct ad sa l)) (congr (congrArg List.cons (wc_64 D ct ad sa l)) (congr (congrArg List.cons (wc_65 D ct ad sa l)) (congr (congrArg List.cons (wc_66 D ct ad sa l)) (congr (congrArg List.cons (wc_67 D ct ad sa l)) (congr (congrArg List.cons (wc_68 D ct ad sa l)) (congr (congrArg List.cons (wc_69 D ct ad sa l)) (congr (congrArg List.cons (wc_70 D ct ad sa l)) (congr (congrArg List.cons (wc_71 D ct ad sa l)) (congr (congrArg List.cons (wc_72 D ct ad sa l)) (congr (congrArg List.cons (wc_73 D ct ad sa l)) (congr (congrArg List.cons (wc_74 D ct ad sa l)) (congr (congrArg List.cons (wc_75 D ct ad sa l)) (congr (congrArg List.cons (wc_76 D ct ad sa l)) (congr (congrArg List.cons (wc_77 D ct ad sa l)) (congr (congrArg List.cons (wc_78 D ct ad sa l)) (congr (congrArg List.cons (wc_79 D ct ad sa l)) (congr (congrArg List.cons (wc_80 D ct ad sa l)) (congr (congrArg List.cons (wc_81 D ct ad sa l)) (congr (congrArg List.cons (wc_82 D ct ad sa l)) (congr (congrArg List.cons (wc_83 D ct ad sa l)) (congr (congrArg List.cons (wc_84 D ct ad sa l)) (congr (congrArg List.cons (wc_85 D ct ad sa l)) (congr (congrArg List.cons (wc_86 D ct ad sa l)) (congr (congrArg List.cons (wc_87 D ct ad sa l)) (congr (congrArg List.cons (wc_88 D ct ad sa l)) (congr (congrArg List.cons (wc_89 D ct ad sa l)) (congr (congrArg List.cons (wc_90 D ct ad sa l)) (congr (congrArg List.cons (wc_91 D ct ad sa l)) (congr (congrArg List.cons (wc_92 D ct ad sa l)) (congr (congrArg List.cons (wc_93 D ct ad sa l)) (congr (congrArg List.cons (wc_94 D ct ad sa l)) (congr (congrArg List.cons (wc_95 D ct ad sa l)) (congr (congrArg List.cons (wc_96 D ct ad sa l)) (congr (congrArg List.cons (wc_97 D ct ad sa l)) (congr (congrArg List.cons (wc_98 D ct ad sa l)) (congr (congrArg List.cons (wc_99 D ct ad sa l)) (congr (congrArg List.cons (wc_100 D ct ad sa l)) (congr (congrArg List.cons (wc_101 D ct ad sa l)) (congr (congrArg List.cons (wc_102 D ct ad sa l)) (congr (congrArg List.cons (wc_103 D ct ad sa l)) (congr (congrArg List.cons (wc_104 D ct ad sa l)) (congr (congrArg List.cons (wc_105 D ct ad sa l)) (congr (congrArg List.cons (wc_106 D ct ad sa l)) (congr (congrArg List.cons (wc_107 D ct ad sa l)) (congr (congrArg List.cons (wc_108 D ct ad sa l)) (congr (congrArg List.cons (wc_109 D ct ad sa l)) (congr (congrArg List.cons (wc_110 D ct ad sa l)) (congr (congrArg List.cons (wc_111 D ct ad sa l)) (congr (congrArg List.cons (wc_112 D ct ad sa l)) (congr (congrArg List.cons (wc_113 D ct ad sa l)) (congr (congrArg List.cons (wc_114 D ct ad sa l)) (congr (congrArg List.cons (wc_115 D ct ad sa l)) (congr (congrArg List.cons (wc_116 D ct ad sa l)) (congr (congrArg List.cons (wc_117 D ct ad sa l)) (congr (congrArg List.cons (wc_118 D ct ad sa l)) (congr (congrArg List.cons (wc_119 D ct ad sa l)) (congr (congrArg List.cons (wc_120 D ct ad sa l)) (congr (congrArg List.cons (wc_121 D ct ad sa l)) (congr (congrArg List.cons (wc_122 D ct ad sa l)) (congr (congrArg List.cons (wc_123 D ct ad sa l)) (congr (congrArg List.cons (wc_124 D ct ad sa l)) (congr (congrArg List.cons (wc_125 D ct ad sa l)) (rfl))))))))))))))))))))))))))))))))))))))))))))))))))))))))))))))))))))))))))))))))))))))))))))))))))))))))))))))))))))))))))))))
set_option maxRecDepth 100000 in
set_option maxHeartbeats 8000000 in
theorem ws_final (D : va_G) (ct : Nat → ClassId) (ad sa : Nat → Nat) (l : Launch) {fS : Nat → Option Nat} (hfS : ∀ j, fS j = ([ad 109, ad 110, ad 111, ad 112][j]?)) {γ : Gm} (eγ : γ = (D, ct, (fun _ => 0), sa, l)) : [(ad 0, .inr (8, [.ref (ad 1), .ref (ad 48), .ref (ad 95), .ref (ad 100), .ref (ad 103), .ref (ad 105), .ref (ad 113), .int 0])), (ad 1, .inr (7, [.ref (ad 2), .ref (ad 3), .ref (ad 4), .ref (ad 5), .ref (ad 6), .ref (ad 9), .ref (ad 12), .ref (ad 13), .ref (ad 14), .ref (ad 15), .int 0, .int 0, .int 0, .int 0, .int 0, .int 0, .int 1])), (ad 2, eA γ 60), (ad 3, eR γ 1 10 (va_up (va_up (va_up (va_up (va_up (va_up (va_up (va_up (va_up (va_up (fun _ => none) 0 (some (ad 16))) 1 (some (ad 18))) 2 (some (ad 20))) 3 (some (ad 22))) 4 (some (ad 24))) 5 (some (ad 26))) 6 (some (ad 28))) 7 (some (ad 30))) 8 (some (ad 32))) 9 (some (ad 34)))), (ad 4, eR γ 2 6 (va_up (va_up (va_up (va_up (va_up (va_up (fun _ => none) 0 (some (ad 36))) 1 (some (ad 38))) 2 (some (ad 40))) 3 (some (ad 42))) 4 (some (ad 44))) 5 (some (ad 46)))), (ad 5, eA γ 50), (ad 6, .inr (5, [.ref (ad 7), .ref (ad 8), .int 0])), (ad 7, eA γ 50), (ad 8, eA γ 50), (ad 9, .inr (5, [.ref (ad 10), .ref (ad 11), .int 0])), (ad 10, eA γ 50), (ad 11, eA γ 50), (ad 12, eA γ 16), (ad 13, eA γ 20), (ad 14, eA γ 6), (ad 15, eA γ 6), (ad 16, .inr (6, [.ref (ad 17), .int 0, .int 0, .int 0])), (ad 17, eA γ 5), (ad 18, .inr (6, [.ref (ad 19), .int 0, .int 0, .int 0])), (ad 19, eA γ 5), (ad 20, .inr (6, [.ref (ad 21), .int 0, .int 0, .int 0])), (ad 21, eA γ 5), (ad 22, .inr (6, [.ref (ad 23), .int 0, .int 0, .int 0])), (ad 23, eA γ 5), (ad 24, .inr (6, [.ref (ad 25), .int 0, .int 0, .int 0])), (ad 25, eA γ 5), (ad 26, .inr (6, [.ref (ad 27), .int 0, .int 0, .int 0])), (ad 27, eA γ 5), (ad 28, .inr (6, [.ref (ad 29), .int 0, .int 0, .int 0])), (ad 29, eA γ 5), (ad 30, .inr (6, [.ref (ad 31), .int 0, .int 0, .int 0])), (ad 31, eA γ 5), (ad 32, .inr (6, [.ref (ad 33), .int 0, .int 0, .int 0])), (ad 33, eA γ 5), (ad 34, .inr (6, [.ref (ad 35), .int 0, .int 0, .int 0])), (ad 35, eA γ 5), (ad 36, .inr (0, [.ref (ad 37), .int 0, .int 0, .int 0, .int 0, .int 1, .int 0])), (ad 37, eA γ 3), (ad 38, .inr (0, [.ref (ad 39), .int 0, .int 0, .int 0, .int 0, .int 1, .int 0])), (ad 39, eA γ 3), (ad 40, .inr (0, [.ref (ad 41), .int 0, .int 0, .int 0, .int 0, .int 1, .int 0])), (ad 41, eA γ 3), (ad 42, .inr (0, [.ref (ad 43), .int 0, .int 0, .int 0, .int 0, .int 1, .int 0])), (ad 43, eA γ 3), (ad 44, .inr (0, [.ref (ad 45), .int 0, .int 0, .int 0, .int 0, .int 1, .int 0])), (ad 45, eA γ 3), (ad 46, .inr (0, [.ref (ad 47), .int 0, .int 0, .int 0, .int 0, .int 1, .int 0])), (ad 47, eA γ 3), (ad 48, .inr (7, [.ref (ad 49), .ref (ad 50), .ref (ad 51), .ref (ad 52), .ref (ad 53), .ref (ad 56), .ref (ad 59), .ref (ad 60), .ref (ad 61), .ref (ad 62), .int 0, .int 0, .int 0, .int 0, .int 0, .int 0, .int 1])), (ad 49, eA γ 60), (ad 50, eR γ 1 10 (va_up (va_up (va_up (va_up (va_up (va_up (va_up (va_up (va_up (va_up (fun _ => none) 0 (some (ad 63))) 1 (some (ad 65))) 2 (some (ad 67))) 3 (some (ad 69))) 4 (some (ad 71))) 5 (some (ad 73))) 6 (some (ad 75))) 7 (some (ad 77))) 8 (some (ad 79))) 9 (some (ad 81)))), (ad 51, eR γ 2 6 (va_up (va_up (va_up (va_up (va_up (va_up (fun _ => none) 0 (some (ad 83))) 1 (some (ad 85))) 2 (some (ad 87))) 3 (some (ad 89))) 4 (some (ad 91))) 5 (some (ad 93)))), (ad 52, eA γ 50), (ad 53, .inr (5, [.ref (ad 54), .ref (ad 55), .int 0])), (ad 54, eA γ 50), (ad 55, eA γ 50), (ad 56, .inr (5, [.ref (ad 57), .ref (ad 58), .int 0])), (ad 57, eA γ 50), (ad 58, eA γ 50), (ad 59, eA γ 16), (ad 60, eA γ 20), (ad 61, eA γ 6), (ad 62, eA γ 6), (ad 63, .inr (6, [.ref (ad 64), .int 0, .int 0, .int 0])), (ad 64, eA γ 5), (ad 65, .inr (6, [.ref (ad 66), .int 0, .int 0, .int 0])), (ad 66, eA γ 5), (ad 67, .inr (6, [.ref (ad 68), .int 0, .int 0, .int 0])), (ad 68, eA γ 5), (ad 69, .inr (6, [.ref (ad 70), .int 0, .int 0, .int 0])), (ad 70, eA γ 5), (ad 71, .inr (6, [.ref (ad 72), .int 0, .int 0, .int 0])), (ad 72, eA γ 5), (ad 73, .inr (6, [.ref (ad 74), .int 0, .int 0, .int 0])), (ad 74, eA γ 5), (ad 75, .inr (6, [.ref (ad 76), .int 0, .int 0, .int 0])), (ad 76, eA γ 5), (ad 77, .inr (6, [.ref (ad 78), .int 0, .int 0, .int 0])), (ad 78, eA γ 5), (ad 79, .inr (6, [.ref (ad 80), .int 0, .int 0, .int 0])), (ad 80, eA γ 5), (ad 81, .inr (6, [.ref (ad 82), .int 0, .int 0, .int 0])), (ad 82, eA γ 5), (ad 83, .inr (0, [.ref (ad 84), .int 0, .int 0, .int 0, .int 0, .int 1, .int 0])), (ad 84, eA γ 3), (ad 85, .inr (0, [.ref (ad 86), .int 0, .int 0, .int 0, .int 0, .int 1, .int 0])), (ad 86, eA γ 3), (ad 87, .inr (0, [.ref (ad 88), .int 0, .int 0, .int 0, .int 0, .int 1, .int 0])), (ad 88, eA γ 3), (ad 89, .inr (0, [.ref (ad 90), .int 0, .int 0, .int 0, .int 0, .int 1, .int 0])), (ad 90, eA γ 3), (ad 91, .inr (0, [.ref (ad 92), .int 0, .int 0, .int 0, .int 0, .int 1, .int 0])), (ad 92, eA γ 3), (ad 93, .inr (0, [.ref (ad 94), .int 0, .int 0, .int 0, .int 0, .int 1, .int 0])), (ad 94, eA γ 3), (ad 95, .inr (2, [.ref (ad 1), .ref (ad 96), .ref (ad 97), .ref (ad 98), .ref (ad 99), .int 0, .int 0, .int 0])), (ad 96, eA γ 45), (ad 97, eA γ 150), (ad 98, eA γ 3), (ad 99, eA γ 3), (ad 100, .inr (1, [.ref (ad 101), .int 0, .ref (ad 102), .int 0, .int 0, .int 0, .int 0])), (ad 101, eA γ 50), (ad 102, eA γ 50), (ad 103, .inr (4, [.ref (ad 104), .int 0, .int 0, .int 0, .int 0])), (ad 104, eA γ 40), (ad 105, .inr (3, [.ref (ad 106), .ref (ad 107), .ref (ad 108)])), (ad 106, eA γ 4), (ad 107, eA γ 4), (ad 108, eR γ 3 4 fS), (ad 109, eA γ 40), (ad 110, eA γ 40), (ad 111, eA γ 40), (ad 112, eA γ 40), (ad 113, eA γ 6), (ad 114, .inr (9, [.ref (ad 115), .ref (ad 116), .int 0, .ref (ad 117), .int 0, .int 0, .int 0, .int 0, .int 0, .int 0, .ref (ad 118), .int 0, .ref (ad 119), .int 0, .int 0, .ref (ad 120), .int 0, .int 0, .ref (ad 121), .int 0, .int 0, .ref (ad 122), .ref (ad 123), .ref (ad 124), .ref (ad 125)])), (ad 115, .inl (γ.2.1 0, 380, .inl (upd (fun _ => 0) 4 1))), (ad 116, eA γ 380), (ad 117, eA γ 6), (ad 118, eA γ 3), (ad 119, eA γ 3), (ad 120, eA γ 3), (ad 121, eA γ 40), (ad 122, eA γ 4), (ad 123, eA γ 4), (ad 124, eA γ 160), (ad 125, eA γ 40)] = cells (D, ct, ad, sa, l) h0 := by
  subst eγ
  refine Eq.trans ?_ (ws_cells D ct ad sa l)
  have mapj : ∀ (j : Nat), ([ad 109, ad 110, ad 111, ad 112][j]?) = (([109, 110, 111, 112] : List Nat)[j]?).map ad := by
    intro j
    match j with
    | 0 => rfl
    | 1 => rfl
    | 2 => rfl
    | 3 => rfl
    | k + 4 => rfl
  exact congr (congrArg List.cons rfl) (congr (congrArg List.cons rfl) (congr (congrArg List.cons rfl) (congr (congrArg List.cons (congrArg (fun f => ((ad 3, eR (D, ct, ad, sa, l) 1 10 f) : Nat × va_E)) (ups10 ad 16 18 20 22 24 26 28 30 32 34))) (congr (congrArg List.cons (congrArg (fun f => ((ad 4, eR (D, ct, ad, sa, l) 2 6 f) : Nat × va_E)) (ups6 ad 36 38 40 42 44 46))) (congr (congrArg List.cons rfl) (congr (congrArg List.cons rfl) (congr (congrArg List.cons rfl) (congr (congrArg List.cons rfl) (congr (congrArg List.cons rfl) (congr (congrArg List.cons rfl) (congr (congrArg List.cons rfl) (congr (congrArg List.cons rfl) (congr (congrArg List.cons rfl) (congr (congrArg List.cons rfl) (congr (congrArg List.cons rfl) (congr (congrArg List.cons rfl) (congr (congrArg List.cons rfl) (congr (congrArg List.cons rfl) (congr (congrArg List.cons rfl) (congr (congrArg List.cons rfl) (congr (congrArg List.cons rfl) (congr (congrArg List.cons rfl) (congr (congrArg List.cons rfl) (congr (congrArg List.cons rfl) (congr (congrArg List.cons rfl) (congr (congrArg List.cons rfl) (congr (congrArg List.cons rfl) (congr (congrArg List.cons rfl) (congr (congrArg List.cons rfl) (congr (congrArg List.cons rfl) (congr (congrArg List.cons rfl) (congr (congrArg List.cons rfl) (congr (congrArg List.cons rfl) (congr (congrArg List.cons rfl) (congr (congrArg List.cons rfl) (congr (congrArg List.cons rfl) (congr (congrArg List.cons rfl) (congr (congrArg List.cons rfl) (congr (congrArg List.cons rfl) (congr (congrArg List.cons rfl) (congr (congrArg List.cons rfl) (congr (congrArg List.cons rfl) (congr (congrArg List.cons rfl) (congr (congrArg List.cons rfl) (congr (congrArg List.cons rfl) (congr (congrArg List.cons rfl) (congr (congrArg List.cons rfl) (congr (congrArg List.cons rfl) (congr (congrArg List.cons rfl) (congr (congrArg List.cons (congrArg (fun f => ((ad 50, eR (D, ct, ad, sa, l) 1 10 f) : Nat × va_E)) (ups10 ad 63 65 67 69 71 73 75 77 79 81))) (congr (congrArg List.cons (congrArg (fun f => ((ad 51, eR (D, ct, ad, sa, l) 2 6 f) : Nat × va_E)) (ups6 ad 83 85 87 89 91 93))) (congr (congrArg List.cons rfl) (congr (congrArg List.cons rfl) (congr (congrArg List.cons rfl) (congr (congrArg List.cons rfl) (congr (congrArg List.cons rfl) (congr (congrArg List.cons rfl) (congr (congrArg List.cons rfl) (congr (congrArg List.cons rfl) (congr (congrArg List.cons rfl) (congr (congrArg List.cons rfl) (congr (congrArg List.cons rfl) (congr (congrArg List.cons rfl) (congr (congrArg List.cons rfl) (congr (congrArg List.cons rfl) (congr (congrArg List.cons rfl) (congr (congrArg List.cons rfl) (congr (congrArg List.cons rfl) (congr (congrArg List.cons rfl) (congr (congrArg List.cons rfl) (congr (congrArg List.cons rfl) (congr (congrArg List.cons rfl) (congr (congrArg List.cons rfl) (congr (congrArg List.cons rfl) (congr (congrArg List.cons rfl) (congr (congrArg List.cons rfl) (congr (congrArg List.cons rfl) (congr (congrArg List.cons rfl) (congr (congrArg List.cons rfl) (congr (congrArg List.cons rfl) (congr (congrArg List.cons rfl) (congr (congrArg List.cons rfl) (congr (congrArg List.cons rfl) (congr (congrArg List.cons rfl) (congr (congrArg List.cons rfl) (congr (congrArg List.cons rfl) (congr (congrArg List.cons rfl) (congr (congrArg List.cons rfl) (congr (congrArg List.cons rfl) (congr (congrArg List.cons rfl) (congr (congrArg List.cons rfl) (congr (congrArg List.cons rfl) (congr (congrArg List.cons rfl) (congr (congrArg List.cons rfl) (congr (congrArg List.cons rfl) (congr (congrArg List.cons rfl) (congr (congrArg List.cons rfl) (congr (congrArg List.cons rfl) (congr (congrArg List.cons rfl) (congr (congrArg List.cons rfl) (congr (congrArg List.cons rfl) (congr (congrArg List.cons rfl) (congr (congrArg List.cons rfl) (congr (congrArg List.cons rfl) (congr (congrArg List.cons rfl) (congr (congrArg List.cons rfl) (congr (congrArg List.cons rfl) (congr (congrArg List.cons (congrArg (fun f => ((ad 108, eR (D, ct, ad, sa, l) 3 4 f) : Nat × va_E)) (funext fun j => (hfS j).trans (mapj j)))) (congr (congrArg List.cons rfl) (congr (congrArg List.cons rfl) (congr (congrArg List.cons rfl) (congr (congrArg List.cons rfl) (congr (congrArg List.cons rfl) (congr (congrArg List.cons rfl) (congr (congrArg List.cons rfl) (congr (congrArg List.cons rfl) (congr (congrArg List.cons rfl) (congr (congrArg List.cons rfl) (congr (congrArg List.cons rfl) (congr (congrArg List.cons rfl) (congr (congrArg List.cons rfl) (congr (congrArg List.cons rfl) (congr (congrArg List.cons rfl) (congr (congrArg List.cons rfl) (congr (congrArg List.cons rfl) (rfl))))))))))))))))))))))))))))))))))))))))))))))))))))))))))))))))))))))))))))))))))))))))))))))))))))))))))))))))))))))))))))))
theorem D_all {γ : Gm} {A : Nat → Prop} {h : Hp} (hD : va_D A (cells γ h)) (g : Hp) : va_D A (cells γ g) := by
  have key : ∀ (k : Nat) (q : Nat × va_E), (cells γ g)[k]? = some q → ∃ q0, (cells γ h)[k]? = some q0 ∧ q0.1 = q.1 := by
    intro k q hk
    simp only [cells, List.getElem?_mapIdx] at hk ⊢
    cases hs : shs[k]? with
    | none => rw [hs] at hk; cases hk
    | some S =>
      rw [hs] at hk
      cases hk
      exact ⟨_, rfl, rfl⟩
  refine ⟨fun i j x y hi hj hxy => ?_, fun k q hk => ?_⟩
  · obtain ⟨x0, h1, h2⟩ := key i x hi
    obtain ⟨y0, h3, h4⟩ := key j y hj
    exact hD.1 i j x0 y0 h1 h3 (h2.trans (hxy.trans h4.symm))
  · obtain ⟨q0, h1, h2⟩ := key k q hk
    rw [← h2]
    exact hD.2 k q0 h1
theorem D_Ac {γ : Gm} {A : Nat → Prop} {h : Hp} (hD : va_D A (cells γ h)) : ∀ q, Ac γ q → A q := by
  rintro q ⟨p, hp, rfl⟩
  have hl : shs.length = 126 := by decide +kernel
  have hs : sh p = some shs[p] := List.getElem?_eq_getElem (by omega)
  exact hD.2 p _ (cells_at γ h hs)
theorem stat0 {args : Array Value} {s : State} {A : Nat → Prop} (hs : ∀ c ∈ flatC (Jvm.Cond.and given_1 narrow_1), c.before args s = true) (hts : ∀ w ∈ lt, w.before args s = true) (hl : (Cond.laysStatic "LipsThatFit" "ABOVE" "[I").before args s = true) (hA : ∀ a : Nat, a < s.heap.size → ¬ A a) : ∃ t : Nat, va_Z "LipsThatFit" "ABOVE" "[I" (.ref t) A s s.heap ∧ va_T .int t 7 (fun j => .int (stv 0 j)) A s s.heap := by
  have harr : (Cond.arrayOf (Term.static "LipsThatFit" "ABOVE" "[I") .int).before args s = true := hs _ (by decide +kernel)
  have hlen : (Cond.eq (Term.length (Term.static "LipsThatFit" "ABOVE" "[I")) (.int 7)).before args s = true := hs _ (by decide +kernel)
  have e0 : (Cond.eq (Term.elem (Term.static "LipsThatFit" "ABOVE" "[I") (.int 0)) (.int (-1))).before args s = true := hs _ (by decide +kernel)
  have e1 : (Cond.eq (Term.elem (Term.static "LipsThatFit" "ABOVE" "[I") (.int 1)) (.int 0)).before args s = true := hs _ (by decide +kernel)
  have e2 : (Cond.eq (Term.elem (Term.static "LipsThatFit" "ABOVE" "[I") (.int 2)) (.int 0)).before args s = true := hs _ (by decide +kernel)
  have e3 : (Cond.eq (Term.elem (Term.static "LipsThatFit" "ABOVE" "[I") (.int 3)) (.int 0)).before args s = true := hs _ (by decide +kernel)
  have e4 : (Cond.eq (Term.elem (Term.static "LipsThatFit" "ABOVE" "[I") (.int 4)) (.int 1)).before args s = true := hs _ (by decide +kernel)
  have e5 : (Cond.eq (Term.elem (Term.static "LipsThatFit" "ABOVE" "[I") (.int 5)) (.int 2)).before args s = true := hs _ (by decide +kernel)
  have e6 : (Cond.eq (Term.elem (Term.static "LipsThatFit" "ABOVE" "[I") (.int 6)) (.int 3)).before args s = true := hs _ (by decide +kernel)
  obtain ⟨t, h1, h2⟩ := va_Tof (N := 7) (f := fun j => .int (stv 0 j)) (by decide) harr (va_eqt hlen) (fun j hj => by
    rcases (show j = 0 ∨ j = 1 ∨ j = 2 ∨ j = 3 ∨ j = 4 ∨ j = 5 ∨ j = 6 by omega) with rfl | rfl | rfl | rfl | rfl | rfl | rfl
    · exact va_eqt e0
    · exact va_eqt e1
    · exact va_eqt e2
    · exact va_eqt e3
    · exact va_eqt e4
    · exact va_eqt e5
    · exact va_eqt e6) hA
  exact ⟨t, va_Zof hl (hts _ (xt_8)) h1 hA, h2⟩
theorem stat1 {args : Array Value} {s : State} {A : Nat → Prop} (hs : ∀ c ∈ flatC (Jvm.Cond.and given_1 narrow_1), c.before args s = true) (hts : ∀ w ∈ lt, w.before args s = true) (hl : (Cond.laysStatic "LipsThatFit$Reader" "NAMES" "[C").before args s = true) (hA : ∀ a : Nat, a < s.heap.size → ¬ A a) : ∃ t : Nat, va_Z "LipsThatFit$Reader" "NAMES" "[C" (.ref t) A s s.heap ∧ va_T .char t 6 (fun j => .int (stv 1 j)) A s s.heap := by
  have harr : (Cond.arrayOf (Term.static "LipsThatFit$Reader" "NAMES" "[C") .char).before args s = true := hs _ (by decide +kernel)
  have hlen : (Cond.eq (Term.length (Term.static "LipsThatFit$Reader" "NAMES" "[C")) (.int 6)).before args s = true := hs _ (by decide +kernel)
  have e0 : (Cond.eq (Term.elem (Term.static "LipsThatFit$Reader" "NAMES" "[C") (.int 0)) (.int 102)).before args s = true := hs _ (by decide +kernel)
  have e1 : (Cond.eq (Term.elem (Term.static "LipsThatFit$Reader" "NAMES" "[C") (.int 1)) (.int 119)).before args s = true := hs _ (by decide +kernel)
  have e2 : (Cond.eq (Term.elem (Term.static "LipsThatFit$Reader" "NAMES" "[C") (.int 2)) (.int 110)).before args s = true := hs _ (by decide +kernel)
  have e3 : (Cond.eq (Term.elem (Term.static "LipsThatFit$Reader" "NAMES" "[C") (.int 3)) (.int 111)).before args s = true := hs _ (by decide +kernel)
  have e4 : (Cond.eq (Term.elem (Term.static "LipsThatFit$Reader" "NAMES" "[C") (.int 4)) (.int 108)).before args s = true := hs _ (by decide +kernel)
  have e5 : (Cond.eq (Term.elem (Term.static "LipsThatFit$Reader" "NAMES" "[C") (.int 5)) (.int 116)).before args s = true := hs _ (by decide +kernel)
  obtain ⟨t, h1, h2⟩ := va_Tof (N := 6) (f := fun j => .int (stv 1 j)) (by decide) harr (va_eqt hlen) (fun j hj => by
    rcases (show j = 0 ∨ j = 1 ∨ j = 2 ∨ j = 3 ∨ j = 4 ∨ j = 5 by omega) with rfl | rfl | rfl | rfl | rfl | rfl
    · exact va_eqt e0
    · exact va_eqt e1
    · exact va_eqt e2
    · exact va_eqt e3
    · exact va_eqt e4
    · exact va_eqt e5) hA
  exact ⟨t, va_Zof hl (hts _ (xt_1)) h1 hA, h2⟩
theorem stat2 {args : Array Value} {s : State} {A : Nat → Prop} (hs : ∀ c ∈ flatC (Jvm.Cond.and given_1 narrow_1), c.before args s = true) (hts : ∀ w ∈ lt, w.before args s = true) (hl : (Cond.laysStatic "LipsThatFit$Stage" "BODIES" "[I").before args s = true) (hA : ∀ a : Nat, a < s.heap.size → ¬ A a) : ∃ t : Nat, va_Z "LipsThatFit$Stage" "BODIES" "[I" (.ref t) A s s.heap ∧ va_T .int t 28 (fun j => .int (stv 2 j)) A s s.heap := by
  have harr : (Cond.arrayOf (Term.static "LipsThatFit$Stage" "BODIES" "[I") .int).before args s = true := hs _ (by decide +kernel)
  have hlen : (Cond.eq (Term.length (Term.static "LipsThatFit$Stage" "BODIES" "[I")) (.int 28)).before args s = true := hs _ (by decide +kernel)
  have e0 : (Cond.eq (Term.elem (Term.static "LipsThatFit$Stage" "BODIES" "[I") (.int 0)) (.int 10)).before args s = true := hs _ (by decide +kernel)
  have e1 : (Cond.eq (Term.elem (Term.static "LipsThatFit$Stage" "BODIES" "[I") (.int 1)) (.int 11)).before args s = true := hs _ (by decide +kernel)
  have e2 : (Cond.eq (Term.elem (Term.static "LipsThatFit$Stage" "BODIES" "[I") (.int 2)) (.int 12)).before args s = true := hs _ (by decide +kernel)
  have e3 : (Cond.eq (Term.elem (Term.static "LipsThatFit$Stage" "BODIES" "[I") (.int 3)) (.int 13)).before args s = true := hs _ (by decide +kernel)
  have e4 : (Cond.eq (Term.elem (Term.static "LipsThatFit$Stage" "BODIES" "[I") (.int 4)) (.int 20)).before args s = true := hs _ (by decide +kernel)
  have e5 : (Cond.eq (Term.elem (Term.static "LipsThatFit$Stage" "BODIES" "[I") (.int 5)) (.int 0)).before args s = true := hs _ (by decide +kernel)
  have e6 : (Cond.eq (Term.elem (Term.static "LipsThatFit$Stage" "BODIES" "[I") (.int 6)) (.int 0)).before args s = true := hs _ (by decide +kernel)
  have e7 : (Cond.eq (Term.elem (Term.static "LipsThatFit$Stage" "BODIES" "[I") (.int 7)) (.int 0)).before args s = true := hs _ (by decide +kernel)
  have e8 : (Cond.eq (Term.elem (Term.static "LipsThatFit$Stage" "BODIES" "[I") (.int 8)) (.int 0)).before args s = true := hs _ (by decide +kernel)
  have e9 : (Cond.eq (Term.elem (Term.static "LipsThatFit$Stage" "BODIES" "[I") (.int 9)) (.int 30)).before args s = true := hs _ (by decide +kernel)
  have e10 : (Cond.eq (Term.elem (Term.static "LipsThatFit$Stage" "BODIES" "[I") (.int 10)) (.int 0)).before args s = true := hs _ (by decide +kernel)
  have e11 : (Cond.eq (Term.elem (Term.static "LipsThatFit$Stage" "BODIES" "[I") (.int 11)) (.int 0)).before args s = true := hs _ (by decide +kernel)
  have e12 : (Cond.eq (Term.elem (Term.static "LipsThatFit$Stage" "BODIES" "[I") (.int 12)) (.int 0)).before args s = true := hs _ (by decide +kernel)
  have e13 : (Cond.eq (Term.elem (Term.static "LipsThatFit$Stage" "BODIES" "[I") (.int 13)) (.int 0)).before args s = true := hs _ (by decide +kernel)
  have e14 : (Cond.eq (Term.elem (Term.static "LipsThatFit$Stage" "BODIES" "[I") (.int 14)) (.int 40)).before args s = true := hs _ (by decide +kernel)
  have e15 : (Cond.eq (Term.elem (Term.static "LipsThatFit$Stage" "BODIES" "[I") (.int 15)) (.int 0)).before args s = true := hs _ (by decide +kernel)
  have e16 : (Cond.eq (Term.elem (Term.static "LipsThatFit$Stage" "BODIES" "[I") (.int 16)) (.int 0)).before args s = true := hs _ (by decide +kernel)
  have e17 : (Cond.eq (Term.elem (Term.static "LipsThatFit$Stage" "BODIES" "[I") (.int 17)) (.int 0)).before args s = true := hs _ (by decide +kernel)
  have e18 : (Cond.eq (Term.elem (Term.static "LipsThatFit$Stage" "BODIES" "[I") (.int 18)) (.int 0)).before args s = true := hs _ (by decide +kernel)
  have e19 : (Cond.eq (Term.elem (Term.static "LipsThatFit$Stage" "BODIES" "[I") (.int 19)) (.int 50)).before args s = true := hs _ (by decide +kernel)
  have e20 : (Cond.eq (Term.elem (Term.static "LipsThatFit$Stage" "BODIES" "[I") (.int 20)) (.int 0)).before args s = true := hs _ (by decide +kernel)
  have e21 : (Cond.eq (Term.elem (Term.static "LipsThatFit$Stage" "BODIES" "[I") (.int 21)) (.int 60)).before args s = true := hs _ (by decide +kernel)
  have e22 : (Cond.eq (Term.elem (Term.static "LipsThatFit$Stage" "BODIES" "[I") (.int 22)) (.int 0)).before args s = true := hs _ (by decide +kernel)
  have e23 : (Cond.eq (Term.elem (Term.static "LipsThatFit$Stage" "BODIES" "[I") (.int 23)) (.int 0)).before args s = true := hs _ (by decide +kernel)
  have e24 : (Cond.eq (Term.elem (Term.static "LipsThatFit$Stage" "BODIES" "[I") (.int 24)) (.int 0)).before args s = true := hs _ (by decide +kernel)
  have e25 : (Cond.eq (Term.elem (Term.static "LipsThatFit$Stage" "BODIES" "[I") (.int 25)) (.int 0)).before args s = true := hs _ (by decide +kernel)
  have e26 : (Cond.eq (Term.elem (Term.static "LipsThatFit$Stage" "BODIES" "[I") (.int 26)) (.int 70)).before args s = true := hs _ (by decide +kernel)
  have e27 : (Cond.eq (Term.elem (Term.static "LipsThatFit$Stage" "BODIES" "[I") (.int 27)) (.int 71)).before args s = true := hs _ (by decide +kernel)
  obtain ⟨t, h1, h2⟩ := va_Tof (N := 28) (f := fun j => .int (stv 2 j)) (by decide) harr (va_eqt hlen) (fun j hj => by
    rcases (show j = 0 ∨ j = 1 ∨ j = 2 ∨ j = 3 ∨ j = 4 ∨ j = 5 ∨ j = 6 ∨ j = 7 ∨ j = 8 ∨ j = 9 ∨ j = 10 ∨ j = 11 ∨ j = 12 ∨ j = 13 ∨ j = 14 ∨ j = 15 ∨ j = 16 ∨ j = 17 ∨ j = 18 ∨ j = 19 ∨ j = 20 ∨ j = 21 ∨ j = 22 ∨ j = 23 ∨ j = 24 ∨ j = 25 ∨ j = 26 ∨ j = 27 by omega) with rfl | rfl | rfl | rfl | rfl | rfl | rfl | rfl | rfl | rfl | rfl | rfl | rfl | rfl | rfl | rfl | rfl | rfl | rfl | rfl | rfl | rfl | rfl | rfl | rfl | rfl | rfl | rfl
    · exact va_eqt e0
    · exact va_eqt e1
    · exact va_eqt e2
    · exact va_eqt e3
    · exact va_eqt e4
    · exact va_eqt e5
    · exact va_eqt e6
    · exact va_eqt e7
    · exact va_eqt e8
    · exact va_eqt e9
    · exact va_eqt e10
    · exact va_eqt e11
    · exact va_eqt e12
    · exact va_eqt e13
    · exact va_eqt e14
    · exact va_eqt e15
    · exact va_eqt e16
    · exact va_eqt e17
    · exact va_eqt e18
    · exact va_eqt e19
    · exact va_eqt e20
    · exact va_eqt e21
    · exact va_eqt e22
    · exact va_eqt e23
    · exact va_eqt e24
    · exact va_eqt e25
    · exact va_eqt e26
    · exact va_eqt e27) hA
  exact ⟨t, va_Zof hl (hts _ (xt_4)) h1 hA, h2⟩
set_option maxRecDepth 100000 in
set_option maxHeartbeats 8000000 in
theorem whole_open (hp : ∀ (L : Nat) (xs : Nat → Int32), L ≤ 3072 → f_law xs L 600 0 h0 = some ()) {p : Program} {e : Env} {s : State} {m : MethodId} {below : List Frame} {meth : Method} {c : Code} (l : Launch) {b L : Nat} {xs : Nat → Int32} (hL : L ≤ 3072) (C0 : lw_At p s m meth c b L xs) : W p l e room_1 s m #[Value.ref b] below meth c s.heap [] 0 0 (lw_Z below #[Value.ref b] s) (entryFrame m ([Value.ref b] : List Value).toArray 4) := by
  obtain ⟨hx, hb, hr, hml, hown, hts, hX, hbl, hlocks, hgv⟩ := C0
  have htl : ∀ w ∈ lt, w.before #[Value.ref b] s = true := fun w hw => hts w (lt_in hw)
  have hfl := flat_of_before _ hgv
  have hA0 : ∀ a : Nat, a < s.heap.size → ¬ (fun q : Nat => s.heap.size ≤ q) a := fun a h => Nat.not_le.mpr h
  obtain ⟨d0, i0_, hKn0⟩ := u_known (C := RX0) (T := TX0) (N := 7) (n := 7) htl ck0.1 (htl _ xs_0)
  obtain ⟨d1, i1_, hKn1⟩ := u_known (C := RX1) (T := TX1) (N := 7) (n := 7) htl ck1.1 (htl _ xs_1)
  obtain ⟨d2, i2_, hKn2⟩ := u_known (C := RX2) (T := TX2) (N := 8) (n := 8) htl ck2.1 (htl _ xs_2)
  obtain ⟨d3, i3_, hKn3⟩ := u_known (C := RX3) (T := TX3) (N := 3) (n := 3) htl ck3.1 (htl _ xs_3)
  obtain ⟨d4, i4_, hKn4⟩ := u_known (C := RX4) (T := TX4) (N := 5) (n := 5) htl ck4.1 (htl _ xs_4)
  obtain ⟨d5, i5_, hKn5⟩ := u_known (C := RX5) (T := TX5) (N := 3) (n := 3) htl ck5.1 (htl _ xs_5)
  obtain ⟨d6, i6_, hKn6⟩ := u_known (C := RX6) (T := TX6) (N := 4) (n := 4) htl ck6.1 (htl _ xs_6)
  obtain ⟨d7, i7_, hKn7⟩ := u_known (C := RX7) (T := TX7) (N := 17) (n := 17) htl ck7.1 (htl _ xs_7)
  obtain ⟨d8, i8_, hKn8⟩ := u_known (C := RX8) (T := TX8) (N := 8) (n := 8) htl ck8.1 (htl _ xs_8)
  obtain ⟨d9, i9_, hKn9⟩ := u_known (C := RX9) (T := TX9) (N := 25) (n := 25) htl ck9.1 (htl _ xs_9)
  obtain ⟨dC, dI, hKc⟩ : ∃ (dC : Nat → ClassId) (dI : Nat → Nat → Nat), ∀ (k : Nat) (q : vw_C), vwCl[k]? = some q → u_Kn s q.1 q.2.1 q.2.2 (dC k) (dI k) := by
    refine ⟨fun k => match k with
      | 0 => d0
      | 1 => d1
      | 2 => d2
      | 3 => d3
      | 4 => d4
      | 5 => d5
      | 6 => d6
      | 7 => d7
      | 8 => d8
      | _ => d9, fun k => match k with
      | 0 => i0_
      | 1 => i1_
      | 2 => i2_
      | 3 => i3_
      | 4 => i4_
      | 5 => i5_
      | 6 => i6_
      | 7 => i7_
      | 8 => i8_
      | _ => i9_, ?_⟩
    intro k q hq
    match k, hq with
    | 0, hq => cases hq; exact hKn0
    | 1, hq => cases hq; exact hKn1
    | 2, hq => cases hq; exact hKn2
    | 3, hq => cases hq; exact hKn3
    | 4, hq => cases hq; exact hKn4
    | 5, hq => cases hq; exact hKn5
    | 6, hq => cases hq; exact hKn6
    | 7, hq => cases hq; exact hKn7
    | 8, hq => cases hq; exact hKn8
    | 9, hq => cases hq; exact hKn9
    | k + 10, hq => simp [vwCl] at hq
  have v1 : (Cond.arrayOver (.object "LipsThatFit$Word")).before #[Value.ref b] s = true := (hts _ (List.mem_of_getElem? (i := 87) (by decide +kernel)))
  have v2 : (Cond.arrayOver (.object "LipsThatFit$Line")).before #[Value.ref b] s = true := (hts _ (List.mem_of_getElem? (i := 89) (by decide +kernel)))
  have v3 : (Cond.arrayOver (.array .int)).before #[Value.ref b] s = true := (hts _ (List.mem_of_getElem? (i := 344) (by decide +kernel)))
  have w1 : va_AO RX6 s := va_AO.of v1
  have w2 : va_AO RX0 s := va_AO.of v2
  have w3 : va_AOA .int s := v3
  have v0 : (Cond.arrayClass .int).before #[Value.ref b] s = true := htl _ xai
  obtain ⟨c0, k0, comp0, n0, g0, i0⟩ := Cond.arrayClass_spec v0
  obtain ⟨comp1, c1, k1, n1, -, g1, i1, j1⟩ := Cond.arrayOver_spec v1
  obtain ⟨comp2, c2, k2, n2, -, g2, i2, j2⟩ := Cond.arrayOver_spec v2
  obtain ⟨comp3, c3, k3, n3, -, g3, i3, j3⟩ := va_AOA.spec w3
  obtain ⟨t0, z0, y0⟩ := stat0 (A := fun q : Nat => s.heap.size ≤ q) hfl htl (hts _ (List.mem_of_getElem? (i := 520) (by decide +kernel))) hA0
  obtain ⟨t1, z1, y1⟩ := stat1 (A := fun q : Nat => s.heap.size ≤ q) hfl htl (hts _ (List.mem_of_getElem? (i := 587) (by decide +kernel))) hA0
  obtain ⟨t2, z2, y2⟩ := stat2 (A := fun q : Nat => s.heap.size ≤ q) hfl htl (hts _ (List.mem_of_getElem? (i := 754) (by decide +kernel))) hA0
  have hnst : ∀ q ∈ nst, va_Nw (.methodLinkNest q.1 q.2.1 q.2.2.1 q.2.2.2) s := by
    intro q hq
    simp only [nst, List.mem_cons, List.not_mem_nil, or_false] at hq
    rcases hq with rfl | rfl | rfl | rfl | rfl | rfl | rfl | rfl | rfl | rfl | rfl | rfl | rfl | rfl | rfl
    · have q9 : (Cond.methodLinkNest RX7 32 yX5_init "LipsThatFit").before #[Value.ref b] s = true := (hts _ (List.mem_of_getElem? (i := 92) (by decide +kernel)))
      exact va_Nw.of (A := #[Value.ref b]) rfl q9
    · have q9 : (Cond.methodLinkNest RX7 74 yX6_init "LipsThatFit").before #[Value.ref b] s = true := (hts _ (List.mem_of_getElem? (i := 110) (by decide +kernel)))
      exact va_Nw.of (A := #[Value.ref b]) rfl q9
    · have q9 : (Cond.methodLinkNest RX7 75 yX0_init "LipsThatFit").before #[Value.ref b] s = true := (hts _ (List.mem_of_getElem? (i := 137) (by decide +kernel)))
      exact va_Nw.of (A := #[Value.ref b]) rfl q9
    · have q9 : (Cond.methodLinkNest RX8 30 yX1_init "LipsThatFit").before #[Value.ref b] s = true := (hts _ (List.mem_of_getElem? (i := 285) (by decide +kernel)))
      exact va_Nw.of (A := #[Value.ref b]) rfl q9
    · have q9 : (Cond.methodLinkNest RX8 37 yX4_init "LipsThatFit").before #[Value.ref b] s = true := (hts _ (List.mem_of_getElem? (i := 315) (by decide +kernel)))
      exact va_Nw.of (A := #[Value.ref b]) rfl q9
    · have q9 : (Cond.methodLinkNest RX8 44 yX3_init "LipsThatFit").before #[Value.ref b] s = true := (hts _ (List.mem_of_getElem? (i := 339) (by decide +kernel)))
      exact va_Nw.of (A := #[Value.ref b]) rfl q9
    · have q9 : (Cond.methodLinkNest RX7 99 yX8_within "LipsThatFit").before #[Value.ref b] s = true := (hts _ (List.mem_of_getElem? (i := 399) (by decide +kernel)))
      exact va_Nw.of (A := #[Value.ref b]) rfl q9
    · have q9 : (Cond.methodLinkNest RX7 135 yX8_seenOf "LipsThatFit").before #[Value.ref b] s = true := (hts _ (List.mem_of_getElem? (i := 481) (by decide +kernel)))
      exact va_Nw.of (A := #[Value.ref b]) rfl q9
    · have q9 : (Cond.methodLinkNest RX7 159 yX8_endsOf "LipsThatFit").before #[Value.ref b] s = true := (hts _ (List.mem_of_getElem? (i := 487) (by decide +kernel)))
      exact va_Nw.of (A := #[Value.ref b]) rfl q9
    · have q9 : (Cond.methodLinkNest RX1 88 yX8_within "LipsThatFit").before #[Value.ref b] s = true := (hts _ (List.mem_of_getElem? (i := 573) (by decide +kernel)))
      exact va_Nw.of (A := #[Value.ref b]) rfl q9
    · have q9 : (Cond.methodLinkNest RX2 112 yX8_endsOf "LipsThatFit").before #[Value.ref b] s = true := (hts _ (List.mem_of_getElem? (i := 671) (by decide +kernel)))
      exact va_Nw.of (A := #[Value.ref b]) rfl q9
    · have q9 : (Cond.methodLinkNest RX2 38 yX8_within "LipsThatFit").before #[Value.ref b] s = true := (hts _ (List.mem_of_getElem? (i := 686) (by decide +kernel)))
      exact va_Nw.of (A := #[Value.ref b]) rfl q9
    · have q9 : (Cond.methodLinkNest RX7 183 yX8_voiceOf "LipsThatFit").before #[Value.ref b] s = true := (hts _ (List.mem_of_getElem? (i := 716) (by decide +kernel)))
      exact va_Nw.of (A := #[Value.ref b]) rfl q9
    · have q9 : (Cond.methodLinkNest RX4 44 yX8_within "LipsThatFit").before #[Value.ref b] s = true := (hts _ (List.mem_of_getElem? (i := 752) (by decide +kernel)))
      exact va_Nw.of (A := #[Value.ref b]) rfl q9
    · have q9 : (Cond.methodLinkNest RX4 51 yX8_kindAbove "LipsThatFit").before #[Value.ref b] s = true := (hts _ (List.mem_of_getElem? (i := 755) (by decide +kernel)))
      exact va_Nw.of (A := #[Value.ref b]) rfl q9
  have hK0 : va_K (dC, dI) vwCl [(c0, .int), (c1, .object RX6), (c2, .object RX0), (c3, .array .int)] s := by
    refine ⟨hKc, fun k q hq => ?_⟩
    match k, hq with
    | 0, hq => cases hq; exact ⟨fun n z => ⟨fun k h => (by cases h), k0, g0, comp0, i0⟩, n0⟩
    | 1, hq => cases hq; exact ⟨fun n z => ⟨fun k h => (by cases h), k1, g1, comp1, i1⟩, k1, comp1, g1, i1, n1, j1⟩
    | 2, hq => cases hq; exact ⟨fun n z => ⟨fun k h => (by cases h), k2, g2, comp2, i2⟩, k2, comp2, g2, i2, n2, j2⟩
    | 3, hq => cases hq; exact ⟨fun n z => ⟨fun k h => (by cases h), k3, g3, comp3, i3⟩, j3⟩
    | k + 4, hq => simp at hq
  let ct : Nat → ClassId := fun k => match k with
    | 0 => c0
    | 1 => c1
    | 2 => c2
    | _ => c3
  let sa : Nat → Nat := fun k => match k with
    | 0 => t0
    | 1 => t1
    | _ => t2
  have hl := lv_entry ([.ref b]) (n := 4) (Nat.le_of_ble_eq_true rfl)
  rw [lg_entry_eq]
  let γ0 : Gm := ((dC, dI), ct, (fun _ => 0), sa, l)
  have key : VX γ0 (p, e, room_1, s, m, #[Value.ref b], below, meth, c, lw_Z below #[Value.ref b] s, fun q => s.heap.size ≤ q) code "LipsThatFitLaw" 4 1000 130 2700 0 [(0, .ref b)] [] [] 0 0 := by
    refine VX.new (cI := 8) (fs := [.null, .null, .null, .null, .null, .null, .null, .int 0]) dlaw_0 xc_RL_7 xs_8 xt_8 ck8 rfl xf_8 (by decide +kernel) (by decide +kernel) (fun a0 => ?_)
    refine VX.weq (ws' := [(a0, .inr (8, [.null, .null, .null, .null, .null, .null, .null, .int 0]))]) rfl ?_
    refine VX.dup dlaw_3 rfl ?_
    refine VX.callI (As := []) (st := [.ref a0]) (mc := 113) (ms := 1636) dlaw_4 mi_8_init xi_RL_9 (by decide) (by decide) _ rfl (Nat.le_of_ble_eq_true rfl) rfl (by decide +kernel) (by decide +kernel) (x_8_init (by decide)) (fun w hw => ?_)
    obtain ⟨ad, fS, hfS, rfl, rfl⟩ := hw
    refine VX.astore_n (lo' := [(1, .ref (ad 0)), (0, .ref b)]) dlaw_7 (by decide) rfl ?_
    refine VX.new (cI := 9) (fs := [.null, .null, .int 0, .null, .int 0, .int 0, .int 0, .int 0, .int 0, .int 0, .null, .int 0, .null, .int 0, .int 0, .null, .int 0, .int 0, .null, .int 0, .int 0, .null, .null, .null, .null]) dlaw_8 xc_RL_10 xs_9 xt_9 ck9 rfl xf_9 (by decide +kernel) (by decide +kernel) (fun a114 => ?_)
    refine VX.weq (ws' := [(ad 0, .inr (8, [.ref (ad 1), .ref (ad 48), .ref (ad 95), .ref (ad 100), .ref (ad 103), .ref (ad 105), .ref (ad 113), .int 0])), (ad 1, .inr (7, [.ref (ad 2), .ref (ad 3), .ref (ad 4), .ref (ad 5), .ref (ad 6), .ref (ad 9), .ref (ad 12), .ref (ad 13), .ref (ad 14), .ref (ad 15), .int 0, .int 0, .int 0, .int 0, .int 0, .int 0, .int 1])), (ad 2, eA γ0 60), (ad 3, eR γ0 1 10 (va_up (va_up (va_up (va_up (va_up (va_up (va_up (va_up (va_up (va_up (fun _ => none) 0 (some (ad 16))) 1 (some (ad 18))) 2 (some (ad 20))) 3 (some (ad 22))) 4 (some (ad 24))) 5 (some (ad 26))) 6 (some (ad 28))) 7 (some (ad 30))) 8 (some (ad 32))) 9 (some (ad 34)))), (ad 4, eR γ0 2 6 (va_up (va_up (va_up (va_up (va_up (va_up (fun _ => none) 0 (some (ad 36))) 1 (some (ad 38))) 2 (some (ad 40))) 3 (some (ad 42))) 4 (some (ad 44))) 5 (some (ad 46)))), (ad 5, eA γ0 50), (ad 6, .inr (5, [.ref (ad 7), .ref (ad 8), .int 0])), (ad 7, eA γ0 50), (ad 8, eA γ0 50), (ad 9, .inr (5, [.ref (ad 10), .ref (ad 11), .int 0])), (ad 10, eA γ0 50), (ad 11, eA γ0 50), (ad 12, eA γ0 16), (ad 13, eA γ0 20), (ad 14, eA γ0 6), (ad 15, eA γ0 6), (ad 16, .inr (6, [.ref (ad 17), .int 0, .int 0, .int 0])), (ad 17, eA γ0 5), (ad 18, .inr (6, [.ref (ad 19), .int 0, .int 0, .int 0])), (ad 19, eA γ0 5), (ad 20, .inr (6, [.ref (ad 21), .int 0, .int 0, .int 0])), (ad 21, eA γ0 5), (ad 22, .inr (6, [.ref (ad 23), .int 0, .int 0, .int 0])), (ad 23, eA γ0 5), (ad 24, .inr (6, [.ref (ad 25), .int 0, .int 0, .int 0])), (ad 25, eA γ0 5), (ad 26, .inr (6, [.ref (ad 27), .int 0, .int 0, .int 0])), (ad 27, eA γ0 5), (ad 28, .inr (6, [.ref (ad 29), .int 0, .int 0, .int 0])), (ad 29, eA γ0 5), (ad 30, .inr (6, [.ref (ad 31), .int 0, .int 0, .int 0])), (ad 31, eA γ0 5), (ad 32, .inr (6, [.ref (ad 33), .int 0, .int 0, .int 0])), (ad 33, eA γ0 5), (ad 34, .inr (6, [.ref (ad 35), .int 0, .int 0, .int 0])), (ad 35, eA γ0 5), (ad 36, .inr (0, [.ref (ad 37), .int 0, .int 0, .int 0, .int 0, .int 1, .int 0])), (ad 37, eA γ0 3), (ad 38, .inr (0, [.ref (ad 39), .int 0, .int 0, .int 0, .int 0, .int 1, .int 0])), (ad 39, eA γ0 3), (ad 40, .inr (0, [.ref (ad 41), .int 0, .int 0, .int 0, .int 0, .int 1, .int 0])), (ad 41, eA γ0 3), (ad 42, .inr (0, [.ref (ad 43), .int 0, .int 0, .int 0, .int 0, .int 1, .int 0])), (ad 43, eA γ0 3), (ad 44, .inr (0, [.ref (ad 45), .int 0, .int 0, .int 0, .int 0, .int 1, .int 0])), (ad 45, eA γ0 3), (ad 46, .inr (0, [.ref (ad 47), .int 0, .int 0, .int 0, .int 0, .int 1, .int 0])), (ad 47, eA γ0 3), (ad 48, .inr (7, [.ref (ad 49), .ref (ad 50), .ref (ad 51), .ref (ad 52), .ref (ad 53), .ref (ad 56), .ref (ad 59), .ref (ad 60), .ref (ad 61), .ref (ad 62), .int 0, .int 0, .int 0, .int 0, .int 0, .int 0, .int 1])), (ad 49, eA γ0 60), (ad 50, eR γ0 1 10 (va_up (va_up (va_up (va_up (va_up (va_up (va_up (va_up (va_up (va_up (fun _ => none) 0 (some (ad 63))) 1 (some (ad 65))) 2 (some (ad 67))) 3 (some (ad 69))) 4 (some (ad 71))) 5 (some (ad 73))) 6 (some (ad 75))) 7 (some (ad 77))) 8 (some (ad 79))) 9 (some (ad 81)))), (ad 51, eR γ0 2 6 (va_up (va_up (va_up (va_up (va_up (va_up (fun _ => none) 0 (some (ad 83))) 1 (some (ad 85))) 2 (some (ad 87))) 3 (some (ad 89))) 4 (some (ad 91))) 5 (some (ad 93)))), (ad 52, eA γ0 50), (ad 53, .inr (5, [.ref (ad 54), .ref (ad 55), .int 0])), (ad 54, eA γ0 50), (ad 55, eA γ0 50), (ad 56, .inr (5, [.ref (ad 57), .ref (ad 58), .int 0])), (ad 57, eA γ0 50), (ad 58, eA γ0 50), (ad 59, eA γ0 16), (ad 60, eA γ0 20), (ad 61, eA γ0 6), (ad 62, eA γ0 6), (ad 63, .inr (6, [.ref (ad 64), .int 0, .int 0, .int 0])), (ad 64, eA γ0 5), (ad 65, .inr (6, [.ref (ad 66), .int 0, .int 0, .int 0])), (ad 66, eA γ0 5), (ad 67, .inr (6, [.ref (ad 68), .int 0, .int 0, .int 0])), (ad 68, eA γ0 5), (ad 69, .inr (6, [.ref (ad 70), .int 0, .int 0, .int 0])), (ad 70, eA γ0 5), (ad 71, .inr (6, [.ref (ad 72), .int 0, .int 0, .int 0])), (ad 72, eA γ0 5), (ad 73, .inr (6, [.ref (ad 74), .int 0, .int 0, .int 0])), (ad 74, eA γ0 5), (ad 75, .inr (6, [.ref (ad 76), .int 0, .int 0, .int 0])), (ad 76, eA γ0 5), (ad 77, .inr (6, [.ref (ad 78), .int 0, .int 0, .int 0])), (ad 78, eA γ0 5), (ad 79, .inr (6, [.ref (ad 80), .int 0, .int 0, .int 0])), (ad 80, eA γ0 5), (ad 81, .inr (6, [.ref (ad 82), .int 0, .int 0, .int 0])), (ad 82, eA γ0 5), (ad 83, .inr (0, [.ref (ad 84), .int 0, .int 0, .int 0, .int 0, .int 1, .int 0])), (ad 84, eA γ0 3), (ad 85, .inr (0, [.ref (ad 86), .int 0, .int 0, .int 0, .int 0, .int 1, .int 0])), (ad 86, eA γ0 3), (ad 87, .inr (0, [.ref (ad 88), .int 0, .int 0, .int 0, .int 0, .int 1, .int 0])), (ad 88, eA γ0 3), (ad 89, .inr (0, [.ref (ad 90), .int 0, .int 0, .int 0, .int 0, .int 1, .int 0])), (ad 90, eA γ0 3), (ad 91, .inr (0, [.ref (ad 92), .int 0, .int 0, .int 0, .int 0, .int 1, .int 0])), (ad 92, eA γ0 3), (ad 93, .inr (0, [.ref (ad 94), .int 0, .int 0, .int 0, .int 0, .int 1, .int 0])), (ad 94, eA γ0 3), (ad 95, .inr (2, [.ref (ad 1), .ref (ad 96), .ref (ad 97), .ref (ad 98), .ref (ad 99), .int 0, .int 0, .int 0])), (ad 96, eA γ0 45), (ad 97, eA γ0 150), (ad 98, eA γ0 3), (ad 99, eA γ0 3), (ad 100, .inr (1, [.ref (ad 101), .int 0, .ref (ad 102), .int 0, .int 0, .int 0, .int 0])), (ad 101, eA γ0 50), (ad 102, eA γ0 50), (ad 103, .inr (4, [.ref (ad 104), .int 0, .int 0, .int 0, .int 0])), (ad 104, eA γ0 40), (ad 105, .inr (3, [.ref (ad 106), .ref (ad 107), .ref (ad 108)])), (ad 106, eA γ0 4), (ad 107, eA γ0 4), (ad 108, eR γ0 3 4 fS), (ad 109, eA γ0 40), (ad 110, eA γ0 40), (ad 111, eA γ0 40), (ad 112, eA γ0 40), (ad 113, eA γ0 6), (a114, .inr (9, [.null, .null, .int 0, .null, .int 0, .int 0, .int 0, .int 0, .int 0, .int 0, .null, .int 0, .null, .int 0, .int 0, .null, .int 0, .int 0, .null, .int 0, .int 0, .null, .null, .null, .null]))]) rfl ?_
    refine VX.dup dlaw_11 rfl ?_
    refine VX.callI (As := []) (st := [.ref a114]) (mc := 11) (ms := 1023) dlaw_12 mi_9_init xi_RL_12 (by decide) (by decide) _ rfl (Nat.le_of_ble_eq_true rfl) rfl (by decide +kernel) (by decide +kernel) (x_9_init (by decide) hfS) (fun w hw => ?_)
    obtain ⟨ad2, fS, hfS, rfl, e0, rfl⟩ := hw
    rw [← e0]
    refine VX.astore_n (lo' := [(2, .ref (ad2 114)), (1, .ref (ad2 0)), (0, .ref b)]) dlaw_15 (by decide) rfl ?_
    refine VX.iconst (v := 0) dlaw_16 ic_0 ?_
    refine VX.istore_n (lo' := [(3, .int 0), (2, .ref (ad2 114)), (1, .ref (ad2 0)), (0, .ref b)]) dlaw_17 (by decide) rfl ?_
    refine VX.weq (ws_final (dC, dI) ct ad2 sa l hfS rfl) ?_
    intro O H locs ls hP hD hS hl
    let γ : Gm := ((dC, dI), ct, ad2, sa, l)
    have hP : va_P γ.1 vwCl (cells γ h0) H := hP
    have hD : va_D (fun q : Nat => s.heap.size ≤ q) (cells γ h0) := hD
    have hOK : OKE γ (p, e, room_1, s, m, #[Value.ref b], below, meth, c, 126, 2692, lw_Z below #[Value.ref b] s, fun q => s.heap.size ≤ q) code "LipsThatFitLaw" 4 1000 := by
      refine ⟨hx, hb, hml, hown, htl, hK0, D_all hD, ⟨hnst, fun i q hq => ?_⟩, D_Ac hD, Nat.le_of_ble_eq_true rfl, Nat.le_of_ble_eq_true rfl, Nat.le_of_ble_eq_true rfl, Nat.le_of_ble_eq_true rfl⟩
      match i, hq with
      | 0, hq => cases hq; exact ⟨z0, y0⟩
      | 1, hq => cases hq; exact ⟨z1, y1⟩
      | 2, hq => cases hq; exact ⟨z2, y2⟩
      | k + 3, hq => simp [stl] at hq
    have hE : ∀ lo h, VW γ (p, e, room_1, s, m, #[Value.ref b], below, meth, c, 126, 2692, lw_Z below #[Value.ref b] s, fun q => s.heap.size ≤ q) code "LipsThatFitLaw" 4 1000 1499 lo [.int 1] h := by
      intro lo h O H locs ls hP hS hl
      refine va_forget (fun q hq => hS.2.2 q hq) ?_
      refine W.widen (k := 600000) (n := 7302250) (Nat.le_of_ble_eq_true rfl) (Nat.le_of_ble_eq_true rfl) ?_
      exact lw_ret hx hb hr hlocks dlaw_1499.1
    have hw := s_law (γ := γ) (dd := 1000) (Nat.le_of_ble_eq_true rfl) (b := b) (L := L) (xs := xs) ⟨hX, hbl, Nat.not_le.mpr hbl⟩ hE 600 0 h0 (hp L xs hL)
    exact hw hOK H locs ls hP hS (lv_sub hl [3, 2, 1, 0] rfl)
  exact key ⟨hx, hb, hml, hown, htl, hK0, ⟨hnst, w1, w2, w3⟩, fun _ h => h, ⟨Nat.le_of_ble_eq_true rfl, Nat.le_of_ble_eq_true rfl, Nat.le_of_ble_eq_true rfl, Nat.le_of_ble_eq_true rfl⟩, hlocks⟩ s.heap [] _ (fun k q h => by simp at h) ⟨fun i j p q h => by simp at h, fun k q h => by simp at h⟩ va_S.rf hl
