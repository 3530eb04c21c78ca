/-! the judgement VW: the kit's W, with the world, the tables and the frame's data put away -/
/-- field slots and addresses of classes; the classes of arrays; addresses of places; of static rows; the launch -/
abbrev Gm : Type := va_G × (Nat → ClassId) × (Nat → Nat) × (Nat → Nat) × Launch
abbrev En : Type := Program × Env × Room × State × MethodId × Array Value × List Frame × Method × Code × Nat × Nat × (State → Prop) × (Nat → Prop)
def tyl (γ : Gm) : List (ClassId × FieldType) := [(γ.2.1 0, .int), (γ.2.1 1, .object RX6), (γ.2.1 2, .object RX0), (γ.2.1 3, .array .int)]
def tyf (t : Nat) : FieldType := match t with
  | 0 => .int
  | 1 => .object RX6
  | 2 => .object RX0
  | _ => .array .int
theorem tyl_at (γ : Gm) {t : Nat} (h : t < 4) : (tyl γ)[t]? = some (γ.2.1 t, tyf t) := by
  match t, h with
  | 0, _ => rfl
  | 1, _ => rfl
  | 2, _ => rfl
  | 3, _ => rfl
def fo (γ : Gm) (f : Nat → Int32) (k : Nat) (o : Option Nat) : Value := match o with
  | none => .int (f k)
  | some q => .ref (γ.2.2.1 q)
def fv (γ : Gm) (f : Nat → Int32) (fs : List (Option Nat)) : List Value := fs.mapIdx (fun k o => fo γ f k o)
def el (γ : Gm) (h : Hp) (p : Nat) (S : Sh) : va_E := match S with
  | .inl n => .inl (γ.2.1 0, n, .inl (h p))
  | .inr (.inl (t, ps)) => .inl (γ.2.1 t, ps.length, .inr (.inr (.inr (.inr (fun j => (ps[j]?).map γ.2.2.1)))))
  | .inr (.inr (c, fs)) => .inr (c, fv γ (h p) fs)
def cells (γ : Gm) (h : Hp) : va_W := shs.mapIdx (fun p S => (γ.2.2.1 p, el γ h p S))
theorem cells_at (γ : Gm) (h : Hp) {p : Nat} {S : Sh} (hs : sh p = some S) : (cells γ h)[p]? = some (γ.2.2.1 p, el γ h p S) := by
  have h1 : shs[p]? = some S := hs
  simp only [cells, List.getElem?_mapIdx, h1, Option.map_some]
theorem el_cong {γ : Gm} {h h' : Hp} {p : Nat} {S : Sh} (e : h p = h' p) : el γ h p S = el γ h' p S := by
  unfold el
  rw [e]
theorem cells_set (γ : Gm) {h h' : Hp} {p : Nat} {S : Sh} (hs : sh p = some S) (e : ∀ a, a ≠ p → h' a = h a) : (cells γ h).set p (γ.2.2.1 p, el γ h' p S) = cells γ h' := by
  have h1 : shs[p]? = some S := hs
  refine List.ext_getElem? fun i => ?_
  by_cases hi : i = p
  · subst hi
    have hl : i < (cells γ h).length := (List.getElem?_eq_some_iff.mp (cells_at γ h hs)).1
    rw [List.getElem?_set_self hl, cells_at γ h' hs]
  · rw [List.getElem?_set_ne (Ne.symm hi)]
    simp only [cells, List.getElem?_mapIdx]
    cases hq : shs[i]? with
    | none => rfl
    | some T => simp only [Option.map_some, el_cong (e i hi)]
theorem fv_at (γ : Gm) (f : Nat → Int32) {fs : List (Option Nat)} {k : Nat} {o : Option Nat} (h : fs[k]? = some o) : (fv γ f fs)[k]? = some (fo γ f k o) := by
  simp only [fv, List.getElem?_mapIdx, h, Option.map_some]
theorem fv_set (γ : Gm) (f : Nat → Int32) {fs : List (Option Nat)} {k : Nat} (x : Int32) (h : fs[k]? = some none) : (fv γ f fs).set k (.int x) = fv γ (upd f k x) fs := by
  refine List.ext_getElem? fun i => ?_
  by_cases hi : i = k
  · subst hi
    have hl : i < (fv γ f fs).length := (List.getElem?_eq_some_iff.mp (fv_at γ f h)).1
    rw [List.getElem?_set_self hl, fv_at γ _ h]
    simp [upd, fo]
  · rw [List.getElem?_set_ne (Ne.symm hi)]
    simp only [fv, List.getElem?_mapIdx]
    cases hq : fs[i]? with
    | none => rfl
    | some T =>
      cases T with
      | none => simp [upd, hi, fo]
      | some q => rfl
/-- the cells that a call may write -/
def Ac (γ : Gm) : Nat → Prop := fun q => ∃ p, p < 126 ∧ q = γ.2.2.1 p
/-- what never changes: nest mates' links, static rows -/
def stc (γ : Gm) (A : Nat → Prop) (U : State) (H : Heap) : Prop := (∀ q ∈ nst, va_Nw (.methodLinkNest q.1 q.2.1 q.2.2.1 q.2.2.2) U) ∧
  ∀ (i : Nat) (q : String × String × String × FieldType × Nat), stl[i]? = some q → va_Z q.1 q.2.1 q.2.2.1 (.ref (γ.2.2.2.1 i)) A U H ∧ va_T q.2.2.2.1 (γ.2.2.2.1 i) q.2.2.2.2 (fun j => .int (stv i j)) A U H
theorem stc.go {γ : Gm} {A B : Nat → Prop} {s U : State} {H H1 : Heap} (h : stc γ A s H) (hW : s.WarmedH U.vm) (hq : ∀ a : Nat, a < H.size → ¬ A a → H1[a]? = H[a]?) (hAB : ∀ q, B q → A q) : stc γ B U H1 :=
  ⟨fun q hm => va_Nw.warmM hW (h.1 q hm), fun i q hi => ⟨(((h.2 i q hi).1.moved hW.alike).kept hq).narrow hAB, (((h.2 i q hi).2.moved hW.alike).kept hq).narrow hAB⟩⟩
theorem stc.vm {γ : Gm} {A : Nat → Prop} {s U : State} {H : Heap} (h : stc γ A s H) (e : s.vm = U.vm) : stc γ A U H :=
  ⟨fun q hm => va_Nw.same rfl e (h.1 q hm), fun i q hi => ⟨(h.2 i q hi).1.moved (by rw [e]; exact Vm.Alike.refl _), (h.2 i q hi).2.moved (by rw [e]; exact Vm.Alike.refl _)⟩⟩
def OKE (γ : Gm) (ε : En) (cc : ByteArray) (own : String) (nl dd : Nat) : Prop := match ε with
  | (p, _, R, s, m, args, _, _, c, kc, ks, _, A) => p.tables.exec = Jvm.exec ∧ c.code = cc ∧ c.maxLocals = nl ∧ s.vm.findClass own = some m.cls ∧ (∀ w ∈ lt, w.before args s = true) ∧ va_K γ.1 vwCl (tyl γ) s ∧ (∀ h, va_D A (cells γ h)) ∧ stc γ A s s.heap ∧ (∀ q, Ac γ q → A q) ∧ (dd ≤ R.frames ∧ 64 * dd ≤ R.locals ∧ kc ≤ R.cells ∧ ks ≤ R.slots)
def VW (γ : Gm) (ε : En) (cc : ByteArray) (own : String) (nl dd : Nat) (pc : Nat) (lo : List (Nat × Value)) (st : List Value) (h : Hp) : Prop := match ε with
  | (p, e, R, s, m, args, below, meth, c, kc, ks, Z, A) => OKE γ (p, e, R, s, m, args, below, meth, c, kc, ks, Z, A) cc own nl dd → ∀ (H : Heap) (locs : List Loc) (ls : Array Slot), va_P γ.1 vwCl (cells γ h) H → va_S A s.heap H locs → lv_has ls nl lo → W p γ.2.2.2.2 e R s m args below meth c H locs kc ks Z (F0 m pc ls st)
section VWR
variable {γ : Gm} {ε : En} {cc : ByteArray} {own : String} {nl dd pc n : Nat} {lo lo' : List (Nat × Value)} {st : List Value} {h : Hp}
theorem VW.iconst {z : Int} {v : Int32} (d : dec cc pc (.iconst z) 1 n) (hv : Int32.ofInt z = v) (k : VW γ ε cc own nl dd n lo (.int v :: st) h) : VW γ ε cc own nl dd pc lo st h := by
  obtain ⟨p, e, R, s, m, args, below, meth, c, kc, ks, Z, A⟩ := ε
  obtain ⟨d, rfl⟩ := d
  intro O H locs ls hP hS hl
  exact lv_iconst O.1 O.2.1 d hv (k O H locs ls hP hS hl)
theorem VW.bipush {z : Int} {v : Int32} (d : dec cc pc (.bipush z) 2 n) (hv : (Int8.ofInt z).toInt32 = v) (k : VW γ ε cc own nl dd n lo (.int v :: st) h) : VW γ ε cc own nl dd pc lo st h := by
  obtain ⟨p, e, R, s, m, args, below, meth, c, kc, ks, Z, A⟩ := ε
  obtain ⟨d, rfl⟩ := d
  intro O H locs ls hP hS hl
  exact lv_bipush O.1 O.2.1 d hv (k O H locs ls hP hS hl)
theorem VW.sipush {z : Int} {v : Int32} (d : dec cc pc (.sipush z) 3 n) (hv : (Int16.ofInt z).toInt32 = v) (k : VW γ ε cc own nl dd n lo (.int v :: st) h) : VW γ ε cc own nl dd pc lo st h := by
  obtain ⟨p, e, R, s, m, args, below, meth, c, kc, ks, Z, A⟩ := ε
  obtain ⟨d, rfl⟩ := d
  intro O H locs ls hP hS hl
  exact lv_sipush O.1 O.2.1 d hv (k O H locs ls hP hS hl)
theorem VW.lconst {z : Fin 2} {v : Int64} (d : dec cc pc (.lconst z) 1 n) (hv : Int64.ofNat (z : Nat) = v) (k : VW γ ε cc own nl dd n lo (.long v :: st) h) : VW γ ε cc own nl dd pc lo st h := by
  obtain ⟨p, e, R, s, m, args, below, meth, c, kc, ks, Z, A⟩ := ε
  obtain ⟨d, rfl⟩ := d
  intro O H locs ls hP hS hl
  exact lv_lconst O.1 O.2.1 d hv (k O H locs ls hP hS hl)
theorem VW.ldc {ix : Nat} {v : Int32} (d : dec cc pc (.ldc ix) 2 n) (hv : Cond.constant own ix v ∈ lt) (k : VW γ ε cc own nl dd n lo (.int v :: st) h) : VW γ ε cc own nl dd pc lo st h := by
  obtain ⟨p, e, R, s, m, args, below, meth, c, kc, ks, Z, A⟩ := ε
  obtain ⟨d, rfl⟩ := d
  intro O H locs ls hP hS hl
  exact lv_ldc O.1 O.2.1 O.2.2.2.1 (O.2.2.2.2.1 _ hv) d (k O H locs ls hP hS hl)
theorem VW.ldcw {ix : Nat} {v : Int32} (d : dec cc pc (.ldc_w ix) 3 n) (hv : Cond.constant own ix v ∈ lt) (k : VW γ ε cc own nl dd n lo (.int v :: st) h) : VW γ ε cc own nl dd pc lo st h := by
  obtain ⟨p, e, R, s, m, args, below, meth, c, kc, ks, Z, A⟩ := ε
  obtain ⟨d, rfl⟩ := d
  intro O H locs ls hP hS hl
  exact lv_ldcw O.1 O.2.1 O.2.2.2.1 (O.2.2.2.2.1 _ hv) d (k O H locs ls hP hS hl)
theorem VW.ldc2 {ix : Nat} {v : Int64} (d : dec cc pc (.ldc2_w ix) 3 n) (hv : Cond.constantLong own ix v ∈ lt) (k : VW γ ε cc own nl dd n lo (.long v :: st) h) : VW γ ε cc own nl dd pc lo st h := by
  obtain ⟨p, e, R, s, m, args, below, meth, c, kc, ks, Z, A⟩ := ε
  obtain ⟨d, rfl⟩ := d
  intro O H locs ls hP hS hl
  exact lv_ldc2 O.1 O.2.1 O.2.2.2.1 (O.2.2.2.2.1 _ hv) d (k O H locs ls hP hS hl)
theorem VW.iload_n {q : Fin 4} {x : Int32} (d : dec cc pc (.iload_n q) 1 n) (j : Nat) (hj : lo[j]? = some (q.val, .int x)) (k : VW γ ε cc own nl dd n lo (.int x :: st) h) : VW γ ε cc own nl dd pc lo st h := by
  obtain ⟨p, e, R, s, m, args, below, meth, c, kc, ks, Z, A⟩ := ε
  obtain ⟨d, rfl⟩ := d
  intro O H locs ls hP hS hl
  exact lv_iload_n O.1 O.2.1 d rfl (lv_at hl j hj) (k O H locs ls hP hS hl)
theorem VW.iload {i : Nat} {x : Int32} (d : dec cc pc (.iload i) 2 n) (j : Nat) (hj : lo[j]? = some (i, .int x)) (k : VW γ ε cc own nl dd n lo (.int x :: st) h) : VW γ ε cc own nl dd pc lo st h := by
  obtain ⟨p, e, R, s, m, args, below, meth, c, kc, ks, Z, A⟩ := ε
  obtain ⟨d, rfl⟩ := d
  intro O H locs ls hP hS hl
  exact lv_iload O.1 O.2.1 d (lv_at hl j hj) (k O H locs ls hP hS hl)
theorem VW.lload_n {q : Fin 4} {x : Int64} (d : dec cc pc (.lload_n q) 1 n) (j : Nat) (hj : lo[j]? = some (q.val, .long x)) (k : VW γ ε cc own nl dd n lo (.long x :: st) h) : VW γ ε cc own nl dd pc lo st h := by
  obtain ⟨p, e, R, s, m, args, below, meth, c, kc, ks, Z, A⟩ := ε
  obtain ⟨d, rfl⟩ := d
  intro O H locs ls hP hS hl
  exact lv_lload_n O.1 O.2.1 d rfl (lv_at hl j hj) (k O H locs ls hP hS hl)
theorem VW.lload {i : Nat} {x : Int64} (d : dec cc pc (.lload i) 2 n) (j : Nat) (hj : lo[j]? = some (i, .long x)) (k : VW γ ε cc own nl dd n lo (.long x :: st) h) : VW γ ε cc own nl dd pc lo st h := by
  obtain ⟨p, e, R, s, m, args, below, meth, c, kc, ks, Z, A⟩ := ε
  obtain ⟨d, rfl⟩ := d
  intro O H locs ls hP hS hl
  exact lv_lload O.1 O.2.1 d (lv_at hl j hj) (k O H locs ls hP hS hl)
theorem VW.aload_n {q : Fin 4} {x : Nat} (d : dec cc pc (.aload_n q) 1 n) (j : Nat) (hj : lo[j]? = some (q.val, .ref x)) (k : VW γ ε cc own nl dd n lo (.ref x :: st) h) : VW γ ε cc own nl dd pc lo st h := by
  obtain ⟨p, e, R, s, m, args, below, meth, c, kc, ks, Z, A⟩ := ε
  obtain ⟨d, rfl⟩ := d
  intro O H locs ls hP hS hl
  exact lv_aload_n O.1 O.2.1 d rfl (lv_at hl j hj) (k O H locs ls hP hS hl)
theorem VW.aload {i : Nat} {x : Nat} (d : dec cc pc (.aload i) 2 n) (j : Nat) (hj : lo[j]? = some (i, .ref x)) (k : VW γ ε cc own nl dd n lo (.ref x :: st) h) : VW γ ε cc own nl dd pc lo st h := by
  obtain ⟨p, e, R, s, m, args, below, meth, c, kc, ks, Z, A⟩ := ε
  obtain ⟨d, rfl⟩ := d
  intro O H locs ls hP hS hl
  exact lv_aload O.1 O.2.1 d (lv_at hl j hj) (k O H locs ls hP hS hl)
def st1 (i : Nat) (lo : List (Nat × Value)) : List (Nat × Value) := lo.filter (fun q => !(q.1 == i) && !(q.1 + 1 == i && q.2.category == 2))
def st2 (i : Nat) (lo : List (Nat × Value)) : List (Nat × Value) := lo.filter (fun q => !(q.1 == i) && (!(q.1 == i + 1) && !(q.1 + 1 == i && q.2.category == 2)))
theorem VW.istore_n {q : Fin 4} {x : Int32} (d : dec cc pc (.istore_n q) 1 n) (hn : q.val < nl) (hl : (q.val, Value.int x) :: st1 q.val lo = lo') (k : VW γ ε cc own nl dd n lo' st h) : VW γ ε cc own nl dd pc lo (.int x :: st) h := by
  obtain ⟨p, e, R, s, m, args, below, meth, c, kc, ks, Z, A⟩ := ε
  obtain ⟨d, rfl⟩ := d
  intro O H locs ls hP hS h9
  exact lv_istore_n O.1 O.2.1 d rfl h9 hn hl (fun ls2 h8 => k O H locs ls2 hP hS h8)
theorem VW.istore {i : Nat} {x : Int32} (d : dec cc pc (.istore i) 2 n) (hn : i < nl) (hl : (i, Value.int x) :: st1 i lo = lo') (k : VW γ ε cc own nl dd n lo' st h) : VW γ ε cc own nl dd pc lo (.int x :: st) h := by
  obtain ⟨p, e, R, s, m, args, below, meth, c, kc, ks, Z, A⟩ := ε
  obtain ⟨d, rfl⟩ := d
  intro O H locs ls hP hS h9
  exact lv_istore O.1 O.2.1 d h9 hn hl (fun ls2 h8 => k O H locs ls2 hP hS h8)
theorem VW.lstore_n {q : Fin 4} {x : Int64} (d : dec cc pc (.lstore_n q) 1 n) (hn : q.val + 1 < nl) (hl : (q.val, Value.long x) :: st2 q.val lo = lo') (k : VW γ ε cc own nl dd n lo' st h) : VW γ ε cc own nl dd pc lo (.long x :: st) h := by
  obtain ⟨p, e, R, s, m, args, below, meth, c, kc, ks, Z, A⟩ := ε
  obtain ⟨d, rfl⟩ := d
  intro O H locs ls hP hS h9
  exact lv_lstore_n O.1 O.2.1 d rfl h9 hn hl (fun ls2 h8 => k O H locs ls2 hP hS h8)
theorem VW.lstore {i : Nat} {x : Int64} (d : dec cc pc (.lstore i) 2 n) (hn : i + 1 < nl) (hl : (i, Value.long x) :: st2 i lo = lo') (k : VW γ ε cc own nl dd n lo' st h) : VW γ ε cc own nl dd pc lo (.long x :: st) h := by
  obtain ⟨p, e, R, s, m, args, below, meth, c, kc, ks, Z, A⟩ := ε
  obtain ⟨d, rfl⟩ := d
  intro O H locs ls hP hS h9
  exact lv_lstore O.1 O.2.1 d h9 hn hl (fun ls2 h8 => k O H locs ls2 hP hS h8)
theorem VW.astore_n {q : Fin 4} {x : Nat} (d : dec cc pc (.astore_n q) 1 n) (hn : q.val < nl) (hl : (q.val, Value.ref x) :: st1 q.val lo = lo') (k : VW γ ε cc own nl dd n lo' st h) : VW γ ε cc own nl dd pc lo (.ref x :: st) h := by
  obtain ⟨p, e, R, s, m, args, below, meth, c, kc, ks, Z, A⟩ := ε
  obtain ⟨d, rfl⟩ := d
  intro O H locs ls hP hS h9
  exact lv_astore_n O.1 O.2.1 d rfl h9 hn hl (fun ls2 h8 => k O H locs ls2 hP hS h8)
theorem VW.astore {i : Nat} {x : Nat} (d : dec cc pc (.astore i) 2 n) (hn : i < nl) (hl : (i, Value.ref x) :: st1 i lo = lo') (k : VW γ ε cc own nl dd n lo' st h) : VW γ ε cc own nl dd pc lo (.ref x :: st) h := by
  obtain ⟨p, e, R, s, m, args, below, meth, c, kc, ks, Z, A⟩ := ε
  obtain ⟨d, rfl⟩ := d
  intro O H locs ls hP hS h9
  exact lv_astore O.1 O.2.1 d h9 hn hl (fun ls2 h8 => k O H locs ls2 hP hS h8)
theorem VW.iinc {i : Nat} {z : Int} {x w : Int32} (d : dec cc pc (.iinc i z) 3 n) (j : Nat) (hj : lo[j]? = some (i, .int x)) (hz : Int32.ofInt z = w) (hn : i < nl) (hl : (i, Value.int (x + w)) :: st1 i lo = lo') (k : VW γ ε cc own nl dd n lo' st h) : VW γ ε cc own nl dd pc lo st h := by
  obtain ⟨p, e, R, s, m, args, below, meth, c, kc, ks, Z, A⟩ := ε
  obtain ⟨d, rfl⟩ := d
  intro O H locs ls hP hS h9
  exact lv_iinc O.1 O.2.1 d h9 hj (by rw [hz]) hn hl (fun ls2 h8 => k O H locs ls2 hP hS h8)
theorem VW.sub (is : List Nat) (hl : lv_pick lo is = lo') (k : VW γ ε cc own nl dd pc lo' st h) : VW γ ε cc own nl dd pc lo st h := by
  obtain ⟨p, e, R, s, m, args, below, meth, c, kc, ks, Z, A⟩ := ε
  intro O H locs ls hP hS h9
  exact k O H locs ls hP hS (lv_sub h9 is hl)
end VWR
