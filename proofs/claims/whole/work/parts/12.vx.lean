/-! constructors: a world that grows, as a list -/
def va_AOA (ty : FieldType) (U : State) : Prop := (Cond.arrayOver (.array ty)).before #[] U = true
theorem va_AOA.use {ty : FieldType} {A : Array Value} {U : State} (h : va_AOA ty U) : (Cond.arrayOver (.array ty)).before A U = true := h
/-- f, but v at every address of l -/
def vr_up {α : Type} (f : Nat → α) (l : List Nat) (v : α) : Nat → α := fun a => if a ∈ l then v else f a
theorem vr_up_in {α : Type} {f : Nat → α} {l : List Nat} {v : α} {a : Nat} (h : a ∈ l) : vr_up f l v a = v := if_pos h
theorem vr_up_ne {α : Type} {f : Nat → α} {l : List Nat} {v : α} {a : Nat} (h : a ∉ l) : vr_up f l v a = f a := if_neg h
theorem vr_rows {L l : List Nat} {f : Nat → va_E} {e : va_E} (h : ∀ a, a ∈ l → a ∉ L) : va_pl L f ++ l.map (fun a => (a, e)) = va_pl (L ++ l) (vr_up f l e) := by
  unfold va_pl
  rw [List.map_append]
  congr 1
  · apply List.map_congr_left
    intro a ha
    rw [vr_up_ne (fun q => h a q ha)]
  · apply List.map_congr_left
    intro a ha
    rw [vr_up_in ha]
theorem vr_lay {X rows : va_W} {x : Nat × va_E} {pl : va_W} {D : va_G} {cl : List vw_C} {H : Heap} (hP : va_P D cl (((X ++ pl) ++ [x]) ++ rows) H) : va_P D cl ((X ++ [x]) ++ (pl ++ rows)) H := by
  rw [List.append_assoc (X ++ pl)] at hP
  have h := va_P.swap hP
  rw [← List.append_assoc X] at h
  have h2 := va_P.swap h
  rw [List.append_assoc (X ++ [x])] at h2
  exact h2
theorem vr_layD {X rows : va_W} {x : Nat × va_E} {pl : va_W} {A : Nat → Prop} (hD : va_D A (((X ++ pl) ++ [x]) ++ rows)) : va_D A ((X ++ [x]) ++ (pl ++ rows)) := by
  rw [List.append_assoc (X ++ pl)] at hD
  have h := va_D.swap hD
  rw [← List.append_assoc X] at h
  have h2 := va_D.swap h
  rw [List.append_assoc (X ++ [x])] at h2
  exact h2
theorem vr_outer (c : ClassId) (N h0 : Nat) : ∀ i : Nat, Jvm.Free.Multi.outerC c N h0 i = arrV c N (fun j => va_rf (if j < i then some (h0 + 1 + j) else none))
  | 0 => by
    show ({ cls := c, slots := Array.replicate N .null, vm := .none } : Cell) = _
    rw [arrV_new]
    refine congrArg (arrV c N) (funext fun j => ?_)
    simp [va_rf]
  | i + 1 => by
    show (Jvm.Free.Multi.outerC c N h0 i).setSlot i (.ref (h0 + 1 + i)) = _
    rw [vr_outer c N h0 i, arrV_store]
    refine congrArg (arrV c N) (funext fun j => ?_)
    by_cases e : j = i
    · subst e
      simp [updV, va_rf]
    · by_cases h : j < i
      · simp [updV, e, h, Nat.lt_succ_of_lt h]
      · simp [updV, e, h, show ¬ j < i + 1 by omega]
section VGM
variable {p : Program} {l : Launch} {e : Env} {R : Room} {s : State} {m : MethodId} {args : Array Value} {below : List Frame} {meth : Method} {c : Code} {H : Heap} {locs : List Loc} {cells slots : Nat} {Q : State → Prop}
variable {cc : ByteArray} {pc : Nat} {ls : Array Slot} {rest : List Value} {D : va_G} {cl : List vw_C} {A : Nat → Prop} {a : Nat} {tys : List (ClassId × FieldType)} {ws : va_W} {H0 : Heap}
theorem va_mna {X : va_W} {L : List Nat} {f : Nat → va_E} {cc : ByteArray} (hexec : p.tables.exec = Jvm.exec) (hb : c.code = cc) {own : String} {index : Nat} {ty : FieldType} {cy : ClassId} (hown : s.vm.findClass own = some m.cls) (hclink : (Cond.classLink own index ("[" ++ (FieldType.array ty).toString)).before args s = true) (hover : va_AOA ty s) (harr : (Cond.arrayClass ty).before args s = true) (hcy : s.vm.findClass (FieldType.array ty).toString = some cy)
    (hK : va_K D cl tys s) (hP : va_P D cl (X ++ va_pl L f) H) (hD : va_D A (X ++ va_pl L f)) (hS : va_S A H0 H locs) (hA : ∀ q, H0.size ≤ q → A q) {n k : Int32} {N' K' : Nat} {z : vp_A} (hn : ¬ n < 0) (hk : ¬ k < 0) (hN : n.toNatClampNeg = N') (hM : k.toNatClampNeg = K')
    (hb1 : N' * 4 ≤ 536870912) (hb2 : K' * componentBytes ty ≤ 536870912) (hb3 : K' ≤ 536870912) (hdf : fits ty (defaultValue ty) = true) (hdd : (defaultValue ty).isDefault = true) (hcells : cells + (1 + N') ≤ R.cells) (hslots : slots + (N' + N' * K') ≤ R.slots) (hz : ∀ c : ClassId, Jvm.Free.Multi.innerC c K' (defaultValue ty) = vp_cell c z) (hdg : decode cc pc = .ok (.multianewarray index 2, 4))
    (kk : ∀ (q : Nat) (r : Nat → Nat) (cA : ClassId) (H1 : Heap), (∀ i j : Nat, i < N' → j < N' → r i = r j → i = j) → (∀ i : Nat, i < N' → r i ∉ L) → va_K D cl (tys ++ [(cA, .array ty)]) s →
      va_P D cl ((X ++ [(q, .inl (cA, N', .inr (.inr (.inr (.inr (fun i => if i < N' then some (r i) else none))))))]) ++ va_pl (L ++ (List.range N').map r) (vr_up f ((List.range N').map r) (.inl (cy, z)))) H1 → va_D A ((X ++ [(q, .inl (cA, N', .inr (.inr (.inr (.inr (fun i => if i < N' then some (r i) else none))))))]) ++ va_pl (L ++ (List.range N').map r) (vr_up f ((List.range N').map r) (.inl (cy, z)))) → va_S A H0 H1 locs →
      W p l e R s m args below meth c H1 locs (cells + 1 + N') (slots + N' + N' * K') Q (F0 m (pc + 4) ls (.ref q :: rest))) : W p l e R s m args below meth c H locs cells slots Q (F0 m pc ls (.int k :: .int n :: rest)) := by
  subst hN
  subst hM
  intro T hT Xs
  obtain ⟨vm₁, cA, comp, -, fA, fC, hO, -, X', step⟩ := Xs.multianewarray2F hexec hown hclink (va_AOA.use hover) harr (g := F0 m pc ls (.int k :: .int n :: rest)) rfl (by rw [hb]; exact hdg) rfl hn hk hb1 hb2 hb3 hdf hdd hcells hslots
  have ec : some cy = some comp := hcy.symm.trans fC
  cases ec
  generalize hF : Jvm.Free.Multi.fill (T.setVm vm₁) cA cy n.toNatClampNeg k.toNatClampNeg (defaultValue ty) n.toNatClampNeg = F at X' step
  have hTh : (T.setVm vm₁).heap = H := hT
  obtain ⟨f1, f2, -, -⟩ := Jvm.Free.Multi.fill_facts (T.setVm vm₁) cA cy n.toNatClampNeg k.toNatClampNeg (defaultValue ty) n.toNatClampNeg
  rw [hF, hTh] at f1 f2
  have hold : ∀ x : Nat, x < H.size → F.heap[x]? = H[x]? := fun x hx => by
    have := Jvm.Free.Multi.fill_old (T.setVm vm₁) cA cy n.toNatClampNeg k.toNatClampNeg (defaultValue ty) (a := x) (by rw [hTh]; exact hx) n.toNatClampNeg
    rw [hF, hTh] at this
    exact this
  have hrow : ∀ j : Nat, j < n.toNatClampNeg → F.heap[H.size + 1 + j]? = some (vp_cell cy z) := fun j hj => by
    have := Jvm.Free.Multi.fill_inner (T.setVm vm₁) cA cy n.toNatClampNeg k.toNatClampNeg (defaultValue ty) n.toNatClampNeg j hj
    rw [hF, hTh, hz] at this
    exact this
  have hout : Jvm.Free.Multi.outerC cA n.toNatClampNeg H.size n.toNatClampNeg = vp_cell cA (n.toNatClampNeg, .inr (.inr (.inr (.inr (fun i => if i < n.toNatClampNeg then some (H.size + 1 + i) else none))))) := by
    rw [vp_cell_q]
    exact vr_outer cA n.toNatClampNeg H.size n.toNatClampNeg
  rw [hout] at f2
  have hlt : ∀ a, a ∈ L → a < H.size := fun a ha => by
    obtain ⟨k9, hk9⟩ := va_pl_get (X := X) (f := f) ha
    exact (hP k9 _ hk9).lt
  have hnl : ∀ i : Nat, i < n.toNatClampNeg → H.size + 1 + i ∉ L := fun i _ h => by
    have := hlt _ h
    omega
  have hnm : ∀ a, a ∈ (List.range n.toNatClampNeg).map (fun i => H.size + 1 + i) → a ∉ L := fun a ha h => by
    obtain ⟨i, -, rfl⟩ := List.mem_map.mp ha
    have := hlt _ h
    omega
  have hP0 : va_P D cl (X ++ va_pl L f) F.heap := hP.kept (fun k9 x hx => hold x.1 ((hP k9 x hx).lt))
  have hP1 : va_P D cl ((X ++ va_pl L f) ++ [(H.size, .inl (cA, n.toNatClampNeg, .inr (.inr (.inr (.inr (fun i => if i < n.toNatClampNeg then some (H.size + 1 + i) else none))))))]) F.heap := hP0.app (fun k9 x hx => by
    have h0 : k9 < 1 := (List.getElem?_eq_some_iff.mp hx).1
    rw [show k9 = 0 by omega] at hx
    cases hx
    exact f2)
  have hP2 : va_P D cl (((X ++ va_pl L f) ++ [(H.size, .inl (cA, n.toNatClampNeg, .inr (.inr (.inr (.inr (fun i => if i < n.toNatClampNeg then some (H.size + 1 + i) else none))))))]) ++ ((List.range n.toNatClampNeg).map (fun i => H.size + 1 + i)).map (fun a => (a, .inl (cy, z)))) F.heap := hP1.app (fun k9 x hx => by
    obtain ⟨a, ha, rfl⟩ := List.mem_map.mp (List.mem_of_getElem? hx)
    obtain ⟨i, hi, rfl⟩ := List.mem_map.mp ha
    exact hrow i (List.mem_range.mp hi))
  have hD2 : va_D A (((X ++ va_pl L f) ++ [(H.size, .inl (cA, n.toNatClampNeg, .inr (.inr (.inr (.inr (fun i => if i < n.toNatClampNeg then some (H.size + 1 + i) else none))))))]) ++ ((List.range n.toNatClampNeg).map (fun i => H.size + 1 + i)).map (fun a => (a, .inl (cy, z)))) := by
    have hD1 := hD.push (e := .inl (cA, n.toNatClampNeg, .inr (.inr (.inr (.inr (fun i => if i < n.toNatClampNeg then some (H.size + 1 + i) else none)))))) hP rfl (hA _ hS.1)
    generalize hW1 : (X ++ va_pl L f) ++ [(H.size, .inl (cA, n.toNatClampNeg, .inr (.inr (.inr (.inr (fun i => if i < n.toNatClampNeg then some (H.size + 1 + i) else none))))))] = W1 at hD1 hP1 ⊢
    have hle : ∀ (k9 : Nat) (x : Nat × va_E), W1[k9]? = some x → x.1 ≤ H.size := fun k9 x hx => by
      rw [← hW1] at hx
      by_cases hl : k9 < (X ++ va_pl L f).length
      · rw [List.getElem?_append_left hl] at hx
        exact Nat.le_of_lt ((hP k9 x hx).lt)
      · rw [List.getElem?_append_right (by omega)] at hx
        have h0 : k9 - (X ++ va_pl L f).length < 1 := (List.getElem?_eq_some_iff.mp hx).1
        rw [show k9 - (X ++ va_pl L f).length = 0 by omega] at hx
        cases hx
        exact Nat.le_refl _
    have hr : ∀ (k9 : Nat) (x : Nat × va_E), (((List.range n.toNatClampNeg).map (fun i => H.size + 1 + i)).map (fun a => ((a, .inl (cy, z)) : Nat × va_E)))[k9]? = some x → x.1 = H.size + 1 + k9 := fun k9 x hx => by
      rw [List.getElem?_map, List.getElem?_map] at hx
      by_cases h9 : k9 < n.toNatClampNeg
      · rw [List.getElem?_range h9] at hx
        cases hx
        rfl
      · have hn0 : (List.range n.toNatClampNeg)[k9]? = none := List.getElem?_eq_none (by rw [List.length_range]; omega)
        rw [hn0] at hx
        cases hx
    refine ⟨fun i j x y hi hj hxy => ?_, fun k9 x hx => ?_⟩
    · by_cases h1 : i < W1.length <;> by_cases h2 : j < W1.length
      · rw [List.getElem?_append_left h1] at hi
        rw [List.getElem?_append_left h2] at hj
        exact hD1.1 i j x y hi hj hxy
      · rw [List.getElem?_append_left h1] at hi
        rw [List.getElem?_append_right (by omega)] at hj
        have := hle _ _ hi
        have := hr _ _ hj
        omega
      · rw [List.getElem?_append_right (by omega)] at hi
        rw [List.getElem?_append_left h2] at hj
        have := hle _ _ hj
        have := hr _ _ hi
        omega
      · rw [List.getElem?_append_right (by omega)] at hi hj
        have := hr _ _ hi
        have := hr _ _ hj
        omega
    · by_cases h1 : k9 < W1.length
      · rw [List.getElem?_append_left h1] at hx
        exact hD1.2 k9 x hx
      · rw [List.getElem?_append_right (by omega)] at hx
        have := hr _ _ hx
        exact hA _ (by have := hS.1; omega)
  have hAr : ArrOfT s cA (.array ty) := fun N9 z9 => by
    obtain ⟨-, k9, hk9, cm9, hkk9⟩ := (hO 0 0 0).1
    exact ⟨(fun q hq => by cases hq), k9, hk9, cm9, hkk9⟩
  have hK2 : va_K D cl (tys ++ [(cA, .array ty)]) s := ⟨hK.1, fun k9 x hx => by
    by_cases hl : k9 < tys.length
    · rw [List.getElem?_append_left hl] at hx
      exact hK.2 k9 x hx
    · rw [List.getElem?_append_right (by omega)] at hx
      have h0 : k9 - tys.length < 1 := (List.getElem?_eq_some_iff.mp hx).1
      rw [show k9 - tys.length = 0 by omega] at hx
      cases hx
      exact ⟨hAr, fA⟩⟩
  obtain ⟨t, a1, b1⟩ := kk H.size (fun i => H.size + 1 + i) cA F.heap (fun i j _ _ h => by have h9 : H.size + 1 + i = H.size + 1 + j := h; omega) hnl hK2 (by rw [← vr_rows hnm]; exact vr_lay hP2) (by rw [← vr_rows hnm]; exact vr_layD hD2) ⟨by rw [f1]; have := hS.1; omega, fun x h1 h2 => (hold x (Nat.lt_of_lt_of_le h1 hS.1)).trans (hS.2.1 x h1 h2), hS.2.2⟩ F rfl X'
  refine ⟨t, step t ?_, b1⟩
  have e : T.heap.size = H.size := by rw [hT]
  rw [e]
  exact a1
end VGM
abbrev Ex : Type := Program × Env × Room × State × MethodId × Array Value × List Frame × Method × Code × (State → Prop) × (Nat → Prop)
/-- what the tables say of arrays of references, of nest mates' constructors -/
def nst2 (U : State) : Prop := (∀ q ∈ nst, va_Nw (.methodLinkNest q.1 q.2.1 q.2.2.1 q.2.2.2) U) ∧ va_AO RX6 U ∧ va_AO RX0 U ∧ va_AOA .int U
def OKX (γ : Gm) (ε : Ex) (cc : ByteArray) (own : String) (nl dd RC RS : Nat) : Prop := match ε with
  | (p, _, R, s, m, args, _, meth, c, _, A) => p.tables.exec = Jvm.exec ∧ c.code = cc ∧ c.maxLocals = nl ∧ s.vm.findClass own = some m.cls ∧ (∀ w ∈ lt, w.before args s = true) ∧ va_K γ.1 vwCl (tyl γ) s ∧ nst2 s ∧ (∀ q, s.heap.size ≤ q → A q) ∧ (dd ≤ R.frames ∧ 64 * dd ≤ R.locals ∧ RC ≤ R.cells ∧ RS ≤ R.slots) ∧ meth.locks = false
def VX (γ : Gm) (ε : Ex) (cc : ByteArray) (own : String) (nl dd RC RS : Nat) (pc : Nat) (lo : List (Nat × Value)) (st : List Value) (ws : va_W) (kc ks : Nat) : Prop := match ε with
  | (p, e, R, s, m, args, below, meth, c, Z, A) => OKX γ (p, e, R, s, m, args, below, meth, c, Z, A) cc own nl dd RC RS → ∀ (H : Heap) (locs : List Loc) (ls : Array Slot), va_P γ.1 vwCl ws H → va_D A ws → va_S A s.heap H locs → lv_has ls nl lo → W p γ.2.2.2.2 e R s m args below meth c H locs kc ks Z (F0 m pc ls st)
/-- an array of ints, all 0; an array of references, all null; two together by a function -/
abbrev eA (γ : Gm) (n : Nat) : va_E := .inl (γ.2.1 0, n, .inl (fun _ => 0))
abbrev eR (γ : Gm) (t n : Nat) (f : Nat → Option Nat) : va_E := .inl (γ.2.1 t, n, .inr (.inr (.inr (.inr f))))
section VXR
variable {γ : Gm} {ε : Ex} {cc : ByteArray} {own : String} {nl dd RC RS pc n : Nat} {lo lo' : List (Nat × Value)} {st : List Value} {ws ws' : va_W} {kc ks : Nat}
theorem VX.iconst {z : Int} {v : Int32} (d : dec cc pc (.iconst z) 1 n) (hv : Int32.ofInt z = v) (k : VX γ ε cc own nl dd RC RS n lo (.int v :: st) ws kc ks) : VX γ ε cc own nl dd RC RS pc lo st ws kc ks := by
  obtain ⟨p, e, R, s, m, args, below, meth, c, Z, A⟩ := ε
  obtain ⟨d, rfl⟩ := d
  intro O H locs ls hP hD hS hl
  exact lv_iconst O.1 O.2.1 d hv (k O H locs ls hP hD hS hl)
theorem VX.bipush {z : Int} {v : Int32} (d : dec cc pc (.bipush z) 2 n) (hv : (Int8.ofInt z).toInt32 = v) (k : VX γ ε cc own nl dd RC RS n lo (.int v :: st) ws kc ks) : VX γ ε cc own nl dd RC RS pc lo st ws kc ks := by
  obtain ⟨p, e, R, s, m, args, below, meth, c, Z, A⟩ := ε
  obtain ⟨d, rfl⟩ := d
  intro O H locs ls hP hD hS hl
  exact lv_bipush O.1 O.2.1 d hv (k O H locs ls hP hD hS hl)
theorem VX.sipush {z : Int} {v : Int32} (d : dec cc pc (.sipush z) 3 n) (hv : (Int16.ofInt z).toInt32 = v) (k : VX γ ε cc own nl dd RC RS n lo (.int v :: st) ws kc ks) : VX γ ε cc own nl dd RC RS pc lo st ws kc ks := by
  obtain ⟨p, e, R, s, m, args, below, meth, c, Z, A⟩ := ε
  obtain ⟨d, rfl⟩ := d
  intro O H locs ls hP hD hS hl
  exact lv_sipush O.1 O.2.1 d hv (k O H locs ls hP hD hS hl)
theorem VX.iload_n {q : Fin 4} {x : Int32} (d : dec cc pc (.iload_n q) 1 n) (j : Nat) (hj : lo[j]? = some (q.val, .int x)) (k : VX γ ε cc own nl dd RC RS n lo (.int x :: st) ws kc ks) : VX γ ε cc own nl dd RC RS pc lo st ws kc ks := by
  obtain ⟨p, e, R, s, m, args, below, meth, c, Z, A⟩ := ε
  obtain ⟨d, rfl⟩ := d
  intro O H locs ls hP hD hS hl
  exact lv_iload_n O.1 O.2.1 d rfl (lv_at hl j hj) (k O H locs ls hP hD hS hl)
theorem VX.aload_n {q : Fin 4} {x : Nat} (d : dec cc pc (.aload_n q) 1 n) (j : Nat) (hj : lo[j]? = some (q.val, .ref x)) (k : VX γ ε cc own nl dd RC RS n lo (.ref x :: st) ws kc ks) : VX γ ε cc own nl dd RC RS pc lo st ws kc ks := by
  obtain ⟨p, e, R, s, m, args, below, meth, c, Z, A⟩ := ε
  obtain ⟨d, rfl⟩ := d
  intro O H locs ls hP hD hS hl
  exact lv_aload_n O.1 O.2.1 d rfl (lv_at hl j hj) (k O H locs ls hP hD hS hl)
theorem VX.istore_n {q : Fin 4} {x : Int32} (d : dec cc pc (.istore_n q) 1 n) (hn : q.val < nl) (hl : (q.val, Value.int x) :: st1 q.val lo = lo') (k : VX γ ε cc own nl dd RC RS n lo' st ws kc ks) : VX γ ε cc own nl dd RC RS pc lo (.int x :: st) ws kc ks := by
  obtain ⟨p, e, R, s, m, args, below, meth, c, Z, A⟩ := ε
  obtain ⟨d, rfl⟩ := d
  intro O H locs ls hP hD hS h9
  exact lv_istore_n O.1 O.2.1 d rfl h9 hn hl (fun ls2 h8 => k O H locs ls2 hP hD hS h8)
theorem VX.astore_n {q : Fin 4} {x : Nat} (d : dec cc pc (.astore_n q) 1 n) (hn : q.val < nl) (hl : (q.val, Value.ref x) :: st1 q.val lo = lo') (k : VX γ ε cc own nl dd RC RS n lo' st ws kc ks) : VX γ ε cc own nl dd RC RS pc lo (.ref x :: st) ws kc ks := by
  obtain ⟨p, e, R, s, m, args, below, meth, c, Z, A⟩ := ε
  obtain ⟨d, rfl⟩ := d
  intro O H locs ls hP hD hS h9
  exact lv_astore_n O.1 O.2.1 d rfl h9 hn hl (fun ls2 h8 => k O H locs ls2 hP hD hS h8)
theorem VX.iinc {i : Nat} {z : Int} {x v : Int32} (d : dec cc pc (.iinc i z) 3 n) (j : Nat) (hj : lo[j]? = some (i, .int x)) (hv : x + Int32.ofInt z = v) (hn : i < nl) (hl : (i, Value.int v) :: st1 i lo = lo') (k : VX γ ε cc own nl dd RC RS n lo' st ws kc ks) : VX γ ε cc own nl dd RC RS pc lo st ws kc ks := by
  obtain ⟨p, e, R, s, m, args, below, meth, c, Z, A⟩ := ε
  obtain ⟨d, rfl⟩ := d
  intro O H locs ls hP hD hS h9
  exact lv_iinc O.1 O.2.1 d h9 hj hv hn hl (fun ls2 h8 => k O H locs ls2 hP hD hS h8)
theorem VX.goto {z : Int} {len : Nat} (tgt : Nat) (d : dec cc pc (.goto z) 3 len) (ht : (pc : Int) + z = (tgt : Int)) (k : VX γ ε cc own nl dd RC RS tgt lo st ws kc ks) : VX γ ε cc own nl dd RC RS pc lo st ws kc ks := by
  obtain ⟨p, e, R, s, m, args, below, meth, c, Z, A⟩ := ε
  obtain ⟨d, rfl⟩ := d
  intro O H locs ls hP hD hS hl
  exact lv_goto O.1 O.2.1 d ht (k O H locs ls hP hD hS hl)
theorem VX.icmp_ge {x y : Int32} {z : Int} (tgt : Nat) (d : dec cc pc (.if_icmp .ge z) 3 n) (ht : (pc : Int) + z = (tgt : Int)) (kt : (y ≤ x) → VX γ ε cc own nl dd RC RS tgt lo st ws kc ks) (kf : ¬ (y ≤ x) → VX γ ε cc own nl dd RC RS n lo st ws kc ks) : VX γ ε cc own nl dd RC RS pc lo (.int y :: .int x :: st) ws kc ks := by
  obtain ⟨p, e, R, s, m, args, below, meth, c, Z, A⟩ := ε
  obtain ⟨d, rfl⟩ := d
  intro O H locs ls hP hD hS hl
  exact lv_icmp_ge O.1 O.2.1 d ht (fun q => kt q O H locs ls hP hD hS hl) (fun q => kf q O H locs ls hP hD hS hl)
theorem VX.dup {v : Value} (d : dec cc pc .dup 1 n) (hv : v.category = 1) (k : VX γ ε cc own nl dd RC RS n lo (v :: v :: st) ws kc ks) : VX γ ε cc own nl dd RC RS pc lo (v :: st) ws kc ks := by
  obtain ⟨p, e, R, s, m, args, below, meth, c, Z, A⟩ := ε
  obtain ⟨d, rfl⟩ := d
  intro O H locs ls hP hD hS hl
  exact lv_dup O.1 O.2.1 d hv (k O H locs ls hP hD hS hl)
theorem VX.objInit {ix : Nat} {a : Nat} (d : dec cc pc (.invokespecial ix) 3 n) (h1 : Cond.methodLink own ix objectInit ∈ lt) (h2 : Cond.instanceMethod objectInit ∈ lt) (h3 : Cond.code objectInit ⟨#[0xb1]⟩ 1 none ∈ lt) (hd : 1 ≤ dd) (hr : (st.map fun v => v.category).sum ≤ 8) (k : VX γ ε cc own nl dd RC RS n lo st ws kc ks) : VX γ ε cc own nl dd RC RS pc lo (.ref a :: st) ws kc ks := by
  obtain ⟨p, e, R, s, m, args, below, meth, c, Z, A⟩ := ε
  obtain ⟨d, rfl⟩ := d
  intro O H locs ls hP hD hS hl
  obtain ⟨r1, r2, r3, r4⟩ := O.2.2.2.2.2.2.2.2.1
  refine W.objInit O.1 O.2.1 O.2.2.2.1 (O.2.2.2.2.1 _ h1) (O.2.2.2.2.1 _ h2) (O.2.2.2.2.1 _ h3) rfl (hl.1.trans O.2.2.1.symm) rfl d (by omega) ?_ (W.eq (g2 := F0 m (pc + 3) ls st) rfl (k O H locs ls hP hD hS hl))
  have := lv_room (m := m) (pc := pc) (ls := ls) (rest := (.ref a :: st)) hr
  omega
theorem VX.getR {ix cI k i a : Nat} {fs : List Value} {v : Value} (d : dec cc pc (.getfield ix) 3 n) (hi : ws[i]? = some (a, .inr (cI, fs))) (hf : fs[k]? = some v) (F : fl own ix cI k) (K : ck cI) (kk : VX γ ε cc own nl dd RC RS n lo (v :: st) ws kc ks) : VX γ ε cc own nl dd RC RS pc lo (.ref a :: st) ws kc ks := by
  obtain ⟨p, e, R, s, m, args, below, meth, c, Z, A⟩ := ε
  obtain ⟨d, rfl⟩ := d
  intro O H locs ls hP hD hS hl
  exact va_get O.1 O.2.1 O.2.2.2.2.1 K.1 O.2.2.2.1 O.2.2.2.2.2.1 hP i hi F.1 k F.2.1 (O.2.2.2.2.1 _ F.2.2) (fun _ z => z) hf d (kk O H locs ls hP hD hS hl)
theorem VX.put {ix cI k i a : Nat} {fs : List Value} {v : Value} {ty : FieldType} (d : dec cc pc (.putfield ix) 3 n) (hi : ws[i]? = some (a, .inr (cI, fs))) (F : fl own ix cI k) (K : ck cI) (hfin : ((cR cI).2.1 k).2.2.2 = false) (hty : cT cI k = ty) (hn : narrow ty v = v) (hfit : fits ty v = true) (hl0 : k < fs.length) (he : ws.set i (a, .inr (cI, fs.set k v)) = ws') (kk : VX γ ε cc own nl dd RC RS n lo st ws' kc ks) : VX γ ε cc own nl dd RC RS pc lo (v :: .ref a :: st) ws kc ks := by
  obtain ⟨p, e, R, s, m, args, below, meth, c, Z, A⟩ := ε
  obtain ⟨d, rfl⟩ := d
  subst he
  intro O H locs ls hP hD hS hl
  exact va_put O.1 O.2.1 O.2.2.2.2.1 K.1 _ K.2.1 K.2.2 O.2.2.2.1 O.2.2.2.2.2.1 hP hD hS i hi F.1 k F.2.1 (O.2.2.2.2.1 _ F.2.2) (fun _ z => z) hfin (K.2.1 k F.2.1) (by rw [hty]; exact hn) (by rw [hty]; exact hfit) hl0 d (fun H1 locs1 hP1 hD1 hS1 => kk O H1 locs1 ls hP1 hD1 hS1 hl)
/-- a frame's own name -/
def INI (ε : Ex) : Prop := match ε with
  | (_, _, _, _, _, _, _, meth, _, _, _) => meth.name = "<init>"
theorem VX.putF {ix cI k i a : Nat} {fs : List Value} {v : Value} {ty : FieldType} (hI : INI ε) (d : dec cc pc (.putfield ix) 3 n) (hi : ws[i]? = some (a, .inr (cI, fs))) (F : fl own ix cI k) (K : ck cI) (hfin : ((cR cI).2.1 k).2.2.2 = true) (hdecl : ((cR cI).2.1 k).1 = own) (hty : cT cI k = ty) (hn : narrow ty v = v) (hfit : fits ty v = true) (hl0 : k < fs.length) (he : ws.set i (a, .inr (cI, fs.set k v)) = ws') (kk : VX γ ε cc own nl dd RC RS n lo st ws' kc ks) : VX γ ε cc own nl dd RC RS pc lo (v :: .ref a :: st) ws kc ks := by
  obtain ⟨p, e, R, s, m, args, below, meth, c, Z, A⟩ := ε
  obtain ⟨d, rfl⟩ := d
  subst he
  intro O H locs ls hP hD hS hl
  exact va_putF O.1 O.2.1 O.2.2.2.2.1 K.1 _ K.2.1 K.2.2 O.2.2.2.1 O.2.2.2.2.2.1 hP hD hS i hi F.1 k F.2.1 (O.2.2.2.2.1 _ F.2.2) (fun _ z => z) hfin hI hdecl (K.2.1 k F.2.1) (by rw [hty]; exact hn) (by rw [hty]; exact hfit) hl0 d (fun H1 locs1 hP1 hD1 hS1 => kk O H1 locs1 ls hP1 hD1 hS1 hl)
theorem VX.new {ix cI : Nat} {fs : List Value} (d : dec cc pc (.new ix) 3 n) (h1 : Cond.classLink own ix (cR cI).1 ∈ lt) (h2 : Cond.instantiable (cR cI).1 (cR cI).2.2 ∈ lt) (h3 : Cond.initialized (cR cI).1 ∈ lt) (K : ck cI) (hc : vwCl[cI]? = some (cR cI)) (hfs : ∀ j, j < (cR cI).2.2 → defaultValue (cT cI j) = vp_V fs j) (hc1 : kc + 1 ≤ RC) (hs1 : ks + (cR cI).2.2 ≤ RS) (kk : ∀ q : Nat, VX γ ε cc own nl dd RC RS n lo (.ref q :: st) (ws ++ [(q, .inr (cI, fs))]) (kc + 1) (ks + (cR cI).2.2)) : VX γ ε cc own nl dd RC RS pc lo st ws kc ks := by
  obtain ⟨p, e, R, s, m, args, below, meth, c, Z, A⟩ := ε
  obtain ⟨d, rfl⟩ := d
  intro O H locs ls hP hD hS hl
  obtain ⟨r1, r2, r3, r4⟩ := O.2.2.2.2.2.2.2.2.1
  exact va_new O.1 O.2.1 O.2.2.2.2.1 K.1 (cT cI) K.2.1 O.2.2.2.1 (O.2.2.2.2.1 _ h1) (O.2.2.2.2.1 _ h2) (O.2.2.2.2.1 _ h3) O.2.2.2.2.2.1 hP hD hS O.2.2.2.2.2.2.2.1 hc hfs (by omega) (by omega) d (fun q H1 hP1 hD1 hS1 => kk q O H1 locs ls hP1 hD1 hS1 hl)
theorem cls_eq {s : State} {γ : Gm} {c : ClassId} {t : Nat} (ht : t < 4) (hK : va_K γ.1 vwCl (tyl γ) s) (h : va_RA s c (tyf t)) : c = γ.2.1 t := by
  have h1 := (hK.2 t _ (tyl_at γ ht)).2
  match t, ht with
  | 0, _ => exact Option.some.inj (h.symm.trans h1)
  | 1, _ =>
    obtain ⟨_, _, _, _, _, a4⟩ := h
    obtain ⟨_, _, _, _, _, b4⟩ := h1
    exact Option.some.inj (a4.symm.trans b4)
  | 2, _ =>
    obtain ⟨_, _, _, _, _, a4⟩ := h
    obtain ⟨_, _, _, _, _, b4⟩ := h1
    exact Option.some.inj (a4.symm.trans b4)
  | 3, _ => exact Option.some.inj (h.symm.trans h1)
theorem VX.newa {z : Int32} {N : Nat} (d : dec cc pc (.newarray .int) 2 n) (ha : Cond.arrayClass .int ∈ lt) (hz : ¬ z < 0) (hN : z.toNatClampNeg = N) (hb : N * 4 ≤ 536870912) (hc1 : kc + 1 ≤ RC) (hs1 : ks + N ≤ RS) (kk : ∀ q : Nat, VX γ ε cc own nl dd RC RS n lo (.ref q :: st) (ws ++ [(q, eA γ N)]) (kc + 1) (ks + N)) : VX γ ε cc own nl dd RC RS pc lo (.int z :: st) ws kc ks := by
  obtain ⟨p, e, R, s, m, args, below, meth, c, Z, A⟩ := ε
  obtain ⟨d, rfl⟩ := d
  intro O H locs ls hP hD hS hl
  obtain ⟨r1, r2, r3, r4⟩ := O.2.2.2.2.2.2.2.2.1
  refine va_newa (atype := .int) (ty := .int) (a0 := (N, .inl (fun _ => 0))) O.1 O.2.1 (O.2.2.2.2.1 _ ha) rfl O.2.2.2.2.2.1 hP hD hS O.2.2.2.2.2.2.2.1 (fun _ => rfl) hz hN hb (by omega) (by omega) d (fun q cA H1 hK1 hP1 hD1 hS1 => ?_)
  have h4 := hK1.2 4 (cA, .int) rfl
  have e : cA = γ.2.1 0 := cls_eq (t := 0) (by decide) O.2.2.2.2.2.1 h4.2
  subst e
  exact kk q O H1 locs ls hP1 hD1 hS1 hl
theorem VX.newq {z : Int32} {N ix t : Nat} {C : String} (d : dec cc pc (.anewarray ix) 3 n) (h1 : Cond.classLink own ix C ∈ lt) (hC : (t = 1 ∧ C = RX6) ∨ (t = 2 ∧ C = RX0)) (hz : ¬ z < 0) (hN : z.toNatClampNeg = N) (hb : N * 4 ≤ 536870912) (hc1 : kc + 1 ≤ RC) (hs1 : ks + N ≤ RS) (kk : ∀ q : Nat, VX γ ε cc own nl dd RC RS n lo (.ref q :: st) (ws ++ [(q, eR γ t N (fun _ => none))]) (kc + 1) (ks + N)) : VX γ ε cc own nl dd RC RS pc lo (.int z :: st) ws kc ks := by
  obtain ⟨p, e, R, s, m, args, below, meth, c, Z, A⟩ := ε
  obtain ⟨d, rfl⟩ := d
  intro O H locs ls hP hD hS hl
  obtain ⟨r1, r2, r3, r4⟩ := O.2.2.2.2.2.2.2.2.1
  have hov : va_AO C s := by
    rcases hC with ⟨-, rfl⟩ | ⟨-, rfl⟩
    · exact O.2.2.2.2.2.2.1.2.1
    · exact O.2.2.2.2.2.2.1.2.2.1
  refine va_newq O.1 O.2.1 O.2.2.2.1 (O.2.2.2.2.1 _ h1) hov O.2.2.2.2.2.1 hP hD hS O.2.2.2.2.2.2.2.1 hz hN hb (by omega) (by omega) d (fun q cA H1 hK1 hP1 hD1 hS1 => ?_)
  have h4 := hK1.2 4 (cA, .object C) rfl
  have e : cA = γ.2.1 t := by
    rcases hC with ⟨rfl, rfl⟩ | ⟨rfl, rfl⟩
    · exact cls_eq (t := 1) (by decide) O.2.2.2.2.2.1 h4.2
    · exact cls_eq (t := 2) (by decide) O.2.2.2.2.2.1 h4.2
  subst e
  exact kk q O H1 locs ls hP1 hD1 hS1 hl
theorem VX.aast {i0 iv t N a v cI : Nat} {f : Nat → Option Nat} {fs : List Value} {z : Int32} (d : dec cc pc .aastore 1 n) (hi : ws[i0]? = some (a, eR γ t N f)) (hv : ws[iv]? = some (v, .inr (cI, fs))) (hC : (t = 1 ∧ cI = 6) ∨ (t = 2 ∧ cI = 0)) (hin : vp_in z N) (he : ws.set i0 (a, eR γ t N (va_up f z.toNatClampNeg (some v))) = ws') (kk : VX γ ε cc own nl dd RC RS n lo st ws' kc ks) : VX γ ε cc own nl dd RC RS pc lo (.ref v :: .int z :: .ref a :: st) ws kc ks := by
  obtain ⟨p, e, R, s, m, args, below, meth, c, Z, A⟩ := ε
  obtain ⟨d, rfl⟩ := d
  subst he
  intro O H locs ls hP hD hS hl
  rcases hC with ⟨rfl, rfl⟩ | ⟨rfl, rfl⟩
  · exact va_astq (r := (RX6, TX6, 4)) O.1 O.2.1 O.2.2.2.2.2.1 hP hD hS i0 1 iv 6 hi rfl hv rfl hin d (fun H1 locs1 hP1 hD1 hS1 => kk O H1 locs1 ls hP1 hD1 hS1 hl)
  · exact va_astq (r := (RX0, TX0, 7)) O.1 O.2.1 O.2.2.2.2.2.1 hP hD hS i0 2 iv 0 hi rfl hv rfl hin d (fun H1 locs1 hP1 hD1 hS1 => kk O H1 locs1 ls hP1 hD1 hS1 hl)
theorem VX.iast {i0 N a : Nat} {f : Nat → Int32} {z x : Int32} (d : dec cc pc .iastore 1 n) (hi : ws[i0]? = some (a, .inl (γ.2.1 0, N, .inl f))) (hin : vp_in z N) (he : ws.set i0 (a, .inl (γ.2.1 0, N, .inl (upd f z.toNatClampNeg x))) = ws') (kk : VX γ ε cc own nl dd RC RS n lo st ws' kc ks) : VX γ ε cc own nl dd RC RS pc lo (.int x :: .int z :: .ref a :: st) ws kc ks := by
  obtain ⟨p, e, R, s, m, args, below, meth, c, Z, A⟩ := ε
  obtain ⟨d, rfl⟩ := d
  subst he
  intro O H locs ls hP hD hS hl
  exact va_iast O.1 O.2.1 O.2.2.2.2.2.1 hP hD hS i0 0 hi rfl hin d (fun H1 locs1 hP1 hD1 hS1 => kk O H1 locs1 ls hP1 hD1 hS1 hl)
theorem VX.mna {z y : Int32} {ix : Nat} (d : dec cc pc (.multianewarray ix 2) 4 n) (h1 : Cond.classLink own ix "[[I" ∈ lt) (ha : Cond.arrayClass .int ∈ lt) (hz : z = 4) (hy : y = 40) (hc1 : kc + 5 ≤ RC) (hs1 : ks + 164 ≤ RS) (kk : ∀ (q r0 r1 r2 r3 : Nat) (f : Nat → Option Nat), (∀ j, f j = ([r0, r1, r2, r3][j]?)) → VX γ ε cc own nl dd RC RS n lo (.ref q :: st) (ws ++ [(q, eR γ 3 4 f), (r0, eA γ 40), (r1, eA γ 40), (r2, eA γ 40), (r3, eA γ 40)]) (kc + 5) (ks + 164)) : VX γ ε cc own nl dd RC RS pc lo (.int y :: .int z :: st) ws kc ks := by
  obtain ⟨p, e, R, s, m, args, below, meth, c, Z, A⟩ := ε
  obtain ⟨d, rfl⟩ := d
  subst hz
  subst hy
  intro O H locs ls hP hD hS hl
  obtain ⟨r1, r2, r3, r4⟩ := O.2.2.2.2.2.2.2.2.1
  have hcy : s.vm.findClass (FieldType.array .int).toString = some (γ.2.1 0) := (O.2.2.2.2.2.1.2 0 _ (tyl_at γ (t := 0) (by decide))).2
  refine va_mna (X := ws) (L := []) (f := fun _ => eA γ 0) (ty := .int) (N' := 4) (K' := 40) (z := (40, .inl (fun _ => 0))) O.1 O.2.1 O.2.2.2.1 (O.2.2.2.2.1 _ h1) O.2.2.2.2.2.2.1.2.2.2 (O.2.2.2.2.1 _ ha) hcy O.2.2.2.2.2.1 (by simpa [va_pl] using hP) (by simpa [va_pl] using hD) hS O.2.2.2.2.2.2.2.1 (by decide) (by decide) (by decide) (by decide) (Nat.le_of_ble_eq_true rfl) (Nat.le_of_ble_eq_true rfl) (Nat.le_of_ble_eq_true rfl) rfl rfl (by omega) (by omega) (fun _ => rfl) d (fun q r cA H1 hr1 hr2 hK1 hP1 hD1 hS1 => ?_)
  have h4 := hK1.2 4 (cA, .array .int) rfl
  have e : cA = γ.2.1 3 := cls_eq (t := 3) (by decide) O.2.2.2.2.2.1 h4.2
  subst e
  have hL : (ws ++ [(q, .inl (γ.2.1 3, 4, .inr (.inr (.inr (.inr (fun i => if i < 4 then some (r i) else none))))))]) ++ va_pl ([] ++ (List.range 4).map r) (vr_up (fun _ => eA γ 0) ((List.range 4).map r) (.inl (γ.2.1 0, 40, .inl (fun _ => 0)))) = ws ++ [(q, eR γ 3 4 (fun i => if i < 4 then some (r i) else none)), (r 0, eA γ 40), (r 1, eA γ 40), (r 2, eA γ 40), (r 3, eA γ 40)] := by
    simp [va_pl, vr_up, List.range_succ]
  rw [hL] at hP1 hD1
  refine kk q (r 0) (r 1) (r 2) (r 3) (fun i => if i < 4 then some (r i) else none) (fun j => ?_) O H1 locs ls hP1 hD1 hS1 hl
  match j with
  | 0 => rfl
  | 1 => rfl
  | 2 => rfl
  | 3 => rfl
  | k + 4 => simp
end VXR
/-! contracts of constructors -/
def rx (d mc ms : Nat) : Room := { frames := d, cells := mc, slots := ms, locals := 64 * d }
def wx (γ : Gm) (ws : va_W) (U : State) : Prop := va_P γ.1 vwCl ws U.heap ∧ va_K γ.1 vwCl (tyl γ) U ∧ va_D (fun _ => True) ws ∧ nst2 U
def Qx (γ : Gm) (ws : va_W) (sz : Nat) (Q : va_W → Prop) : Array Value → State → Outcome → State → Prop := fun _ u oc t => (∃ w : va_W, oc = .returned none ∧ Q w ∧ va_P γ.1 vwCl w t.heap ∧ va_D (va_A ws sz) w) ∧ va_F (va_A ws sz) u t
def MX (γ : Gm) (d : Nat) (y : MethodName) (cc : ByteArray) (nl : Nat) (av : List Value) (ws : va_W) (Q : va_W → Prop) (mc ms : Nat) : Prop :=
  ∀ sz : Nat, Met γ.2.2.2.2 y (wU y cc nl none) (rx d mc ms) (va_Pc av (fun U => U.heap.size = sz ∧ wx γ ws U)) (Qx γ ws sz Q) mc ms (va_A ws sz)
def RTX (γ : Gm) (ε : Ex) (ws0 : va_W) (Q : va_W → Prop) (mc ms : Nat) : Prop := match ε with
  | (_, _, _, s, _, args, below, meth, _, Z, A) => meth.sig.returnType = none ∧ Z = MQ below (Qx γ ws0 s.heap.size Q) args s mc ms (va_A ws0 s.heap.size) ∧ A = va_A ws0 s.heap.size
theorem MX.of {γ : Gm} {d : Nat} {y : MethodName} {cc : ByteArray} {nl : Nat} {av : List Value} {ws : va_W} {Q : va_W → Prop} {mc ms : Nat} (M : mi y cc nl none) (hnl : (lg_sl av).length ≤ nl) (hy : y.name = "<init>")
    (body : ∀ ε : Ex, RTX γ ε ws Q mc ms → INI ε → VX γ ε cc y.cls nl d mc ms 0 (lv_args 0 av) [] ws 0 0) : MX γ d y cc nl av ws Q mc ms := by
  intro sz
  refine Met.ofW (cc := cc) (maxL := nl) (ret := none) (ws' := lt) M.2 rfl ?_
  intro p e s m args below meth c s₁ B hml hv
  obtain ⟨rfl, rfl, hP, hK, hD, hN⟩ := hv
  have hts := atoms_spec (ws := wU y cc nl none) B.pre
  have hl := lv_entry av (n := nl) hnl
  have hin : meth.name = "<init>" := (name_of_methodNamed B.named B.method).1.trans hy
  rw [lg_entry_eq]
  exact body (p, e, (headSpec (wU y cc nl none) (rx d mc ms)).room, s, m, av.toArray, below, meth, c, MQ below (Qx γ ws s.heap.size Q) av.toArray s mc ms (va_A ws s.heap.size), va_A ws s.heap.size) ⟨B.returns, rfl, rfl⟩ hin ⟨B.exec, B.bytes, hml, findClass_of_methodNamed B.named, fun w hw => hts w (List.mem_cons_of_mem _ hw), hK, hN, fun q h => Or.inr h, ⟨Nat.le_refl _, Nat.le_refl _, Nat.le_refl _, Nat.le_refl _⟩, B.notSynchronized⟩ s.heap [] _ hP hD.self va_S.rf hl
theorem va_AOA.spec {ty : FieldType} {u : State} (h : va_AOA ty u) : ∃ comp c k, u.vm.findClass (FieldType.array ty).toString = some comp ∧ (u.vm.classes.findIdx? fun (x : Class) => match x.kind with | .array component _ => component == comp | _ => false) = some c ∧ u.vm.classes[c]? = some k ∧ k.kind = .array comp (.array ty) ∧ u.vm.findClass ("[" ++ (FieldType.array ty).toString) = some c := by
  unfold va_AOA Cond.before at h
  simp only [Cond.holds, Cond.value, beq_iff_eq] at h
  cases hc : u.vm.findClass (FieldType.array ty).toString with
  | none => simp [hc] at h
  | some comp =>
    simp only [hc, Option.bind_some, Option.bind_eq_some_iff, Option.map_eq_some_iff] at h
    obtain ⟨c, hi, k, hk, hb⟩ := h
    obtain ⟨hlt, hat, -⟩ := Array.findIdx?_eq_some_iff_getElem.mp hi
    have hkk : u.vm.classes[c] = k := by
      rw [Array.getElem?_eq_getElem hlt] at hk
      exact Option.some.inj hk
    rw [hkk] at hat
    cases hkind : k.kind with
    | array component t =>
      rw [hkind] at hb hat
      simp only [Bool.and_eq_true, decide_eq_true_eq, beq_iff_eq] at hb hat
      exact ⟨comp, c, k, rfl, hi, hk, by rw [hkind, hat, hb.1], hb.2⟩
    | _ => rw [hkind] at hat; cases hat
theorem va_AOA.moved {ty : FieldType} {u U : State} (hvm : u.vm.Alike U.vm) (h : va_AOA ty u) : va_AOA ty U := by
  obtain ⟨comp, c, k, h1, h2, h3, h4, h5⟩ := h.spec
  obtain ⟨k', hk', he⟩ := hvm.2.2 _ _ h3
  have hi : (U.vm.classes.findIdx? fun (x : Class) => match x.kind with | .array component _ => component == comp | _ => false) = some c := by
    refine Eq.trans (va_idx_bare U.vm comp).symm ?_
    first | rw [hvm.bare_eq] | rw [← hvm.bare_eq]
    exact (va_idx_bare u.vm comp).trans h2
  have hkind : k'.kind = .array comp (.array ty) := by rw [he]; exact h4
  have f1 : U.vm.findClass (FieldType.array ty).toString = some comp := by rw [hvm.findClass]; exact h1
  have f2 : U.vm.findClass ("[" ++ (FieldType.array ty).toString) = some c := by rw [hvm.findClass]; exact h5
  unfold va_AOA Cond.before Cond.holds
  simp only [Cond.value]
  rw [f1, Option.bind_some]
  refine (congrArg (fun o : Option Nat => (o.bind (fun c => (U.vm.classes[c]?).map fun (k : Class) => match k.kind with | .array _ t => decide (t = FieldType.array ty) && decide (U.vm.findClass ("[" ++ (FieldType.array ty).toString) = some c) | _ => false) == some true)) hi).trans ?_
  simp [hk', hkind, f2]
theorem nst2.moved {s U : State} (hW : s.WarmedH U.vm) (h : nst2 s) : nst2 U := ⟨fun q hm => va_Nw.warmM hW (h.1 q hm), h.2.1.moved hW.alike, h.2.2.1.moved hW.alike, h.2.2.2.moved hW.alike⟩
theorem nst2.same {s U : State} (e : s.vm = U.vm) (h : nst2 s) : nst2 U := ⟨fun q hm => va_Nw.same rfl e (h.1 q hm), h.2.1.moved (by rw [e]; exact Vm.Alike.refl _), h.2.2.1.moved (by rw [e]; exact Vm.Alike.refl _), h.2.2.2.moved (by rw [e]; exact Vm.Alike.refl _)⟩
section VXC
variable {γ : Gm} {ε : Ex} {cc : ByteArray} {own : String} {nl dd RC RS pc n : Nat} {lo lo' : List (Nat × Value)} {st : List Value} {ws ws' ws0 : va_W} {kc ks mc ms : Nat} {Q : va_W → Prop}
theorem VX.vret (d : dec cc pc .return_ 1 n) (r : RTX γ ε ws0 Q kc ks) (q : Q ws) : VX γ ε cc own nl dd RC RS pc lo [] ws kc ks := by
  obtain ⟨p, e, R, s, m, args, below, meth, c, Z, A⟩ := ε
  obtain ⟨d, rfl⟩ := d
  obtain ⟨hr, rfl, rfl⟩ := r
  intro O H locs ls hP hD hS hl
  exact W.vret O.1 O.2.1 hr (fun t ht hW => ⟨⟨ws, rfl, q, by rw [ht]; exact hP, hD⟩, hS.F ht⟩) hS.2.2 d O.2.2.2.2.2.2.2.2.2
theorem px_blind {γ : Gm} {av : List Value} {ws : va_W} {sz : Nat} : FrameBlind (va_Pc av (fun U => U.heap.size = sz ∧ wx γ ws U)) := fun a U g mk q => by
  obtain ⟨q0, q1, qP, qK, qD, qC⟩ := q
  exact ⟨q0, q1, qP, va_K.moved (u := U) (U := U.calling g mk a) (Vm.Alike.refl U.vm) qK, qD, nst2.same (U := U.calling g mk a) rfl qC⟩
theorem backX {γ : Gm} {p : Program} {e : Env} {R : Room} {s : State} {m : MethodId} {args : Array Value} {below : List Frame} {meth : Method} {c : Code} {Z : State → Prop} {A : Nat → Prop} {H : Heap} {locs : List Loc} {ls : Array Slot} {st0 : List Value} {a : Array Value} (O : OKX γ (p, e, R, s, m, args, below, meth, c, Z, A) cc own nl dd RC RS) (hD : va_D A ws) (hS : va_S A s.heap H locs) (hl : lv_has ls nl lo)
    (hr : va_Run p γ.2.2.2.2 e R s m args below meth c H locs kc ks mc ms (F0 m pc ls st0) st (Qx γ ws H.size Q a) (va_A ws H.size))
    (k : ∀ w, Q w → VX γ (p, e, R, s, m, args, below, meth, c, Z, A) cc own nl dd RC RS (pc + 3) lo st w (kc + mc) (ks + ms)) : W p γ.2.2.2.2 e R s m args below meth c H locs kc ks Z (F0 m pc ls st0) := by
  intro T hT X
  obtain ⟨v, st₀, t, T', L, h0, X', hL, e1, e2, ⟨⟨w, hv, hq, hp, hd⟩, hz, hk⟩, hst⟩ := hr T hT X
  cases hv
  rw [h0] at hz hk
  have hsub : ∀ q, va_A ws H.size q → A q := by
    intro q h
    rcases h with ⟨k0, e0, h⟩ | h
    · exact hD.2 k0 (q, e0) h
    · exact O.2.2.2.2.2.2.2.1 q (Nat.le_trans hS.1 h)
  obtain ⟨t2, a1, b1⟩ := k w hq O T'.heap (locs ++ L) ls (by rw [e1]; exact hp) (hd.weaken (fun _ q _ z => hsub q.1 z)) ⟨Nat.le_trans hS.1 (by rw [e1]; exact hz), fun q h1 h2 => by rw [e1, hk q (Nat.lt_of_lt_of_le h1 hS.1) (fun z => h2 (hsub q z))]; exact hS.2.1 q h1 h2, fun q hq => by
      rcases List.mem_append.mp hq with h | h
      · exact hS.2.2 q h
      · exact hsub _ (hL q h)⟩ hl T' rfl X'
  exact ⟨t2, hst t2 a1, b1⟩
/-- links of constructors' calls: a nest mate's, an ordinary one -/
def cxn (own : String) (idx : Nat) (y : MethodName) (host : String) (n : Nat) : Prop := (own, idx, y, host) ∈ nst ∧ Cond.instanceMethod y ∈ lt ∧ Cond.initialized y.cls ∈ lt ∧ y.name = "<init>" ∧ (y.cls ≠ "java/lang/invoke/MethodHandle" ∧ y.cls ≠ "java/lang/invoke/VarHandle" ∧ (parseMethodDescriptor y.desc).map (fun d => d.parameters.length) = some n)
def cxi (own : String) (idx : Nat) (y : MethodName) (n : Nat) : Prop := Cond.methodLink own idx y ∈ lt ∧ Cond.instanceMethod y ∈ lt ∧ Cond.initialized y.cls ∈ lt ∧ y.name = "<init>" ∧ (y.cls ≠ "java/lang/invoke/MethodHandle" ∧ y.cls ≠ "java/lang/invoke/VarHandle" ∧ (parseMethodDescriptor y.desc).map (fun d => d.parameters.length) = some n)
theorem VX.callN {ix : Nat} {y : MethodName} {host : String} {bc : ByteArray} {ml k a : Nat} {As : List Value} (d : dec cc pc (.invokespecial ix) 3 n) (M : mi y bc ml none) (c0 : cxn own ix y host k) (hml : ml ≤ 45) (hdd : 1 ≤ dd) (st0 : List Value) (hst : st0 = As.reverse ++ .ref a :: st) (hw : (st.map fun v => v.category).sum ≤ 8) (hk : As.length = k)
    (hc1 : kc + mc ≤ RC) (hs1 : ks + ms ≤ RS) (hM : MX γ (dd - 1) y bc ml (.ref a :: As) ws Q mc ms) (kk : ∀ w, Q w → VX γ ε cc own nl dd RC RS n lo st w (kc + mc) (ks + ms)) : VX γ ε cc own nl dd RC RS pc lo st0 ws kc ks := by
  obtain ⟨p, e, R, s, m, args, below, meth, c, Z, A⟩ := ε
  obtain ⟨d, rfl⟩ := d
  intro O H locs ls hP hD hS hl
  obtain ⟨r1, r2, r3, r4⟩ := O.2.2.2.2.2.2.2.2.1
  have cw := va_cnB (R := R) (s := s) (args := args) (rm := rx (dd - 1) mc ms) (mc := mc) (ms := ms) k O.2.2.2.2.1 (good_wU M) rfl rfl rfl (O.2.2.2.2.2.2.1.1 _ c0.1) (O.2.2.2.2.1 _ c0.2.2.1) c0.2.2.2.2 ⟨by show dd - 1 + 1 ≤ _; omega, by show 8 + (ml + 11) + 64 * (dd - 1) ≤ _; omega⟩
  exact backX O hD hS hl (va_runIN (As := As) (rest := st) (Ts := lt) (own := own) ⟨O.1, O.2.1, O.2.2.1, O.2.2.2.1, O.2.2.2.2.1⟩ (hM H.size) ⟨cw, c0.2.2.2.1, O.2.2.2.2.1 _ c0.2.1⟩ ⟨px_blind, fun U hU hW => ⟨rfl, by rw [hU], by rw [hU]; exact hP, va_K.moved hW.alike O.2.2.2.2.2.1, hD.weaken (fun _ _ _ _ => trivial), O.2.2.2.2.2.2.1.moved hW⟩⟩ rfl hk hl.1 hst (lv_rm hw) d ⟨by omega, by omega⟩) kk
theorem VX.callI {ix : Nat} {y : MethodName} {bc : ByteArray} {ml k a : Nat} {As : List Value} (d : dec cc pc (.invokespecial ix) 3 n) (M : mi y bc ml none) (c0 : cxi own ix y k) (hml : ml ≤ 45) (hdd : 1 ≤ dd) (st0 : List Value) (hst : st0 = As.reverse ++ .ref a :: st) (hw : (st.map fun v => v.category).sum ≤ 8) (hk : As.length = k)
    (hc1 : kc + mc ≤ RC) (hs1 : ks + ms ≤ RS) (hM : MX γ (dd - 1) y bc ml (.ref a :: As) ws Q mc ms) (kk : ∀ w, Q w → VX γ ε cc own nl dd RC RS n lo st w (kc + mc) (ks + ms)) : VX γ ε cc own nl dd RC RS pc lo st0 ws kc ks := by
  obtain ⟨p, e, R, s, m, args, below, meth, c, Z, A⟩ := ε
  obtain ⟨d, rfl⟩ := d
  intro O H locs ls hP hD hS hl
  obtain ⟨r1, r2, r3, r4⟩ := O.2.2.2.2.2.2.2.2.1
  have cw := cwI (R := R) (s := s) (args := args) (own := own) (rm := rx (dd - 1) mc ms) (mc := mc) (ms := ms) k O.2.2.2.2.1 (good_wU M) rfl rfl rfl (O.2.2.2.2.1 _ c0.2.2.1) (O.2.2.2.2.1 _ c0.1) (O.2.2.2.2.1 _ c0.2.1) c0.2.2.2.1 c0.2.2.2.2 ⟨by show dd - 1 + 1 ≤ _; omega, by show 8 + (ml + 11) + 64 * (dd - 1) ≤ _; omega⟩
  exact backX O hD hS hl (va_runI (As := As) (rest := st) (Ts := lt) (own := own) ⟨O.1, O.2.1, O.2.2.1, O.2.2.2.1, O.2.2.2.2.1⟩ (hM H.size) cw ⟨px_blind, fun U hU hW => ⟨rfl, by rw [hU], by rw [hU]; exact hP, va_K.moved hW.alike O.2.2.2.2.2.1, hD.weaken (fun _ _ _ _ => trivial), O.2.2.2.2.2.2.1.moved hW⟩⟩ rfl hk hl.1 hst (lv_rm hw) d ⟨by omega, by omega⟩) kk
end VXC
