
/-! the machine, bundled: a world of cells by number of place; h : place, slot -> int -/
abbrev Hp : Type := Nat → Nat → Int32
def u2 (h : Hp) (i k : Nat) (v : Int32) : Hp := fun a => if a = i then upd (h a) k v else h a
def uA (h : Hp) (i : Nat) (f : Nat → Int32) : Hp := fun a => if a = i then f else h a
theorem u2_i {h : Hp} {i k : Nat} {v : Int32} : u2 h i k v i = upd (h i) k v := if_pos rfl
theorem u2_n {h : Hp} {i k a : Nat} {v : Int32} (e : a ≠ i) : u2 h i k v a = h a := if_neg e
theorem uA_i {h : Hp} {i : Nat} {f : Nat → Int32} : uA h i f i = f := if_pos rfl
theorem uA_n {h : Hp} {i a : Nat} {f : Nat → Int32} (e : a ≠ i) : uA h i f a = h a := if_neg e
abbrev Sh : Type := Nat ⊕ ((Nat × List Nat) ⊕ (Nat × List (Option Nat)))
/-- an object of the class ci at the place p: where its references go -/
def oS (ci p : Nat) : Sh := match ci with
  | 0 => .inr (.inr (0, [some (p + 1), none, none, none, none, none, none]))
  | 1 => .inr (.inr (1, [some (p + 1), none, some (p + 2), none, none, none, none]))
  | 2 => .inr (.inr (2, [some 1, some (p + 1), some (p + 2), some (p + 3), some (p + 4), none, none, none]))
  | 3 => .inr (.inr (3, [some (p + 1), some (p + 2), some (p + 3)]))
  | 4 => .inr (.inr (4, [some (p + 1), none, none, none, none]))
  | 5 => .inr (.inr (5, [some (p + 1), some (p + 2), none]))
  | 6 => .inr (.inr (6, [some (p + 1), none, none, none]))
  | 7 => .inr (.inr (7, [some (p + 1), some (p + 2), some (p + 3), some (p + 4), some (p + 5), some (p + 8), some (p + 11), some (p + 12), some (p + 13), some (p + 14), none, none, none, none, none, none, none]))
  | 8 => .inr (.inr (8, [some 1, some 48, some 95, some 100, some 103, some 105, some 113, none]))
  | _ => .inr (.inr (9, [some (p + 1), some (p + 2), none, some (p + 3), none, none, none, none, none, none, some (p + 4), none, some (p + 5), none, none, some (p + 6), none, none, some (p + 7), none, none, some (p + 8), some (p + 9), some (p + 10), some (p + 11)]))
def shs : List Sh := [oS 8 0, oS 7 1, .inl 60, .inr (.inl (1, [16, 18, 20, 22, 24, 26, 28, 30, 32, 34])), .inr (.inl (2, [36, 38, 40, 42, 44, 46])), .inl 50, oS 5 6, .inl 50, .inl 50, oS 5 9, .inl 50, .inl 50, .inl 16, .inl 20, .inl 6, .inl 6, oS 6 16, .inl 5, oS 6 18, .inl 5, oS 6 20, .inl 5, oS 6 22, .inl 5, oS 6 24, .inl 5, oS 6 26, .inl 5, oS 6 28, .inl 5, oS 6 30, .inl 5, oS 6 32, .inl 5, oS 6 34, .inl 5, oS 0 36, .inl 3, oS 0 38, .inl 3, oS 0 40, .inl 3, oS 0 42, .inl 3, oS 0 44, .inl 3, oS 0 46, .inl 3, oS 7 48, .inl 60, .inr (.inl (1, [63, 65, 67, 69, 71, 73, 75, 77, 79, 81])), .inr (.inl (2, [83, 85, 87, 89, 91, 93])), .inl 50, oS 5 53, .inl 50, .inl 50, oS 5 56, .inl 50, .inl 50, .inl 16, .inl 20, .inl 6, .inl 6, oS 6 63, .inl 5, oS 6 65, .inl 5, oS 6 67, .inl 5, oS 6 69, .inl 5, oS 6 71, .inl 5, oS 6 73, .inl 5, oS 6 75, .inl 5, oS 6 77, .inl 5, oS 6 79, .inl 5, oS 6 81, .inl 5, oS 0 83, .inl 3, oS 0 85, .inl 3, oS 0 87, .inl 3, oS 0 89, .inl 3, oS 0 91, .inl 3, oS 0 93, .inl 3, oS 2 95, .inl 45, .inl 150, .inl 3, .inl 3, oS 1 100, .inl 50, .inl 50, oS 4 103, .inl 40, oS 3 105, .inl 4, .inl 4, .inr (.inl (3, [109, 110, 111, 112])), .inl 40, .inl 40, .inl 40, .inl 40, .inl 6, oS 9 114, .inl 380, .inl 380, .inl 6, .inl 3, .inl 3, .inl 3, .inl 40, .inl 4, .inl 4, .inl 160, .inl 40]

def sh (p : Nat) : Option Sh := shs[p]?
def isB (ci p : Nat) : Bool := decide (sh p = some (oS ci p))
def isO (ci p : Nat) : Prop := isB ci p = true
theorem isO.sh {ci p : Nat} (h : isO ci p) : sh p = some (oS ci p) := of_decide_eq_true h
theorem sh_lt {p : Nat} {S : Sh} (h : sh p = some S) : p < 126 := by
  have h1 := (List.getElem?_eq_some_iff.mp h).1
  have h2 : shs.length = 126 := by decide +kernel
  omega
theorem ral {f : Nat → Bool} {n j : Nat} (h : (List.range n).all f = true) (hj : j < n) : f j = true := List.all_eq_true.mp h j (List.mem_range.mpr hj)
theorem isO_all (ci : Nat) (f : Nat → Bool) (h : (List.range 126).all (fun p => !isB ci p || f p) = true) {p : Nat} (hp : isO ci p) : f p = true := by
  have h1 := ral h (sh_lt hp.sh)
  have h2 : isB ci p = true := hp
  rw [h2] at h1
  exact h1
theorem rf_0_0 {p : Nat} (h : isO 0 p) : sh (p + 1) = some (.inl 3) := of_decide_eq_true (isO_all 0 (fun p => decide (sh (p + 1) = some (.inl 3))) (by decide +kernel) h)
theorem rf_1_0 {p : Nat} (h : isO 1 p) : sh (p + 1) = some (.inl 50) := of_decide_eq_true (isO_all 1 (fun p => decide (sh (p + 1) = some (.inl 50))) (by decide +kernel) h)
theorem rf_1_2 {p : Nat} (h : isO 1 p) : sh (p + 2) = some (.inl 50) := of_decide_eq_true (isO_all 1 (fun p => decide (sh (p + 2) = some (.inl 50))) (by decide +kernel) h)
theorem rf_2_0 {p : Nat} (h : isO 2 p) : isO 7 1 := isO_all 2 (fun p => isB 7 1) (by decide +kernel) h
theorem rf_2_1 {p : Nat} (h : isO 2 p) : sh (p + 1) = some (.inl 45) := of_decide_eq_true (isO_all 2 (fun p => decide (sh (p + 1) = some (.inl 45))) (by decide +kernel) h)
theorem rf_2_2 {p : Nat} (h : isO 2 p) : sh (p + 2) = some (.inl 150) := of_decide_eq_true (isO_all 2 (fun p => decide (sh (p + 2) = some (.inl 150))) (by decide +kernel) h)
theorem rf_2_3 {p : Nat} (h : isO 2 p) : sh (p + 3) = some (.inl 3) := of_decide_eq_true (isO_all 2 (fun p => decide (sh (p + 3) = some (.inl 3))) (by decide +kernel) h)
theorem rf_2_4 {p : Nat} (h : isO 2 p) : sh (p + 4) = some (.inl 3) := of_decide_eq_true (isO_all 2 (fun p => decide (sh (p + 4) = some (.inl 3))) (by decide +kernel) h)
theorem rf_3_0 {p : Nat} (h : isO 3 p) : sh (p + 1) = some (.inl 4) := of_decide_eq_true (isO_all 3 (fun p => decide (sh (p + 1) = some (.inl 4))) (by decide +kernel) h)
theorem rf_3_1 {p : Nat} (h : isO 3 p) : sh (p + 2) = some (.inl 4) := of_decide_eq_true (isO_all 3 (fun p => decide (sh (p + 2) = some (.inl 4))) (by decide +kernel) h)
theorem rf_3_2 {p : Nat} (h : isO 3 p) : sh (p + 3) = some (.inr (.inl (3, (List.range 4).map (fun j => p + 4 + j)))) := of_decide_eq_true (isO_all 3 (fun p => decide (sh (p + 3) = some (.inr (.inl (3, (List.range 4).map (fun j => p + 4 + j)))))) (by decide +kernel) h)
theorem re_3_2 {p j : Nat} (h : isO 3 p) (hj : j < 4) : sh (p + 4 + j) = some (.inl 40) := of_decide_eq_true (ral (isO_all 3 (fun p => (List.range 4).all (fun j => decide (sh (p + 4 + j) = some (.inl 40)))) (by decide +kernel) h) hj)
theorem rf_4_0 {p : Nat} (h : isO 4 p) : sh (p + 1) = some (.inl 40) := of_decide_eq_true (isO_all 4 (fun p => decide (sh (p + 1) = some (.inl 40))) (by decide +kernel) h)
theorem rf_5_0 {p : Nat} (h : isO 5 p) : sh (p + 1) = some (.inl 50) := of_decide_eq_true (isO_all 5 (fun p => decide (sh (p + 1) = some (.inl 50))) (by decide +kernel) h)
theorem rf_5_1 {p : Nat} (h : isO 5 p) : sh (p + 2) = some (.inl 50) := of_decide_eq_true (isO_all 5 (fun p => decide (sh (p + 2) = some (.inl 50))) (by decide +kernel) h)
theorem rf_6_0 {p : Nat} (h : isO 6 p) : sh (p + 1) = some (.inl 5) := of_decide_eq_true (isO_all 6 (fun p => decide (sh (p + 1) = some (.inl 5))) (by decide +kernel) h)
theorem rf_7_0 {p : Nat} (h : isO 7 p) : sh (p + 1) = some (.inl 60) := of_decide_eq_true (isO_all 7 (fun p => decide (sh (p + 1) = some (.inl 60))) (by decide +kernel) h)
theorem rf_7_1 {p : Nat} (h : isO 7 p) : sh (p + 2) = some (.inr (.inl (1, (List.range 10).map (fun j => p + 15 + 2 * j)))) := of_decide_eq_true (isO_all 7 (fun p => decide (sh (p + 2) = some (.inr (.inl (1, (List.range 10).map (fun j => p + 15 + 2 * j)))))) (by decide +kernel) h)
theorem re_7_1 {p j : Nat} (h : isO 7 p) (hj : j < 10) : isO 6 (p + 15 + 2 * j) := ral (f := fun j => isB 6 (p + 15 + 2 * j)) (isO_all 7 (fun p => (List.range 10).all (fun j => isB 6 (p + 15 + 2 * j))) (by decide +kernel) h) hj
theorem rf_7_2 {p : Nat} (h : isO 7 p) : sh (p + 3) = some (.inr (.inl (2, (List.range 6).map (fun j => p + 35 + 2 * j)))) := of_decide_eq_true (isO_all 7 (fun p => decide (sh (p + 3) = some (.inr (.inl (2, (List.range 6).map (fun j => p + 35 + 2 * j)))))) (by decide +kernel) h)
theorem re_7_2 {p j : Nat} (h : isO 7 p) (hj : j < 6) : isO 0 (p + 35 + 2 * j) := ral (f := fun j => isB 0 (p + 35 + 2 * j)) (isO_all 7 (fun p => (List.range 6).all (fun j => isB 0 (p + 35 + 2 * j))) (by decide +kernel) h) hj
theorem rf_7_3 {p : Nat} (h : isO 7 p) : sh (p + 4) = some (.inl 50) := of_decide_eq_true (isO_all 7 (fun p => decide (sh (p + 4) = some (.inl 50))) (by decide +kernel) h)
theorem rf_7_4 {p : Nat} (h : isO 7 p) : isO 5 (p + 5) := isO_all 7 (fun p => isB 5 (p + 5)) (by decide +kernel) h
theorem rf_7_5 {p : Nat} (h : isO 7 p) : isO 5 (p + 8) := isO_all 7 (fun p => isB 5 (p + 8)) (by decide +kernel) h
theorem rf_7_6 {p : Nat} (h : isO 7 p) : sh (p + 11) = some (.inl 16) := of_decide_eq_true (isO_all 7 (fun p => decide (sh (p + 11) = some (.inl 16))) (by decide +kernel) h)
theorem rf_7_7 {p : Nat} (h : isO 7 p) : sh (p + 12) = some (.inl 20) := of_decide_eq_true (isO_all 7 (fun p => decide (sh (p + 12) = some (.inl 20))) (by decide +kernel) h)
theorem rf_7_8 {p : Nat} (h : isO 7 p) : sh (p + 13) = some (.inl 6) := of_decide_eq_true (isO_all 7 (fun p => decide (sh (p + 13) = some (.inl 6))) (by decide +kernel) h)
theorem rf_7_9 {p : Nat} (h : isO 7 p) : sh (p + 14) = some (.inl 6) := of_decide_eq_true (isO_all 7 (fun p => decide (sh (p + 14) = some (.inl 6))) (by decide +kernel) h)
theorem rf_8_0 {p : Nat} (h : isO 8 p) : isO 7 1 := isO_all 8 (fun p => isB 7 1) (by decide +kernel) h
theorem rf_8_1 {p : Nat} (h : isO 8 p) : isO 7 48 := isO_all 8 (fun p => isB 7 48) (by decide +kernel) h
theorem rf_8_2 {p : Nat} (h : isO 8 p) : isO 2 95 := isO_all 8 (fun p => isB 2 95) (by decide +kernel) h
theorem rf_8_3 {p : Nat} (h : isO 8 p) : isO 1 100 := isO_all 8 (fun p => isB 1 100) (by decide +kernel) h
theorem rf_8_4 {p : Nat} (h : isO 8 p) : isO 4 103 := isO_all 8 (fun p => isB 4 103) (by decide +kernel) h
theorem rf_8_5 {p : Nat} (h : isO 8 p) : isO 3 105 := isO_all 8 (fun p => isB 3 105) (by decide +kernel) h
theorem rf_8_6 {p : Nat} (h : isO 8 p) : sh 113 = some (.inl 6) := of_decide_eq_true (isO_all 8 (fun p => decide (sh 113 = some (.inl 6))) (by decide +kernel) h)
theorem rf_9_0 {p : Nat} (h : isO 9 p) : sh (p + 1) = some (.inl 380) := of_decide_eq_true (isO_all 9 (fun p => decide (sh (p + 1) = some (.inl 380))) (by decide +kernel) h)
theorem rf_9_1 {p : Nat} (h : isO 9 p) : sh (p + 2) = some (.inl 380) := of_decide_eq_true (isO_all 9 (fun p => decide (sh (p + 2) = some (.inl 380))) (by decide +kernel) h)
theorem rf_9_3 {p : Nat} (h : isO 9 p) : sh (p + 3) = some (.inl 6) := of_decide_eq_true (isO_all 9 (fun p => decide (sh (p + 3) = some (.inl 6))) (by decide +kernel) h)
theorem rf_9_10 {p : Nat} (h : isO 9 p) : sh (p + 4) = some (.inl 3) := of_decide_eq_true (isO_all 9 (fun p => decide (sh (p + 4) = some (.inl 3))) (by decide +kernel) h)
theorem rf_9_12 {p : Nat} (h : isO 9 p) : sh (p + 5) = some (.inl 3) := of_decide_eq_true (isO_all 9 (fun p => decide (sh (p + 5) = some (.inl 3))) (by decide +kernel) h)
theorem rf_9_15 {p : Nat} (h : isO 9 p) : sh (p + 6) = some (.inl 3) := of_decide_eq_true (isO_all 9 (fun p => decide (sh (p + 6) = some (.inl 3))) (by decide +kernel) h)
theorem rf_9_18 {p : Nat} (h : isO 9 p) : sh (p + 7) = some (.inl 40) := of_decide_eq_true (isO_all 9 (fun p => decide (sh (p + 7) = some (.inl 40))) (by decide +kernel) h)
theorem rf_9_21 {p : Nat} (h : isO 9 p) : sh (p + 8) = some (.inl 4) := of_decide_eq_true (isO_all 9 (fun p => decide (sh (p + 8) = some (.inl 4))) (by decide +kernel) h)
theorem rf_9_22 {p : Nat} (h : isO 9 p) : sh (p + 9) = some (.inl 4) := of_decide_eq_true (isO_all 9 (fun p => decide (sh (p + 9) = some (.inl 4))) (by decide +kernel) h)
theorem rf_9_23 {p : Nat} (h : isO 9 p) : sh (p + 10) = some (.inl 160) := of_decide_eq_true (isO_all 9 (fun p => decide (sh (p + 10) = some (.inl 160))) (by decide +kernel) h)
theorem rf_9_24 {p : Nat} (h : isO 9 p) : sh (p + 11) = some (.inl 40) := of_decide_eq_true (isO_all 9 (fun p => decide (sh (p + 11) = some (.inl 40))) (by decide +kernel) h)
