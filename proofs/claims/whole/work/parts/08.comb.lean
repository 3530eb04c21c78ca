/-! what functions are made of, and how a certificate reads them -/
def hlet {α β : Type} (a : α) (f : α → β) : β := f a
def gd {α : Type} (c : Bool) (x : Option α) : Option α := if c = true then x else none
def bnd {α β : Type} (x : Option α) (f : α → Option β) : Option β := match x with
  | none => none
  | some a => f a
def bnd2 {α β γ : Type} (x : Option (α × β)) (f : α → β → Option γ) : Option γ := match x with
  | none => none
  | some a => f a.1 a.2
/-- how often a loop goes round at most; how deep a group calls itself -/
def FU : Nat := 4096
def RF : Nat := 64
theorem ip {α : Sort _} {c : Prop} {i : Decidable c} {a b r : α} (h : (if c then a else b) = r) (q : c) : a = r := by rw [if_pos q] at h; exact h
theorem im {α : Sort _} {c : Prop} {i : Decidable c} {a b r : α} (h : (if c then a else b) = r) (q : ¬ c) : b = r := by rw [if_neg q] at h; exact h
theorem nf {α : Type} {r : α} {P : Prop} (h : (none : Option α) = some r) : P := by cases h
theorem hlt {α β : Type} {a : α} {f : α → β} {r : β} (h : hlet a f = r) : ∃ x, x = a ∧ f x = r := ⟨a, rfl, h⟩
theorem gdt {α : Type} {c : Bool} {x : Option α} {r : α} (h : gd c x = some r) : c = true ∧ x = some r := by
  unfold gd at h
  split at h
  · rename_i q
    exact ⟨q, h⟩
  · cases h
theorem bno {α β : Type} {x : Option α} {f : α → Option β} {r : β} (h : bnd x f = some r) : ∃ a, x = some a ∧ f a = some r := by
  cases x with
  | none => cases h
  | some a => exact ⟨a, rfl, h⟩
theorem bno2 {α β γ : Type} {x : Option (α × β)} {f : α → β → Option γ} {r : γ} (h : bnd2 x f = some r) : ∃ a b, x = some (a, b) ∧ f a b = some r := by
  cases x with
  | none => cases h
  | some a => exact ⟨a.1, a.2, rfl, h⟩
theorem dl {k j d : Nat} (h : k ≤ d) (q : Nat.ble (j + 1) k = true) : j ≤ d - 1 := by
  have := Nat.le_of_ble_eq_true q
  omega
theorem dl1 {k d : Nat} (h : k + 1 ≤ d) : 1 ≤ d := by omega
theorem dl1r {k d : Nat} (h : k + 1 ≤ d) : 1 ≤ d := by omega
theorem dr {k d : Nat} (h : k + 1 ≤ d) : k ≤ d - 1 := by omega
theorem dlr {k j n d : Nat} (h : n + 1 ≤ d) (q : k ≤ n) (z : j ≤ k) : j ≤ d - 1 := by omega
/-! the machine's part of it -/
def QI (r : Int32) (h : Hp) : Option Value → Hp → Prop := fun v h' => v = some (.int r) ∧ h' = h
def QL (r : Int64) (h : Hp) : Option Value → Hp → Prop := fun v h' => v = some (.long r) ∧ h' = h
def QR (γ : Gm) (r : Nat) (h : Hp) : Option Value → Hp → Prop := fun v h' => v = some (.ref (γ.2.2.1 r)) ∧ h' = h
def QV (h : Hp) : Option Value → Hp → Prop := fun v h' => v = none ∧ h' = h
theorem nzb {x : Int32} (h : decide (x &&& 1 = x) = true) : narrow .boolean (.int x) = .int x := by
  have e := of_decide_eq_true h
  show Value.int (x &&& 1) = Value.int x
  rw [e]
section COMB
variable {γ : Gm} {ε : En} {cc : ByteArray} {own : String} {nl dd pc n : Nat} {lo lo' : List (Nat × Value)} {st : List Value} {h h1 hz : Hp}
theorem kI {r : Int32} (k : VW γ ε cc own nl dd n lo (.int r :: st) h1) : ∀ v h', QI r h1 v h' → VW γ ε cc own nl dd n lo (v.toList ++ st) h' := by
  rintro v h' ⟨rfl, rfl⟩
  exact k
theorem kL {r : Int64} (k : VW γ ε cc own nl dd n lo (.long r :: st) h1) : ∀ v h', QL r h1 v h' → VW γ ε cc own nl dd n lo (v.toList ++ st) h' := by
  rintro v h' ⟨rfl, rfl⟩
  exact k
theorem kR {r : Nat} (k : VW γ ε cc own nl dd n lo (.ref (γ.2.2.1 r) :: st) h1) : ∀ v h', QR γ r h1 v h' → VW γ ε cc own nl dd n lo (v.toList ++ st) h' := by
  rintro v h' ⟨rfl, rfl⟩
  exact k
theorem kV (k : VW γ ε cc own nl dd n lo st h1) : ∀ v h', QV h1 v h' → VW γ ε cc own nl dd n lo (v.toList ++ st) h' := by
  rintro v h' ⟨rfl, rfl⟩
  exact k
theorem VW.heq (e : h1 = h) (k : VW γ ε cc own nl dd pc lo st h1) : VW γ ε cc own nl dd pc lo st h := e ▸ k
theorem rIw {x r : Int32} (e : some (x, h) = some (r, hz)) : QI r hz (some (.int x)) h := by cases e; exact ⟨rfl, rfl⟩
theorem rIf {x r : Int32} (e : some x = some r) : QI r h (some (.int x)) h := by cases e; exact ⟨rfl, rfl⟩
theorem rIt {x r : Int32} (e : x = r) : QI r h (some (.int x)) h := by cases e; exact ⟨rfl, rfl⟩
theorem rLw {x r : Int64} (e : some (x, h) = some (r, hz)) : QL r hz (some (.long x)) h := by cases e; exact ⟨rfl, rfl⟩
theorem rLf {x r : Int64} (e : some x = some r) : QL r h (some (.long x)) h := by cases e; exact ⟨rfl, rfl⟩
theorem rLt {x r : Int64} (e : x = r) : QL r h (some (.long x)) h := by cases e; exact ⟨rfl, rfl⟩
theorem rRf {x r : Nat} (e : some x = some r) : QR γ r h (some (.ref (γ.2.2.1 x))) h := by cases e; exact ⟨rfl, rfl⟩
theorem rRt {x r : Nat} (e : x = r) : QR γ r h (some (.ref (γ.2.2.1 x))) h := by cases e; exact ⟨rfl, rfl⟩
theorem rV (e : some h = some hz) : QV hz none h := by cases e; exact ⟨rfl, rfl⟩
end COMB

theorem oo_0 {p : Nat} (h : isO 0 p) : sh p = some (.inr (.inr (0, [some (p + 1), none, none, none, none, none, none]))) := h.sh
theorem oo_1 {p : Nat} (h : isO 1 p) : sh p = some (.inr (.inr (1, [some (p + 1), none, some (p + 2), none, none, none, none]))) := h.sh
theorem oo_2 {p : Nat} (h : isO 2 p) : sh p = some (.inr (.inr (2, [some 1, some (p + 1), some (p + 2), some (p + 3), some (p + 4), none, none, none]))) := h.sh
theorem oo_3 {p : Nat} (h : isO 3 p) : sh p = some (.inr (.inr (3, [some (p + 1), some (p + 2), some (p + 3)]))) := h.sh
theorem oo_4 {p : Nat} (h : isO 4 p) : sh p = some (.inr (.inr (4, [some (p + 1), none, none, none, none]))) := h.sh
theorem oo_5 {p : Nat} (h : isO 5 p) : sh p = some (.inr (.inr (5, [some (p + 1), some (p + 2), none]))) := h.sh
theorem oo_6 {p : Nat} (h : isO 6 p) : sh p = some (.inr (.inr (6, [some (p + 1), none, none, none]))) := h.sh
theorem oo_7 {p : Nat} (h : isO 7 p) : sh p = some (.inr (.inr (7, [some (p + 1), some (p + 2), some (p + 3), some (p + 4), some (p + 5), some (p + 8), some (p + 11), some (p + 12), some (p + 13), some (p + 14), none, none, none, none, none, none, none]))) := h.sh
theorem oo_8 {p : Nat} (h : isO 8 p) : sh p = some (.inr (.inr (8, [some 1, some 48, some 95, some 100, some 103, some 105, some 113, none]))) := h.sh
theorem oo_9 {p : Nat} (h : isO 9 p) : sh p = some (.inr (.inr (9, [some (p + 1), some (p + 2), none, some (p + 3), none, none, none, none, none, none, some (p + 4), none, some (p + 5), none, none, some (p + 6), none, none, some (p + 7), none, none, some (p + 8), some (p + 9), some (p + 10), some (p + 11)]))) := h.sh
theorem o1_100 : isO 1 100 := (by decide +kernel : isB 1 100 = true)
theorem o2_95 : isO 2 95 := (by decide +kernel : isB 2 95 = true)
theorem o3_105 : isO 3 105 := (by decide +kernel : isB 3 105 = true)
theorem o4_103 : isO 4 103 := (by decide +kernel : isB 4 103 = true)
theorem o8_0 : isO 8 0 := (by decide +kernel : isB 8 0 = true)
theorem o9_114 : isO 9 114 := (by decide +kernel : isB 9 114 = true)
theorem o7_1 : isO 7 1 := (by decide +kernel : isB 7 1 = true)
theorem o7_48 : isO 7 48 := (by decide +kernel : isB 7 48 = true)
theorem bp_m10 : (Int8.ofInt (-10)).toInt32 = (-10) := by decide
theorem bp_m2 : (Int8.ofInt (-2)).toInt32 = (-2) := by decide
theorem bp_6 : (Int8.ofInt (6)).toInt32 = 6 := by decide
theorem bp_7 : (Int8.ofInt (7)).toInt32 = 7 := by decide
theorem bp_8 : (Int8.ofInt (8)).toInt32 = 8 := by decide
theorem bp_9 : (Int8.ofInt (9)).toInt32 = 9 := by decide
theorem bp_10 : (Int8.ofInt (10)).toInt32 = 10 := by decide
theorem bp_11 : (Int8.ofInt (11)).toInt32 = 11 := by decide
theorem bp_12 : (Int8.ofInt (12)).toInt32 = 12 := by decide
theorem bp_13 : (Int8.ofInt (13)).toInt32 = 13 := by decide
theorem bp_15 : (Int8.ofInt (15)).toInt32 = 15 := by decide
theorem bp_16 : (Int8.ofInt (16)).toInt32 = 16 := by decide
theorem bp_20 : (Int8.ofInt (20)).toInt32 = 20 := by decide
theorem bp_24 : (Int8.ofInt (24)).toInt32 = 24 := by decide
theorem bp_30 : (Int8.ofInt (30)).toInt32 = 30 := by decide
theorem bp_32 : (Int8.ofInt (32)).toInt32 = 32 := by decide
theorem bp_33 : (Int8.ofInt (33)).toInt32 = 33 := by decide
theorem bp_37 : (Int8.ofInt (37)).toInt32 = 37 := by decide
theorem bp_38 : (Int8.ofInt (38)).toInt32 = 38 := by decide
theorem bp_40 : (Int8.ofInt (40)).toInt32 = 40 := by decide
theorem bp_41 : (Int8.ofInt (41)).toInt32 = 41 := by decide
theorem bp_42 : (Int8.ofInt (42)).toInt32 = 42 := by decide
theorem bp_43 : (Int8.ofInt (43)).toInt32 = 43 := by decide
theorem bp_45 : (Int8.ofInt (45)).toInt32 = 45 := by decide
theorem bp_47 : (Int8.ofInt (47)).toInt32 = 47 := by decide
theorem bp_48 : (Int8.ofInt (48)).toInt32 = 48 := by decide
theorem bp_49 : (Int8.ofInt (49)).toInt32 = 49 := by decide
theorem bp_50 : (Int8.ofInt (50)).toInt32 = 50 := by decide
theorem bp_57 : (Int8.ofInt (57)).toInt32 = 57 := by decide
theorem bp_59 : (Int8.ofInt (59)).toInt32 = 59 := by decide
theorem bp_60 : (Int8.ofInt (60)).toInt32 = 60 := by decide
theorem bp_61 : (Int8.ofInt (61)).toInt32 = 61 := by decide
theorem bp_62 : (Int8.ofInt (62)).toInt32 = 62 := by decide
theorem bp_69 : (Int8.ofInt (69)).toInt32 = 69 := by decide
theorem bp_70 : (Int8.ofInt (70)).toInt32 = 70 := by decide
theorem bp_71 : (Int8.ofInt (71)).toInt32 = 71 := by decide
theorem bp_84 : (Int8.ofInt (84)).toInt32 = 84 := by decide
theorem bp_99 : (Int8.ofInt (99)).toInt32 = 99 := by decide
theorem bp_100 : (Int8.ofInt (100)).toInt32 = 100 := by decide
theorem bp_102 : (Int8.ofInt (102)).toInt32 = 102 := by decide
theorem bp_108 : (Int8.ofInt (108)).toInt32 = 108 := by decide
theorem bp_110 : (Int8.ofInt (110)).toInt32 = 110 := by decide
theorem bp_111 : (Int8.ofInt (111)).toInt32 = 111 := by decide
theorem bp_116 : (Int8.ofInt (116)).toInt32 = 116 := by decide
theorem bp_119 : (Int8.ofInt (119)).toInt32 = 119 := by decide
theorem bp_124 : (Int8.ofInt (124)).toInt32 = 124 := by decide
theorem ic_m1 : Int32.ofInt (-1) = (-1) := by decide
theorem ic_0 : Int32.ofInt (0) = 0 := by decide
theorem ic_1 : Int32.ofInt (1) = 1 := by decide
theorem ic_2 : Int32.ofInt (2) = 2 := by decide
theorem ic_3 : Int32.ofInt (3) = 3 := by decide
theorem ic_4 : Int32.ofInt (4) = 4 := by decide
theorem ic_5 : Int32.ofInt (5) = 5 := by decide
theorem sp_154 : (Int16.ofInt (154)).toInt32 = 154 := by decide
theorem sp_208 : (Int16.ofInt (208)).toInt32 = 208 := by decide
theorem sp_210 : (Int16.ofInt (210)).toInt32 = 210 := by decide
theorem sp_230 : (Int16.ofInt (230)).toInt32 = 230 := by decide
theorem sp_255 : (Int16.ofInt (255)).toInt32 = 255 := by decide
theorem sp_256 : (Int16.ofInt (256)).toInt32 = 256 := by decide
theorem sp_330 : (Int16.ofInt (330)).toInt32 = 330 := by decide
theorem sp_380 : (Int16.ofInt (380)).toInt32 = 380 := by decide
theorem sp_500 : (Int16.ofInt (500)).toInt32 = 500 := by decide
theorem sp_9999 : (Int16.ofInt (9999)).toInt32 = 9999 := by decide
theorem sp_10000 : (Int16.ofInt (10000)).toInt32 = 10000 := by decide
theorem sp_12345 : (Int16.ofInt (12345)).toInt32 = 12345 := by decide
theorem il_0 : ci 0 = 0 := by decide
theorem il_1 : ci 1 = 1 := by decide
theorem il_2 : ci 2 = 2 := by decide
theorem il_3 : ci 3 = 3 := by decide
theorem il_4 : ci 4 = 4 := by decide
theorem il_5 : ci 5 = 5 := by decide
theorem il_6 : ci 6 = 6 := by decide
theorem ib_0_3 : inb 0 3 = true := by decide
theorem ib_0_10 : inb 0 10 = true := by decide
theorem ib_0_50 : inb 0 50 = true := by decide
theorem ib_0_380 : inb 0 380 = true := by decide
theorem ib_1_3 : inb 1 3 = true := by decide
theorem ib_1_380 : inb 1 380 = true := by decide
theorem ib_2_3 : inb 2 3 = true := by decide
theorem ib_2_380 : inb 2 380 = true := by decide
theorem ib_3_380 : inb 3 380 = true := by decide
theorem ib_4_380 : inb 4 380 = true := by decide
theorem ib_5_380 : inb 5 380 = true := by decide
theorem ib_6_380 : inb 6 380 = true := by decide
