/-! the models' words: guards, named values, calls, joins, loops; what a walk takes from them -/
def gd {α : Type} (b : Bool) (k : Option α) : Option α := if b = true then k else none
theorem gdS {α : Type} {b : Bool} {k : Option α} {r : α} (h : gd b k = some r) : b = true ∧ k = some r := by
  cases b with
  | true => exact ⟨rfl, h⟩
  | false => cases h
def bv {α β : Type} (a : α) (k : α → β) : β := k a
theorem bvS {α β : Type} {a : α} {k : α → Option β} {r : β} (h : bv a k = some r) {y : α} (e : y = a) : k y = some r := by subst e; exact h
def cl {α β γ : Type} (o : Option (α × β)) (k : α → β → Option γ) : Option γ := match o with
  | some (a, b) => k a b
  | none => none
theorem clS {α β γ : Type} {o : Option (α × β)} {k : α → β → Option γ} {r : γ} (h : cl o k = some r) : ∃ a b, o = some (a, b) ∧ k a b = some r := by
  match o, h with
  | some (a, b), h => exact ⟨a, b, rfl, h⟩
def cl1 {α γ : Type} (o : Option α) (k : α → Option γ) : Option γ := match o with
  | some a => k a
  | none => none
theorem cl1S {α γ : Type} {o : Option α} {k : α → Option γ} {r : γ} (h : cl1 o k = some r) : ∃ a, o = some a ∧ k a = some r := by
  match o, h with
  | some a, h => exact ⟨a, rfl, h⟩
def jn {α β : Type} (k : α) (b : α → β) : β := b k
theorem jnS {α β : Type} {k : α} {b : α → Option β} {r : β} (h : jn k b = some r) (P : α → Prop) {G : Prop} (hk : P k) (hb : ∀ j, P j → b j = some r → G) : G := hb k hk h
theorem xt {α : Type} {c : Prop} {d : Decidable c} {x y r : α} (h : (if c then x else y) = r) (hc : c) : x = r := by rw [if_pos hc] at h; exact h
theorem xf {α : Type} {c : Prop} {d : Decidable c} {x y r : α} (h : (if c then x else y) = r) (hc : ¬ c) : y = r := by rw [if_neg hc] at h; exact h
def inb (i : Int32) (n : Nat) : Bool := decide (¬ (i < 0 ∨ n ≤ i.toNatClampNeg))
theorem inbS {i : Int32} {n : Nat} (h : inb i n = true) : vp_in i n := of_decide_eq_true (p := ¬ (i < 0 ∨ n ≤ i.toNatClampNeg)) h
def nz (x : Int32) : Bool := decide (¬ x = 0)
theorem nzS {x : Int32} (h : nz x = true) : ¬ x = 0 := of_decide_eq_true h
def nzl (x : Int64) : Bool := decide (¬ x = 0)
theorem nzlS {x : Int64} (h : nzl x = true) : ¬ x = 0 := of_decide_eq_true h
abbrev ix (i : Int32) : Nat := i.toNatClampNeg
def ush (x y : Int32) : Int32 := (x.toUInt32 >>> (y.toUInt32 &&& Int32.toUInt32 31)).toInt32
def lush (x : Int64) (y : Int32) : Int64 := (x.toUInt64 >>> (y.toInt64.toUInt64 &&& Int64.toUInt64 63)).toInt64
def lsh (x : Int64) (y : Int32) : Int64 := x <<< (y.toInt64 &&& 63)
abbrev irm (x y : Int32) : Int32 := x - x / y * y
abbrev lrm (x y : Int64) : Int64 := x - x / y * y
def FU : Nat := 2000
def wp1 {ρ A0 : Type} (F : (A0 → Option ρ) → A0 → Option ρ) : Nat → A0 → Option ρ
  | 0, _ => none
  | n + 1, a0 => F (wp1 F n) a0
theorem wp1s {ρ A0 : Type} (F : (A0 → Option ρ) → A0 → Option ρ) (n : Nat) (a0 : A0) : wp1 F (n + 1) a0 = F (wp1 F n) a0 := rfl
theorem wp1S {ρ A0 : Type} {F : (A0 → Option ρ) → A0 → Option ρ} {r : ρ} (P : A0 → Prop) (hs : ∀ self : A0 → Option ρ, (∀ a0, self a0 = some r → P a0) → ∀ a0, F self a0 = some r → P a0) : ∀ {n : Nat} {a0}, wp1 F n a0 = some r → P a0
  | 0, _, h => by cases h
  | n + 1, _, h => hs (wp1 F n) (fun a0 h => wp1S P hs h) _ h
theorem wp1K {ρ κ A0 : Type} {F : κ → (A0 → Option ρ) → A0 → Option ρ} {k : κ} {r : ρ} {n : Nat} {a0} (h : wp1 (F k) n a0 = some r) (P : A0 → Prop) (Pk : κ → Prop) (hk : Pk k) (hs : ∀ k, Pk k → ∀ self : A0 → Option ρ, (∀ a0, self a0 = some r → P a0) → ∀ a0, F k self a0 = some r → P a0) : P a0 := wp1S P (hs k hk) h
def wp2 {ρ A0 A1 : Type} (F : (A0 → A1 → Option ρ) → A0 → A1 → Option ρ) : Nat → A0 → A1 → Option ρ
  | 0, _, _ => none
  | n + 1, a0, a1 => F (wp2 F n) a0 a1
theorem wp2s {ρ A0 A1 : Type} (F : (A0 → A1 → Option ρ) → A0 → A1 → Option ρ) (n : Nat) (a0 : A0) (a1 : A1) : wp2 F (n + 1) a0 a1 = F (wp2 F n) a0 a1 := rfl
theorem wp2S {ρ A0 A1 : Type} {F : (A0 → A1 → Option ρ) → A0 → A1 → Option ρ} {r : ρ} (P : A0 → A1 → Prop) (hs : ∀ self : A0 → A1 → Option ρ, (∀ a0 a1, self a0 a1 = some r → P a0 a1) → ∀ a0 a1, F self a0 a1 = some r → P a0 a1) : ∀ {n : Nat} {a0 a1}, wp2 F n a0 a1 = some r → P a0 a1
  | 0, _, _, h => by cases h
  | n + 1, _, _, h => hs (wp2 F n) (fun a0 a1 h => wp2S P hs h) _ _ h
theorem wp2K {ρ κ A0 A1 : Type} {F : κ → (A0 → A1 → Option ρ) → A0 → A1 → Option ρ} {k : κ} {r : ρ} {n : Nat} {a0 a1} (h : wp2 (F k) n a0 a1 = some r) (P : A0 → A1 → Prop) (Pk : κ → Prop) (hk : Pk k) (hs : ∀ k, Pk k → ∀ self : A0 → A1 → Option ρ, (∀ a0 a1, self a0 a1 = some r → P a0 a1) → ∀ a0 a1, F k self a0 a1 = some r → P a0 a1) : P a0 a1 := wp2S P (hs k hk) h
def wp3 {ρ A0 A1 A2 : Type} (F : (A0 → A1 → A2 → Option ρ) → A0 → A1 → A2 → Option ρ) : Nat → A0 → A1 → A2 → Option ρ
  | 0, _, _, _ => none
  | n + 1, a0, a1, a2 => F (wp3 F n) a0 a1 a2
theorem wp3s {ρ A0 A1 A2 : Type} (F : (A0 → A1 → A2 → Option ρ) → A0 → A1 → A2 → Option ρ) (n : Nat) (a0 : A0) (a1 : A1) (a2 : A2) : wp3 F (n + 1) a0 a1 a2 = F (wp3 F n) a0 a1 a2 := rfl
theorem wp3S {ρ A0 A1 A2 : Type} {F : (A0 → A1 → A2 → Option ρ) → A0 → A1 → A2 → Option ρ} {r : ρ} (P : A0 → A1 → A2 → Prop) (hs : ∀ self : A0 → A1 → A2 → Option ρ, (∀ a0 a1 a2, self a0 a1 a2 = some r → P a0 a1 a2) → ∀ a0 a1 a2, F self a0 a1 a2 = some r → P a0 a1 a2) : ∀ {n : Nat} {a0 a1 a2}, wp3 F n a0 a1 a2 = some r → P a0 a1 a2
  | 0, _, _, _, h => by cases h
  | n + 1, _, _, _, h => hs (wp3 F n) (fun a0 a1 a2 h => wp3S P hs h) _ _ _ h
theorem wp3K {ρ κ A0 A1 A2 : Type} {F : κ → (A0 → A1 → A2 → Option ρ) → A0 → A1 → A2 → Option ρ} {k : κ} {r : ρ} {n : Nat} {a0 a1 a2} (h : wp3 (F k) n a0 a1 a2 = some r) (P : A0 → A1 → A2 → Prop) (Pk : κ → Prop) (hk : Pk k) (hs : ∀ k, Pk k → ∀ self : A0 → A1 → A2 → Option ρ, (∀ a0 a1 a2, self a0 a1 a2 = some r → P a0 a1 a2) → ∀ a0 a1 a2, F k self a0 a1 a2 = some r → P a0 a1 a2) : P a0 a1 a2 := wp3S P (hs k hk) h
def wp4 {ρ A0 A1 A2 A3 : Type} (F : (A0 → A1 → A2 → A3 → Option ρ) → A0 → A1 → A2 → A3 → Option ρ) : Nat → A0 → A1 → A2 → A3 → Option ρ
  | 0, _, _, _, _ => none
  | n + 1, a0, a1, a2, a3 => F (wp4 F n) a0 a1 a2 a3
theorem wp4s {ρ A0 A1 A2 A3 : Type} (F : (A0 → A1 → A2 → A3 → Option ρ) → A0 → A1 → A2 → A3 → Option ρ) (n : Nat) (a0 : A0) (a1 : A1) (a2 : A2) (a3 : A3) : wp4 F (n + 1) a0 a1 a2 a3 = F (wp4 F n) a0 a1 a2 a3 := rfl
theorem wp4S {ρ A0 A1 A2 A3 : Type} {F : (A0 → A1 → A2 → A3 → Option ρ) → A0 → A1 → A2 → A3 → Option ρ} {r : ρ} (P : A0 → A1 → A2 → A3 → Prop) (hs : ∀ self : A0 → A1 → A2 → A3 → Option ρ, (∀ a0 a1 a2 a3, self a0 a1 a2 a3 = some r → P a0 a1 a2 a3) → ∀ a0 a1 a2 a3, F self a0 a1 a2 a3 = some r → P a0 a1 a2 a3) : ∀ {n : Nat} {a0 a1 a2 a3}, wp4 F n a0 a1 a2 a3 = some r → P a0 a1 a2 a3
  | 0, _, _, _, _, h => by cases h
  | n + 1, _, _, _, _, h => hs (wp4 F n) (fun a0 a1 a2 a3 h => wp4S P hs h) _ _ _ _ h
theorem wp4K {ρ κ A0 A1 A2 A3 : Type} {F : κ → (A0 → A1 → A2 → A3 → Option ρ) → A0 → A1 → A2 → A3 → Option ρ} {k : κ} {r : ρ} {n : Nat} {a0 a1 a2 a3} (h : wp4 (F k) n a0 a1 a2 a3 = some r) (P : A0 → A1 → A2 → A3 → Prop) (Pk : κ → Prop) (hk : Pk k) (hs : ∀ k, Pk k → ∀ self : A0 → A1 → A2 → A3 → Option ρ, (∀ a0 a1 a2 a3, self a0 a1 a2 a3 = some r → P a0 a1 a2 a3) → ∀ a0 a1 a2 a3, F k self a0 a1 a2 a3 = some r → P a0 a1 a2 a3) : P a0 a1 a2 a3 := wp4S P (hs k hk) h
def wp5 {ρ A0 A1 A2 A3 A4 : Type} (F : (A0 → A1 → A2 → A3 → A4 → Option ρ) → A0 → A1 → A2 → A3 → A4 → Option ρ) : Nat → A0 → A1 → A2 → A3 → A4 → Option ρ
  | 0, _, _, _, _, _ => none
  | n + 1, a0, a1, a2, a3, a4 => F (wp5 F n) a0 a1 a2 a3 a4
theorem wp5s {ρ A0 A1 A2 A3 A4 : Type} (F : (A0 → A1 → A2 → A3 → A4 → Option ρ) → A0 → A1 → A2 → A3 → A4 → Option ρ) (n : Nat) (a0 : A0) (a1 : A1) (a2 : A2) (a3 : A3) (a4 : A4) : wp5 F (n + 1) a0 a1 a2 a3 a4 = F (wp5 F n) a0 a1 a2 a3 a4 := rfl
theorem wp5S {ρ A0 A1 A2 A3 A4 : Type} {F : (A0 → A1 → A2 → A3 → A4 → Option ρ) → A0 → A1 → A2 → A3 → A4 → Option ρ} {r : ρ} (P : A0 → A1 → A2 → A3 → A4 → Prop) (hs : ∀ self : A0 → A1 → A2 → A3 → A4 → Option ρ, (∀ a0 a1 a2 a3 a4, self a0 a1 a2 a3 a4 = some r → P a0 a1 a2 a3 a4) → ∀ a0 a1 a2 a3 a4, F self a0 a1 a2 a3 a4 = some r → P a0 a1 a2 a3 a4) : ∀ {n : Nat} {a0 a1 a2 a3 a4}, wp5 F n a0 a1 a2 a3 a4 = some r → P a0 a1 a2 a3 a4
  | 0, _, _, _, _, _, h => by cases h
  | n + 1, _, _, _, _, _, h => hs (wp5 F n) (fun a0 a1 a2 a3 a4 h => wp5S P hs h) _ _ _ _ _ h
theorem wp5K {ρ κ A0 A1 A2 A3 A4 : Type} {F : κ → (A0 → A1 → A2 → A3 → A4 → Option ρ) → A0 → A1 → A2 → A3 → A4 → Option ρ} {k : κ} {r : ρ} {n : Nat} {a0 a1 a2 a3 a4} (h : wp5 (F k) n a0 a1 a2 a3 a4 = some r) (P : A0 → A1 → A2 → A3 → A4 → Prop) (Pk : κ → Prop) (hk : Pk k) (hs : ∀ k, Pk k → ∀ self : A0 → A1 → A2 → A3 → A4 → Option ρ, (∀ a0 a1 a2 a3 a4, self a0 a1 a2 a3 a4 = some r → P a0 a1 a2 a3 a4) → ∀ a0 a1 a2 a3 a4, F k self a0 a1 a2 a3 a4 = some r → P a0 a1 a2 a3 a4) : P a0 a1 a2 a3 a4 := wp5S P (hs k hk) h
def wp6 {ρ A0 A1 A2 A3 A4 A5 : Type} (F : (A0 → A1 → A2 → A3 → A4 → A5 → Option ρ) → A0 → A1 → A2 → A3 → A4 → A5 → Option ρ) : Nat → A0 → A1 → A2 → A3 → A4 → A5 → Option ρ
  | 0, _, _, _, _, _, _ => none
  | n + 1, a0, a1, a2, a3, a4, a5 => F (wp6 F n) a0 a1 a2 a3 a4 a5
theorem wp6s {ρ A0 A1 A2 A3 A4 A5 : Type} (F : (A0 → A1 → A2 → A3 → A4 → A5 → Option ρ) → A0 → A1 → A2 → A3 → A4 → A5 → Option ρ) (n : Nat) (a0 : A0) (a1 : A1) (a2 : A2) (a3 : A3) (a4 : A4) (a5 : A5) : wp6 F (n + 1) a0 a1 a2 a3 a4 a5 = F (wp6 F n) a0 a1 a2 a3 a4 a5 := rfl
theorem wp6S {ρ A0 A1 A2 A3 A4 A5 : Type} {F : (A0 → A1 → A2 → A3 → A4 → A5 → Option ρ) → A0 → A1 → A2 → A3 → A4 → A5 → Option ρ} {r : ρ} (P : A0 → A1 → A2 → A3 → A4 → A5 → Prop) (hs : ∀ self : A0 → A1 → A2 → A3 → A4 → A5 → Option ρ, (∀ a0 a1 a2 a3 a4 a5, self a0 a1 a2 a3 a4 a5 = some r → P a0 a1 a2 a3 a4 a5) → ∀ a0 a1 a2 a3 a4 a5, F self a0 a1 a2 a3 a4 a5 = some r → P a0 a1 a2 a3 a4 a5) : ∀ {n : Nat} {a0 a1 a2 a3 a4 a5}, wp6 F n a0 a1 a2 a3 a4 a5 = some r → P a0 a1 a2 a3 a4 a5
  | 0, _, _, _, _, _, _, h => by cases h
  | n + 1, _, _, _, _, _, _, h => hs (wp6 F n) (fun a0 a1 a2 a3 a4 a5 h => wp6S P hs h) _ _ _ _ _ _ h
theorem wp6K {ρ κ A0 A1 A2 A3 A4 A5 : Type} {F : κ → (A0 → A1 → A2 → A3 → A4 → A5 → Option ρ) → A0 → A1 → A2 → A3 → A4 → A5 → Option ρ} {k : κ} {r : ρ} {n : Nat} {a0 a1 a2 a3 a4 a5} (h : wp6 (F k) n a0 a1 a2 a3 a4 a5 = some r) (P : A0 → A1 → A2 → A3 → A4 → A5 → Prop) (Pk : κ → Prop) (hk : Pk k) (hs : ∀ k, Pk k → ∀ self : A0 → A1 → A2 → A3 → A4 → A5 → Option ρ, (∀ a0 a1 a2 a3 a4 a5, self a0 a1 a2 a3 a4 a5 = some r → P a0 a1 a2 a3 a4 a5) → ∀ a0 a1 a2 a3 a4 a5, F k self a0 a1 a2 a3 a4 a5 = some r → P a0 a1 a2 a3 a4 a5) : P a0 a1 a2 a3 a4 a5 := wp6S P (hs k hk) h
def wp7 {ρ A0 A1 A2 A3 A4 A5 A6 : Type} (F : (A0 → A1 → A2 → A3 → A4 → A5 → A6 → Option ρ) → A0 → A1 → A2 → A3 → A4 → A5 → A6 → Option ρ) : Nat → A0 → A1 → A2 → A3 → A4 → A5 → A6 → Option ρ
  | 0, _, _, _, _, _, _, _ => none
  | n + 1, a0, a1, a2, a3, a4, a5, a6 => F (wp7 F n) a0 a1 a2 a3 a4 a5 a6
theorem wp7s {ρ A0 A1 A2 A3 A4 A5 A6 : Type} (F : (A0 → A1 → A2 → A3 → A4 → A5 → A6 → Option ρ) → A0 → A1 → A2 → A3 → A4 → A5 → A6 → Option ρ) (n : Nat) (a0 : A0) (a1 : A1) (a2 : A2) (a3 : A3) (a4 : A4) (a5 : A5) (a6 : A6) : wp7 F (n + 1) a0 a1 a2 a3 a4 a5 a6 = F (wp7 F n) a0 a1 a2 a3 a4 a5 a6 := rfl
theorem wp7S {ρ A0 A1 A2 A3 A4 A5 A6 : Type} {F : (A0 → A1 → A2 → A3 → A4 → A5 → A6 → Option ρ) → A0 → A1 → A2 → A3 → A4 → A5 → A6 → Option ρ} {r : ρ} (P : A0 → A1 → A2 → A3 → A4 → A5 → A6 → Prop) (hs : ∀ self : A0 → A1 → A2 → A3 → A4 → A5 → A6 → Option ρ, (∀ a0 a1 a2 a3 a4 a5 a6, self a0 a1 a2 a3 a4 a5 a6 = some r → P a0 a1 a2 a3 a4 a5 a6) → ∀ a0 a1 a2 a3 a4 a5 a6, F self a0 a1 a2 a3 a4 a5 a6 = some r → P a0 a1 a2 a3 a4 a5 a6) : ∀ {n : Nat} {a0 a1 a2 a3 a4 a5 a6}, wp7 F n a0 a1 a2 a3 a4 a5 a6 = some r → P a0 a1 a2 a3 a4 a5 a6
  | 0, _, _, _, _, _, _, _, h => by cases h
  | n + 1, _, _, _, _, _, _, _, h => hs (wp7 F n) (fun a0 a1 a2 a3 a4 a5 a6 h => wp7S P hs h) _ _ _ _ _ _ _ h
theorem wp7K {ρ κ A0 A1 A2 A3 A4 A5 A6 : Type} {F : κ → (A0 → A1 → A2 → A3 → A4 → A5 → A6 → Option ρ) → A0 → A1 → A2 → A3 → A4 → A5 → A6 → Option ρ} {k : κ} {r : ρ} {n : Nat} {a0 a1 a2 a3 a4 a5 a6} (h : wp7 (F k) n a0 a1 a2 a3 a4 a5 a6 = some r) (P : A0 → A1 → A2 → A3 → A4 → A5 → A6 → Prop) (Pk : κ → Prop) (hk : Pk k) (hs : ∀ k, Pk k → ∀ self : A0 → A1 → A2 → A3 → A4 → A5 → A6 → Option ρ, (∀ a0 a1 a2 a3 a4 a5 a6, self a0 a1 a2 a3 a4 a5 a6 = some r → P a0 a1 a2 a3 a4 a5 a6) → ∀ a0 a1 a2 a3 a4 a5 a6, F k self a0 a1 a2 a3 a4 a5 a6 = some r → P a0 a1 a2 a3 a4 a5 a6) : P a0 a1 a2 a3 a4 a5 a6 := wp7S P (hs k hk) h
def wp8 {ρ A0 A1 A2 A3 A4 A5 A6 A7 : Type} (F : (A0 → A1 → A2 → A3 → A4 → A5 → A6 → A7 → Option ρ) → A0 → A1 → A2 → A3 → A4 → A5 → A6 → A7 → Option ρ) : Nat → A0 → A1 → A2 → A3 → A4 → A5 → A6 → A7 → Option ρ
  | 0, _, _, _, _, _, _, _, _ => none
  | n + 1, a0, a1, a2, a3, a4, a5, a6, a7 => F (wp8 F n) a0 a1 a2 a3 a4 a5 a6 a7
theorem wp8s {ρ A0 A1 A2 A3 A4 A5 A6 A7 : Type} (F : (A0 → A1 → A2 → A3 → A4 → A5 → A6 → A7 → Option ρ) → A0 → A1 → A2 → A3 → A4 → A5 → A6 → A7 → Option ρ) (n : Nat) (a0 : A0) (a1 : A1) (a2 : A2) (a3 : A3) (a4 : A4) (a5 : A5) (a6 : A6) (a7 : A7) : wp8 F (n + 1) a0 a1 a2 a3 a4 a5 a6 a7 = F (wp8 F n) a0 a1 a2 a3 a4 a5 a6 a7 := rfl
theorem wp8S {ρ A0 A1 A2 A3 A4 A5 A6 A7 : Type} {F : (A0 → A1 → A2 → A3 → A4 → A5 → A6 → A7 → Option ρ) → A0 → A1 → A2 → A3 → A4 → A5 → A6 → A7 → Option ρ} {r : ρ} (P : A0 → A1 → A2 → A3 → A4 → A5 → A6 → A7 → Prop) (hs : ∀ self : A0 → A1 → A2 → A3 → A4 → A5 → A6 → A7 → Option ρ, (∀ a0 a1 a2 a3 a4 a5 a6 a7, self a0 a1 a2 a3 a4 a5 a6 a7 = some r → P a0 a1 a2 a3 a4 a5 a6 a7) → ∀ a0 a1 a2 a3 a4 a5 a6 a7, F self a0 a1 a2 a3 a4 a5 a6 a7 = some r → P a0 a1 a2 a3 a4 a5 a6 a7) : ∀ {n : Nat} {a0 a1 a2 a3 a4 a5 a6 a7}, wp8 F n a0 a1 a2 a3 a4 a5 a6 a7 = some r → P a0 a1 a2 a3 a4 a5 a6 a7
  | 0, _, _, _, _, _, _, _, _, h => by cases h
  | n + 1, _, _, _, _, _, _, _, _, h => hs (wp8 F n) (fun a0 a1 a2 a3 a4 a5 a6 a7 h => wp8S P hs h) _ _ _ _ _ _ _ _ h
theorem wp8K {ρ κ A0 A1 A2 A3 A4 A5 A6 A7 : Type} {F : κ → (A0 → A1 → A2 → A3 → A4 → A5 → A6 → A7 → Option ρ) → A0 → A1 → A2 → A3 → A4 → A5 → A6 → A7 → Option ρ} {k : κ} {r : ρ} {n : Nat} {a0 a1 a2 a3 a4 a5 a6 a7} (h : wp8 (F k) n a0 a1 a2 a3 a4 a5 a6 a7 = some r) (P : A0 → A1 → A2 → A3 → A4 → A5 → A6 → A7 → Prop) (Pk : κ → Prop) (hk : Pk k) (hs : ∀ k, Pk k → ∀ self : A0 → A1 → A2 → A3 → A4 → A5 → A6 → A7 → Option ρ, (∀ a0 a1 a2 a3 a4 a5 a6 a7, self a0 a1 a2 a3 a4 a5 a6 a7 = some r → P a0 a1 a2 a3 a4 a5 a6 a7) → ∀ a0 a1 a2 a3 a4 a5 a6 a7, F k self a0 a1 a2 a3 a4 a5 a6 a7 = some r → P a0 a1 a2 a3 a4 a5 a6 a7) : P a0 a1 a2 a3 a4 a5 a6 a7 := wp8S P (hs k hk) h
section XV
variable {p : Program} {l : Launch} {e : Env} {R : Room} {s : State} {m : MethodId} {args : Array Value} {below : List Frame} {meth : Method} {c : Code} {H : Heap} {locs : List Loc} {cells slots : Nat} {Q : State → Prop}
variable {cc : ByteArray} {pc : Nat} {ls : Array Slot} {rest st0 : List Value} {own : String} {D : va_G} {cy : Nat → ClassId} {L : Nat → Nat} {sh : Nat → Dsc} {n bA : Nat} {S S' : Sg}
theorem x_Vr {nL index ci k nn fr lo maxL N : Nat} {C : String} {T : u_T} {fds : List (Option Nat)} {w : Value} {y : MethodName} {bytes : ByteArray} {ret : Option FieldType} {As : List Value} (E : En p m c cc nL s args own) (hC : Cst D cy L n bA s s.heap) (hW : Wd D cy L sh n S s H locs) (hl : ls.size = nL) (hM : MetX l D cy L sh n bA y bytes maxL ret fr lo (.ref (L k) :: As) (some w) S S') (V : CV own index C y bytes maxL ret nn) (hcl : vwCl[ci]? = some (C, T, N)) (hk : k < n) (hs : sh k = .inl (ci, fds)) (hn : As.length = nn) (hst : st0 = As.reverse ++ .ref (L k) :: rest) (hR : fr + 1 ≤ R.frames ∧ 8 + (maxL + 11) + lo ≤ R.locals) (hcs : cells ≤ R.cells ∧ slots ≤ R.slots) (hrm : (rest.map fun v => v.category).sum ≤ 8) (hdg : decode cc pc = .ok (.invokevirtual index, 3))
    (kk : ∀ (H1 : Heap) (locs1 : List Loc), Wd D cy L sh n S' s H1 locs1 → W p l e R s m args below meth c H1 locs1 cells slots Q (F0 m (pc + 3) ls (w :: rest))) : W p l e R s m args below meth c H locs cells slots Q (F0 m pc ls st0) := x_V E hC hW hl hM V hcl hk hs hn hst hR hcs hrm hdg kk
theorem x_Vv {nL index ci k nn fr lo maxL N : Nat} {C : String} {T : u_T} {fds : List (Option Nat)} {y : MethodName} {bytes : ByteArray} {ret : Option FieldType} {As : List Value} (E : En p m c cc nL s args own) (hC : Cst D cy L n bA s s.heap) (hW : Wd D cy L sh n S s H locs) (hl : ls.size = nL) (hM : MetX l D cy L sh n bA y bytes maxL ret fr lo (.ref (L k) :: As) none S S') (V : CV own index C y bytes maxL ret nn) (hcl : vwCl[ci]? = some (C, T, N)) (hk : k < n) (hs : sh k = .inl (ci, fds)) (hn : As.length = nn) (hst : st0 = As.reverse ++ .ref (L k) :: rest) (hR : fr + 1 ≤ R.frames ∧ 8 + (maxL + 11) + lo ≤ R.locals) (hcs : cells ≤ R.cells ∧ slots ≤ R.slots) (hrm : (rest.map fun v => v.category).sum ≤ 8) (hdg : decode cc pc = .ok (.invokevirtual index, 3))
    (kk : ∀ (H1 : Heap) (locs1 : List Loc), Wd D cy L sh n S' s H1 locs1 → W p l e R s m args below meth c H1 locs1 cells slots Q (F0 m (pc + 3) ls (rest))) : W p l e R s m args below meth c H locs cells slots Q (F0 m pc ls st0) := x_V E hC hW hl hM V hcl hk hs hn hst hR hcs hrm hdg kk
theorem x_Sr {nL index nn fr lo maxL : Nat} {w : Value} {y : MethodName} {bytes : ByteArray} {ret : Option FieldType} {As : List Value} (E : En p m c cc nL s args own) (hC : Cst D cy L n bA s s.heap) (hW : Wd D cy L sh n S s H locs) (hl : ls.size = nL) (hM : MetX l D cy L sh n bA y bytes maxL ret fr lo As (some w) S S') (V : CS own index y bytes maxL ret nn) (hn : As.length = nn) (hst : st0 = As.reverse ++ rest) (hR : fr + 1 ≤ R.frames ∧ 8 + (maxL + 11) + lo ≤ R.locals) (hcs : cells ≤ R.cells ∧ slots ≤ R.slots) (hrm : (rest.map fun v => v.category).sum ≤ 8) (hdg : decode cc pc = .ok (.invokestatic index, 3))
    (kk : ∀ (H1 : Heap) (locs1 : List Loc), Wd D cy L sh n S' s H1 locs1 → W p l e R s m args below meth c H1 locs1 cells slots Q (F0 m (pc + 3) ls (w :: rest))) : W p l e R s m args below meth c H locs cells slots Q (F0 m pc ls st0) := x_S E hC hW hl hM V hn hst hR hcs hrm hdg kk
theorem x_Sv {nL index nn fr lo maxL : Nat} {y : MethodName} {bytes : ByteArray} {ret : Option FieldType} {As : List Value} (E : En p m c cc nL s args own) (hC : Cst D cy L n bA s s.heap) (hW : Wd D cy L sh n S s H locs) (hl : ls.size = nL) (hM : MetX l D cy L sh n bA y bytes maxL ret fr lo As none S S') (V : CS own index y bytes maxL ret nn) (hn : As.length = nn) (hst : st0 = As.reverse ++ rest) (hR : fr + 1 ≤ R.frames ∧ 8 + (maxL + 11) + lo ≤ R.locals) (hcs : cells ≤ R.cells ∧ slots ≤ R.slots) (hrm : (rest.map fun v => v.category).sum ≤ 8) (hdg : decode cc pc = .ok (.invokestatic index, 3))
    (kk : ∀ (H1 : Heap) (locs1 : List Loc), Wd D cy L sh n S' s H1 locs1 → W p l e R s m args below meth c H1 locs1 cells slots Q (F0 m (pc + 3) ls (rest))) : W p l e R s m args below meth c H locs cells slots Q (F0 m pc ls st0) := x_S E hC hW hl hM V hn hst hR hcs hrm hdg kk
theorem x_Nr {nL index nn fr lo maxL : Nat} {w : Value} {y : MethodName} {bytes : ByteArray} {ret : Option FieldType} {As : List Value} (E : En p m c cc nL s args own) (hC : Cst D cy L n bA s s.heap) (hW : Wd D cy L sh n S s H locs) (hl : ls.size = nL) (hM : MetX l D cy L sh n bA y bytes maxL ret fr lo As (some w) S S') (V : CN own index y bytes maxL ret nn) (hn : As.length = nn) (hst : st0 = As.reverse ++ rest) (hR : fr + 1 ≤ R.frames ∧ 8 + (maxL + 11) + lo ≤ R.locals) (hcs : cells ≤ R.cells ∧ slots ≤ R.slots) (hrm : (rest.map fun v => v.category).sum ≤ 8) (hdg : decode cc pc = .ok (.invokestatic index, 3))
    (kk : ∀ (H1 : Heap) (locs1 : List Loc), Wd D cy L sh n S' s H1 locs1 → W p l e R s m args below meth c H1 locs1 cells slots Q (F0 m (pc + 3) ls (w :: rest))) : W p l e R s m args below meth c H locs cells slots Q (F0 m pc ls st0) := x_N E hC hW hl hM V hn hst hR hcs hrm hdg kk
theorem x_Nv {nL index nn fr lo maxL : Nat} {y : MethodName} {bytes : ByteArray} {ret : Option FieldType} {As : List Value} (E : En p m c cc nL s args own) (hC : Cst D cy L n bA s s.heap) (hW : Wd D cy L sh n S s H locs) (hl : ls.size = nL) (hM : MetX l D cy L sh n bA y bytes maxL ret fr lo As none S S') (V : CN own index y bytes maxL ret nn) (hn : As.length = nn) (hst : st0 = As.reverse ++ rest) (hR : fr + 1 ≤ R.frames ∧ 8 + (maxL + 11) + lo ≤ R.locals) (hcs : cells ≤ R.cells ∧ slots ≤ R.slots) (hrm : (rest.map fun v => v.category).sum ≤ 8) (hdg : decode cc pc = .ok (.invokestatic index, 3))
    (kk : ∀ (H1 : Heap) (locs1 : List Loc), Wd D cy L sh n S' s H1 locs1 → W p l e R s m args below meth c H1 locs1 cells slots Q (F0 m (pc + 3) ls (rest))) : W p l e R s m args below meth c H locs cells slots Q (F0 m pc ls st0) := x_N E hC hW hl hM V hn hst hR hcs hrm hdg kk
theorem x_iretI {nL : Nat} {x r : Int32} (E : En p m c cc nL s args own) (hC : Cst D cy L n bA s s.heap) (hW : Wd D cy L sh n S s H locs) (hr : meth.sig.returnType = some .int) (hk : meth.locks = false) (hQ : MQ below (xQ D cy L sh n bA (some (.int r)) S') args s 0 0 (AL L n) = Q) (hdg : decode cc pc = .ok (.ireturn, 1)) (hf : some (x, S) = some (r, S')) : W p l e R s m args below meth c H locs 0 0 Q (F0 m pc ls [.int x]) := by
  cases hf; subst hQ; exact x_iret E hC hW hr hk hdg
theorem x_iretP {nL : Nat} {x r : Int32} (E : En p m c cc nL s args own) (hC : Cst D cy L n bA s s.heap) (hW : Wd D cy L sh n S s H locs) (hr : meth.sig.returnType = some .int) (hk : meth.locks = false) (hQ : MQ below (xQ D cy L sh n bA (some (.int r)) S) args s 0 0 (AL L n) = Q) (hdg : decode cc pc = .ok (.ireturn, 1)) (hf : some x = some r) : W p l e R s m args below meth c H locs 0 0 Q (F0 m pc ls [.int x]) := by
  cases hf; subst hQ; exact x_iret E hC hW hr hk hdg
theorem x_zretI {nL : Nat} {x r : Int32} (E : En p m c cc nL s args own) (hC : Cst D cy L n bA s s.heap) (hW : Wd D cy L sh n S s H locs) (hr : meth.sig.returnType = some .boolean) (hk : meth.locks = false) (hQ : MQ below (xQ D cy L sh n bA (some (.int r)) S') args s 0 0 (AL L n) = Q) (hx : isB x = true) (hdg : decode cc pc = .ok (.ireturn, 1)) (hf : some (x, S) = some (r, S')) : W p l e R s m args below meth c H locs 0 0 Q (F0 m pc ls [.int x]) := by
  cases hf; subst hQ; exact x_zret E hC hW hr hk hx hdg
theorem x_zretP {nL : Nat} {x r : Int32} (E : En p m c cc nL s args own) (hC : Cst D cy L n bA s s.heap) (hW : Wd D cy L sh n S s H locs) (hr : meth.sig.returnType = some .boolean) (hk : meth.locks = false) (hQ : MQ below (xQ D cy L sh n bA (some (.int r)) S) args s 0 0 (AL L n) = Q) (hx : isB x = true) (hdg : decode cc pc = .ok (.ireturn, 1)) (hf : some x = some r) : W p l e R s m args below meth c H locs 0 0 Q (F0 m pc ls [.int x]) := by
  cases hf; subst hQ; exact x_zret E hC hW hr hk hx hdg
theorem x_lretI {nL : Nat} {x r : Int64} (E : En p m c cc nL s args own) (hC : Cst D cy L n bA s s.heap) (hW : Wd D cy L sh n S s H locs) (hr : meth.sig.returnType = some .long) (hk : meth.locks = false) (hQ : MQ below (xQ D cy L sh n bA (some (.long r)) S') args s 0 0 (AL L n) = Q) (hdg : decode cc pc = .ok (.lreturn, 1)) (hf : some (x, S) = some (r, S')) : W p l e R s m args below meth c H locs 0 0 Q (F0 m pc ls [.long x]) := by
  cases hf; subst hQ; exact x_lret E hC hW hr hk hdg
theorem x_lretP {nL : Nat} {x r : Int64} (E : En p m c cc nL s args own) (hC : Cst D cy L n bA s s.heap) (hW : Wd D cy L sh n S s H locs) (hr : meth.sig.returnType = some .long) (hk : meth.locks = false) (hQ : MQ below (xQ D cy L sh n bA (some (.long r)) S) args s 0 0 (AL L n) = Q) (hdg : decode cc pc = .ok (.lreturn, 1)) (hf : some x = some r) : W p l e R s m args below meth c H locs 0 0 Q (F0 m pc ls [.long x]) := by
  cases hf; subst hQ; exact x_lret E hC hW hr hk hdg
theorem x_vretI {nL : Nat} (E : En p m c cc nL s args own) (hC : Cst D cy L n bA s s.heap) (hW : Wd D cy L sh n S s H locs) (hr : meth.sig.returnType = none) (hk : meth.locks = false) (hQ : MQ below (xQ D cy L sh n bA none S') args s 0 0 (AL L n) = Q) (hdg : decode cc pc = .ok (.return_, 1)) (hf : some S = some S') : W p l e R s m args below meth c H locs 0 0 Q (F0 m pc ls []) := by
  cases hf; subst hQ; exact x_vret E hC hW hr hk hdg
end XV
/-! the class's world and the reference's -/
def dKept (k : Nat) : Dsc := .inl (2, [none, none, none, some (k + 1), some (k + 2), some (k + 3), some (k + 4), some (k + 5)])
def dBasis (k : Nat) : Dsc := .inl (0, [none, none, none, none, some (k + 1), some (k + 2), some (k + 3)])
def dSheet (k : Nat) : Dsc := .inl (6, [none, none, some (k + 1)])
def dHand (k : Nat) : Dsc := .inl (1, [none, none, none, none, some (k + 1)])
abbrev aI (n : Nat) : Dsc := .inr (.inl (0, n))
abbrev aJ (n : Nat) : Dsc := .inr (.inl (1, n))
abbrev aZ (n : Nat) : Dsc := .inr (.inl (2, n))
def shCl : List Dsc := [.inl (9, [some 1, some 7, none, some 13, some 19, some 21, some 27, some 29, some 31, some 40, some 49, some 50, some 51]),
  dKept 1, aI 10, aI 10, aJ 10, aI 120, aI 8, dKept 7, aI 10, aI 10, aJ 10, aI 120, aI 8,
  .inl (5, [none, none, none, some 14, some 15]), aI 120, dBasis 15, aI 36, aZ 6, aI 6,
  .inl (8, [none, none, some 20]), aZ 1024, .inl (7, [some 22, some 23]), aI 6, dBasis 23, aI 36, aZ 6, aI 6,
  .inl (4, [none, none, some 28]), aJ 36, .inl (3, [none, some 30]), aJ 20,
  .inr (.inr (3, 4, 32)), dSheet 32, aJ 30, dSheet 34, aJ 30, dSheet 36, aJ 30, dSheet 38, aJ 30,
  .inr (.inr (4, 4, 41)), dHand 41, aI 6, dHand 43, aI 6, dHand 45, aI 6, dHand 47, aI 6, aI 10, aI 10, aI 10]
def shC (k : Nat) : Dsc := shCl.getD k (aI 0)
def shMl : List Dsc := [.inl (10, [none, none, none, some 1, some 2, some 3, some 4, some 5, some 6, none, some 7, none, some 8, none, some 9, none, some 10, some 11, some 12, some 13, some 14, some 15, some 16, some 17, none, some 18, some 19]),
  aI 10, aI 10, aJ 10, aI 120, aI 8, aI 156, aJ 10, aJ 36, aJ 20, aI 4, aI 4, aI 4, aI 4, aI 24, aI 4, aI 4, aJ 120, aI 151, aJ 10]
def shM (k : Nat) : Dsc := shMl.getD k (aI 0)
def okB (k : Nat) : Prop := k < 52 ∧ shC k = dBasis k ∧ k + 1 < 52 ∧ shC (k + 1) = aI 36 ∧ k + 2 < 52 ∧ shC (k + 2) = aZ 6 ∧ k + 3 < 52 ∧ shC (k + 3) = aI 6
def okS (k : Nat) : Prop := k < 52 ∧ shC k = dSheet k ∧ k + 1 < 52 ∧ shC (k + 1) = aJ 30
def okH (k : Nat) : Prop := k < 52 ∧ shC k = dHand k ∧ k + 1 < 52 ∧ shC (k + 1) = aI 6
def okK (k : Nat) : Prop := k < 52 ∧ shC k = dKept k ∧ k + 1 < 52 ∧ shC (k + 1) = aI 10 ∧ k + 2 < 52 ∧ shC (k + 2) = aI 10 ∧ k + 3 < 52 ∧ shC (k + 3) = aJ 10 ∧ k + 4 < 52 ∧ shC (k + 4) = aI 120 ∧ k + 5 < 52 ∧ shC (k + 5) = aI 8
def okA (k n : Nat) : Prop := k < 52 ∧ shC k = aI n
theorem okS_ix {i : Int32} (h : inb i 4 = true) : okS (32 + 2 * ix i) := by
  have h1 : ix i < 4 := Nat.not_le.mp fun q => (inbS h) (Or.inr q)
  rcases (show ix i = 0 ∨ ix i = 1 ∨ ix i = 2 ∨ ix i = 3 by omega) with e | e | e | e <;> rw [e] <;> exact ⟨by decide, rfl, by decide, rfl⟩
theorem okH_ix {i : Int32} (h : inb i 4 = true) : okH (41 + 2 * ix i) := by
  have h1 : ix i < 4 := Nat.not_le.mp fun q => (inbS h) (Or.inr q)
  rcases (show ix i = 0 ∨ ix i = 1 ∨ ix i = 2 ∨ ix i = 3 by omega) with e | e | e | e <;> rw [e] <;> exact ⟨by decide, rfl, by decide, rfl⟩
theorem okB_15 : okB 15 := ⟨by decide, rfl, by decide, rfl, by decide, rfl, by decide, rfl⟩
theorem okB_23 : okB 23 := ⟨by decide, rfl, by decide, rfl, by decide, rfl, by decide, rfl⟩
theorem okK_1 : okK 1 := ⟨by decide, rfl, by decide, rfl, by decide, rfl, by decide, rfl, by decide, rfl, by decide, rfl⟩
theorem okK_7 : okK 7 := ⟨by decide, rfl, by decide, rfl, by decide, rfl, by decide, rfl, by decide, rfl, by decide, rfl⟩
