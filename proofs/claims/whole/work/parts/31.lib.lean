/-! the models' words, made away; the store; loops by their traces; numbers -/
theorem bv_e {α β : Type} (a : α) (k : α → β) : bv a k = k a := rfl
theorem gd_t {α : Type} (k : Option α) : gd true k = k := rfl
theorem gd_p {α : Type} {b : Bool} {k : Option α} (h : b = true) : gd b k = k := by rw [h]; rfl
theorem cl_s {α β γ : Type} (a : α) (b : β) (k : α → β → Option γ) : cl (some (a, b)) k = k a b := rfl
theorem cl1_s {α γ : Type} (a : α) (k : α → Option γ) : cl1 (some a) k = k a := rfl
theorem jn_e {α β : Type} (k : α) (b : α → β) : jn k b = b k := rfl
theorem si_same (S : Sg) (k j : Nat) (v : Int32) : (si S k j v).1 k = upd (S.1 k) j v := by simp [si]
theorem si_ne (S : Sg) {k k' : Nat} (j : Nat) (v : Int32) (h : k' ≠ k) : (si S k j v).1 k' = S.1 k' := by simp [si, h]
theorem si_2 (S : Sg) (k j : Nat) (v : Int32) : (si S k j v).2 = S.2 := rfl
theorem sl_1 (S : Sg) (k j : Nat) (v : Int64) : (sl S k j v).1 = S.1 := rfl
theorem sl_same (S : Sg) (k j : Nat) (v : Int64) : (sl S k j v).2 k = vp_updL (S.2 k) j v := by simp [sl]
theorem sl_ne (S : Sg) {k k' : Nat} (j : Nat) (v : Int64) (h : k' ≠ k) : (sl S k j v).2 k' = S.2 k' := by simp [sl, h]
theorem upd_s (f : Nat → Int32) (k : Nat) (x : Int32) : upd f k x k = x := by simp [upd]
theorem upd_n (f : Nat → Int32) {k j : Nat} (x : Int32) (h : j ≠ k) : upd f k x j = f j := by simp [upd, h]
theorem updL_s (f : Nat → Int64) (k : Nat) (x : Int64) : vp_updL f k x k = x := by simp [vp_updL]
theorem updL_n (f : Nat → Int64) {k j : Nat} (x : Int64) (h : j ≠ k) : vp_updL f k x j = f j := by simp [vp_updL, h]
theorem inb_nI {a n : Nat} (h : a < n) (hn : n < 2 ^ 31) : inb (nI a) n = true := decide_eq_true (vp_in_nI h hn)
theorem ix_nI {a : Nat} (h : a < 2 ^ 31) : ix (nI a) = a := nI_clamp h
theorem nz_nI {a : Nat} (h : a ≠ 0) (h2 : a < 2 ^ 31) : nz (nI a) = true := decide_eq_true (nI_ne0 (Nat.pos_of_ne_zero h) h2)
/-- a state by its steps -/
def itr {A : Type} (f : Nat → A → A) (a : A) : Nat → A
  | 0 => a
  | i + 1 => f i (itr f a i)
theorem itr_s {A : Type} (f : Nat → A → A) (a : A) (i : Nat) : itr f a (i + 1) = f i (itr f a i) := rfl
theorem itr_0 {A : Type} (f : Nat → A → A) (a : A) : itr f a 0 = a := rfl
/-- a loop whose states are g 0, g 1 .. g n, and which ends at g n -/
theorem wp1E {ρ A0 : Type} {F : (A0 → Option ρ) → A0 → Option ρ} (n : Nat) (g0 : Nat → A0) {X : Option ρ} (hs : ∀ i, i < n → ∀ self, F self (g0 i) = self (g0 (i + 1))) (he : ∀ self, F self (g0 n) = X) {fuel : Nat} (hf : n < fuel) : wp1 F fuel (g0 0) = X := by
  have key : ∀ (c k fuel : Nat), k + c = n → c < fuel → wp1 F fuel (g0 k) = X := by
    intro c
    induction c with
    | zero =>
      intro k fuel hk hf
      obtain ⟨f, rfl⟩ : ∃ f, fuel = f + 1 := ⟨fuel - 1, by omega⟩
      rw [wp1s]
      rw [show k = n by omega]
      exact he _
    | succ c ih =>
      intro k fuel hk hf
      obtain ⟨f, rfl⟩ : ∃ f, fuel = f + 1 := ⟨fuel - 1, by omega⟩
      rw [wp1s, hs k (by omega)]
      exact ih (k + 1) f (by omega) (by omega)
  exact key n 0 fuel (by omega) hf
/-- a loop by an invariant with what is left to do -/
theorem wp1R {ρ A0 : Type} {F : (A0 → Option ρ) → A0 → Option ρ} (I : Nat → A0 → Prop) (Post : Option ρ → Prop) (hs : ∀ c a0, I c a0 → (∃ r, Post r ∧ ∀ self, F self a0 = r) ∨ (∃ c' b0, c' < c ∧ I c' b0 ∧ ∀ self, F self a0 = self b0)) : ∀ fuel c a0, c < fuel → I c a0 → ∃ r, Post r ∧ wp1 F fuel a0 = r := by
  intro fuel
  induction fuel with
  | zero => intro c a0 h; omega
  | succ f ih =>
    intro c a0 h hI
    rcases hs c a0 hI with ⟨r, h1, h2⟩ | ⟨c', b0, h1, h2, h3⟩
    · exact ⟨r, h1, by rw [wp1s]; exact h2 _⟩
    · obtain ⟨r, q1, q2⟩ := ih c' b0 (by omega) h2
      exact ⟨r, q1, by rw [wp1s, h3]; exact q2⟩
/-- a loop whose states are g 0, g 1 .. g n, and which ends at g n -/
theorem wp2E {ρ A0 A1 : Type} {F : (A0 → A1 → Option ρ) → A0 → A1 → Option ρ} (n : Nat) (g0 : Nat → A0) (g1 : Nat → A1) {X : Option ρ} (hs : ∀ i, i < n → ∀ self, F self (g0 i) (g1 i) = self (g0 (i + 1)) (g1 (i + 1))) (he : ∀ self, F self (g0 n) (g1 n) = X) {fuel : Nat} (hf : n < fuel) : wp2 F fuel (g0 0) (g1 0) = X := by
  have key : ∀ (c k fuel : Nat), k + c = n → c < fuel → wp2 F fuel (g0 k) (g1 k) = X := by
    intro c
    induction c with
    | zero =>
      intro k fuel hk hf
      obtain ⟨f, rfl⟩ : ∃ f, fuel = f + 1 := ⟨fuel - 1, by omega⟩
      rw [wp2s]
      rw [show k = n by omega]
      exact he _
    | succ c ih =>
      intro k fuel hk hf
      obtain ⟨f, rfl⟩ : ∃ f, fuel = f + 1 := ⟨fuel - 1, by omega⟩
      rw [wp2s, hs k (by omega)]
      exact ih (k + 1) f (by omega) (by omega)
  exact key n 0 fuel (by omega) hf
/-- a loop by an invariant with what is left to do -/
theorem wp2R {ρ A0 A1 : Type} {F : (A0 → A1 → Option ρ) → A0 → A1 → Option ρ} (I : Nat → A0 → A1 → Prop) (Post : Option ρ → Prop) (hs : ∀ c a0 a1, I c a0 a1 → (∃ r, Post r ∧ ∀ self, F self a0 a1 = r) ∨ (∃ c' b0 b1, c' < c ∧ I c' b0 b1 ∧ ∀ self, F self a0 a1 = self b0 b1)) : ∀ fuel c a0 a1, c < fuel → I c a0 a1 → ∃ r, Post r ∧ wp2 F fuel a0 a1 = r := by
  intro fuel
  induction fuel with
  | zero => intro c a0 a1 h; omega
  | succ f ih =>
    intro c a0 a1 h hI
    rcases hs c a0 a1 hI with ⟨r, h1, h2⟩ | ⟨c', b0, b1, h1, h2, h3⟩
    · exact ⟨r, h1, by rw [wp2s]; exact h2 _⟩
    · obtain ⟨r, q1, q2⟩ := ih c' b0 b1 (by omega) h2
      exact ⟨r, q1, by rw [wp2s, h3]; exact q2⟩
/-- a loop whose states are g 0, g 1 .. g n, and which ends at g n -/
theorem wp3E {ρ A0 A1 A2 : Type} {F : (A0 → A1 → A2 → Option ρ) → A0 → A1 → A2 → Option ρ} (n : Nat) (g0 : Nat → A0) (g1 : Nat → A1) (g2 : Nat → A2) {X : Option ρ} (hs : ∀ i, i < n → ∀ self, F self (g0 i) (g1 i) (g2 i) = self (g0 (i + 1)) (g1 (i + 1)) (g2 (i + 1))) (he : ∀ self, F self (g0 n) (g1 n) (g2 n) = X) {fuel : Nat} (hf : n < fuel) : wp3 F fuel (g0 0) (g1 0) (g2 0) = X := by
  have key : ∀ (c k fuel : Nat), k + c = n → c < fuel → wp3 F fuel (g0 k) (g1 k) (g2 k) = X := by
    intro c
    induction c with
    | zero =>
      intro k fuel hk hf
      obtain ⟨f, rfl⟩ : ∃ f, fuel = f + 1 := ⟨fuel - 1, by omega⟩
      rw [wp3s]
      rw [show k = n by omega]
      exact he _
    | succ c ih =>
      intro k fuel hk hf
      obtain ⟨f, rfl⟩ : ∃ f, fuel = f + 1 := ⟨fuel - 1, by omega⟩
      rw [wp3s, hs k (by omega)]
      exact ih (k + 1) f (by omega) (by omega)
  exact key n 0 fuel (by omega) hf
/-- a loop by an invariant with what is left to do -/
theorem wp3R {ρ A0 A1 A2 : Type} {F : (A0 → A1 → A2 → Option ρ) → A0 → A1 → A2 → Option ρ} (I : Nat → A0 → A1 → A2 → Prop) (Post : Option ρ → Prop) (hs : ∀ c a0 a1 a2, I c a0 a1 a2 → (∃ r, Post r ∧ ∀ self, F self a0 a1 a2 = r) ∨ (∃ c' b0 b1 b2, c' < c ∧ I c' b0 b1 b2 ∧ ∀ self, F self a0 a1 a2 = self b0 b1 b2)) : ∀ fuel c a0 a1 a2, c < fuel → I c a0 a1 a2 → ∃ r, Post r ∧ wp3 F fuel a0 a1 a2 = r := by
  intro fuel
  induction fuel with
  | zero => intro c a0 a1 a2 h; omega
  | succ f ih =>
    intro c a0 a1 a2 h hI
    rcases hs c a0 a1 a2 hI with ⟨r, h1, h2⟩ | ⟨c', b0, b1, b2, h1, h2, h3⟩
    · exact ⟨r, h1, by rw [wp3s]; exact h2 _⟩
    · obtain ⟨r, q1, q2⟩ := ih c' b0 b1 b2 (by omega) h2
      exact ⟨r, q1, by rw [wp3s, h3]; exact q2⟩
/-- a loop whose states are g 0, g 1 .. g n, and which ends at g n -/
theorem wp4E {ρ A0 A1 A2 A3 : Type} {F : (A0 → A1 → A2 → A3 → Option ρ) → A0 → A1 → A2 → A3 → Option ρ} (n : Nat) (g0 : Nat → A0) (g1 : Nat → A1) (g2 : Nat → A2) (g3 : Nat → A3) {X : Option ρ} (hs : ∀ i, i < n → ∀ self, F self (g0 i) (g1 i) (g2 i) (g3 i) = self (g0 (i + 1)) (g1 (i + 1)) (g2 (i + 1)) (g3 (i + 1))) (he : ∀ self, F self (g0 n) (g1 n) (g2 n) (g3 n) = X) {fuel : Nat} (hf : n < fuel) : wp4 F fuel (g0 0) (g1 0) (g2 0) (g3 0) = X := by
  have key : ∀ (c k fuel : Nat), k + c = n → c < fuel → wp4 F fuel (g0 k) (g1 k) (g2 k) (g3 k) = X := by
    intro c
    induction c with
    | zero =>
      intro k fuel hk hf
      obtain ⟨f, rfl⟩ : ∃ f, fuel = f + 1 := ⟨fuel - 1, by omega⟩
      rw [wp4s]
      rw [show k = n by omega]
      exact he _
    | succ c ih =>
      intro k fuel hk hf
      obtain ⟨f, rfl⟩ : ∃ f, fuel = f + 1 := ⟨fuel - 1, by omega⟩
      rw [wp4s, hs k (by omega)]
      exact ih (k + 1) f (by omega) (by omega)
  exact key n 0 fuel (by omega) hf
/-- a loop by an invariant with what is left to do -/
theorem wp4R {ρ A0 A1 A2 A3 : Type} {F : (A0 → A1 → A2 → A3 → Option ρ) → A0 → A1 → A2 → A3 → Option ρ} (I : Nat → A0 → A1 → A2 → A3 → Prop) (Post : Option ρ → Prop) (hs : ∀ c a0 a1 a2 a3, I c a0 a1 a2 a3 → (∃ r, Post r ∧ ∀ self, F self a0 a1 a2 a3 = r) ∨ (∃ c' b0 b1 b2 b3, c' < c ∧ I c' b0 b1 b2 b3 ∧ ∀ self, F self a0 a1 a2 a3 = self b0 b1 b2 b3)) : ∀ fuel c a0 a1 a2 a3, c < fuel → I c a0 a1 a2 a3 → ∃ r, Post r ∧ wp4 F fuel a0 a1 a2 a3 = r := by
  intro fuel
  induction fuel with
  | zero => intro c a0 a1 a2 a3 h; omega
  | succ f ih =>
    intro c a0 a1 a2 a3 h hI
    rcases hs c a0 a1 a2 a3 hI with ⟨r, h1, h2⟩ | ⟨c', b0, b1, b2, b3, h1, h2, h3⟩
    · exact ⟨r, h1, by rw [wp4s]; exact h2 _⟩
    · obtain ⟨r, q1, q2⟩ := ih c' b0 b1 b2 b3 (by omega) h2
      exact ⟨r, q1, by rw [wp4s, h3]; exact q2⟩
/-- a loop whose states are g 0, g 1 .. g n, and which ends at g n -/
theorem wp5E {ρ A0 A1 A2 A3 A4 : Type} {F : (A0 → A1 → A2 → A3 → A4 → Option ρ) → A0 → A1 → A2 → A3 → A4 → Option ρ} (n : Nat) (g0 : Nat → A0) (g1 : Nat → A1) (g2 : Nat → A2) (g3 : Nat → A3) (g4 : Nat → A4) {X : Option ρ} (hs : ∀ i, i < n → ∀ self, F self (g0 i) (g1 i) (g2 i) (g3 i) (g4 i) = self (g0 (i + 1)) (g1 (i + 1)) (g2 (i + 1)) (g3 (i + 1)) (g4 (i + 1))) (he : ∀ self, F self (g0 n) (g1 n) (g2 n) (g3 n) (g4 n) = X) {fuel : Nat} (hf : n < fuel) : wp5 F fuel (g0 0) (g1 0) (g2 0) (g3 0) (g4 0) = X := by
  have key : ∀ (c k fuel : Nat), k + c = n → c < fuel → wp5 F fuel (g0 k) (g1 k) (g2 k) (g3 k) (g4 k) = X := by
    intro c
    induction c with
    | zero =>
      intro k fuel hk hf
      obtain ⟨f, rfl⟩ : ∃ f, fuel = f + 1 := ⟨fuel - 1, by omega⟩
      rw [wp5s]
      rw [show k = n by omega]
      exact he _
    | succ c ih =>
      intro k fuel hk hf
      obtain ⟨f, rfl⟩ : ∃ f, fuel = f + 1 := ⟨fuel - 1, by omega⟩
      rw [wp5s, hs k (by omega)]
      exact ih (k + 1) f (by omega) (by omega)
  exact key n 0 fuel (by omega) hf
/-- a loop by an invariant with what is left to do -/
theorem wp5R {ρ A0 A1 A2 A3 A4 : Type} {F : (A0 → A1 → A2 → A3 → A4 → Option ρ) → A0 → A1 → A2 → A3 → A4 → Option ρ} (I : Nat → A0 → A1 → A2 → A3 → A4 → Prop) (Post : Option ρ → Prop) (hs : ∀ c a0 a1 a2 a3 a4, I c a0 a1 a2 a3 a4 → (∃ r, Post r ∧ ∀ self, F self a0 a1 a2 a3 a4 = r) ∨ (∃ c' b0 b1 b2 b3 b4, c' < c ∧ I c' b0 b1 b2 b3 b4 ∧ ∀ self, F self a0 a1 a2 a3 a4 = self b0 b1 b2 b3 b4)) : ∀ fuel c a0 a1 a2 a3 a4, c < fuel → I c a0 a1 a2 a3 a4 → ∃ r, Post r ∧ wp5 F fuel a0 a1 a2 a3 a4 = r := by
  intro fuel
  induction fuel with
  | zero => intro c a0 a1 a2 a3 a4 h; omega
  | succ f ih =>
    intro c a0 a1 a2 a3 a4 h hI
    rcases hs c a0 a1 a2 a3 a4 hI with ⟨r, h1, h2⟩ | ⟨c', b0, b1, b2, b3, b4, h1, h2, h3⟩
    · exact ⟨r, h1, by rw [wp5s]; exact h2 _⟩
    · obtain ⟨r, q1, q2⟩ := ih c' b0 b1 b2 b3 b4 (by omega) h2
      exact ⟨r, q1, by rw [wp5s, h3]; exact q2⟩
/-- a loop whose states are g 0, g 1 .. g n, and which ends at g n -/
theorem wp6E {ρ A0 A1 A2 A3 A4 A5 : Type} {F : (A0 → A1 → A2 → A3 → A4 → A5 → Option ρ) → A0 → A1 → A2 → A3 → A4 → A5 → Option ρ} (n : Nat) (g0 : Nat → A0) (g1 : Nat → A1) (g2 : Nat → A2) (g3 : Nat → A3) (g4 : Nat → A4) (g5 : Nat → A5) {X : Option ρ} (hs : ∀ i, i < n → ∀ self, F self (g0 i) (g1 i) (g2 i) (g3 i) (g4 i) (g5 i) = self (g0 (i + 1)) (g1 (i + 1)) (g2 (i + 1)) (g3 (i + 1)) (g4 (i + 1)) (g5 (i + 1))) (he : ∀ self, F self (g0 n) (g1 n) (g2 n) (g3 n) (g4 n) (g5 n) = X) {fuel : Nat} (hf : n < fuel) : wp6 F fuel (g0 0) (g1 0) (g2 0) (g3 0) (g4 0) (g5 0) = X := by
  have key : ∀ (c k fuel : Nat), k + c = n → c < fuel → wp6 F fuel (g0 k) (g1 k) (g2 k) (g3 k) (g4 k) (g5 k) = X := by
    intro c
    induction c with
    | zero =>
      intro k fuel hk hf
      obtain ⟨f, rfl⟩ : ∃ f, fuel = f + 1 := ⟨fuel - 1, by omega⟩
      rw [wp6s]
      rw [show k = n by omega]
      exact he _
    | succ c ih =>
      intro k fuel hk hf
      obtain ⟨f, rfl⟩ : ∃ f, fuel = f + 1 := ⟨fuel - 1, by omega⟩
      rw [wp6s, hs k (by omega)]
      exact ih (k + 1) f (by omega) (by omega)
  exact key n 0 fuel (by omega) hf
/-- a loop by an invariant with what is left to do -/
theorem wp6R {ρ A0 A1 A2 A3 A4 A5 : Type} {F : (A0 → A1 → A2 → A3 → A4 → A5 → Option ρ) → A0 → A1 → A2 → A3 → A4 → A5 → Option ρ} (I : Nat → A0 → A1 → A2 → A3 → A4 → A5 → Prop) (Post : Option ρ → Prop) (hs : ∀ c a0 a1 a2 a3 a4 a5, I c a0 a1 a2 a3 a4 a5 → (∃ r, Post r ∧ ∀ self, F self a0 a1 a2 a3 a4 a5 = r) ∨ (∃ c' b0 b1 b2 b3 b4 b5, c' < c ∧ I c' b0 b1 b2 b3 b4 b5 ∧ ∀ self, F self a0 a1 a2 a3 a4 a5 = self b0 b1 b2 b3 b4 b5)) : ∀ fuel c a0 a1 a2 a3 a4 a5, c < fuel → I c a0 a1 a2 a3 a4 a5 → ∃ r, Post r ∧ wp6 F fuel a0 a1 a2 a3 a4 a5 = r := by
  intro fuel
  induction fuel with
  | zero => intro c a0 a1 a2 a3 a4 a5 h; omega
  | succ f ih =>
    intro c a0 a1 a2 a3 a4 a5 h hI
    rcases hs c a0 a1 a2 a3 a4 a5 hI with ⟨r, h1, h2⟩ | ⟨c', b0, b1, b2, b3, b4, b5, h1, h2, h3⟩
    · exact ⟨r, h1, by rw [wp6s]; exact h2 _⟩
    · obtain ⟨r, q1, q2⟩ := ih c' b0 b1 b2 b3 b4 b5 (by omega) h2
      exact ⟨r, q1, by rw [wp6s, h3]; exact q2⟩
/-! numbers -/
theorem i32_eq {a b : Int32} : a = b ↔ a.toInt = b.toInt := Int32.toInt_inj.symm
theorem i64_eq {a b : Int64} : a = b ↔ a.toInt = b.toInt := Int64.toInt_inj.symm
theorem nI_T {n : Nat} (h : n < 2 ^ 31) : (nI n).toInt = (n : Int) := nI_toInt h
theorem lrm_T (x : Int64) {q : Nat} (h0 : 0 < q) (h : q < 2 ^ 31) : (lrm x (nI q).toInt64).toInt = x.toInt.tmod q := by
  have e : (nI q).toInt64.toInt = (q : Int) := by rw [Int32.toInt_toInt64, nI_toInt h]
  have hx1 := x.le_toInt
  have hx2 := x.toInt_lt
  have hm : x.toInt.tdiv q * q + x.toInt.tmod q = x.toInt := Int.tdiv_mul_add_tmod x.toInt q
  have hb := tmod_bounds (a := x.toInt) (M := (q : Int)) (by omega)
  have hd1 : -2 ^ 63 ≤ x.toInt.tdiv q ∧ x.toInt.tdiv q < 2 ^ 63 := by
    have h1 : (x.toInt.tdiv q).natAbs ≤ x.toInt.natAbs := by
      rw [Int.natAbs_tdiv]; exact Nat.div_le_self _ _
    by_cases hq : q = 1
    · subst hq; simp; omega
    · have h2 : (x.toInt.tdiv q).natAbs ≤ x.toInt.natAbs / 2 := by
        rw [Int.natAbs_tdiv]
        exact Nat.div_le_div_left (by simp; omega) (by decide)
      omega
  have hd : (x / (nI q).toInt64).toInt = x.toInt.tdiv q := by
    rw [Int64.toInt_div, e]
    exact Int.bmod_eq_of_le (by omega) (by omega)
  have hs : (0 ≤ x.toInt ∧ 0 ≤ x.toInt.tmod q) ∨ (x.toInt ≤ 0 ∧ x.toInt.tmod q ≤ 0) := by
    rcases Int.le_total 0 x.toInt with h1 | h1
    · exact Or.inl ⟨h1, Int.tmod_nonneg _ h1⟩
    · have h2 := Int.tmod_nonneg (q : Int) (a := -x.toInt) (by omega)
      rw [Int.neg_tmod] at h2
      exact Or.inr ⟨h1, by omega⟩
  have hmul : (x / (nI q).toInt64 * (nI q).toInt64).toInt = x.toInt.tdiv q * q := by
    rw [Int64.toInt_mul, hd, e]
    exact Int.bmod_eq_of_le (by omega) (by omega)
  show (x - x / (nI q).toInt64 * (nI q).toInt64).toInt = _
  rw [Int64.toInt_sub, hmul, show x.toInt - x.toInt.tdiv q * q = x.toInt.tmod q by omega]
  exact Int.bmod_eq_of_le (by omega) (by omega)
/-- the rest by q, as it is answered -/
def rst (v : Int) (q : Nat) : Nat := (v % (q : Int)).toNat
theorem rst_lt (v : Int) {q : Nat} (h : 0 < q) : rst v q < q := by
  have h1 := Int.emod_lt_of_pos v (b := (q : Int)) (by omega)
  have h2 := Int.emod_nonneg v (b := (q : Int)) (by omega)
  unfold rst
  omega
theorem rst_cast (v : Int) {q : Nat} (h : 0 < q) : ((rst v q : Nat) : Int) = v % (q : Int) := by
  have h2 := Int.emod_nonneg v (b := (q : Int)) (by omega)
  unfold rst
  omega
theorem restOf_eq (x : Int64) {q : Nat} (h0 : 0 < q) (h : q < 2 ^ 30) : f_X9_restOf x (nI q) = some (nI (rst x.toInt q)) := by
  have hz : nzl (nI q).toInt64 = true := by
    refine decide_eq_true (fun z => ?_)
    have := i64_eq.mp z
    rw [Int32.toInt_toInt64, nI_toInt (by omega)] at this
    simp at this
    omega
  have hb := tmod_bounds (a := x.toInt) (M := (q : Int)) (by omega)
  have ht : (lrm x (nI q).toInt64).toInt32.toInt = x.toInt.tmod q := by
    rw [Int64.toInt_toInt32, lrm_T x h0 (by omega)]
    exact Int.bmod_eq_of_le (by omega) (by omega)
  have hc := rst_cast x.toInt h0
  have hl := rst_lt x.toInt h0
  unfold f_X9_restOf
  rw [gd_p hz, bv_e]
  by_cases hp : 0 ≤ x.toInt.tmod q
  · have c1 : (0 : Int32) ≤ (lrm x (nI q).toInt64).toInt32 := by
      rw [Int32.le_iff_toInt_le, ht]; simpa using hp
    rw [if_pos c1]
    congr 1
    rw [i32_eq, ht, nI_toInt (by omega), hc]
    have hm := Int.tmod_eq_emod (a := x.toInt) (b := (q : Int))
    have hm2 := Int.emod_lt_of_pos x.toInt (b := (q : Int)) (by omega)
    have hm3 := Int.emod_nonneg x.toInt (b := (q : Int)) (by omega)
    split at hm <;> omega
  · have c1 : ¬ (0 : Int32) ≤ (lrm x (nI q).toInt64).toInt32 := by
      rw [Int32.le_iff_toInt_le, ht]; simpa using hp
    rw [if_neg c1]
    congr 1
    rw [i32_eq, Int32.toInt_add, ht, nI_toInt (by omega), nI_toInt (by omega), hc]
    have hm := Int.tmod_eq_emod (a := x.toInt) (b := (q : Int))
    have hm2 := Int.emod_lt_of_pos x.toInt (b := (q : Int)) (by omega)
    have hm3 := Int.emod_nonneg x.toInt (b := (q : Int)) (by omega)
    rw [Int.bmod_eq_of_le (by omega) (by omega)]
    split at hm <;> omega
