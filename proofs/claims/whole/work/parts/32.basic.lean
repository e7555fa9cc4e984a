/-! small answers of the class and of the reference, by one word -/
def b01 (p : Prop) [Decidable p] : Int32 := if p then 1 else 0
theorem b01_t {p : Prop} [Decidable p] (h : p) : b01 p = 1 := if_pos h
theorem b01_f {p : Prop} [Decidable p] (h : ¬ p) : b01 p = 0 := if_neg h
theorem b01_0 {p : Prop} [Decidable p] : b01 p = 0 ↔ ¬ p := by
  by_cases h : p
  · rw [b01_t h]; simp [h]
  · rw [b01_f h]; simp [h]
theorem b01_B {p : Prop} [Decidable p] : isB (b01 p) = true := by
  by_cases h : p
  · rw [b01_t h]; decide
  · rw [b01_f h]; decide
theorem b01_c {p q : Prop} [Decidable p] [Decidable q] (h : p ↔ q) : b01 p = b01 q := by
  by_cases hp : p
  · rw [b01_t hp, b01_t (h.mp hp)]
  · rw [b01_f hp, b01_f (fun z => hp (h.mpr z))]
theorem cmp_lt (x y : Int64) : lg_cmp x y < 0 ↔ x.toInt < y.toInt := by
  unfold lg_cmp
  by_cases h1 : y < x
  · have h2 := Int64.lt_iff_toInt_lt.mp h1
    simp [h1]; omega
  · have h0 : ¬ y.toInt < x.toInt := fun q => h1 (Int64.lt_iff_toInt_lt.mpr q)
    by_cases h2 : x = y
    · subst h2; simp
    · have h3 : x.toInt ≠ y.toInt := fun q => h2 (i64_eq.mpr q)
      simp [h1, h2]; omega
theorem cmp_gt (x y : Int64) : 0 < lg_cmp x y ↔ y.toInt < x.toInt := by
  unfold lg_cmp
  by_cases h1 : y < x
  · have h2 := Int64.lt_iff_toInt_lt.mp h1
    simp [h1, h2]
  · have h0 : ¬ y.toInt < x.toInt := fun q => h1 (Int64.lt_iff_toInt_lt.mpr q)
    by_cases h2 : x = y
    · subst h2; simp
    · simp [h1, h2, h0]
theorem cmp_eq (x y : Int64) : lg_cmp x y = 0 ↔ x = y := by
  unfold lg_cmp
  by_cases h1 : y < x
  · have h2 := Int64.lt_iff_toInt_lt.mp h1
    have : x ≠ y := fun q => by rw [q] at h2; omega
    simp [h1, this]
  · have h0 : ¬ y.toInt < x.toInt := fun q => h1 (Int64.lt_iff_toInt_lt.mpr q)
    by_cases h2 : x < y
    · have h3 := Int64.lt_iff_toInt_lt.mp h2
      have : x ≠ y := fun q => by rw [q] at h3; omega
      simp [h1, h2, this]
    · have h3 : ¬ x.toInt < y.toInt := fun q => h2 (Int64.lt_iff_toInt_lt.mpr q)
      have : x = y := i64_eq.mpr (by omega)
      simp [this]
theorem cmp_le (x y : Int64) : lg_cmp x y ≤ 0 ↔ x.toInt ≤ y.toInt := by
  have h := cmp_gt x y
  have : lg_cmp x y ≤ 0 ↔ ¬ 0 < lg_cmp x y := by rw [Int32.not_lt]
  rw [this, h]; omega
theorem cmp_ge (x y : Int64) : 0 ≤ lg_cmp x y ↔ y.toInt ≤ x.toInt := by
  have h := cmp_lt x y
  have : 0 ≤ lg_cmp x y ↔ ¬ lg_cmp x y < 0 := by rw [Int32.not_lt]
  rw [this, h]; omega
theorem in_eq (a lo hi : Int64) : f_X10_in a lo hi = some (b01 (lo.toInt ≤ a.toInt ∧ a.toInt ≤ hi.toInt)) := by
  unfold f_X10_in
  by_cases h1 : a.toInt < lo.toInt
  · rw [if_pos ((cmp_lt a lo).mpr h1), b01_f (by omega)]
  · rw [if_neg (fun q => h1 ((cmp_lt a lo).mp q))]
    by_cases h2 : hi.toInt < a.toInt
    · rw [if_pos ((cmp_gt a hi).mpr h2), b01_f (by omega)]
    · rw [if_neg (fun q => h2 ((cmp_gt a hi).mp q)), b01_t (by omega)]
theorem T_lit (n : Nat) (h : n < 2 ^ 31) : (OfNat.ofNat n : Int32).toInt = (n : Int) := nI_toInt h
theorem gB {p : Prop} [Decidable p] {α : Type} (k : Option α) : gd (isB (b01 p)) k = k := gd_p b01_B
theorem pw_le {n : Nat} (h : n ≤ 10) : 2 ^ n ≤ 1024 := Nat.pow_le_pow_right (by decide) h
theorem shl1 {n : Nat} (h : n ≤ 30) : (1 : Int32) <<< (nI n &&& 31) = nI (2 ^ n) :=
  (by decide +kernel : ∀ n, n < 31 → (1 : Int32) <<< (nI n &&& 31) = nI (2 ^ n)) n (by omega)
/-- bit p of a SET -/
theorem bit_nI {a p : Nat} (ha : a < 2 ^ 31) (hp : p < 32) : ((nI a >>> (nI p &&& 31)) &&& 1) = nI (if a.testBit p then 1 else 0) := by
  have hs : ((nI p &&& 31).toBitVec.smod 32).toNat = p := (by decide +kernel : ∀ p, p < 32 → ((nI p &&& 31).toBitVec.smod 32).toNat = p) p hp
  rw [pk_shrN ha _ p hs]
  have h2 : a / 2 ^ p < 2 ^ 32 := Nat.lt_of_le_of_lt (Nat.div_le_self _ _) (by omega)
  rw [pk_andN h2 1 (m := 1) (by decide)]
  congr 1
  rw [Nat.testBit_eq_decide_div_mod_eq]
  have := Nat.mod_lt (a / 2 ^ p) (show 0 < 2 by decide)
  by_cases h : a / 2 ^ p % 2 = 1
  · simp [h]
  · simp [h]; omega
theorem bit_1 {a p : Nat} (ha : a < 2 ^ 31) (hp : p < 32) : ((nI a >>> (nI p &&& 31)) &&& 1) = 1 ↔ a.testBit p = true := by
  rw [bit_nI ha hp]
  cases a.testBit p <;> decide
theorem bit_0 {a p : Nat} (ha : a < 2 ^ 31) (hp : p < 32) : ((nI a >>> (nI p &&& 31)) &&& 1) = 0 ↔ a.testBit p = false := by
  rw [bit_nI ha hp]
  cases a.testBit p <;> decide
theorem has_eq {a p : Nat} (ha : a < 2 ^ 31) (hp : p < 32) : f_X10_has (nI a) (nI p) = some (b01 (a.testBit p = true)) := by
  unfold f_X10_has
  by_cases h : a.testBit p = true
  · rw [if_pos ((bit_1 ha hp).mpr h), b01_t h]
  · rw [if_neg (fun q => h ((bit_1 ha hp).mp q)), b01_f h]
theorem isPairM {T : Sg} {n : Nat} (hn : T.1 0 2 = nI n) (h : n ≤ 10) (a : Int32) : f_X10_isPair a T = some (b01 (0 ≤ a.toInt ∧ a.toInt < n)) := by
  unfold f_X10_isPair
  rw [in_eq, cl1_s, gB, hn, Int32.toInt_toInt64, Int32.toInt_toInt64]
  congr 1
  apply b01_c
  have e : (nI n - 1).toInt = (n : Int) - 1 := pk_sub_toInt (a := n) (b := 1) (by omega) (by decide)
  rw [e]
  simp
  omega
theorem isSetM {T : Sg} {n : Nat} (hn : T.1 0 2 = nI n) (h : n ≤ 10) (a : Int32) : f_X10_isSet a T = some (b01 (0 ≤ a.toInt ∧ a.toInt < (2 ^ n : Nat))) := by
  unfold f_X10_isSet
  rw [in_eq, cl1_s, gB, hn, Int32.toInt_toInt64, Int32.toInt_toInt64, shl1 (by omega)]
  congr 1
  apply b01_c
  have h2 := pw_le h
  have e : (nI (2 ^ n) - 1).toInt = ((2 ^ n : Nat) : Int) - 1 := pk_sub_toInt (a := 2 ^ n) (b := 1) (by omega) (by decide)
  rw [e]
  simp
  omega
theorem hasC {S : Sg} {n : Nat} (hn : S.1 1 2 = nI n) (h : n ≤ 10) (a : Int32) : f_X2_has a S = some (b01 (0 ≤ a.toInt ∧ a.toInt < n)) := by
  unfold f_X2_has
  rw [hn]
  have e := nI_toInt (n := n) (by omega)
  by_cases h1 : a < 0
  · have h2 := Int32.lt_iff_toInt_lt.mp h1
    rw [if_pos h1, b01_f (by simp at h2; omega)]
  · have h2 : ¬ a.toInt < 0 := fun q => h1 (Int32.lt_iff_toInt_lt.mpr (by simpa using q))
    rw [if_neg h1]
    by_cases h3 : nI n ≤ a
    · have h4 := Int32.le_iff_toInt_le.mp h3
      rw [if_pos h3, b01_f (by omega)]
    · have h4 : ¬ (n : Int) ≤ a.toInt := fun q => h3 (Int32.le_iff_toInt_le.mpr (by omega))
      rw [if_neg h3, b01_t (by omega)]
theorem hasAllC {S : Sg} {n : Nat} (hn : S.1 1 2 = nI n) (h : n ≤ 10) (a : Int32) : f_X2_hasAll a S = some (b01 (0 ≤ a.toInt ∧ a.toInt < (2 ^ n : Nat))) := by
  unfold f_X2_hasAll
  have h2 := pw_le h
  rw [hn, shl1 (by omega)]
  have e := nI_toInt (n := 2 ^ n) (by omega)
  by_cases h1 : a < 0
  · have h2 := Int32.lt_iff_toInt_lt.mp h1
    rw [if_pos h1, b01_f (by simp at h2; omega)]
  · have h2 : ¬ a.toInt < 0 := fun q => h1 (Int32.lt_iff_toInt_lt.mpr (by simpa using q))
    rw [if_neg h1]
    by_cases h3 : nI (2 ^ n) ≤ a
    · have h4 := Int32.le_iff_toInt_le.mp h3
      rw [if_pos h3, b01_f (by omega)]
    · have h4 : ¬ ((2 ^ n : Nat) : Int) ≤ a.toInt := fun q => h3 (Int32.le_iff_toInt_le.mpr (by omega))
      rw [if_neg h3, b01_t (by omega)]
theorem bitC (a : Int32) : f_X9_isBit a = some (b01 (0 ≤ a.toInt ∧ a.toInt ≤ 1)) := by
  unfold f_X9_isBit
  by_cases h1 : a = 0
  · subst h1; decide
  · rw [if_neg h1]
    by_cases h2 : a = 1
    · subst h2; decide
    · rw [if_neg h2, b01_f]
      rintro ⟨h3, h4⟩
      rcases (show a.toInt = 0 ∨ a.toInt = 1 by omega) with h | h
      · exact h1 (i32_eq.mpr (by simpa using h))
      · exact h2 (i32_eq.mpr (by simpa using h))
theorem rngC {f : Int32 → Option Int32} {k : Int32} {m : Nat} (hm : m < 2 ^ 31) (hk : k = nI m) (hf : ∀ a, f a = if a < 0 then some 0 else if k ≤ a then some 0 else some 1) (a : Int32) : f a = some (b01 (0 ≤ a.toInt ∧ a.toInt < m)) := by
  rw [hf, hk]
  have e := nI_toInt hm
  by_cases h1 : a < 0
  · have h2 := Int32.lt_iff_toInt_lt.mp h1
    rw [if_pos h1, b01_f (by simp at h2; omega)]
  · have h2 : ¬ a.toInt < 0 := fun q => h1 (Int32.lt_iff_toInt_lt.mpr (by simpa using q))
    rw [if_neg h1]
    by_cases h3 : nI m ≤ a
    · have h4 := Int32.le_iff_toInt_le.mp h3
      rw [if_pos h3, b01_f (by omega)]
    · have h4 : ¬ (m : Int) ≤ a.toInt := fun q => h3 (Int32.le_iff_toInt_le.mpr (by omega))
      rw [if_neg h3, b01_t (by omega)]
theorem kindC (a : Int32) : f_X9_isKind a = some (b01 (0 ≤ a.toInt ∧ a.toInt < 6)) := rngC (k := 6) (m := 6) (by decide) rfl (fun _ => rfl) a
theorem sheetC (a : Int32) : f_X9_isSheet a = some (b01 (0 ≤ a.toInt ∧ a.toInt < 4)) := rngC (k := 4) (m := 4) (by decide) rfl (fun _ => rfl) a
theorem handC (a : Int32) : f_X9_isHand a = some (b01 (0 ≤ a.toInt ∧ a.toInt < 4)) := rngC (k := 4) (m := 4) (by decide) rfl (fun _ => rfl) a
theorem pointC (a : Int32) : f_X9_isPoint a = some (b01 (0 ≤ a.toInt ∧ a.toInt < 8)) := rngC (k := 8) (m := 8) (by decide) rfl (fun _ => rfl) a
theorem weightC (a : Int32) : f_X9_isWeight a = some (b01 (0 ≤ a.toInt ∧ a.toInt < 1000)) := by
  refine rngC (k := 1000) (m := 1000) (by decide) rfl (fun a => ?_) a
  unfold f_X9_isWeight
  have : (999 : Int32) < a ↔ (1000 : Int32) ≤ a := by
    rw [Int32.lt_iff_toInt_lt, Int32.le_iff_toInt_le]; simp; omega
  simp only [this]
theorem sheetM (a : Int32) : f_X10_isSheet a = some (b01 (0 ≤ a.toInt ∧ a.toInt < 4)) := by
  unfold f_X10_isSheet
  rw [in_eq, cl1_s, gB, Int32.toInt_toInt64]
  congr 1; apply b01_c; simp; omega
theorem handM (a : Int32) : f_X10_isHand a = some (b01 (0 ≤ a.toInt ∧ a.toInt < 4)) := by
  unfold f_X10_isHand
  rw [in_eq, cl1_s, gB, Int32.toInt_toInt64]
  congr 1; apply b01_c; simp; omega
theorem pointM (a : Int32) : f_X10_isPoint a = some (b01 (0 ≤ a.toInt ∧ a.toInt < 8)) := by
  unfold f_X10_isPoint
  rw [in_eq, cl1_s, gB, Int32.toInt_toInt64]
  congr 1; apply b01_c; simp; omega
