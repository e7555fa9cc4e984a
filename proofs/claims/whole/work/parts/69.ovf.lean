/-! products, sums and differences beyond 64 bits -/
def ov (a b : Int64) : Prop := (a * b).toInt ≠ a.toInt * b.toInt
theorem ov_c (a b : Int64) : ov a b ↔ ov b a := by
  unfold ov
  rw [Int64.mul_comm a b, Int.mul_comm a.toInt b.toInt]
theorem neg_and (u v : Int64) : (u &&& v).toInt < 0 ↔ u.toInt < 0 ∧ v.toInt < 0 := by
  have h : ∀ x : Int64, x.toInt < 0 ↔ x.toBitVec.msb = true := fun x => by
    rw [BitVec.msb_eq_toInt]
    show x.toBitVec.toInt < 0 ↔ _
    simp
  rw [h, h, h, Int64.toBitVec_and, BitVec.msb_and, Bool.and_eq_true]
theorem divL {x b a : Int64} (h0 : b ≠ 0) (h1 : b ≠ -1) : x / b = a ↔ x.toInt.tdiv b.toInt = a.toInt := by
  have hx1 := x.le_toInt
  have hx2 := x.toInt_lt
  have z0 : b.toInt ≠ 0 := fun z => h0 (i64_eq.mpr z)
  have z1 : b.toInt ≠ -1 := fun z => h1 (i64_eq.mpr z)
  have hd : -2 ^ 63 ≤ x.toInt.tdiv b.toInt ∧ x.toInt.tdiv b.toInt < 2 ^ 63 := by
    by_cases hb : b.toInt = 1
    · rw [hb, Int.tdiv_one]; omega
    · have h2 : (x.toInt.tdiv b.toInt).natAbs ≤ x.toInt.natAbs / 2 := by
        rw [Int.natAbs_tdiv]
        exact Nat.div_le_div_left (by omega) (by decide)
      omega
  rw [i64_eq, Int64.toInt_div, Int.bmod_eq_of_le (by omega) (by omega)]
theorem ov_div {a b : Int64} (h0 : b ≠ 0) (h1 : b ≠ -1) : a * b / b = a ↔ ¬ ov a b := by
  rw [divL h0 h1]
  have z0 : b.toInt ≠ 0 := fun z => h0 (i64_eq.mpr z)
  unfold ov
  constructor
  · intro h hne
    apply hne
    have hm := Int.tdiv_mul_add_tmod (a * b).toInt b.toInt
    rw [h] at hm
    have hl : ((a * b).toInt.tmod b.toInt).natAbs < b.toInt.natAbs := by
      rw [Int.natAbs_tmod]; exact Nat.mod_lt _ (by omega)
    have hb1 := b.le_toInt
    have hb2 := b.toInt_lt
    obtain ⟨k, hk⟩ := Int.dvd_bmod_sub_self (x := a.toInt * b.toInt) (m := 2 ^ 64)
    rw [← Int64.toInt_mul] at hk
    omega
  · intro h
    have h2 : (a * b).toInt = a.toInt * b.toInt := Classical.not_not.mp h
    rw [h2, Int.mul_tdiv_cancel _ z0]
theorem ov_0 (a : Int64) : ¬ ov a 0 := by
  unfold ov
  rw [Int64.mul_zero]
  simp
theorem ov_m1 (a : Int64) : ov a (-1) ↔ a = -9223372036854775808 := by
  unfold ov
  have e : (-1 : Int64).toInt = -1 := by decide
  have em : (-9223372036854775808 : Int64).toInt = -9223372036854775808 := by decide
  have h1 := a.le_toInt
  have h2 := a.toInt_lt
  rw [Int64.toInt_mul, e, i64_eq, em]
  constructor
  · intro h
    by_cases hz : a.toInt = -9223372036854775808
    · exact hz
    · exact absurd (Int.bmod_eq_of_le (by omega) (by omega)) h
  · intro h
    rw [h]
    decide
theorem ov_t (a b : Int64) : ov a b ∨ (a * b).toInt = a.toInt * b.toInt := by
  unfold ov
  by_cases h : (a * b).toInt = a.toInt * b.toInt
  · exact Or.inr h
  · exact Or.inl h
def pov (a b : Int64) : Prop := (a ^^^ (a + b)).toInt < 0 ∧ (b ^^^ (a + b)).toInt < 0
def mov (a b : Int64) : Prop := (a ^^^ b).toInt < 0 ∧ (a ^^^ (a - b)).toInt < 0
noncomputable def bz (p : Prop) : Int32 := @b01 p (Classical.propDecidable p)
theorem bz_t {p : Prop} (h : p) : bz p = 1 := @b01_t p (Classical.propDecidable p) h
theorem bz_f {p : Prop} (h : ¬ p) : bz p = 0 := @b01_f p (Classical.propDecidable p) h
def f01 (f : Int32) : Prop := f = 0 ∨ f = 1
theorem f01_or {f : Int32} (hf : f01 f) (p : Prop) : f01 (f ||| bz p) ∧ isB (f ||| bz p) = true ∧ (f ||| bz p = 0 ↔ f = 0 ∧ ¬ p) := by
  by_cases hp : p
  · rw [bz_t hp]
    rcases hf with rfl | rfl
    · exact ⟨Or.inr (by decide), by decide, ⟨fun h => absurd h (by decide), fun h => absurd hp h.2⟩⟩
    · exact ⟨Or.inr (by decide), by decide, ⟨fun h => absurd h (by decide), fun h => absurd hp h.2⟩⟩
  · rw [bz_f hp]
    rcases hf with rfl | rfl
    · exact ⟨Or.inl (by decide), by decide, ⟨fun _ => ⟨rfl, hp⟩, fun _ => by decide⟩⟩
    · exact ⟨Or.inr (by decide), by decide, ⟨fun h => absurd h (by decide), fun h => absurd h.1 (by decide)⟩⟩
theorem plusC {S : Sg} (hf : f01 (S.1 27 1)) (a b : Int64) : f_X4_plus a b S = some (a + b, si S 27 1 (S.1 27 1 ||| bz (pov a b))) := by
  have hB := (f01_or hf (pov a b)).2.1
  unfold f_X4_plus
  simp only [bv_e, jn_e]
  by_cases h : pov a b
  · rw [bz_t h] at hB ⊢
    rw [if_neg (fun z => by
      have z1 := (cmp_ge _ _).mp z
      have z2 := (neg_and (a ^^^ (a + b)) (b ^^^ (a + b))).mpr h
      have z3 : (0 : Int64).toInt = 0 := by decide
      omega), gd_p hB]
  · rw [bz_f h] at hB ⊢
    rw [if_pos ((cmp_ge _ _).mpr (by
      have z3 : (0 : Int64).toInt = 0 := by decide
      rw [z3]
      exact Int.not_lt.mp (fun z => h ((neg_and _ _).mp z)))), gd_p hB]
theorem minusC {S : Sg} (hf : f01 (S.1 27 1)) (a b : Int64) : f_X4_minus a b S = some (a - b, si S 27 1 (S.1 27 1 ||| bz (mov a b))) := by
  have hB := (f01_or hf (mov a b)).2.1
  unfold f_X4_minus
  simp only [bv_e, jn_e]
  by_cases h : mov a b
  · rw [bz_t h] at hB ⊢
    rw [if_neg (fun z => by
      have z1 := (cmp_ge _ _).mp z
      have z2 := (neg_and (a ^^^ b) (a ^^^ (a - b))).mpr h
      have z3 : (0 : Int64).toInt = 0 := by decide
      omega), gd_p hB]
  · rw [bz_f h] at hB ⊢
    rw [if_pos ((cmp_ge _ _).mpr (by
      have z3 : (0 : Int64).toInt = 0 := by decide
      rw [z3]
      exact Int.not_lt.mp (fun z => h ((neg_and _ _).mp z)))), gd_p hB]
theorem nn_i {u : Int64} : 0 ≤ lg_cmp u 0 ↔ ¬ u.toInt < 0 := by
  rw [cmp_ge]
  have z3 : (0 : Int64).toInt = 0 := by decide
  rw [z3]
  omega
theorem plusM {T : Sg} (hf : f01 (T.1 0 11)) (a b : Int64) : f_X10_plus a b T = some (a + b, si T 0 11 (T.1 0 11 ||| bz (pov a b))) := by
  have hB := (f01_or hf (pov a b)).2.1
  unfold f_X10_plus
  simp only [bv_e, jn_e, nn_i]
  by_cases h1 : (a ^^^ (a + b)).toInt < 0
  · by_cases h2 : (b ^^^ (a + b)).toInt < 0
    · rw [bz_t (show pov a b from ⟨h1, h2⟩)] at hB ⊢
      rw [if_neg (fun z => z h1), if_neg (fun z => z h2), gd_p hB]
    · rw [bz_f (show ¬ pov a b from fun z => h2 z.2)] at hB ⊢
      rw [if_neg (fun z => z h1), if_pos h2, gd_p hB]
  · rw [bz_f (show ¬ pov a b from fun z => h1 z.1)] at hB ⊢
    rw [if_pos h1, gd_p hB]
theorem lessM {T : Sg} (hf : f01 (T.1 0 11)) (a b : Int64) : f_X10_less a b T = some (a - b, si T 0 11 (T.1 0 11 ||| bz (mov a b))) := by
  have hB := (f01_or hf (mov a b)).2.1
  unfold f_X10_less
  simp only [bv_e, jn_e, nn_i]
  by_cases h1 : (a ^^^ b).toInt < 0
  · by_cases h2 : (a ^^^ (a - b)).toInt < 0
    · rw [bz_t (show mov a b from ⟨h1, h2⟩)] at hB ⊢
      rw [if_neg (fun z => z h1), if_neg (fun z => z h2), gd_p hB]
    · rw [bz_f (show ¬ mov a b from fun z => h2 z.2)] at hB ⊢
      rw [if_neg (fun z => z h1), if_pos h2, gd_p hB]
  · rw [bz_f (show ¬ mov a b from fun z => h1 z.1)] at hB ⊢
    rw [if_pos h1, gd_p hB]
theorem nzl_p {b : Int64} (h : b ≠ 0) : nzl b = true := decide_eq_true h
theorem productC {S : Sg} (hf : f01 (S.1 27 1)) (a b : Int64) : f_X4_product a b S = some (a * b, si S 27 1 (S.1 27 1 ||| bz (ov a b))) := by
  have hB := (f01_or hf (ov a b)).2.1
  unfold f_X4_product
  simp only [bv_e, jn_e, cmp_eq]
  by_cases h1 : b = -1
  · rw [if_pos h1]
    by_cases h2 : a = -9223372036854775808
    · rw [bz_t (by rw [h1]; exact (ov_m1 a).mpr h2)] at hB ⊢
      rw [if_pos h2, gd_p hB]
    · rw [bz_f (by rw [h1]; exact fun z => h2 ((ov_m1 a).mp z))] at hB ⊢
      rw [if_neg h2, gd_p hB]
  · rw [if_neg h1]
    by_cases h2 : b = 0
    · rw [bz_f (by rw [h2]; exact ov_0 a)] at hB ⊢
      rw [if_pos h2, gd_p hB]
    · rw [if_neg h2, gd_p (nzl_p h2)]
      by_cases h3 : a * b / b = a
      · rw [bz_f ((ov_div h2 h1).mp h3)] at hB ⊢
        rw [if_pos h3, gd_p hB]
      · rw [bz_t (Classical.not_not.mp (fun z => h3 ((ov_div h2 h1).mpr z)))] at hB ⊢
        rw [if_neg h3, gd_p hB]
theorem timesM {T : Sg} (hf : f01 (T.1 0 11)) (a b : Int64) : f_X10_times a b T = some (a * b, si T 0 11 (T.1 0 11 ||| bz (ov a b))) := by
  have hB := (f01_or hf (ov a b)).2.1
  unfold f_X10_times
  simp only [bv_e, jn_e, cmp_eq, nn_i]
  by_cases h0 : a = 0
  · rw [bz_f (by rw [h0, ov_c]; exact ov_0 b)] at hB ⊢
    rw [if_pos h0, gd_p hB]
  · rw [if_neg h0, gd_p (nzl_p h0)]
    by_cases h1 : a = -1
    · subst h1
      by_cases h2 : b = -9223372036854775808
      · subst h2
        rw [bz_t ((ov_c _ _).mpr ((ov_m1 _).mpr rfl))] at hB ⊢
        rw [if_pos (by decide), if_pos rfl, if_neg (by decide), if_pos (by decide), gd_p hB]
      · have hno : ¬ ov (-1) b := fun z => h2 ((ov_m1 b).mp ((ov_c _ _).mp z))
        have e : (-1 : Int64).toInt = -1 := by decide
        have hb1 := b.le_toInt
        have hb2 := b.toInt_lt
        have hx : ((-1) * b).toInt = -b.toInt := by
          rcases ov_t (-1) b with z | z
          · exact absurd z hno
          · rw [z, e]; omega
        have hd : (-1) * b / (-1) = b := by
          rw [i64_eq, Int64.toInt_div, hx, e, Int.tdiv_neg, Int.tdiv_one, Int.neg_neg]
          exact Int.bmod_eq_of_le (by omega) (by omega)
        rw [bz_f hno] at hB ⊢
        rw [if_pos hd, if_pos rfl]
        by_cases h3 : b.toInt < 0
        · rw [if_neg (fun z => z h3), if_neg (fun z => by have := i64_eq.mp z; omega), gd_p hB]
        · rw [if_pos h3, gd_p hB]
    · have hdv : a * b / a = b ↔ ¬ ov a b := by
        rw [Int64.mul_comm a b, ov_div h0 h1, ov_c]
      by_cases h3 : a * b / a = b
      · rw [bz_f (hdv.mp h3)] at hB ⊢
        rw [if_pos h3, if_neg h1, gd_p hB]
      · rw [bz_t (Classical.not_not.mp (fun z => h3 (hdv.mpr z)))] at hB ⊢
        rw [if_neg h3, gd_p hB]
