/-! RAYS: the code of a row -/
def CInv (q i v l c : Nat) : Prop := (v = 0 ∧ l = 0 ∧ c = 0) ∨ (v < q ∧ v ≠ 0 ∧ l < q ∧ l ≠ 0 ∧ v * l % q = 1 ∧ 1 ≤ c ∧ c < 97 ^ i)
theorem p97 {i : Nat} (h : i ≤ 6) : 97 ^ i ≤ 97 ^ 6 := Nat.pow_le_pow_right (by decide) h
theorem code_reach {q w n p row : Nat} {ki en : Nat → Int32} (hqp : q ∈ primes) (hw : w ≤ 6) (hn : n ≤ 10) (hp : p < n) (hr : row < 2) : ∀ i, i ≤ w → ∃ v l c, CInv q i v l c ∧
    (∀ S : Sg, Filled S q w n ki en → wp3 (X3_codeOf_L8 (nI (p * 12 + row * 6)) S) FU (nI 0) (lN 0) (nI 0) = wp3 (X3_codeOf_L8 (nI (p * 12 + row * 6)) S) (FU - i) (nI v) (lN c) (nI i)) ∧
    (∀ T : Sg, T.1 0 0 = nI q → T.1 0 1 = nI w → T.1 1 = ki → T.1 4 = en → ∀ K, wp3 (X10_rayBy_L8 (nI p) (nI row) T K) FU (nI 0) (lN 0) (nI 0) = wp3 (X10_rayBy_L8 (nI p) (nI row) T K) (FU - i) (nI l) (lN c) (nI i)) := by
  have hq := primes_b hqp
  intro i
  induction i with
  | zero => exact fun _ => ⟨0, 0, 0, Or.inl ⟨rfl, rfl, rfl⟩, fun S _ => by rw [Nat.sub_zero], fun T _ _ _ _ K => by rw [Nat.sub_zero]⟩
  | succ i ih =>
    intro hi
    obtain ⟨v, l, c, hI, hC, hM⟩ := ih (by omega)
    have hFU : FU - i = (FU - (i + 1)) + 1 := by
      have : i + 1 < FU := FU_n (by omega)
      omega
    have hx := rv_lt (show 0 < q by omega) ki en p row i
    have h97 := p97 (show i ≤ 6 by omega)
    have key : ∃ v' l' c', CInv q (i + 1) v' l' c' ∧ (∀ S : Sg, Filled S q w n ki en → ∀ self, X3_codeOf_L8 (nI (p * 12 + row * 6)) S self (nI v) (lN c) (nI i) = self (nI v') (lN c') (nI (i + 1))) ∧ (∀ T : Sg, T.1 0 0 = nI q → T.1 0 1 = nI w → T.1 1 = ki → T.1 4 = en → ∀ K self, X10_rayBy_L8 (nI p) (nI row) T K self (nI l) (lN c) (nI i) = self (nI l') (lN c') (nI (i + 1))) := by
      generalize hX : rv q ki en p row i = x at hx
      have uC : ∀ S : Sg, Filled S q w n ki en → ∀ self v c, v < q → X3_codeOf_L8 (nI (p * 12 + row * 6)) S self (nI v) (lN c) (nI i) = if v = 0 then (if x = 0 then self (nI v) (lN (c * q + x * v % q)) (nI (i + 1)) else cl1 (f_X9_quotient 1 (nI x) (nI q)) fun r => gd (nz (nI q)) <| self r (lN (c * q) + (irm (nI x * r) (nI q)).toInt64) (nI (i + 1))) else self (nI v) (lN (c * q + x * v % q)) (nI (i + 1)) := fun S hF self v c hv => by
        have hxv : x * v < 2 ^ 31 := by
          have := Nat.mul_le_mul (show x ≤ 97 by omega) (show v ≤ 97 by omega)
          omega
        have hmod := Nat.mod_lt (x * v) (show 0 < q by omega)
        unfold X3_codeOf_L8
        simp only [jn_e, bv_e]
        rw [hF.1, hF.2.1, le_n (show i < w by omega) (by omega), nI_add, inb_p (by omega) (by decide), ix_nI (by omega), hF.2.2.2 p row i hp hr (by omega), hX, gd_p (nz_nI (show q ≠ 0 by omega) (by omega)), pk_mul, irm_nI hxv (by omega) (by omega), nI_l (show q < 2 ^ 31 by omega), nI_l (show x * v % q < 2 ^ 31 by omega), lN_mul, lN_add, nI_1]
        by_cases h1 : v = 0
        · rw [if_pos h1, if_pos ((nI_0p (by omega)).mpr h1)]
          by_cases h2 : x = 0
          · rw [if_pos h2, if_pos ((nI_0p (by omega)).mpr h2)]
          · rw [if_neg h2, if_neg (fun z => h2 ((nI_0p (by omega)).mp z))]
        · rw [if_neg h1, if_neg (fun z => h1 ((nI_0p (by omega)).mp z))]
      have uM : ∀ T : Sg, T.1 0 0 = nI q → T.1 0 1 = nI w → T.1 1 = ki → T.1 4 = en → ∀ K self l c, l < q → X10_rayBy_L8 (nI p) (nI row) T K self (nI l) (lN c) (nI i) = if (if l = 0 then x else l) = 0 then self (nI 0) (lN (c * q)) (nI (i + 1)) else cl1 (f_X10_over (nI x) (nI (if l = 0 then x else l)) T) fun r => self (nI (if l = 0 then x else l)) (lN (c * q) + r.toInt64) (nI (i + 1)) := fun T e0 e1 e2 e3 K self l c hl => by
        have hno := numberOf_eq (T := T) (q := q) (p := p) (row := row) (i := i) (by omega) (by omega) e0 (by omega) hr (by omega)
        rw [e2, e3, hX] at hno
        unfold X10_rayBy_L8
        simp only [jn_e, bv_e]
        rw [e1, le_n (show i < w by omega) (by omega), hno, cl1_s, e0, nI_l (show q < 2 ^ 31 by omega), lN_mul, nI_1, show ((0 : Int32).toInt64) = lN 0 from rfl, lN_add, Nat.add_zero]
        by_cases h1 : l = 0
        · rw [if_pos h1, if_pos ((nI_0p (by omega)).mpr h1)]
          by_cases h2 : x = 0
          · rw [if_pos h2, if_pos ((nI_0p (by omega)).mpr h2), h2]
          · rw [if_neg h2, if_neg (fun z => h2 ((nI_0p (by omega)).mp z))]
        · rw [if_neg h1, if_neg (fun z => h1 ((nI_0p (by omega)).mp z)), if_neg h1, if_neg (fun z => h1 ((nI_0p (by omega)).mp z))]
      rcases hI with ⟨rfl, rfl, rfl⟩ | ⟨hv, hv0, hl, hl0, hvl, hc1, hc2⟩
      · by_cases hx0 : x = 0
        · refine ⟨0, 0, 0, Or.inl ⟨rfl, rfl, rfl⟩, fun S hF self => ?_, fun T e0 e1 e2 e3 K self => ?_⟩
          · rw [uC S hF self 0 0 (by omega), if_pos rfl, if_pos hx0, Nat.mul_zero, Nat.zero_mod, Nat.zero_mul]
          · rw [uM T e0 e1 e2 e3 K self 0 0 (by omega), if_pos rfl, if_pos hx0, Nat.zero_mul]
        · obtain ⟨v', hv', hm'⟩ := quo_ex hqp (show 1 < q by omega) hx hx0
          have hq1 := quotient_eq hqp (show 1 < q by omega) hx hv' hm'
          have hxv : x * v' < 2 ^ 31 := by
            have := Nat.mul_le_mul (show x ≤ 97 by omega) (show v' ≤ 97 by omega)
            omega
          have hone : x * v' % q = 1 := by rw [Nat.mul_comm]; exact hv'.2
          refine ⟨v', x, 1, Or.inr ⟨hv'.1, fun z => by rw [z, Nat.zero_mul, Nat.zero_mod] at hv'; omega, hx, hx0, hv'.2, Nat.le_refl _, Nat.one_lt_pow (by omega) (by decide)⟩, fun S hF self => ?_, fun T e0 e1 e2 e3 K self => ?_⟩
          · rw [uC S hF self 0 0 (by omega), if_pos rfl, if_neg hx0, show (1 : Int32) = nI 1 from rfl, hq1, cl1_s, gd_p (nz_nI (show q ≠ 0 by omega) (by omega)), pk_mul, irm_nI hxv (by omega) (by omega), hone, nI_l (by decide), lN_add, Nat.zero_mul]
          · have ho := over_eq (T := T) (x := 1) hqp e0 hx hx ⟨by omega, by rw [Nat.one_mul]; exact Nat.mod_eq_of_lt hx⟩ (fun y hy z => by
              rw [show y = 0 by omega, Nat.zero_mul, Nat.zero_mod] at z; omega)
            rw [uM T e0 e1 e2 e3 K self 0 0 (by omega), if_pos rfl, if_neg hx0, ho, cl1_s, nI_l (by decide), lN_add, Nat.zero_mul]
      · obtain ⟨d, hd, hm⟩ := quo_ex hqp hx hl hl0
        have hdd : x * v % q = d := by
          refine quo_uniq hqp hl hl0 (Nat.mod_lt _ (by omega)) hd.1 ?_ hd.2
          rw [Nat.mod_mul_mod, Nat.mul_assoc, Nat.mul_mod, hvl, Nat.mul_one, Nat.mod_mod, Nat.mod_eq_of_lt hx]
        have hlt : c * q + d < 97 ^ (i + 1) := by
          rw [Nat.pow_succ]
          have h1 : c * q ≤ c * 97 := Nat.mul_le_mul_left c (by omega)
          omega
        have hge : 1 ≤ c * q + d := by
          have h1 : 1 * 1 ≤ c * q := Nat.mul_le_mul hc1 (by omega)
          omega
        refine ⟨v, l, c * q + d, Or.inr ⟨hv, hv0, hl, hl0, hvl, hge, hlt⟩, fun S hF self => ?_, fun T e0 e1 e2 e3 K self => ?_⟩
        · rw [uC S hF self v c hv, if_neg hv0, hdd]
        · have ho := over_eq (T := T) hqp e0 hx hl hd hm
          rw [uM T e0 e1 e2 e3 K self l c hl, if_neg hl0, if_neg hl0, ho, cl1_s, nI_l (by omega), lN_add]
    obtain ⟨v', l', c', h1, h2, h3⟩ := key
    exact ⟨v', l', c', h1, fun S hF => by rw [hC S hF, hFU, wp3s, h2 S hF], fun T e0 e1 e2 e3 K => by rw [hM T e0 e1 e2 e3 K, hFU, wp3s, h3 T e0 e1 e2 e3 K]⟩
def CodeIs (q w n : Nat) (ki en : Nat → Int32) (p row c : Nat) : Prop := c < 97 ^ 6 ∧ (∀ S : Sg, Filled S q w n ki en → f_X3_codeOf (nI (p * 12 + row * 6)) S = some (lN c)) ∧ ∀ T : Sg, T.1 0 0 = nI q → T.1 0 1 = nI w → T.1 1 = ki → T.1 4 = en → f_X10_rayBy (nI p) (nI row) T = some (if c = 0 then -1 else lN c)
theorem codes_ex {q w n : Nat} {ki en : Nat → Int32} (hqp : q ∈ primes) (hw : w ≤ 6) (hn : n ≤ 10) {p row : Nat} (hp : p < n) (hr : row < 2) : ∃ c, CodeIs q w n ki en p row c := by
  have hq := primes_b hqp
  obtain ⟨v, l, c, hI, hC, hM⟩ := code_reach (ki := ki) (en := en) hqp hw hn hp hr w (Nat.le_refl _)
  have h97 := p97 hw
  have hFU : FU - w = (FU - (w + 1)) + 1 := by
    have : w + 1 < FU := FU_n (by omega)
    omega
  refine ⟨c, ?_, fun S hF => ?_, fun T e0 e1 e2 e3 => ?_⟩
  · rcases hI with ⟨-, -, rfl⟩ | h
    · exact Nat.pow_pos (by decide)
    · omega
  · unfold f_X3_codeOf
    rw [show wp3 (X3_codeOf_L8 (nI (p * 12 + row * 6)) S) FU (0 : Int32) (0 : Int64) (0 : Int32) = _ from hC S hF, hFU, wp3s]
    unfold X3_codeOf_L8
    rw [hF.2.1, le_p (Nat.le_refl _) (by omega)]
  · unfold f_X10_rayBy
    generalize hK : (fun (v1 : Int32) (v2 : Int64) => if v1 = 0 then some (-1 : Int64) else some v2) = K
    rw [show wp3 (X10_rayBy_L8 (nI p) (nI row) T K) FU (0 : Int32) (0 : Int64) (0 : Int32) = _ from hM T e0 e1 e2 e3 K, hFU, wp3s]
    unfold X10_rayBy_L8
    rw [e1, le_p (Nat.le_refl _) (by omega), ← hK]
    show (if nI l = 0 then some (-1 : Int64) else some (lN c)) = _
    rcases hI with ⟨-, rfl, rfl⟩ | ⟨-, -, hl, hl0, -, hc, -⟩
    · rfl
    · rw [if_neg (fun z => hl0 ((nI_0p (by omega)).mp z)), if_neg (by omega)]
noncomputable def cdf (q w n : Nat) (ki en : Nat → Int32) (p row : Nat) : Nat := @dite Nat (∃ c, CodeIs q w n ki en p row c) (Classical.propDecidable _) (fun h => Classical.choose h) (fun _ => 0)
theorem cdf_is {q w n : Nat} {ki en : Nat → Int32} (hqp : q ∈ primes) (hw : w ≤ 6) (hn : n ≤ 10) {p row : Nat} (hp : p < n) (hr : row < 2) : CodeIs q w n ki en p row (cdf q w n ki en p row) := by
  have h := codes_ex (ki := ki) (en := en) hqp hw hn hp hr
  unfold cdf
  rw [dif_pos h]
  exact Classical.choose_spec h
