/-! field, divided, pair, entry, set, number, drop -/
theorem AgrK.rf (S : Sg) : AgrK S S := fun _ _ => ⟨rfl, rfl⟩
theorem AgrN.rf (T : Sg) : AgrN T T := ⟨fun _ _ => ⟨rfl, rfl⟩, rfl⟩
theorem AgrK_i {S S1 : Sg} (h : AgrK S S1) {k : Nat} (j : Nat) (v : Int32) (hk : (1 ≤ k ∧ k ≤ 6) ∨ (13 ≤ k ∧ k ≤ 30) ∨ 49 ≤ k) : AgrK S (si S1 k j v) := fun a ha => by
  have hne : a ≠ k := by omega
  exact ⟨by rw [si_ne _ _ _ hne]; exact (h a ha).1, by rw [si_2]; exact (h a ha).2⟩
theorem AgrK_l {S S1 : Sg} (h : AgrK S S1) {k : Nat} (j : Nat) (v : Int64) (hk : (1 ≤ k ∧ k ≤ 6) ∨ (13 ≤ k ∧ k ≤ 30) ∨ 49 ≤ k) : AgrK S (sl S1 k j v) := fun a ha => by
  have hne : a ≠ k := by omega
  exact ⟨by rw [sl_1]; exact (h a ha).1, by rw [sl_ne _ _ _ hne]; exact (h a ha).2⟩
theorem AgrN_i {S S1 : Sg} (h : AgrN S S1) {k : Nat} (j : Nat) (v : Int32) (hk : 1 ≤ k ∧ k ≤ 9) : AgrN S (si S1 k j v) :=
  ⟨fun a ha => by
    have hne : a ≠ k := by omega
    exact ⟨by rw [si_ne _ _ _ hne]; exact (h.1 a ha).1, by rw [si_2]; exact (h.1 a ha).2⟩, by rw [si_ne _ _ _ (by omega)]; exact h.2⟩
theorem AgrN_0 {S S1 : Sg} (h : AgrN S S1) (j : Nat) (v : Int32) (hj : j ≠ 24) : AgrN S (si S1 0 j v) :=
  ⟨fun a ha => by
    have hne : a ≠ 0 := by omega
    exact ⟨by rw [si_ne _ _ _ hne]; exact (h.1 a ha).1, by rw [si_2]; exact (h.1 a ha).2⟩, by rw [si_same, upd_n _ _ (by omega)]; exact h.2⟩
theorem AgrN_l {S S1 : Sg} (h : AgrN S S1) {k : Nat} (j : Nat) (v : Int64) (hk : 1 ≤ k ∧ k ≤ 9) : AgrN S (sl S1 k j v) :=
  ⟨fun a ha => by
    have hne : a ≠ k := by omega
    exact ⟨by rw [sl_1]; exact (h.1 a ha).1, by rw [sl_ne _ _ _ hne]; exact (h.1 a ha).2⟩, by rw [sl_1]; exact h.2⟩
theorem AgrK.tr {S S1 S2 : Sg} (h1 : AgrK S S1) (h2 : AgrK S1 S2) : AgrK S S2 := fun k hk => ⟨(h2 k hk).1.trans (h1 k hk).1, (h2 k hk).2.trans (h1 k hk).2⟩
theorem AgrN.tr {S S1 S2 : Sg} (h1 : AgrN S S1) (h2 : AgrN S1 S2) : AgrN S S2 := ⟨fun k hk => ⟨(h2.1 k hk).1.trans (h1.1 k hk).1, (h2.1 k hk).2.trans (h1.1 k hk).2⟩, h2.2.trans h1.2⟩
theorem in32 (a : Int32) {lo hi : Int64} (l u : Int) (hl : lo.toInt = l) (hu : hi.toInt = u) : f_X10_in a.toInt64 lo hi = some (b01 (l ≤ a.toInt ∧ a.toInt ≤ u)) := by
  rw [in_eq, Int32.toInt_toInt64, hl, hu]
theorem i_lt {a b : Int32} (x : Int) (hb : b.toInt = x) : a < b ↔ a.toInt < x := by rw [Int32.lt_iff_toInt_lt, hb]
theorem i_le {a b : Int32} (x : Int) (hb : b.toInt = x) : a ≤ b ↔ a.toInt ≤ x := by rw [Int32.le_iff_toInt_le, hb]
theorem i_ge {a b : Int32} (x : Int) (hb : b.toInt = x) : b ≤ a ↔ x ≤ a.toInt := by rw [Int32.le_iff_toInt_le, hb]
theorem i_gt {a b : Int32} (x : Int) (hb : b.toInt = x) : b < a ↔ x < a.toInt := by rw [Int32.lt_iff_toInt_lt, hb]
theorem n10 : ¬ (1 : Int32) = 0 := by decide
theorem z00 : (0 : Int32) = 0 := rfl
theorem primeC (a : Int32) : f_X9_isPrime a = some (b01 (2 ≤ a.toInt ∧ a.toInt ≤ 97 ∧ a.toInt.toNat ∈ primes)) := by
  by_cases h : 2 ≤ a.toInt ∧ a.toInt ≤ 97
  · obtain ⟨v, hv, rfl⟩ := nI_from (a := a) (n := 98) ⟨by omega, by omega⟩
    have e : (nI v).toInt = (v : Int) := nI_toInt (by omega)
    rw [e] at h ⊢
    rw [primeC_tab v hv (by omega)]
    congr 1
    apply b01_c
    simp only [Int.toNat_natCast]
    constructor
    · intro z; exact ⟨h.1, h.2, z⟩
    · intro z; exact z.2.2
  · rw [b01_f (fun z => h ⟨z.1, z.2.1⟩)]
    unfold f_X9_isPrime
    by_cases h1 : a < 2
    · rw [if_pos h1]
    · rw [if_neg h1, if_neg]
      rw [i_lt 2 (by decide)] at h1
      rw [i_le 97 (by decide)]
      omega
theorem e_field {S T : Sg} (h : Rel S T) (a0 : Int32) (a1 : Int32) : ∃ (r : Int32) (S' : Sg) (T' : Sg), f_X9_field a0 a1 S = some (r, S') ∧ f_X10_field a0 a1 T = some (r, T') ∧ Rel S' T' := by
  unfold f_X9_field f_X10_field
  rw [primeC, cl1_s, in32 a0 2 97 (by decide) (by decide), cl1_s, in32 a1 1 6 (by decide) (by decide)]
  by_cases h1 : 2 ≤ a0.toInt ∧ a0.toInt ≤ 97
  · rw [b01_t h1, if_neg n10]
    obtain ⟨v, hv, rfl⟩ := nI_from (a := a0) (n := 98) ⟨by omega, by omega⟩
    have e : (nI v).toInt = (v : Int) := nI_toInt (by omega)
    rw [e] at h1
    rw [primeM_tab v hv (by omega), cl1_s, e, Int.toNat_natCast]
    by_cases h2 : v ∈ primes
    · rw [b01_t h2, if_neg n10, b01_t ⟨h1.1, h1.2, h2⟩, if_neg n10, cl1_s]
      by_cases h3 : 1 ≤ a1.toInt ∧ a1.toInt ≤ 6
      · rw [b01_t h3, if_neg n10, if_neg (by rw [i_lt 1 (by decide)]; omega), if_pos (by rw [i_le 6 (by decide)]; omega)]
        simp only [bv_e]
        rw [h.1.1]
        refine ⟨_, _, _, rfl, rfl, ?_⟩
        obtain ⟨w, hw, rfl⟩ := nI_from (a := a1) (n := 7) ⟨by omega, by omega⟩
        have e2 : (nI w).toInt = (w : Int) := nI_toInt (by omega)
        refine Rel_main h (AgrK_i (AgrK_i (AgrK.rf S) _ _ (by omega)) _ _ (by omega)) (AgrN_0 (AgrN_0 (AgrN.rf T) _ _ (by decide)) _ _ (by decide)) ?_ ?_
        · obtain ⟨m1, m2, m3, m4⟩ := h.1
          refine ⟨?_, ?_, ?_, ?_⟩
          · simp [si_same, upd]
          · simp [si_same, upd]
          · simp [si_same, upd, m3]
          · simpa [si, upd] using m4
        · obtain ⟨-, -, d3⟩ := h.2.1
          refine ⟨⟨v, h2, by simp [si_same, upd]⟩, ⟨w, by omega, by omega, by simp [si_same, upd]⟩, ?_⟩
          simpa [si, upd] using d3
      · rw [b01_f h3, if_pos z00]
        by_cases h4 : a1 < 1
        · rw [if_pos h4]; exact ⟨_, _, _, rfl, rfl, h⟩
        · rw [if_neg h4, if_neg (by rw [i_lt 1 (by decide)] at h4; rw [i_le 6 (by decide)]; omega)]; exact ⟨_, _, _, rfl, rfl, h⟩
    · rw [b01_f h2, if_pos z00, b01_f (fun z => h2 z.2.2), if_pos z00]
      exact ⟨_, _, _, rfl, rfl, h⟩
  · rw [b01_f h1, if_pos z00, b01_f (fun z => h1 ⟨z.1, z.2.1⟩), if_pos z00]
    exact ⟨_, _, _, rfl, rfl, h⟩
theorem e_divided {S T : Sg} (h : Rel S T) (a0 : Int32) (a1 : Int32) : ∃ (r : Int32), f_X9_divided a0 a1 S = some r ∧ f_X10_divided a0 a1 T = some r ∧ Rel S T := by
  obtain ⟨q, w, n, hqp, hw1, hw, hn, s0, t0, s1, t1, s2, t2⟩ := h.nums
  have hq := primes_b hqp
  unfold f_X9_divided f_X10_divided
  simp only [m_rest, s0, t0, restOf_eq _ (show 0 < q by omega) (show q < 2 ^ 30 by omega), cl1_s, Int32.toInt_toInt64]
  have l1 := rst_lt a0.toInt (show 0 < q by omega)
  have l2 := rst_lt a1.toInt (show 0 < q by omega)
  by_cases hz' : nI (rst a1.toInt q) = 0
  · rw [if_pos hz', if_pos hz']; exact ⟨_, rfl, rfl, h⟩
  · have hz : rst a1.toInt q ≠ 0 := fun z => hz' ((nI_0p (by omega)).mpr z)
    rw [if_neg hz', if_neg hz']
    obtain ⟨x, hx, hm⟩ := quo_ex hqp l1 l2 hz
    rw [quotient_eq hqp l1 l2 hx hm, over_eq hqp t0 l1 l2 hx hm]
    exact ⟨_, rfl, rfl, h⟩
theorem e_drop {S T : Sg} (h : Rel S T)  : ∃ (r : Int32) (S' : Sg) (T' : Sg), f_X9_drop S = some (r, S') ∧ f_X10_drop T = some (r, T') ∧ Rel S' T' := by
  obtain ⟨q, w, n, hqp, hw1, hw, hn, s0, t0, s1, t1, s2, t2⟩ := h.nums
  unfold f_X9_drop f_X10_drop
  rw [s2, t2]
  by_cases hz' : nI n = 0
  · rw [if_pos hz', if_pos hz']; exact ⟨_, _, _, rfl, rfl, h⟩
  · have hz : n ≠ 0 := fun z => hz' ((nI_0p (by omega)).mpr z)
    rw [if_neg hz', if_neg hz', bv_e, bv_e]
    rw [show nI n - 1 = nI (n - 1) from pk_sub (a := n) (b := 1) (by omega)]
    rw [si_same, upd_s, si_same, upd_s]
    refine ⟨_, _, _, rfl, rfl, ?_⟩
    refine Rel_main h (AgrK_i (AgrK.rf S) _ _ (by omega)) (AgrN_0 (AgrN.rf T) _ _ (by decide)) ?_ ?_
    · obtain ⟨m1, m2, m3, m4⟩ := h.1
      refine ⟨?_, ?_, ?_, ?_⟩
      · simp [si_same, upd, m1]
      · simp [si_same, upd, m2]
      · simp [si_same, upd]
      · simpa [si, upd] using m4
    · obtain ⟨d1, d2, -, d3⟩ := h.2.1
      refine ⟨?_, ?_, ⟨n - 1, by omega, by simp [si_same, upd]⟩, ?_⟩
      · simpa [si_same, upd] using d1
      · simpa [si_same, upd] using d2
      · simpa [si, upd] using d3
theorem e_number {S T : Sg} (h : Rel S T) (a0 : Int32) (a1 : Int32) (a2 : Int32) : ∃ (r : Int32), f_X9_number a0 a1 a2 S = some r ∧ f_X10_number a0 a1 a2 T = some r ∧ Rel S T := by
  obtain ⟨q, w, n, hqp, hw1, hw, hn, s0, t0, s1, t1, s2, t2⟩ := h.nums
  have hq := primes_b hqp
  unfold f_X9_number f_X10_number
  have ew : (((nI w) - 1 : Int32).toInt64).toInt = (w : Int) - 1 := by
    rw [Int32.toInt_toInt64]; exact pk_sub_toInt (a := w) (b := 1) (by omega) (by decide)
  rw [hasC s2 hn, isPairM t2 hn, cl1_s, cl1_s, bitC, cl1_s, in32 a1 0 1 (by decide) (by decide), cl1_s, t1, in32 a2 0 ((w : Int) - 1) (by decide) ew, cl1_s, s1]
  by_cases h1 : 0 ≤ a0.toInt ∧ a0.toInt < n
  · rw [b01_t h1, if_neg n10, if_neg n10]
    by_cases h2 : 0 ≤ a1.toInt ∧ a1.toInt ≤ 1
    · rw [b01_t h2, if_neg n10, if_neg n10]
      by_cases h3 : 0 ≤ a2.toInt ∧ a2.toInt ≤ (w : Int) - 1
      · rw [b01_t h3, if_neg n10, if_neg (by rw [i_lt 0 (by decide)]; omega), if_pos (by rw [i_lt (w : Int) (nI_toInt (by omega))]; omega)]
        obtain ⟨p, hp, rfl⟩ := nI_from h1
        obtain ⟨row, hr, rfl⟩ := nI_from (a := a1) (n := 2) ⟨h2.1, by omega⟩
        obtain ⟨i, hi, rfl⟩ := nI_from (a := a2) (n := w) ⟨h3.1, by omega⟩
        rw [rowNumber_eq (by omega) (by omega) s0 (by omega) hr (by omega), numberOf_eq (by omega) (by omega) t0 (by omega) hr (by omega), h.1.2.2.2.1, h.1.2.2.2.2.2.2.1]
        exact ⟨_, rfl, rfl, h⟩
      · rw [b01_f h3, if_pos z00]
        by_cases h4 : a2 < 0
        · rw [if_pos h4]; exact ⟨_, rfl, rfl, h⟩
        · rw [if_neg h4, if_neg (by rw [i_lt 0 (by decide)] at h4; rw [i_lt (w : Int) (nI_toInt (by omega))]; omega)]
          exact ⟨_, rfl, rfl, h⟩
    · rw [b01_f h2, if_pos z00, if_pos z00]; exact ⟨_, rfl, rfl, h⟩
  · rw [b01_f h1, if_pos z00, if_pos z00]; exact ⟨_, rfl, rfl, h⟩
