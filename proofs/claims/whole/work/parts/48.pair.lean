/-! pair, entry, set -/
theorem zeroC {S : Sg} {n : Nat} (hn : n < 10) : ∃ S', (Fr 5 S S' ∧ ∀ j, S'.1 5 j = if n * 12 ≤ j ∧ j < n * 12 + 12 then 0 else S.1 5 j) ∧ ∀ k, wp2 (X2_append_L29 (nI n) k) FU 0 S = k S' := by
  refine for2k (F := fun k => X2_append_L29 (nI n) k) (fun k S => k S) 12 (fun i S1 => Fr 5 S S1 ∧ ∀ j, S1.1 5 j = if n * 12 ≤ j ∧ j < n * 12 + i then 0 else S.1 5 j) ?_ ?_ (i0 := 0) (S0 := S) ⟨Fr.rf _ _, fun j => by rw [if_neg (by omega)]⟩ (by omega) (fuel := FU) (FU_n (by omega))
  · rintro i S1 hi ⟨f1, f2⟩
    refine ⟨si S1 5 (n * 12 + i) 0, ⟨Fr_w f1 _ _, fun j => ?_⟩, fun k self => ?_⟩
    · by_cases he : j = n * 12 + i
      · rw [he, si_same, upd_s, if_pos (by omega)]
      · rw [si_same, upd_n _ _ he, f2]
        by_cases hb : n * 12 ≤ j ∧ j < n * 12 + i
        · rw [if_pos hb, if_pos (by omega)]
        · rw [if_neg hb, if_neg (by omega)]
    · unfold X2_append_L29
      rw [show (12 : Int32) = nI 12 from rfl, le_n hi (by omega), show (nI 12 : Int32) = 12 from rfl, ma12, inb_p (by omega) (by omega), bv_e, bv_e, ix_nI (by omega), nI_1]
  · rintro S1 hJ k self
    unfold X2_append_L29
    rw [show (12 : Int32) = nI 12 from rfl, le_p (Nat.le_refl _) (by omega)]
theorem zeroM {T : Sg} {n : Nat} (hn : n < 10) (t2 : T.1 0 2 = nI n) : ∃ T', (Fr 4 T T' ∧ ∀ j, T'.1 4 j = if n * 12 ≤ j ∧ j < n * 12 + 12 then 0 else T.1 4 j) ∧ ∀ k, wp2 (X10_pair_L71 k) FU 0 T = k T' := by
  refine for2k (F := fun k => X10_pair_L71 k) (fun k S => k S) 12 (fun i S1 => Fr 4 T S1 ∧ ∀ j, S1.1 4 j = if n * 12 ≤ j ∧ j < n * 12 + i then 0 else T.1 4 j) ?_ ?_ (i0 := 0) (S0 := T) ⟨Fr.rf _ _, fun j => by rw [if_neg (by omega)]⟩ (by omega) (fuel := FU) (FU_n (by omega))
  · rintro i S1 hi ⟨f1, f2⟩
    refine ⟨si S1 4 (n * 12 + i) 0, ⟨Fr_w f1 _ _, fun j => ?_⟩, fun k self => ?_⟩
    · by_cases he : j = n * 12 + i
      · rw [he, si_same, upd_s, if_pos (by omega)]
      · rw [si_same, upd_n _ _ he, f2]
        by_cases hb : n * 12 ≤ j ∧ j < n * 12 + i
        · rw [if_pos hb, if_pos (by omega)]
        · rw [if_neg hb, if_neg (by omega)]
    · unfold X10_pair_L71
      rw [f1.1 0 (by decide), t2, mm12, show (12 : Int32) = nI 12 from rfl, le_n hi (by omega), inb_p (by omega) (by omega), bv_e, bv_e, ix_nI (by omega), nI_1]
  · rintro S1 hJ k self
    unfold X10_pair_L71
    rw [show (12 : Int32) = nI 12 from rfl, le_p (Nat.le_refl _) (by omega)]
theorem e_pair {S T : Sg} (h : Rel S T) (a0 : Int32) (a1 : Int32) : ∃ (r : Int32) (S' : Sg) (T' : Sg), f_X9_pair a0 a1 S = some (r, S') ∧ f_X10_pair a0 a1 T = some (r, T') ∧ Rel S' T' := by
  obtain ⟨q, w, n, hqp, hw1, hw, hn, s0, t0, s1, t1, s2, t2⟩ := h.nums
  unfold f_X9_pair f_X10_pair
  rw [kindC, cl1_s, in32 a0 0 5 (by decide) (by decide), cl1_s, weightC, cl1_s, in32 a1 0 999 (by decide) (by decide), cl1_s, s2, t2]
  by_cases h1 : 0 ≤ a0.toInt ∧ a0.toInt < 6
  · rw [b01_t h1, b01_t (show 0 ≤ a0.toInt ∧ a0.toInt ≤ 5 by omega), if_neg n10, if_neg n10]
    by_cases h2 : 0 ≤ a1.toInt ∧ a1.toInt < 1000
    · rw [b01_t h2, b01_t (show 0 ≤ a1.toInt ∧ a1.toInt ≤ 999 by omega), if_neg n10, if_neg n10]
      by_cases h3 : n = 10
      · subst h3
        rw [if_neg (show ¬ nI 10 < 10 by decide), if_pos (show nI 10 = 10 from rfl)]
        exact ⟨_, _, _, rfl, rfl, h⟩
      · rw [if_pos (show nI n < 10 by rw [i_lt 10 (by decide), nI_toInt (by omega)]; omega), if_neg (show ¬ nI n = 10 from fun z => h3 ((nI_eq (b := 10) (by omega) (by decide)).mp z))]
        unfold f_X2_append
        have hlt : n < 10 := by omega
        rw [s2, bv_e, inb_p hlt (by decide), bv_e, inb_p hlt (by decide), bv_e, inb_p hlt (by decide), bv_e, inb_p hlt (by decide), bv_e, ix_nI (show n < 2 ^ 31 by omega)]
        rw [show (si T 1 n a0).1 0 2 = nI n by rw [si_ne _ _ _ (by decide), t2], inb_p hlt (by decide), bv_e, ix_nI (show n < 2 ^ 31 by omega)]
        rw [show (si (si T 1 n a0) 2 n a1).1 0 2 = nI n by rw [si_ne _ _ _ (by decide), si_ne _ _ _ (by decide), t2], inb_p hlt (by decide), bv_e, ix_nI (show n < 2 ^ 31 by omega)]
        generalize hS7 : sl (si (si S 2 n a0) 3 n a1) 4 n 0 = S7
        generalize hT7 : sl (si (si T 1 n a0) 2 n a1) 3 n 0 = T7
        obtain ⟨S8, ⟨f1, f2⟩, f3⟩ := zeroC (S := S7) hlt
        obtain ⟨T8, ⟨g1, g2⟩, g3⟩ := zeroM (T := T7) (n := n) hlt (by rw [← hT7, sl_1, si_ne _ _ _ (by decide), si_ne _ _ _ (by decide), t2])
        rw [f3, g3, bv_e, bv_e]
        have u1 : S8.1 1 = S.1 1 := by rw [f1.1 1 (by decide), ← hS7, sl_1, si_ne _ _ _ (by decide), si_ne _ _ _ (by decide)]
        have u2 : S8.1 2 = upd (S.1 2) n a0 := by rw [f1.1 2 (by decide), ← hS7, sl_1, si_ne _ _ _ (by decide), si_same]
        have u3 : S8.1 3 = upd (S.1 3) n a1 := by rw [f1.1 3 (by decide), ← hS7, sl_1, si_same, si_ne _ _ _ (by decide)]
        have u4 : S8.2 4 = vp_updL (S.2 4) n 0 := by rw [f1.2, ← hS7, sl_same, si_2, si_2]
        have u5 : ∀ j, S8.1 5 j = if n * 12 ≤ j ∧ j < n * 12 + 12 then 0 else S.1 5 j := fun j => by rw [f2, ← hS7, sl_1, si_ne _ _ _ (by decide), si_ne _ _ _ (by decide)]
        have u6 : S8.1 6 = S.1 6 := by rw [f1.1 6 (by decide), ← hS7, sl_1, si_ne _ _ _ (by decide), si_ne _ _ _ (by decide)]
        have v0 : T8.1 0 = T.1 0 := by rw [g1.1 0 (by decide), ← hT7, sl_1, si_ne _ _ _ (by decide), si_ne _ _ _ (by decide)]
        have v1 : T8.1 1 = upd (T.1 1) n a0 := by rw [g1.1 1 (by decide), ← hT7, sl_1, si_ne _ _ _ (by decide), si_same]
        have v2 : T8.1 2 = upd (T.1 2) n a1 := by rw [g1.1 2 (by decide), ← hT7, sl_1, si_same, si_ne _ _ _ (by decide)]
        have v3 : T8.2 3 = vp_updL (T.2 3) n 0 := by rw [g1.2, ← hT7, sl_same, si_2, si_2]
        have v4 : ∀ j, T8.1 4 j = if n * 12 ≤ j ∧ j < n * 12 + 12 then 0 else T.1 4 j := fun j => by rw [g2, ← hT7, sl_1, si_ne _ _ _ (by decide), si_ne _ _ _ (by decide)]
        have v5 : T8.1 5 = T.1 5 := by rw [g1.1 5 (by decide), ← hT7, sl_1, si_ne _ _ _ (by decide), si_ne _ _ _ (by decide)]
        rw [u1, v0, s2, t2, nI_1, cl_s, si_same, v0, upd_s, show nI (n + 1) - 1 = nI n from pk_sub (a := n + 1) (b := 1) (by omega)]
        refine ⟨_, _, _, rfl, rfl, ?_⟩
        refine Rel_main h (AgrK_i (fun k hk => ⟨?_, ?_⟩) _ _ (by omega)) (AgrN_0 ⟨fun k hk => ⟨?_, ?_⟩, ?_⟩ _ _ (by decide)) ?_ ?_
        · rw [f1.1 k (by omega), ← hS7, sl_1, si_ne _ _ _ (by omega), si_ne _ _ _ (by omega)]
        · rw [f1.2, ← hS7, sl_ne _ _ _ (by omega), si_2, si_2]
        · rw [g1.1 k (by omega), ← hT7, sl_1, si_ne _ _ _ (by omega), si_ne _ _ _ (by omega)]
        · rw [g1.2, ← hT7, sl_ne _ _ _ (by omega), si_2, si_2]
        · rw [v0]
        · obtain ⟨m1, m2, m3, m4, m5, m6, m7, m8⟩ := h.1
          refine ⟨?_, ?_, ?_, ?_, ?_, ?_, ?_, ?_⟩
          · simp [si_same, upd, u1, v0, m1]
          · simp [si_same, upd, u1, v0, m2]
          · simp [si_same, upd]
          · rw [si_ne _ _ _ (by decide), si_ne _ _ _ (by decide), u2, v1, m4]
          · rw [si_ne _ _ _ (by decide), si_ne _ _ _ (by decide), u3, v2, m5]
          · rw [si_2, si_2, u4, v3, m6]
          · rw [si_ne _ _ _ (by decide), si_ne _ _ _ (by decide)]; funext j; rw [u5, v4, m7]
          · rw [si_ne _ _ _ (by decide), si_ne _ _ _ (by decide), u6, v5, m8]
        · obtain ⟨d1, d2, -, d4, d5, d6, d7⟩ := h.2.1
          rw [si_ne _ _ _ (show (1 : Nat) ≠ 0 by decide), si_ne _ _ _ (show (2 : Nat) ≠ 0 by decide), si_ne _ _ _ (show (4 : Nat) ≠ 0 by decide), si_ne _ _ _ (show (5 : Nat) ≠ 0 by decide), si_same, upd_s, upd_n _ _ (show (0 : Nat) ≠ 2 by decide), upd_n _ _ (show (1 : Nat) ≠ 2 by decide), v0, v1, v2, v5]
          refine ⟨d1, d2, ⟨n + 1, by omega, rfl⟩, fun j hj => ?_, fun j hj => ?_, fun j hj => ?_, d7⟩
          · by_cases he : j = n
            · rw [he, upd_s]
              obtain ⟨k, hk, rfl⟩ := nI_from (a := a0) (n := 6) ⟨h1.1, by omega⟩
              exact ⟨k, by omega, rfl⟩
            · rw [upd_n _ _ he]; exact d4 j hj
          · by_cases he : j = n
            · rw [he, upd_s]
              obtain ⟨k, hk, rfl⟩ := nI_from (a := a1) (n := 1000) ⟨h2.1, by omega⟩
              exact ⟨k, by omega, rfl⟩
            · rw [upd_n _ _ he]; exact d5 j hj
          · rw [v4]
            split
            · decide
            · exact d6 j hj
    · rw [b01_f h2, b01_f (show ¬ (0 ≤ a1.toInt ∧ a1.toInt ≤ 999) by omega), if_pos z00, if_pos z00]
      exact ⟨_, _, _, rfl, rfl, h⟩
  · rw [b01_f h1, b01_f (show ¬ (0 ≤ a0.toInt ∧ a0.toInt ≤ 5) by omega), if_pos z00, if_pos z00]
    exact ⟨_, _, _, rfl, rfl, h⟩
theorem e_entry {S T : Sg} (h : Rel S T) (a0 : Int32) (a1 : Int32) (a2 : Int32) (a3 : Int32) : ∃ (r : Int32) (S' : Sg) (T' : Sg), f_X9_entry a0 a1 a2 a3 S = some (r, S') ∧ f_X10_entry a0 a1 a2 a3 T = some (r, T') ∧ Rel S' T' := by
  obtain ⟨q, w, n, hqp, hw1, hw, hn, s0, t0, s1, t1, s2, t2⟩ := h.nums
  unfold f_X9_entry f_X10_entry
  rw [hasC s2 hn, isPairM t2 hn, cl1_s, cl1_s, bitC, cl1_s, in32 a1 0 1 (by decide) (by decide), cl1_s, in32 a2 0 5 (by decide) (by decide), cl1_s, in32 a3 (-99) 99 (by decide) (by decide), cl1_s]
  by_cases h1 : 0 ≤ a0.toInt ∧ a0.toInt < n
  · rw [b01_t h1, if_neg n10, if_neg n10]
    by_cases h2 : 0 ≤ a1.toInt ∧ a1.toInt ≤ 1
    · rw [b01_t h2, if_neg n10, if_neg n10]
      by_cases h3 : 0 ≤ a2.toInt ∧ a2.toInt ≤ 5
      · rw [b01_t h3, if_neg n10, if_neg (show ¬ a2 < 0 by rw [i_lt 0 (by decide)]; omega), if_neg (show ¬ 6 ≤ a2 by rw [i_ge 6 (by decide)]; omega)]
        by_cases h4 : -99 ≤ a3.toInt ∧ a3.toInt ≤ 99
        · rw [b01_t h4, if_neg n10, if_neg (show ¬ a3 < -99 by rw [i_lt (-99) (by decide)]; omega), if_pos (show a3 ≤ 99 by rw [i_le 99 (by decide)]; omega)]
          obtain ⟨p, hp, rfl⟩ := nI_from h1
          obtain ⟨row, hr, rfl⟩ := nI_from (a := a1) (n := 2) ⟨h2.1, by omega⟩
          obtain ⟨i, hi, rfl⟩ := nI_from (a := a2) (n := 6) ⟨h3.1, by omega⟩
          have x1 : nI p * 12 + nI row * 6 + nI i = nI (p * 12 + row * 6 + i) := by
            rw [show (12 : Int32) = nI 12 from rfl, show (6 : Int32) = nI 6 from rfl, pk_mul, pk_mul, nI_add, nI_add]
          have x2 : 12 * nI p + 6 * nI row + nI i = nI (p * 12 + row * 6 + i) := by
            rw [show (12 : Int32) = nI 12 from rfl, show (6 : Int32) = nI 6 from rfl, pk_mul, pk_mul, nI_add, nI_add, Nat.mul_comm 12, Nat.mul_comm 6]
          rw [x1, x2]
          simp only [bv_e, inb_nI (show p * 12 + row * 6 + i < 120 by omega) (show 120 < 2 ^ 31 by decide), gd_t, ix_nI (show p * 12 + row * 6 + i < 2 ^ 31 by omega)]
          obtain ⟨m1, m2, m3, m4, m5, m6, m7, m8⟩ := h.1
          rw [m7]
          refine ⟨_, _, _, rfl, rfl, ?_⟩
          refine Rel_main h (AgrK_i (AgrK.rf S) _ _ (by omega)) (AgrN_i (AgrN.rf T) _ _ (by omega)) ?_ ?_
          · refine ⟨?_, ?_, ?_, ?_, ?_, ?_, ?_, ?_⟩
            · rw [si_ne _ _ _ (by decide), si_ne _ _ _ (by decide), m1]
            · rw [si_ne _ _ _ (by decide), si_ne _ _ _ (by decide), m2]
            · rw [si_ne _ _ _ (by decide), si_ne _ _ _ (by decide), m3]
            · rw [si_ne _ _ _ (by decide), si_ne _ _ _ (by decide), m4]
            · rw [si_ne _ _ _ (by decide), si_ne _ _ _ (by decide), m5]
            · rw [si_2, si_2, m6]
            · rw [si_same, si_same, m7]
            · rw [si_ne _ _ _ (by decide), si_ne _ _ _ (by decide), m8]
          · obtain ⟨d1, d2, d3, d4, d5, d6, d7⟩ := h.2.1
            rw [si_ne _ _ _ (show (0 : Nat) ≠ 4 by decide), si_ne _ _ _ (show (1 : Nat) ≠ 4 by decide), si_ne _ _ _ (show (2 : Nat) ≠ 4 by decide), si_ne _ _ _ (show (5 : Nat) ≠ 4 by decide), si_same]
            refine ⟨d1, d2, d3, d4, d5, fun j hj => ?_, d7⟩
            by_cases he : j = p * 12 + row * 6 + i
            · rw [he, upd_s]; exact h4
            · rw [upd_n _ _ he]; exact d6 j hj
        · rw [b01_f h4, if_pos z00]
          by_cases h5 : a3 < -99
          · rw [if_pos h5]; exact ⟨_, _, _, rfl, rfl, h⟩
          · rw [if_neg h5, if_neg (show ¬ a3 ≤ 99 by rw [i_lt (-99) (by decide)] at h5; rw [i_le 99 (by decide)]; omega)]
            exact ⟨_, _, _, rfl, rfl, h⟩
      · rw [b01_f h3, if_pos z00]
        by_cases h5 : a2 < 0
        · rw [if_pos h5]; exact ⟨_, _, _, rfl, rfl, h⟩
        · rw [if_neg h5, if_pos (show 6 ≤ a2 by rw [i_lt 0 (by decide)] at h5; rw [i_ge 6 (by decide)]; omega)]
          exact ⟨_, _, _, rfl, rfl, h⟩
    · rw [b01_f h2, if_pos z00, if_pos z00]; exact ⟨_, _, _, rfl, rfl, h⟩
  · rw [b01_f h1, if_pos z00, if_pos z00]; exact ⟨_, _, _, rfl, rfl, h⟩
theorem e_set {S T : Sg} (h : Rel S T) (a0 : Int32) (a1 : Int32) (a2 : Int32) : ∃ (r : Int32) (S' : Sg) (T' : Sg), f_X9_set a0 a1 a2 S = some (r, S') ∧ f_X10_set a0 a1 a2 T = some (r, T') ∧ Rel S' T' := by
  obtain ⟨q, w, n, hqp, hw1, hw, hn, s0, t0, s1, t1, s2, t2⟩ := h.nums
  unfold f_X9_set f_X10_set
  rw [hasC s2 hn, isPairM t2 hn, cl1_s, cl1_s, bitC, cl1_s, in32 a1 0 1 (by decide) (by decide), cl1_s, kindC, weightC]
  simp only [jn_e, cl1_s]
  rw [in32 a2 0 5 (by decide) (by decide), in32 a2 0 999 (by decide) (by decide), cl1_s, cl1_s]
  obtain ⟨m1, m2, m3, m4, m5, m6, m7, m8⟩ := h.1
  obtain ⟨d1, d2, d3, d4, d5, d6, d7⟩ := h.2.1
  by_cases h1 : 0 ≤ a0.toInt ∧ a0.toInt < n
  · rw [b01_t h1, if_neg n10, if_neg n10]
    by_cases h2 : 0 ≤ a1.toInt ∧ a1.toInt ≤ 1
    · rw [b01_t h2, if_neg n10, if_neg n10]
      obtain ⟨p, hp, rfl⟩ := nI_from h1
      by_cases h3 : a1 = 0
      · simp only [if_pos h3, inb_nI (show p < 10 by omega) (show 10 < 2 ^ 31 by decide), gd_t, bv_e, ix_nI (show p < 2 ^ 31 by omega)]
        by_cases h4 : 0 ≤ a2.toInt ∧ a2.toInt < 6
        · rw [b01_t h4, b01_t (show 0 ≤ a2.toInt ∧ a2.toInt ≤ 5 by omega), if_neg n10, if_neg n10, m4]
          refine ⟨_, _, _, rfl, rfl, ?_⟩
          refine Rel_main h (AgrK_i (AgrK.rf S) _ _ (by omega)) (AgrN_i (AgrN.rf T) _ _ (by omega)) ?_ ?_
          · refine ⟨?_, ?_, ?_, ?_, ?_, ?_, ?_, ?_⟩
            · rw [si_ne _ _ _ (by decide), si_ne _ _ _ (by decide), m1]
            · rw [si_ne _ _ _ (by decide), si_ne _ _ _ (by decide), m2]
            · rw [si_ne _ _ _ (by decide), si_ne _ _ _ (by decide), m3]
            · rw [si_same, si_same, m4]
            · rw [si_ne _ _ _ (by decide), si_ne _ _ _ (by decide), m5]
            · rw [si_2, si_2, m6]
            · rw [si_ne _ _ _ (by decide), si_ne _ _ _ (by decide), m7]
            · rw [si_ne _ _ _ (by decide), si_ne _ _ _ (by decide), m8]
          · rw [si_ne _ _ _ (show (0 : Nat) ≠ 1 by decide), si_ne _ _ _ (show (2 : Nat) ≠ 1 by decide), si_ne _ _ _ (show (4 : Nat) ≠ 1 by decide), si_ne _ _ _ (show (5 : Nat) ≠ 1 by decide), si_same]
            refine ⟨d1, d2, d3, fun j hj => ?_, d5, d6, d7⟩
            by_cases he : j = p
            · rw [he, upd_s]
              obtain ⟨k, hk, rfl⟩ := nI_from (a := a2) (n := 6) ⟨h4.1, by omega⟩
              exact ⟨k, by omega, rfl⟩
            · rw [upd_n _ _ he]; exact d4 j hj
        · rw [b01_f h4, b01_f (show ¬ (0 ≤ a2.toInt ∧ a2.toInt ≤ 5) by omega), if_pos z00, if_pos z00]
          exact ⟨_, _, _, rfl, rfl, h⟩
      · simp only [if_neg h3, inb_nI (show p < 10 by omega) (show 10 < 2 ^ 31 by decide), gd_t, bv_e, ix_nI (show p < 2 ^ 31 by omega)]
        by_cases h4 : 0 ≤ a2.toInt ∧ a2.toInt < 1000
        · rw [b01_t h4, b01_t (show 0 ≤ a2.toInt ∧ a2.toInt ≤ 999 by omega), if_neg n10, if_neg n10, m5]
          refine ⟨_, _, _, rfl, rfl, ?_⟩
          refine Rel_main h (AgrK_i (AgrK.rf S) _ _ (by omega)) (AgrN_i (AgrN.rf T) _ _ (by omega)) ?_ ?_
          · refine ⟨?_, ?_, ?_, ?_, ?_, ?_, ?_, ?_⟩
            · rw [si_ne _ _ _ (by decide), si_ne _ _ _ (by decide), m1]
            · rw [si_ne _ _ _ (by decide), si_ne _ _ _ (by decide), m2]
            · rw [si_ne _ _ _ (by decide), si_ne _ _ _ (by decide), m3]
            · rw [si_ne _ _ _ (by decide), si_ne _ _ _ (by decide), m4]
            · rw [si_same, si_same, m5]
            · rw [si_2, si_2, m6]
            · rw [si_ne _ _ _ (by decide), si_ne _ _ _ (by decide), m7]
            · rw [si_ne _ _ _ (by decide), si_ne _ _ _ (by decide), m8]
          · rw [si_ne _ _ _ (show (0 : Nat) ≠ 2 by decide), si_ne _ _ _ (show (1 : Nat) ≠ 2 by decide), si_ne _ _ _ (show (4 : Nat) ≠ 2 by decide), si_ne _ _ _ (show (5 : Nat) ≠ 2 by decide), si_same]
            refine ⟨d1, d2, d3, d4, fun j hj => ?_, d6, d7⟩
            by_cases he : j = p
            · rw [he, upd_s]
              obtain ⟨k, hk, rfl⟩ := nI_from (a := a2) (n := 1000) ⟨h4.1, by omega⟩
              exact ⟨k, by omega, rfl⟩
            · rw [upd_n _ _ he]; exact d5 j hj
        · rw [b01_f h4, b01_f (show ¬ (0 ≤ a2.toInt ∧ a2.toInt ≤ 999) by omega), if_pos z00, if_pos z00]
          exact ⟨_, _, _, rfl, rfl, h⟩
    · rw [b01_f h2, if_pos z00, if_pos z00]; exact ⟨_, _, _, rfl, rfl, h⟩
  · rw [b01_f h1, if_pos z00, if_pos z00]; exact ⟨_, _, _, rfl, rfl, h⟩
