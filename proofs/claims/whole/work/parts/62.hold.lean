/-! hold -/
theorem e_hold {S T : Sg} (h : Rel S T) (a0 : Int32) (a1 : Int32) (a2 : Int32) : ∃ (r : Int32) (S' : Sg) (T' : Sg), f_X9_hold a0 a1 a2 S = some (r, S') ∧ f_X10_hold a0 a1 a2 T = some (r, T') ∧ Rel S' T' := by
  obtain ⟨q, w, n, hqp, hw1, hw, hn, s0, t0, s1, t1, s2, t2⟩ := h.nums
  have hq := primes_b hqp
  obtain ⟨m1, m2, m3, m4, m5, m6, m7, m8⟩ := h.1
  obtain ⟨S1, T1, m, a, x1, x2, x3, x4, x5, ⟨y1, y2, y3, y4, y5, y6⟩, x7, x8⟩ := raysFill h hqp hw hn s0 t0 s1 t1 s2 t2
  have hR := h.agr x3 x4.agr
  have hR0 : Rel S T1 := h.agr (AgrC.rf S) x4.agr
  have ew : ((nI m - 1 : Int32).toInt64).toInt = (m : Int) - 1 := by
    rw [Int32.toInt_toInt64]; exact pk_sub_toInt (a := m) (b := 1) (by omega) (by decide)
  have tt2 : T1.1 0 2 = nI n := by rw [x4.2.1 2 (by decide), t2]
  unfold f_X9_hold f_X10_hold
  generalize hW : (fun x8 => wp3 (X10_hold_L135 a0 x8) FU) = W
  have hW2 : ∀ x8, wp3 (X10_hold_L135 a0 x8) FU = W x8 := fun x8 => by rw [← hW]
  simp only [hW2]
  simp only [jn_e, bv_e]
  rw [handC, cl1_s, x2, cl1_s, handM, cl1_s, in32 a1 0 2 (by decide) (by decide), cl1_s, y2, in32 a2 0 ((m : Int) - 1) (by decide) ew, cl1_s, isPairM tt2 hn, cl1_s, hasC s2 hn, cl1_s, x1, cl1_s, has3C x7 y1, cl1_s]
  by_cases h1 : 0 ≤ a0.toInt ∧ a0.toInt < 4
  · rw [b01_t h1, if_neg n10, if_neg n10]
    obtain ⟨s, hs, rfl⟩ := nI_from (a := a0) (n := 4) ⟨h1.1, by omega⟩
    obtain ⟨k1, k2, k3, k4, k5, k6, k7, k8, k9⟩ := h.2.2.2.2 s hs
    have e10 : T1.1 10 s = T.1 10 s := by rw [x4.1 10 (by decide)]
    simp only [inb_nI hs (show 4 < 2 ^ 31 by decide), gd_t, ix_nI (show s < 2 ^ 31 by omega)]
    rw [k1, e10]
    by_cases c0 : a1 = 0
    · subst c0
      rw [if_pos z00, b01_t (by decide), if_neg n10, if_neg (by decide), if_neg (by decide), if_neg (by decide), if_neg (by decide)]
      exact ⟨_, _, _, rfl, rfl, hold1 h x4 hs (Or.inl rfl)⟩
    · rw [if_neg c0]
      by_cases c1 : a1 = 1
      · subst c1
        rw [b01_t (show 0 ≤ (1 : Int32).toInt ∧ (1 : Int32).toInt ≤ 2 by decide), if_neg n10]
        simp only [show ¬ (1 : Int32) = 2 by decide, if_true, if_false]
        by_cases h2 : 0 ≤ a2.toInt ∧ a2.toInt < n
        · obtain ⟨p, hp, rfl⟩ := nI_from h2
          obtain ⟨b, hb, eb⟩ := h.2.1.2.2.2.1 p (by omega)
          rw [b01_t h2, if_neg n10, if_neg n10]
          simp only [inb_nI (show p < 10 by omega) (show 10 < 2 ^ 31 by decide), gd_t, ix_nI (show p < 2 ^ 31 by omega)]
          unfold f_X1_takePair
          simp only [bv_e, cl1_s]
          rw [m4, m5, eb, si_ne _ _ _ (show (1 : Nat) ≠ 10 by decide), x4.1 1 (by decide), eb, si_ne _ _ _ (show (2 : Nat) ≠ 11 by decide), si_ne _ _ _ (show (2 : Nat) ≠ 10 by decide), x4.1 2 (by decide)]
          exact ⟨_, _, _, rfl, rfl, hold2 (hold1 h x4 hs (Or.inr (Or.inl rfl))) hs hb _⟩
        · rw [b01_f h2, if_pos z00, if_pos z00]
          exact ⟨_, _, _, rfl, rfl, hR0⟩
      · rw [if_neg c1]
        by_cases c2 : a1 = 2
        · subst c2
          rw [b01_t (show 0 ≤ (2 : Int32).toInt ∧ (2 : Int32).toInt ≤ 2 by decide), if_neg n10]
          simp only [show ¬ (2 : Int32) = 1 by decide, if_true, if_false]
          by_cases h2 : 0 ≤ a2.toInt ∧ a2.toInt < m
          · obtain ⟨j, hj, rfl⟩ := nI_from h2
            rw [b01_t h2, b01_t (show 0 ≤ (nI j).toInt ∧ (nI j).toInt ≤ (m : Int) - 1 by omega), if_neg n10, if_neg n10]
            simp only [inb_nI (show j < 20 by omega) (show 20 < 2 ^ 31 by decide), gd_t, ix_nI (show j < 2 ^ 31 by omega)]
            unfold f_X1_takeRay
            have a1' := (x3 1 (by decide)).1
            have e30 : (si T1 10 s 2).2 9 j = lN (a j) := by rw [si_2]; exact y4 j hj
            have e01 : (si T1 10 s 2).1 0 1 = nI w := by rw [si_ne _ _ _ (by decide), x4.2.1 1 (by decide), t1]
            rw [bv_e, bv_e, bv_e, a1', s0, s1, y3 j hj, e30, e01, si_ne _ _ _ (show (0 : Nat) ≠ 13 by decide), e01, ← hW2]
            have hc := (y5 j hj).2
            obtain ⟨S2, f1, f2, f3⟩ := unpackC (k := 41 + 2 * s) (q := q) (w := w) (by omega) (by omega) hw hc w (si (si S1 (41 + 2 * s) 0 2) (41 + 2 * s) 3 (nI w)) FU (Nat.le_refl _) (FU_n (by omega))
            obtain ⟨T2, g1, g2, g3⟩ := unpackM (s := s) (q := q) (w := w) (x8 := T.1 10 s) hs (by omega) (by omega) hw hc w (si (si T1 10 s 2) 13 s (nI w)) FU (by rw [si_ne _ _ _ (by decide), si_ne _ _ _ (by decide), x4.2.1 0 (by decide), t0]) (Nat.le_refl _) (FU_n (by omega))
            rw [Nat.sub_self, Nat.pow_zero, Nat.div_one] at f3 g3
            rw [f3, g3, cl1_s]
            exact ⟨_, _, _, rfl, rfl, hold3 (hold1 hR ⟨fun _ _ => rfl, fun _ _ => rfl, fun _ _ => rfl⟩ hs (Or.inr (Or.inr rfl))) hs hw (by omega) (by omega) f1 f2 g1 g2⟩
          · rw [b01_f h2, b01_f (show ¬ (0 ≤ a2.toInt ∧ a2.toInt ≤ (m : Int) - 1) by omega), if_pos z00, if_pos z00]
            exact ⟨_, _, _, rfl, rfl, hR⟩
        · rw [if_neg c2]
          have hn2 : ¬ (0 ≤ a1.toInt ∧ a1.toInt ≤ 2) := fun z => by
            have z0 : a1.toInt ≠ 0 := fun y => c0 (i32_eq.mpr y)
            have z1 : a1.toInt ≠ 1 := fun y => c1 (i32_eq.mpr y)
            have z2 : a1.toInt ≠ 2 := fun y => c2 (i32_eq.mpr y)
            omega
          rw [b01_f hn2, if_pos z00]
          exact ⟨_, _, _, rfl, rfl, hR0⟩
  · rw [b01_f h1, if_pos z00, if_pos z00]
    exact ⟨_, _, _, rfl, rfl, hR0⟩
