/-! back, count -/
theorem back1 (T : Sg) : ∃ T', ((∀ k, k ≠ 1 → k ≠ 2 → T'.1 k = T.1 k) ∧ (∀ k, k ≠ 3 → T'.2 k = T.2 k) ∧ T'.1 1 = pfx 10 (fun j => T.1 18 (3 + j)) (T.1 1) ∧ T'.1 2 = pfx 10 (fun j => T.1 18 (13 + j)) (T.1 2) ∧ T'.2 3 = pfx 10 (T.2 19) (T.2 3)) ∧ ∀ K, wp2 (X10_back_L42 K) FU (nI 0) T = K T' := by
  refine for2k (F := fun K => X10_back_L42 K) (fun K S => K S) 10 (fun i T1 => (∀ k, k ≠ 1 → k ≠ 2 → T1.1 k = T.1 k) ∧ (∀ k, k ≠ 3 → T1.2 k = T.2 k) ∧ T1.1 1 = pfx i (fun j => T.1 18 (3 + j)) (T.1 1) ∧ T1.1 2 = pfx i (fun j => T.1 18 (13 + j)) (T.1 2) ∧ T1.2 3 = pfx i (T.2 19) (T.2 3)) ?_ ?_ (i0 := 0) (S0 := T) ⟨fun _ _ _ => rfl, fun _ _ => rfl, (pfx_0 _ _).symm, (pfx_0 _ _).symm, (pfx_0 _ _).symm⟩ (by omega) (fuel := FU) (FU_n (by omega))
  · rintro i T1 hi ⟨f1, f2, f3, f4, f5⟩
    refine ⟨sl (si (si T1 1 i (T.1 18 (3 + i))) 2 i (T.1 18 (13 + i))) 3 i (T.2 19 i), ⟨fun k h1 h2 => ?_, fun k hk => ?_, ?_, ?_, ?_⟩, fun K self => ?_⟩
    · rw [sl_1, si_ne _ _ _ h2, si_ne _ _ _ h1]; exact f1 k h1 h2
    · rw [sl_ne _ _ _ hk, si_2, si_2]; exact f2 k hk
    · rw [sl_1, si_ne _ _ _ (by decide), si_same, f3]
      exact pfx_u (f := fun j => T.1 18 (3 + j))
    · rw [sl_1, si_same, si_ne _ _ _ (by decide), f4]
      exact pfx_u (f := fun j => T.1 18 (13 + j))
    · rw [sl_same, si_2, si_2, f5]
      exact pfx_ul
    · unfold X10_back_L42
      rw [p3, p13, show (10 : Int32) = nI 10 from rfl, le_n hi (by omega), inb_p (by omega) (by decide), inb_p (by omega) (by decide), bv_e, inb_p (by omega) (by decide), inb_p (by omega) (by decide), bv_e, inb_p (by omega) (by decide), inb_p (by omega) (by decide), bv_e, bv_e, ix_nI (by omega), ix_nI (by omega), ix_nI (by omega), f1 18 (by decide) (by decide), si_ne _ _ _ (show (18 : Nat) ≠ 1 by decide), f1 18 (by decide) (by decide), si_2, si_2, f2 19 (by decide), nI_1]
  · rintro T1 hJ K self
    unfold X10_back_L42
    rw [show (10 : Int32) = nI 10 from rfl, le_p (Nat.le_refl _) (by omega)]
theorem back2 (T : Sg) : ∃ T', (Fr 4 T T' ∧ T'.1 4 = pfx 120 (fun j => T.1 18 (23 + j)) (T.1 4)) ∧ ∀ K, wp2 (X10_back_L97 K) FU (nI 0) T = K T' := by
  refine for2k (F := fun K => X10_back_L97 K) (fun K S => K S) 120 (fun i T1 => Fr 4 T T1 ∧ T1.1 4 = pfx i (fun j => T.1 18 (23 + j)) (T.1 4)) ?_ ?_ (i0 := 0) (S0 := T) ⟨Fr.rf _ _, (pfx_0 _ _).symm⟩ (by omega) (fuel := FU) (FU_n (by omega))
  · rintro i T1 hi ⟨f1, f2⟩
    refine ⟨si T1 4 i (T.1 18 (23 + i)), ⟨Fr_w f1 _ _, ?_⟩, fun K self => ?_⟩
    · rw [si_same, f2]
      exact pfx_u (f := fun j => T.1 18 (23 + j))
    · unfold X10_back_L97
      rw [p23, show (120 : Int32) = nI 120 from rfl, le_n hi (by omega), inb_p (by omega) (by decide), inb_p (by omega) (by decide), bv_e, bv_e, ix_nI (by omega), ix_nI (by omega), f1.1 18 (by decide), nI_1]
  · rintro T1 hJ K self
    unfold X10_back_L97
    rw [show (120 : Int32) = nI 120 from rfl, le_p (Nat.le_refl _) (by omega)]
theorem back3 (T : Sg) : ∃ T', (Fr 5 T T' ∧ T'.1 5 = pfx 8 (fun j => T.1 18 (143 + j)) (T.1 5)) ∧ wp2 X10_back_L126 FU (nI 0) T = some (T'.1 0 2, T') := by
  refine for2 (F := X10_back_L126) 8 (fun i T1 => Fr 5 T T1 ∧ T1.1 5 = pfx i (fun j => T.1 18 (143 + j)) (T.1 5)) (fun T' => some (T'.1 0 2, T')) ?_ ?_ (i0 := 0) (S0 := T) ⟨Fr.rf _ _, (pfx_0 _ _).symm⟩ (by omega) (fuel := FU) (FU_n (by omega))
  · rintro i T1 hi ⟨f1, f2⟩
    refine ⟨si T1 5 i (T.1 18 (143 + i)), ⟨Fr_w f1 _ _, ?_⟩, fun self => ?_⟩
    · rw [si_same, f2]
      exact pfx_u (f := fun j => T.1 18 (143 + j))
    · unfold X10_back_L126
      rw [p143, show (8 : Int32) = nI 8 from rfl, le_n hi (by omega), inb_p (by omega) (by decide), inb_p (by omega) (by decide), bv_e, bv_e, ix_nI (by omega), ix_nI (by omega), f1.1 18 (by decide), nI_1]
  · rintro T1 hJ self
    unfold X10_back_L126
    rw [show (8 : Int32) = nI 8 from rfl, le_p (Nat.le_refl _) (by omega)]
theorem e_back {S T : Sg} (h : Rel S T)  : ∃ (r : Int32) (S' : Sg) (T' : Sg), f_X9_back S = some (r, S') ∧ f_X10_back T = some (r, T') ∧ Rel S' T' := by
  obtain ⟨m1, m2, m3, m4, m5, m6, m7, m8⟩ := h.1
  unfold f_X9_back f_X10_back
  rw [h.2.2.1.1]
  rcases h.2.2.1.2 with hk | ⟨hk, k1, k2, k3, k4, k5, k6, k7, k8, k9⟩
  · rw [if_pos hk, if_pos hk]; exact ⟨_, _, _, rfl, rfl, h⟩
  · have hk0 : ¬ T.1 0 24 = 0 := by rw [hk]; decide
    rw [if_neg hk0, if_neg hk0]
    obtain ⟨S1, c0, c1, c2, c3, c4, c5, c6, c7, c8, c9⟩ := becomeK (S := S) (k := 1) (k2 := 7) (by decide)
    rw [c0, cl1_s, gd_p (show inb (0 : Int32) 151 = true by decide), bv_e, gd_p (show inb (1 : Int32) 151 = true by decide), bv_e, gd_p (show inb (2 : Int32) 151 = true by decide), bv_e, ix0, ix1, ix2]
    generalize hT6 : si (si (si T 0 0 _) 0 1 _) 0 2 _ = T6
    have z0 : ∀ j, j < 3 → T6.1 0 j = T.1 18 j := fun j hj => by
      rw [← hT6, si_same]
      rcases (show j = 0 ∨ j = 1 ∨ j = 2 by omega) with rfl | rfl | rfl
      · rw [upd_n _ _ (by decide), si_same, upd_n _ _ (by decide), si_same, upd_s]
      · rw [upd_n _ _ (by decide), si_same, upd_s, si_ne _ _ _ (by decide)]
      · rw [upd_s, si_ne _ _ _ (by decide), si_ne _ _ _ (by decide)]
    have z24 : T6.1 0 24 = T.1 0 24 := by
      rw [← hT6, si_same, upd_n _ _ (by decide), si_same, upd_n _ _ (by decide), si_same, upd_n _ _ (by decide)]
    have zk : ∀ k, k ≠ 0 → T6.1 k = T.1 k := fun k h0 => by
      rw [← hT6, si_ne _ _ _ h0, si_ne _ _ _ h0, si_ne _ _ _ h0]
    have z2 : T6.2 = T.2 := by rw [← hT6]; rfl
    obtain ⟨T7, ⟨a1, a2, a3, a4, a5⟩, a6⟩ := back1 T6
    obtain ⟨T8, ⟨b1, b2⟩, b3⟩ := back2 T7
    obtain ⟨T9, ⟨d1, d2⟩, d3⟩ := back3 T8
    rw [show (0 : Int32) = nI 0 from rfl, a6, b3, d3]
    have w0 : T9.1 0 = T6.1 0 := by rw [d1.1 0 (by decide), b1.1 0 (by decide), a1 0 (by decide) (by decide)]
    have w1 : T9.1 1 = pfx 10 (fun j => T.1 18 (3 + j)) (T.1 1) := by rw [d1.1 1 (by decide), b1.1 1 (by decide), a3, zk 18 (by decide), zk 1 (by decide)]
    have w2 : T9.1 2 = pfx 10 (fun j => T.1 18 (13 + j)) (T.1 2) := by rw [d1.1 2 (by decide), b1.1 2 (by decide), a4, zk 18 (by decide), zk 2 (by decide)]
    have w3 : T9.2 3 = pfx 10 (T.2 19) (T.2 3) := by rw [d1.2, b1.2, a5, z2]
    have w4 : T9.1 4 = pfx 120 (fun j => T.1 18 (23 + j)) (T.1 4) := by rw [d1.1 4 (by decide), b2, a1 18 (by decide) (by decide), zk 18 (by decide), a1 4 (by decide) (by decide), zk 4 (by decide)]
    have w5 : T9.1 5 = pfx 8 (fun j => T.1 18 (143 + j)) (T.1 5) := by rw [d2, b1.1 18 (by decide), a1 18 (by decide) (by decide), zk 18 (by decide), b1.1 5 (by decide), a1 5 (by decide) (by decide), zk 5 (by decide)]
    have wk : ∀ k, 10 ≤ k → T9.1 k = T.1 k ∧ T9.2 k = T.2 k := fun k hk => ⟨by rw [d1.1 k (by omega), b1.1 k (by omega), a1 k (by omega) (by omega), zk k (by omega)], by rw [d1.2, b1.2, a2 k (by omega), z2]⟩
    rw [c3, w0, z0 2 (by decide), k3]
    refine ⟨_, _, _, rfl, rfl, ?_⟩
    refine Rel_main h (fun k hk => c9 k (by omega)) ⟨wk, by rw [w0, z24]⟩ ?_ ?_
    · refine ⟨?_, ?_, ?_, ?_, ?_, ?_, ?_, ?_⟩
      · rw [c1, w0, z0 0 (by decide), k1]
      · rw [c2, w0, z0 1 (by decide), k2]
      · rw [c3, w0, z0 2 (by decide), k3]
      · rw [c4, w1]; funext j
        by_cases hj : j < 10
        · rw [pfx_in hj, pfx_in hj, k4 j hj]
        · rw [pfx_out hj, pfx_out hj, ← m4]
      · rw [c5, w2]; funext j
        by_cases hj : j < 10
        · rw [pfx_in hj, pfx_in hj, k5 j hj]
        · rw [pfx_out hj, pfx_out hj, ← m5]
      · rw [c6, w3]; funext j
        by_cases hj : j < 10
        · rw [pfx_in hj, pfx_in hj, k6 j hj]
        · rw [pfx_out hj, pfx_out hj, ← m6]
      · rw [c7, w4]; funext j
        by_cases hj : j < 120
        · rw [pfx_in hj, pfx_in hj, k7 j hj]
        · rw [pfx_out hj, pfx_out hj, ← m7]
      · rw [c8, w5]; funext j
        by_cases hj : j < 8
        · rw [pfx_in hj, pfx_in hj, k8 j hj]
        · rw [pfx_out hj, pfx_out hj, ← m8]
    · rw [w0, z0 0 (by decide), z0 1 (by decide), z0 2 (by decide), w1, w2, w4, w5]
      exact k9.cg (fun j hj => pfx_in hj) (fun j hj => pfx_in hj) (fun j hj => pfx_in hj) (fun j hj => pfx_in hj)
theorem lines_ex {S T : Sg} (h : Rel S T) : ∃ g : Nat → Nat, (∀ j, j < 8 → g j < 256 ∧ T.1 5 j = nI (g j)) ∧ (∀ i j, i < 8 → j < 8 → (g i).testBit j = (g j).testBit i) ∧ ∀ j, j < 8 → fb_ct (fun i => (g j).testBit i) 8 ≤ 3 := h.2.1.2.2.2.2.2.2
theorem pcn_8 {a : Nat} (ha : a < 256) : fb_ct (fun i => a.testBit i) 8 = pcn a := pcn_w (w := 8) (by decide) (by simpa using ha)
theorem e_count {S T : Sg} (h : Rel S T) (a0 : Int32) : ∃ (r : Int32), f_X9_count a0 S = some r ∧ f_X10_count a0 T = some r ∧ Rel S T := by
  obtain ⟨q, w, n, hqp, hw1, hw, hn, s0, t0, s1, t1, s2, t2⟩ := h.nums
  obtain ⟨m1, m2, m3, m4, m5, m6, m7, m8⟩ := h.1
  unfold f_X9_count f_X10_count
  by_cases c0 : a0 = 0
  · rw [if_pos c0, if_pos c0, m3]; exact ⟨_, rfl, rfl, h⟩
  rw [if_neg c0, if_neg c0]
  by_cases c1 : a0 = 1
  · rw [if_pos c1, if_pos c1, m1]; exact ⟨_, rfl, rfl, h⟩
  rw [if_neg c1, if_neg c1]
  by_cases c2 : a0 = 2
  · rw [if_pos c2, if_pos c2, m2]; exact ⟨_, rfl, rfl, h⟩
  rw [if_neg c2, if_neg c2]
  by_cases c3 : a0 = 3
  · rw [if_pos c3, if_pos c3]
    have hC : f_X2_namesInAll S = some (nI (fb_ct (fun i => decide (T.2 3 i ≠ 0)) n)) := by
      unfold f_X2_namesInAll
      refine wp2E (F := X2_namesInAll_L4 S) n (fun i => nI (fb_ct (fun i => decide (T.2 3 i ≠ 0)) i)) (fun i => nI i) (fun i hi self => ?_) (fun self => ?_) (FU_n (by omega))
      · unfold X2_namesInAll_L4
        simp only [jn_e, bv_e]
        rw [s2, le_n hi (by omega), inb_p (by omega) (by decide), ix_nI (by omega), m6]
        by_cases h1 : T.2 3 i = 0
        · rw [if_pos ((cmp_0 _).mpr h1), nI_1, ctN (p := fun i => decide (T.2 3 i ≠ 0)) (by simp [h1])]
        · rw [if_neg (fun z => h1 ((cmp_0 _).mp z)), nI_1, nI_1, ctB (p := fun i => decide (T.2 3 i ≠ 0)) (by simp [h1])]
      · unfold X2_namesInAll_L4
        rw [s2, le_p (Nat.le_refl _) (by omega)]
    have hM : f_X10_nameMany T = some (nI (fb_ct (fun i => decide (T.2 3 i ≠ 0)) n)) := by
      unfold f_X10_nameMany
      refine wp2E (F := X10_nameMany_L4 T) n (fun i => nI (fb_ct (fun i => decide (T.2 3 i ≠ 0)) i)) (fun i => nI i) (fun i hi self => ?_) (fun self => ?_) (FU_n (by omega))
      · unfold X10_nameMany_L4
        simp only [jn_e, bv_e]
        rw [t2, le_n hi (by omega), inb_p (by omega) (by decide), ix_nI (by omega)]
        by_cases h1 : T.2 3 i = 0
        · rw [if_pos ((cmp_0 _).mpr h1), nI_1, Int32.add_zero, ctN (p := fun i => decide (T.2 3 i ≠ 0)) (by simp [h1])]
        · rw [if_neg (fun z => h1 ((cmp_0 _).mp z)), nI_1, nI_1, ctB (p := fun i => decide (T.2 3 i ≠ 0)) (by simp [h1])]
      · unfold X10_nameMany_L4
        rw [t2, le_p (Nat.le_refl _) (by omega)]
    rw [hC, hM]
    exact ⟨_, rfl, rfl, h⟩
  rw [if_neg c3, if_neg c3]
  by_cases c4 : a0 = 4
  · rw [if_pos c4, if_pos c4]
    obtain ⟨g, hg, -, -⟩ := lines_ex h
    have hC : f_X2_linesInAll S = some (nI (fb_sm (fun i => pcn (g i)) 8) / 2) := by
      unfold f_X2_linesInAll
      refine wp2E (F := X2_linesInAll_L4 S _) 8 (fun i => nI (fb_sm (fun i => pcn (g i)) i)) (fun i => nI i) (fun i hi self => ?_) (fun self => ?_) (FU_n (by omega))
      · unfold X2_linesInAll_L4 f_X2_linesAt
        rw [show (8 : Int32) = nI 8 from rfl, le_n hi (by omega), inb_p (by omega) (by decide), ix_nI (by omega), m8, (hg i hi).2, bitCount_tab _ (by have := (hg i hi).1; omega), cl1_s, cl1_s, bv_e, bv_e, nI_add, nI_1]
        rfl
      · unfold X2_linesInAll_L4
        rw [show (8 : Int32) = nI 8 from rfl, le_p (Nat.le_refl _) (by omega)]
    have hM : f_X10_linkMany T = some (nI (fb_sm (fun i => pcn (g i)) 8) / 2) := by
      unfold f_X10_linkMany
      refine wp2E (F := X10_linkMany_L4 T _) 8 (fun i => nI (fb_sm (fun i => pcn (g i)) i)) (fun i => nI i) (fun i hi self => ?_) (fun self => ?_) (FU_n (by omega))
      · unfold X10_linkMany_L4
        rw [show (8 : Int32) = nI 8 from rfl, le_n hi (by omega), inb_p (by omega) (by decide), ix_nI (by omega), (hg i hi).2, many_tab _ (by have := (hg i hi).1; omega), cl1_s, bv_e, bv_e, nI_add, nI_1]
        rfl
      · unfold X10_linkMany_L4
        rw [show (8 : Int32) = nI 8 from rfl, le_p (Nat.le_refl _) (by omega)]
    rw [hC, hM]
    exact ⟨_, rfl, rfl, h⟩
  rw [if_neg c4, if_neg c4]
  exact ⟨_, rfl, rfl, h⟩
