/-! WEIGHTS; HEAVY -/
def wsI (we : Nat → Int32) (a : Nat) : Nat → Int32
  | 0 => 0
  | p + 1 => if a.testBit p = true then wsI we a p + we p else wsI we a p
theorem weightOfC {S : Sg} {n a : Nat} (hn : n ≤ 10) (ha : a < 2 ^ 31) (e2 : S.1 1 2 = nI n) : f_X2_weightOf (nI a) S = some (wsI (S.1 3) a n) := by
  unfold f_X2_weightOf
  refine wp2E (F := X2_weightOf_L4 (nI a) S) n (fun i => wsI (S.1 3) a i) (fun i => nI i) (fun p hp self => ?_) (fun self => ?_) (FU_n (by omega))
  · unfold X2_weightOf_L4
    rw [e2, le_n hp (by omega), jn_e, inb_p (by omega) (by decide), ix_nI (by omega)]
    simp only [bv_e, nI_1, bit_1 ha (show p < 32 by omega)]
    show _ = self (if a.testBit p = true then wsI (S.1 3) a p + S.1 3 p else wsI (S.1 3) a p) (nI (p + 1))
    split <;> rfl
  · unfold X2_weightOf_L4
    rw [e2, le_p (Nat.le_refl _) (by omega)]
theorem weightsM {T : Sg} {n a : Nat} (hn : n ≤ 10) (ha : a < 2 ^ 31) (e2 : T.1 0 2 = nI n) : f_X10_weights (nI a) T = some (wsI (T.1 2) a n) := by
  unfold f_X10_weights
  refine wp2E (F := X10_weights_L4 (nI a) T) n (fun i => wsI (T.1 2) a i) (fun i => nI i) (fun p hp self => ?_) (fun self => ?_) (FU_n (by omega))
  · unfold X10_weights_L4
    rw [e2, le_n hp (by omega), has_eq ha (by omega), cl1_s, jn_e, inb_p (by omega) (by decide), ix_nI (by omega)]
    simp only [bv_e, nI_1, b01_0]
    show _ = self (if a.testBit p = true then wsI (T.1 2) a p + T.1 2 p else wsI (T.1 2) a p) (nI (p + 1))
    by_cases h : a.testBit p = true
    · simp [h]
    · simp [h]
  · unfold X10_weights_L4
    rw [e2, le_p (Nat.le_refl _) (by omega)]
theorem wsI_0 (we : Nat → Int32) : ∀ n, wsI we 0 n = 0
  | 0 => rfl
  | n + 1 => by unfold wsI; simp [wsI_0 we n]
noncomputable def hvf (q w n : Nat) (ki en we : Nat → Int32) : Nat → Nat
  | 0 => 0
  | a + 1 => if st q w n ki en a = true ∧ ¬ wsI we a n ≤ wsI we (hvf q w n ki en we a) n then a else hvf q w n ki en we a
theorem hvf_le (q w n : Nat) (ki en we : Nat → Int32) : ∀ a, hvf q w n ki en we a ≤ a
  | 0 => Nat.le_refl _
  | a + 1 => by
    have := hvf_le q w n ki en we a
    unfold hvf
    split <;> omega
theorem e_heavy {S T : Sg} (h : Rel S T) (a0 : Int32) : ∃ (r : Int32) (S' : Sg) (T' : Sg), f_X9_heavy a0 S = some (r, S') ∧ f_X10_heavy a0 T = some (r, T') ∧ Rel S' T' := by
  obtain ⟨q, w, n, hqp, hw1, hw, hn, s0, t0, s1, t1, s2, t2⟩ := h.nums
  have hpw := pw_le hn
  have hpos : 0 < 2 ^ n := Nat.pow_pos (by decide)
  unfold f_X9_heavy f_X10_heavy
  rw [in_eq, cl1_s, Int32.toInt_toInt64, bitC, cl1_s]
  by_cases hc : 0 ≤ a0.toInt ∧ a0.toInt ≤ 1
  · rw [b01_t hc, if_neg (by decide), b01_t (by simp; omega), if_neg (by decide)]
    obtain ⟨S1, a1, a2, a3, a4⟩ := fillStandingC hqp hw hn s0 s1 s2
    rw [a1, cl1_s]
    rw [h.1.2.2.2.1, h.1.2.2.2.2.2.2.1] at a4
    have hwe : S1.1 3 = T.1 2 := by rw [(a2 3 (by omega)).1, h.1.2.2.2.2.1]
    have hs12 : S1.1 1 2 = nI n := by rw [(a2 1 (by omega)).1, s2]
    obtain ⟨hv, hhv⟩ : ∃ hv : Nat → Nat, hv = hvf q w n (T.1 1) (T.1 4) (T.1 2) := ⟨_, rfl⟩
    have hvs : ∀ a, hv (a + 1) = if st q w n (T.1 1) (T.1 4) a = true ∧ ¬ wsI (T.1 2) a n ≤ wsI (T.1 2) (hv a) n then a else hv a := fun a => by rw [hhv]; rfl
    have hvl : ∀ a, hv a ≤ a := fun a => by rw [hhv]; exact hvf_le _ _ _ _ _ _ a
    -- the class
    have hC : ∀ k : Int32 → Int32 → Option (Int32 × Sg), wp3 (X9_heavy_L21 S1 k) FU 0 0 0 = k (nI (hv (2 ^ n))) (wsI (T.1 2) (hv (2 ^ n)) n) := fun k => by
      have h0 : hv 0 = 0 := by rw [hhv]; rfl
      have := wp3E (F := X9_heavy_L21 S1 k) (2 ^ n) (fun a => nI (hv a)) (fun a => wsI (T.1 2) (hv a) n) (fun a => nI a) (X := k (nI (hv (2 ^ n))) (wsI (T.1 2) (hv (2 ^ n)) n)) (fun a ha self => by
        unfold X9_heavy_L21
        rw [a4.1, le_n ha (by omega), inb_p (by omega) (by decide), jn_e, ix_nI (by omega), a4.2.2 a ha, weightOfC hn (by omega) hs12, hwe, cl1_s]
        simp only [b01_0, cl1_s, bv_e, nI_1]
        rw [hvs a]
        by_cases h1 : st q w n (T.1 1) (T.1 4) a = true
        · by_cases h2 : wsI (T.1 2) a n ≤ wsI (T.1 2) (hv a) n
          · simp [h1, h2]
          · simp only [h1, h2, not_true, if_false, not_false_eq_true, and_self, if_true]
        · simp [h1]) (fun self => by
        unfold X9_heavy_L21
        rw [a4.1, le_p (Nat.le_refl _) (by omega)]) (fuel := FU) (FU_n (by omega))
      rw [h0] at this
      rw [wsI_0] at this
      exact this
    -- the reference
    have e1' : hv 1 = 0 := by have := hvl 1; rw [hvs 0, hhv]; unfold hvf; simp
    have hM : ∃ T2, Fm T T2 ∧ ∀ k : Int32 → Sg → Option (Int32 × Sg), wp3 (X10_heavy_L17 k) FU 0 1 T = k (nI (hv (2 ^ n))) T2 := by
      have step : ∀ (c a : Nat) (T2 : Sg) (fuel : Nat), a + c = 2 ^ n → Fm T T2 → c < fuel → ∃ T3, Fm T T3 ∧ ∀ k : Int32 → Sg → Option (Int32 × Sg), wp3 (X10_heavy_L17 k) fuel (nI (hv a)) (nI a) T2 = k (nI (hv (2 ^ n))) T3 := by
        intro c
        induction c with
        | zero =>
          intro a T2 fuel ha hF hf
          obtain ⟨f, rfl⟩ : ∃ f, fuel = f + 1 := ⟨fuel - 1, by omega⟩
          have e : a = 2 ^ n := by omega
          subst e
          refine ⟨T2, hF, fun k => ?_⟩
          rw [wp3s]
          unfold X10_heavy_L17
          rw [hF.2.1 2 (by decide), t2, shl1 (by omega), le_p (Nat.le_refl _) (by omega)]
        | succ c ih =>
          intro a T2 fuel ha hF hf
          obtain ⟨f, rfl⟩ : ∃ f, fuel = f + 1 := ⟨fuel - 1, by omega⟩
          have hl := hvl a
          obtain ⟨T3, d1, d2⟩ := isStandingM (T := T2) (a := a) hqp hw hn (by omega) (by rw [hF.2.1 0 (by decide), t0]) (by rw [hF.2.1 1 (by decide), t1]) (by rw [hF.2.1 2 (by decide), t2])
          rw [hF.1 1 (by decide) (by decide), hF.1 4 (by decide) (by decide)] at d1
          have hst : ∀ (k : Int32 → Sg → Option (Int32 × Sg)) self, X10_heavy_L17 k self (nI (hv a)) (nI a) T2 = self (nI (hv (a + 1))) (nI (a + 1)) (if wsI (T.1 2) a n ≤ wsI (T.1 2) (hv a) n then T2 else T3) := fun k self => by
            unfold X10_heavy_L17
            rw [weightsM hn (by omega) (by rw [hF.2.1 2 (by decide), t2]), weightsM hn (by omega) (by rw [hF.2.1 2 (by decide), t2]), hF.2.1 2 (by decide), t2, shl1 (by omega), le_n (by omega) (by omega), cl1_s, cl1_s, d1, hF.1 2 (by decide) (by decide)]
            simp only [jn_e, cl_s, b01_0, bv_e, nI_1]
            rw [hvs a]
            by_cases h2 : wsI (T.1 2) a n ≤ wsI (T.1 2) (hv a) n
            · simp [h2]
            · by_cases h1 : st q w n (T.1 1) (T.1 4) a = true
              · simp only [h1, h2, not_true, if_false, not_false_eq_true, and_self, if_true]
              · simp [h1, h2]
          obtain ⟨T4, k1, k2⟩ := ih (a + 1) (if wsI (T.1 2) a n ≤ wsI (T.1 2) (hv a) n then T2 else T3) f (by omega) (by split; exact hF; exact hF.tr d2) (by omega)
          exact ⟨T4, k1, fun k => by rw [wp3s, hst]; exact k2 k⟩
      obtain ⟨T3, k1, k2⟩ := step (2 ^ n - 1) 1 T FU (by omega) (Fm.rf T) (FU_n (by omega))
      rw [e1'] at k2
      exact ⟨T3, k1, k2⟩
    obtain ⟨T2, k1, k2⟩ := hM
    rw [hC, k2]
    have hR : Rel S1 T2 := h.agr a2 k1.agr
    have hl := hvl (2 ^ n)
    by_cases z0 : a0 = 0
    · rw [if_pos z0, if_pos z0]; exact ⟨_, _, _, rfl, rfl, hR⟩
    · rw [if_neg z0, if_neg z0, weightsM hn (by omega) (by rw [k1.2.1 2 (by decide), t2]), cl1_s, k1.1 2 (by decide) (by decide)]
      exact ⟨_, _, _, rfl, rfl, hR⟩
  · rw [b01_f hc, if_pos rfl, b01_f (by simp; omega), if_pos rfl]
    exact ⟨_, _, _, rfl, rfl, h⟩
