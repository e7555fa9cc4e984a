/-! which SETS STAND; MOST -/
theorem for3 {ρ : Type} {F : (Int32 → Int32 → Sg → Option ρ) → Int32 → Int32 → Sg → Option ρ} (n : Nat) (g : Nat → Int32) (J : Nat → Sg → Prop) (exit : Sg → Option ρ) (hs : ∀ i S, i < n → J i S → ∃ S', J (i + 1) S' ∧ ∀ self, F self (g i) (nI i) S = self (g (i + 1)) (nI (i + 1)) S') (he : ∀ S, J n S → ∀ self, F self (g n) (nI n) S = exit S) {i0 : Nat} {S0 : Sg} (h0 : J i0 S0) (hi : i0 ≤ n) {fuel : Nat} (hf : n < fuel) : ∃ S', J n S' ∧ wp3 F fuel (g i0) (nI i0) S0 = exit S' := by
  obtain ⟨r, ⟨S', h1, h2⟩, h3⟩ := wp3R (F := F) (fun c u v S => ∃ i, i + c = n ∧ u = g i ∧ v = nI i ∧ J i S) (fun r => ∃ S', J n S' ∧ r = exit S') (by
    rintro c u v S ⟨i, hi, rfl, rfl, hJ⟩
    rcases Nat.eq_zero_or_pos c with h | h
    · have e : i = n := by omega
      subst e
      exact Or.inl ⟨exit S, ⟨S, hJ, rfl⟩, he S hJ⟩
    · obtain ⟨S', q1, q2⟩ := hs i S (by omega) hJ
      exact Or.inr ⟨c - 1, g (i + 1), nI (i + 1), S', by omega, ⟨i + 1, by omega, rfl, rfl, q1⟩, q2⟩) fuel (n - i0) (g i0) (nI i0) S0 (by omega) ⟨i0, by omega, rfl, rfl, h0⟩
  exact ⟨S', h1, by rw [h3, h2]⟩
theorem zb_b {p : Prop} [Decidable p] : zb (b01 p) = b01 p := by
  by_cases h : p
  · rw [b01_t h]; decide
  · rw [b01_f h]; decide
theorem low_nI {a : Nat} (h : a ≠ 0) : nI a &&& (nI a - 1) = nI (a &&& (a - 1)) := by
  rw [show nI a - 1 = nI (a - 1) from pk_sub (a := a) (b := 1) (by omega), fa_and]
def StArr (S : Sg) (q w n : Nat) (ki en : Nat → Int32) : Prop := S.1 19 0 = nI (2 ^ n) ∧ S.1 19 1 = nI n ∧ ∀ a, a < 2 ^ n → S.1 20 a = b01 (st q w n ki en a = true)
theorem Filled.fr {S S' : Sg} {q w n : Nat} {ki en : Nat → Int32} (h : Filled S q w n ki en) (h1 : S'.1 13 = S.1 13) (h2 : S'.1 14 = S.1 14) : Filled S' q w n ki en := by
  unfold Filled at h ⊢
  rw [h1, h2]; exact h
theorem fillX8 {S : Sg} {q w n : Nat} {ki en : Nat → Int32} (hF : Filled S q w n ki en) (hqp : q ∈ primes) (hw : w ≤ 6) (hn : n ≤ 10) :
    ∃ S', f_X8_fill S = some S' ∧ StArr S' q w n ki en ∧ (∀ k, ¬ (15 ≤ k ∧ k ≤ 20) → S'.1 k = S.1 k) ∧ S'.2 = S.2 := by
  have hp := PrimeQ_of hqp
  have hpw := pw_le hn
  have hpos : 0 < 2 ^ n := Nat.pow_pos (by decide)
  unfold f_X8_fill
  rw [bv_e, bv_e, hF.2.2.1]
  rw [show (si S 19 1 (nI n)).1 19 1 = nI n by rw [si_same, upd_s], shl1 (by omega), show (0 : Int32) = nI 0 from rfl, inb_p (by decide) (by decide), bv_e, ix_nI (by decide), zb_1]
  generalize hS0 : si (si (si S 19 1 (nI n)) 19 0 (nI (2 ^ n))) 20 0 1 = S0
  have z1 : ∀ k, k ≠ 19 → k ≠ 20 → S0.1 k = S.1 k := fun k h1 h2 => by rw [← hS0, si_ne _ _ _ h2, si_ne _ _ _ h1, si_ne _ _ _ h1]
  have z2 : S0.2 = S.2 := by rw [← hS0]; rfl
  have z3 : S0.1 19 0 = nI (2 ^ n) := by rw [← hS0, si_ne _ _ _ (by decide), si_same, upd_s]
  have z4 : S0.1 19 1 = nI n := by rw [← hS0, si_ne _ _ _ (by decide), si_same, upd_n _ _ (by decide), si_same, upd_s]
  have z5 : S0.1 20 0 = 1 := by rw [← hS0, si_same, upd_s]
  obtain ⟨S', ⟨-, f1, f2, f3⟩, h4⟩ := for2 (F := X8_fill_L27) (2 ^ n) (fun j S1 => 1 ≤ j ∧ (∀ k, ¬ (15 ≤ k ∧ k ≤ 18) → k ≠ 20 → S1.1 k = S0.1 k) ∧ S1.2 = S.2 ∧ ∀ a, a < j → S1.1 20 a = b01 (st q w n ki en a = true)) (fun S => some S) (by
    rintro a S1 ha ⟨h1, f1, f2, f3⟩
    have hlt : a &&& (a - 1) < a := Nat.lt_of_le_of_lt Nat.and_le_right (by omega)
    have hF1 : Filled S1 q w n ki en := hF.fr (by rw [f1 13 (by decide) (by decide), z1 13 (by decide) (by decide)]) (by rw [f1 14 (by decide) (by decide), z1 14 (by decide) (by decide)])
    have hst : ∀ self, X8_fill_L27 self (nI a) S1 = if st q w n ki en (a &&& (a - 1)) = true then (cl (f_X5_isStanding (nI a) S1) fun r14 S16 => if r14 = 0 then self (nI (a + 1)) (si S16 20 a 0) else self (nI (a + 1)) (si S16 20 a 1)) else self (nI (a + 1)) (si S1 20 a 0) := fun self => by
      unfold X8_fill_L27
      rw [f1 19 (by decide) (by decide), z3, le_n ha (by omega), low_nI (by omega), inb_p (by omega) (by decide), jn_e, jn_e, ix_nI (by omega), f3 _ hlt]
      simp only [b01_0, inb_nI (show a < 1024 by omega) (show 1024 < 2 ^ 31 by decide), gd_t, bv_e, ix_nI (show a < 2 ^ 31 by omega), zb_0, zb_1, nI_1]
      by_cases h : st q w n ki en (a &&& (a - 1)) = true
      · simp only [h, if_true, not_true, if_false]
      · rw [if_pos h, if_neg h]
    have hfin : ∀ S2 : Sg, (∀ k, ¬ (15 ≤ k ∧ k ≤ 18) → k ≠ 20 → S2.1 k = S0.1 k) → S2.2 = S.2 → (∀ b, b < a → S2.1 20 b = b01 (st q w n ki en b = true)) → ∀ v : Int32, v = b01 (st q w n ki en a = true) → 1 ≤ a + 1 ∧ (∀ k, ¬ (15 ≤ k ∧ k ≤ 18) → k ≠ 20 → (si S2 20 a v).1 k = S0.1 k) ∧ (si S2 20 a v).2 = S.2 ∧ ∀ b, b < a + 1 → (si S2 20 a v).1 20 b = b01 (st q w n ki en b = true) := fun S2 k1 k2 k3 v hv => by
      refine ⟨by omega, fun k h1 h2 => by rw [si_ne _ _ _ h2]; exact k1 k h1 h2, by rw [si_2]; exact k2, fun b hb => ?_⟩
      by_cases he : b = a
      · subst he; rw [si_same, upd_s, hv]
      · rw [si_same, upd_n _ _ he]; exact k3 b (by omega)
    by_cases hlow : st q w n ki en (a &&& (a - 1)) = true
    · obtain ⟨S2, c1, c2, c3⟩ := isStandingC (a := a) hF1 hqp hw hn (by omega)
      have g1 : ∀ k, ¬ (15 ≤ k ∧ k ≤ 18) → k ≠ 20 → S2.1 k = S0.1 k := fun k h1 h2 => by rw [c2 k h1, f1 k h1 h2]
      have g3 : ∀ b, b < a → S2.1 20 b = b01 (st q w n ki en b = true) := fun b hb => by rw [c2 20 (by decide)]; exact f3 b hb
      by_cases hs : st q w n ki en a = true
      · refine ⟨si S2 20 a 1, hfin S2 g1 (by rw [c3, f2]) g3 1 (b01_t hs).symm, fun self => ?_⟩
        rw [hst, if_pos hlow, c1, cl_s, b01_t hs, if_neg (by decide)]
      · refine ⟨si S2 20 a 0, hfin S2 g1 (by rw [c3, f2]) g3 0 (b01_f hs).symm, fun self => ?_⟩
        rw [hst, if_pos hlow, c1, cl_s, b01_f hs, if_pos rfl]
    · have hs : ¬ st q w n ki en a = true := fun h => hlow (st_low hp (by omega) hn (by omega) h)
      refine ⟨si S1 20 a 0, hfin S1 f1 f2 f3 0 (b01_f hs).symm, fun self => ?_⟩
      rw [hst, if_neg hlow]) (by
    rintro S1 ⟨-, f1, -⟩ self
    unfold X8_fill_L27
    rw [f1 19 (by decide) (by decide), z3, le_p (Nat.le_refl _) (by omega)]) (i0 := 1) (S0 := S0) ⟨Nat.le_refl _, fun _ _ _ => rfl, z2, fun a ha => by
      rw [show a = 0 by omega, z5, b01_t st_0]⟩ hpos (FU_n (by omega))
  exact ⟨S', h4, ⟨by rw [f1 19 (by decide) (by decide), z3], by rw [f1 19 (by decide) (by decide), z4], f3⟩, fun k hk => by rw [f1 k (by omega) (by omega), z1 k (by omega) (by omega)], f2⟩
theorem fillStandingC {S : Sg} {q w n : Nat} (hqp : q ∈ primes) (hw : w ≤ 6) (hn : n ≤ 10) (e0 : S.1 1 0 = nI q) (e1 : S.1 1 1 = nI w) (e2 : S.1 1 2 = nI n) :
    ∃ S', f_X9_fillStanding S = some S' ∧ AgrC S S' ∧ Filled S' q w n (S.1 2) (S.1 5) ∧ StArr S' q w n (S.1 2) (S.1 5) := by
  have hq := primes_b hqp
  obtain ⟨S1, a1, a2, a3, a4⟩ := fill_eq (S := S) (by omega) (by omega) hw hn e0 e1 e2
  obtain ⟨S2, b1, b2, b3, b4⟩ := fillX8 a2 hqp hw hn
  unfold f_X9_fillStanding
  rw [a1, cl1_s, b1, cl1_s]
  exact ⟨S2, rfl, fun k hk => ⟨by rw [b3 k (by omega), a3 k (by omega) (by omega)], by rw [b4, a4]⟩, a2.fr (b3 13 (by omega)) (b3 14 (by omega)), b2⟩
/-- the most, among the SETS below i -/
noncomputable def mxf (q w n : Nat) (ki en : Nat → Int32) : Nat → Nat
  | 0 => 0
  | a + 1 => if st q w n ki en a = true then max (mxf q w n ki en a) (pcn a) else mxf q w n ki en a
theorem mxf_le (q w n : Nat) (ki en : Nat → Int32) : ∀ a, mxf q w n ki en a ≤ 10
  | 0 => by simp [mxf]
  | a + 1 => by
    have h1 := mxf_le q w n ki en a
    have h2 := pcn_le a
    unfold mxf
    split <;> omega
theorem greatestC {S : Sg} {q w n : Nat} {ki en : Nat → Int32} (hn : n ≤ 10) (hS : StArr S q w n ki en) : f_X8_greatest S = some (nI (mxf q w n ki en (2 ^ n))) := by
  have hpw := pw_le hn
  unfold f_X8_greatest
  refine wp2E (F := X8_greatest_L4 S) (2 ^ n) (fun i => nI (mxf q w n ki en i)) (fun i => nI i) (fun a ha self => ?_) (fun self => ?_) (FU_n (by omega))
  · have h1 := mxf_le q w n ki en a
    have h2 := pcn_le a
    unfold X8_greatest_L4
    rw [hS.1, le_n ha (by omega), inb_p (by omega) (by decide), jn_e, ix_nI (by omega), hS.2.2 a ha, bitCount_tab a (by omega)]
    simp only [b01_0, cl1_s, bv_e, nI_1]
    show _ = self (nI (if st q w n ki en a = true then max (mxf q w n ki en a) (pcn a) else mxf q w n ki en a)) (nI (a + 1))
    by_cases h : st q w n ki en a = true
    · simp only [h, if_true, not_true, if_false, nI_ltI (show mxf q w n ki en a < 2 ^ 31 by omega) (show pcn a < 2 ^ 31 by omega)]
      by_cases h3 : mxf q w n ki en a < pcn a
      · rw [if_pos h3, show max (mxf q w n ki en a) (pcn a) = pcn a by omega]
      · rw [if_neg h3, show max (mxf q w n ki en a) (pcn a) = mxf q w n ki en a by omega]
    · rw [if_pos h, if_neg h]
  · unfold X8_greatest_L4
    rw [hS.1, le_p (Nat.le_refl _) (by omega)]
theorem mostOfM {T : Sg} {q w n : Nat} (hqp : q ∈ primes) (hw : w ≤ 6) (hn : n ≤ 10) (e0 : T.1 0 0 = nI q) (e1 : T.1 0 1 = nI w) (e2 : T.1 0 2 = nI n) :
    ∃ T', f_X10_mostOf T = some (nI (mxf q w n (T.1 1) (T.1 4) (2 ^ n)), T') ∧ Fm T T' := by
  have hpw := pw_le hn
  have hpos : 0 < 2 ^ n := Nat.pow_pos (by decide)
  unfold f_X10_mostOf
  have e1' : mxf q w n (T.1 1) (T.1 4) 1 = 0 := by simp [mxf, pcn_0]
  obtain ⟨T', ⟨-, f1⟩, h4⟩ := for3 (F := X10_mostOf_L4) (2 ^ n) (fun i => nI (mxf q w n (T.1 1) (T.1 4) i)) (fun j T1 => 1 ≤ j ∧ Fm T T1) (fun T1 => some (nI (mxf q w n (T.1 1) (T.1 4) (2 ^ n)), T1)) (by
    rintro a T1 ha ⟨hj, f1⟩
    have h1 := mxf_le q w n (T.1 1) (T.1 4) a
    have h2 := pcn_le a
    have hst : ∀ self, X10_mostOf_L4 self (nI (mxf q w n (T.1 1) (T.1 4) a)) (nI a) T1 = if mxf q w n (T.1 1) (T.1 4) a < pcn a then (cl (f_X10_isStanding (nI a) T1) fun r S => if r = 0 then self (nI (mxf q w n (T.1 1) (T.1 4) a)) (nI (a + 1)) S else self (nI (pcn a)) (nI (a + 1)) S) else self (nI (mxf q w n (T.1 1) (T.1 4) a)) (nI (a + 1)) T1 := fun self => by
      unfold X10_mostOf_L4
      rw [f1.2.1 2 (by decide), e2, shl1 (by omega), le_n ha (by omega), many_tab a (by omega), cl1_s]
      simp only [jn_e, bv_e, nI_1, cl1_s]
      by_cases h3 : mxf q w n (T.1 1) (T.1 4) a < pcn a
      · rw [if_pos h3, if_neg (nI_ge h3 (by omega))]
      · rw [if_neg h3, if_pos (nI_le (by omega) (by omega))]
    by_cases h3 : mxf q w n (T.1 1) (T.1 4) a < pcn a
    · obtain ⟨T2, c1, c2⟩ := isStandingM (T := T1) (a := a) hqp hw hn (by omega) (by rw [f1.2.1 0 (by decide), e0]) (by rw [f1.2.1 1 (by decide), e1]) (by rw [f1.2.1 2 (by decide), e2])
      rw [f1.1 1 (by decide) (by decide), f1.1 4 (by decide) (by decide)] at c1
      refine ⟨T2, ⟨by omega, f1.tr c2⟩, fun self => ?_⟩
      rw [hst, if_pos h3, c1, cl_s]
      show _ = self (nI (if st q w n (T.1 1) (T.1 4) a = true then max (mxf q w n (T.1 1) (T.1 4) a) (pcn a) else mxf q w n (T.1 1) (T.1 4) a)) (nI (a + 1)) T2
      by_cases h : st q w n (T.1 1) (T.1 4) a = true
      · rw [b01_t h, if_neg (by decide), if_pos h, show max (mxf q w n (T.1 1) (T.1 4) a) (pcn a) = pcn a by omega]
      · rw [b01_f h, if_pos rfl, if_neg h]
    · refine ⟨T1, ⟨by omega, f1⟩, fun self => ?_⟩
      rw [hst, if_neg h3]
      show _ = self (nI (if st q w n (T.1 1) (T.1 4) a = true then max (mxf q w n (T.1 1) (T.1 4) a) (pcn a) else mxf q w n (T.1 1) (T.1 4) a)) (nI (a + 1)) T1
      split
      · rw [show max (mxf q w n (T.1 1) (T.1 4) a) (pcn a) = mxf q w n (T.1 1) (T.1 4) a by omega]
      · rfl) (by
    rintro T1 ⟨-, f1⟩ self
    unfold X10_mostOf_L4
    rw [f1.2.1 2 (by decide), e2, shl1 (by omega), le_p (Nat.le_refl _) (by omega)]) (i0 := 1) (S0 := T) ⟨Nat.le_refl _, Fm.rf T⟩ hpos (FU_n (by omega))
  refine ⟨T', ?_, f1⟩
  rw [← h4]
  show wp3 X10_mostOf_L4 FU 0 1 T = wp3 X10_mostOf_L4 FU (nI (mxf q w n (T.1 1) (T.1 4) 1)) (nI 1) T
  rw [e1']; rfl
