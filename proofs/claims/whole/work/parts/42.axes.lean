/-! AXES: how the two ranks go together; how many a SET has -/
noncomputable def rk (w q : Nat) (V : Vc → Prop) : Nat := fb_ct (fun c => @decide (Lset q V c) (Classical.propDecidable _)) w
theorem rk_is (w q : Nat) (V : Vc → Prop) : IsRk w q V (rk w q V) := ⟨_, fun c _ => by simp, rfl⟩
theorem IsRk.eq {w q : Nat} {V : Vc → Prop} {r : Nat} (h : IsRk w q V r) : r = rk w q V := h.uniq (rk_is w q V)
noncomputable def rkA (q w n : Nat) (ki en : Nat → Int32) (a lo : Nat) : Nat := rk w q (Sp w q (GS q w n ki en a lo))
def msk (lo : Nat) (v : Vc) : Vc := fun i => if lo.testBit i = true then 0 else v i
theorem axes_rk {q w n a lo r : Nat} {ki en : Nat → Int32} (hq : 1 < q) (h : IsRk w q (Sp w q (GM q w n ki en a lo)) r) : r = rkA q w n ki en a lo + fb_ct (fun c => lo.testBit c) w := by
  obtain ⟨B, h1, h2⟩ := h
  obtain ⟨B', h3, h4⟩ := rk_is w q (Sp w q (GS q w n ki en a lo))
  -- what the masked rows make is 0 at AXES
  have hz : ∀ u, Sp w q (GS q w n ki en a lo) u → ∀ i, i < w → lo.testBit i = true → (q : Int) ∣ u i := by
    intro u hu
    refine hu (fun u => ∀ i, i < w → lo.testBit i = true → (q : Int) ∣ u i) ⟨fun i _ _ => Int.dvd_zero _, fun u v hu hv i hi hb => Int.dvd_add (hu i hi hb) (hv i hi hb), fun c u hu i hi hb => Int.dvd_trans (hu i hi hb) (Int.dvd_mul_left _ _), fun u v e hu i hi hb => ?_⟩ (fun g hg i hi hb => ?_)
    · have e2 : v i = u i - (u i - v i) := by omega
      rw [e2]; exact Int.dvd_sub (hu i hi hb) (e i hi)
    · obtain ⟨p, row, -, -, -, rfl⟩ := hg
      simp [hb]
  -- a row of all, masked, is made of the masked ones
  have hm : ∀ v, Sp w q (GM q w n ki en a lo) v → Sp w q (GS q w n ki en a lo) (msk lo v) := by
    intro v hv
    refine hv (fun v => Sp w q (GS q w n ki en a lo) (msk lo v)) ⟨?_, fun u v hu hv => ?_, fun c u hu => ?_, fun u v e hu => ?_⟩ (fun g hg => ?_)
    · exact Sp_cg Sp_0 (fun i _ => by unfold msk; simp)
    · exact Sp_cg (Sp_sub2 hu hv 1 1) (fun i _ => by unfold msk; split <;> simp)
    · exact Sp_cg (Sp_sub2 hu hu c 0) (fun i _ => by unfold msk; split <;> simp)
    · refine Sp_cg hu (fun i hi => ?_)
      unfold msk
      split
      · simp
      · exact e i hi
    · rcases hg with ⟨c, hc, hb, rfl⟩ | ⟨p, row, h1, h2, h3, rfl⟩
      · refine Sp_cg Sp_0 (fun i hi => ?_)
        unfold msk
        by_cases he : i = c
        · subst he; simp [hb]
        · simp [he]
      · exact Sp_gen ⟨p, row, h1, h2, h3, rfl⟩
  -- a masked row is made of all
  have hk : ∀ (v : Vc), Sp w q (GM q w n ki en a lo) v → ∀ j, j ≤ w → Sp w q (GM q w n ki en a lo) (fun i => if lo.testBit i = true ∧ i < j then 0 else v i) := by
    intro v hv j
    induction j with
    | zero => intro _; exact Sp_cg hv (fun i _ => by simp)
    | succ j ih =>
      intro hj
      have h5 := ih (by omega)
      by_cases hb : lo.testBit j = true
      · refine Sp_cg (Sp_sub2 h5 (Sp_gen (v := fun i => if i = j then 1 else 0) (Or.inl ⟨j, by omega, hb, rfl⟩)) 1 (-(v j))) (fun i hi => ?_)
        by_cases he : i = j
        · subst he; simp [hb]; rw [Int.add_right_neg]; exact Int.dvd_zero _
        · by_cases h6 : lo.testBit i = true
          · by_cases h7 : i < j
            · simp [h6, h7, he, show i < j + 1 by omega]
            · simp [h6, h7, he, show ¬ i < j + 1 by omega]
          · simp [h6, he]
      · refine Sp_cg h5 (fun i hi => ?_)
        by_cases h6 : lo.testBit i = true
        · have : i ≠ j := fun z => hb (by rw [← z]; exact h6)
          by_cases h7 : i < j
          · simp [h6, h7, show i < j + 1 by omega]
          · simp [h6, h7, show ¬ i < j + 1 by omega]
        · simp [h6]
  have hs : ∀ u, Sp w q (GS q w n ki en a lo) u → Sp w q (GM q w n ki en a lo) u := by
    intro u hu
    refine Sp_mono (fun g hg => ?_) hu
    obtain ⟨p, row, h1, h2, h3, rfl⟩ := hg
    refine Sp_cg (hk _ (Sp_gen (Or.inr ⟨p, row, h1, h2, h3, rfl⟩)) w (Nat.le_refl _)) (fun i hi => ?_)
    by_cases hb : lo.testBit i = true
    · simp [hb, hi]
    · simp [hb]
  have key : ∀ c, c < w → (B c = true ↔ (lo.testBit c = true ∨ B' c = true)) := by
    intro c hc
    rw [h1 c hc, h3 c hc]
    constructor
    · rintro ⟨v, hv, l1, l2⟩
      by_cases hb : lo.testBit c = true
      · exact Or.inl hb
      · refine Or.inr ⟨msk lo v, hm v hv, fun i hi => ?_, ?_⟩
        · unfold msk
          split
          · exact Int.dvd_zero _
          · exact l1 i hi
        · unfold msk; rw [if_neg hb]; exact l2
    · rintro (hb | ⟨u, hu, l1, l2⟩)
      · refine ⟨fun i => if i = c then 1 else 0, Sp_gen (Or.inl ⟨c, hc, hb, rfl⟩), fun i hi => ?_, ?_⟩
        · simp [show i ≠ c by omega]
        · simp only [if_true]
          exact ndvd (a := 1) hq (by decide)
      · exact ⟨u, hs u hu, l1, l2⟩
  have hdis : ∀ c, c < w → ¬ (B' c = true ∧ lo.testBit c = true) := by
    rintro c hc ⟨hb', hb⟩
    obtain ⟨u, hu, -, l2⟩ := (h3 c hc).mp hb'
    exact l2 (hz u hu c hc hb)
  unfold rkA
  rw [h2, h4, ← fb_ct_or hdis]
  refine fb_ct_cong (fun c hc => ?_)
  have := key c hc
  cases hb : B c <;> cases hb' : B' c <;> cases hl : lo.testBit c <;> simp_all
def pcn (a : Nat) : Nat := fb_ct (fun i => a.testBit i) 10
set_option maxRecDepth 100000 in
theorem bitCount_tab : ∀ a, a < 1024 → f_J6_bitCount_0f7a4 (nI a) = some (nI (pcn a)) := by decide +kernel
set_option maxRecDepth 100000 in
theorem many_tab : ∀ a, a < 1024 → f_X10_many (nI a) = some (nI (pcn a)) := by decide +kernel
theorem pcn_le (a : Nat) : pcn a ≤ 10 := fb_ct_le _ _
theorem pcn_w {lo w : Nat} (hw : w ≤ 10) (h : lo < 2 ^ w) : fb_ct (fun c => lo.testBit c) w = pcn lo := by
  unfold pcn
  obtain ⟨d, e⟩ : ∃ d, 10 = w + d := ⟨10 - w, by omega⟩
  have hz : fb_ct (fun k => lo.testBit (w + k)) d = 0 := fb_ct_zero.mpr (fun k _ => Nat.testBit_lt_two_pow (Nat.lt_of_lt_of_le h (Nat.pow_le_pow_right (by decide) (by omega))))
  rw [e, fb_ct_split, hz]
  rfl
theorem rankC {S : Sg} {q w n a lo : Nat} {ki en : Nat → Int32} (hF : Filled S q w n ki en) (hqp : q ∈ primes) (hw : w ≤ 6) (hn : n ≤ 10) (ha : a < 2 ^ 31) (hlo : lo < 64) :
    ∃ S', f_X5_rankOf (nI a) (nI lo) S = some (nI (rkA q w n ki en a lo), S') ∧ (∀ k, ¬ (15 ≤ k ∧ k ≤ 18) → S'.1 k = S.1 k) ∧ S'.2 = S.2 := by
  obtain ⟨r, S', h1, h2, h3, h4⟩ := rankOfC hF hqp hw hn ha hlo
  rw [h2.eq] at h1
  exact ⟨S', h1, h3, h4⟩
theorem rankM {T : Sg} {q w n a lo : Nat} (hqp : q ∈ primes) (hw : w ≤ 6) (hn : n ≤ 10) (ha : a < 2 ^ 31) (hlo : lo < 2 ^ w) (e0 : T.1 0 0 = nI q) (e1 : T.1 0 1 = nI w) (e2 : T.1 0 2 = nI n) :
    ∃ T', f_X10_rankOf (nI a) (nI lo) T = some (nI (rkA q w n (T.1 1) (T.1 4) a lo + pcn lo), T') ∧ Fm T T' := by
  have hl : lo < 64 := Nat.lt_of_lt_of_le hlo (show 2 ^ w ≤ 2 ^ 6 from Nat.pow_le_pow_right (by decide) hw)
  obtain ⟨r, T', h1, h2, h3⟩ := rankOfM hqp hw hn ha hl e0 e1 e2
  have := primes_b hqp
  rw [axes_rk (by omega) h2, pcn_w (by omega) hlo] at h1
  exact ⟨T', h1, h3⟩
theorem rkA_le (q w n : Nat) (ki en : Nat → Int32) (a lo : Nat) : rkA q w n ki en a lo ≤ w := (rk_is w q _).le
theorem pcn_0 : pcn 0 = 0 := by decide
