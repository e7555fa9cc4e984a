/-! SETS that STAND -/
theorem ct_le1 {D : Nat → Bool} : ∀ {n : Nat}, (∀ i j, i < n → j < n → D i = true → D j = true → i = j) → fb_ct D n ≤ 1
  | 0, _ => by simp [fb_ct]
  | n + 1, h => by
    rw [fb_ct_succ]
    by_cases hD : D n = true
    · have : fb_ct D n = 0 := fb_ct_zero.mpr (fun k hk => by
        cases hk2 : D k
        · rfl
        · have := h k n (by omega) (by omega) hk2 hD
          omega)
      rw [this, if_pos hD]
      exact Nat.le_refl _
    · rw [if_neg hD]
      exact ct_le1 (fun i j hi hj => h i j (by omega) (by omega))
/-- one row more: RANK grows by one at the most -/
theorem rk_add {w q : Nat} {G : Vc → Prop} {r : Vc} (hp : PrimeQ q) : rk w q (Sp w q (fun v => G v ∨ v = r)) ≤ rk w q (Sp w q G) + 1 := by
  obtain ⟨B, h1, h2⟩ := rk_is w q (Sp w q (fun v => G v ∨ v = r))
  obtain ⟨B', h3, h4⟩ := rk_is w q (Sp w q G)
  have hrep : ∀ v, Sp w q (fun v => G v ∨ v = r) v → ∃ (u : Vc) (α : Int), Sp w q G u ∧ ∀ i, i < w → (q : Int) ∣ v i - (u i + α * r i) := by
    intro v hv
    refine hv (fun v => ∃ (u : Vc) (α : Int), Sp w q G u ∧ ∀ i, i < w → (q : Int) ∣ v i - (u i + α * r i)) ⟨⟨fun _ => 0, 0, Sp_0, fun i _ => by simp⟩, ?_, ?_, ?_⟩ ?_
    · rintro u v ⟨u1, a1, s1, e1⟩ ⟨u2, a2, s2, e2⟩
      refine ⟨fun i => u1 i + u2 i, a1 + a2, (Sp_Sub w q G).2.1 _ _ s1 s2, fun i hi => ?_⟩
      have e : u i + v i - (u1 i + u2 i + (a1 + a2) * r i) = (u i - (u1 i + a1 * r i)) + (v i - (u2 i + a2 * r i)) := by rw [Int.add_mul]; omega
      rw [e]; exact Int.dvd_add (e1 i hi) (e2 i hi)
    · rintro c u ⟨u1, a1, s1, e1⟩
      refine ⟨fun i => c * u1 i, c * a1, (Sp_Sub w q G).2.2.1 _ _ s1, fun i hi => ?_⟩
      have e : c * u i - (c * u1 i + c * a1 * r i) = c * (u i - (u1 i + a1 * r i)) := by rw [Int.mul_sub, Int.mul_add, Int.mul_assoc]
      rw [e]; exact Int.dvd_trans (e1 i hi) (Int.dvd_mul_left _ _)
    · rintro u v e ⟨u1, a1, s1, e1⟩
      refine ⟨u1, a1, s1, fun i hi => ?_⟩
      have e2 : v i - (u1 i + a1 * r i) = (u i - (u1 i + a1 * r i)) - (u i - v i) := by omega
      rw [e2]; exact Int.dvd_sub (e1 i hi) (e i hi)
    · rintro g (hg | rfl)
      · exact ⟨g, 0, Sp_gen hg, fun i _ => by simp⟩
      · exact ⟨fun _ => 0, 1, Sp_0, fun i _ => by simp⟩
  have hsub : ∀ c, c < w → B' c = true → B c = true := fun c hc hb => by
    obtain ⟨v, hv, l1, l2⟩ := (h3 c hc).mp hb
    exact (h1 c hc).mpr ⟨v, Sp_mono (fun g hg => Sp_gen (Or.inl hg)) hv, l1, l2⟩
  have hone : ∀ c d, c < d → d < w → B c = true → B d = true → B' c = false → B' d = false → False := by
    intro c d hcd hd hc1 hd1 hc2 hd2
    obtain ⟨v1, s1, l1, n1⟩ := (h1 c (by omega)).mp hc1
    obtain ⟨v2, s2, l2, n2⟩ := (h1 d hd).mp hd1
    obtain ⟨u1, a1, t1, e1⟩ := hrep v1 s1
    obtain ⟨u2, a2, t2, e2⟩ := hrep v2 s2
    by_cases ha2 : (q : Int) ∣ a2
    · -- v2 is made without r
      have : Lset q (Sp w q G) d := ⟨v2, Sp_cg t2 (fun i hi => by
        obtain ⟨k, hk⟩ := e2 i hi
        obtain ⟨m, hm⟩ := ha2
        refine ⟨-k - m * r i, ?_⟩
        rw [hm, Int.mul_assoc] at hk
        rw [Int.mul_sub, Int.mul_neg]
        omega), l2, n2⟩
      rw [(h3 d hd).mpr this] at hd2; cases hd2
    · have : Lset q (Sp w q G) c := by
        refine ⟨fun i => a2 * v1 i - a1 * v2 i, Sp_cg (Sp_sub2 t1 t2 a2 (-a1)) (fun i hi => ?_), fun i hi => ?_, ?_⟩
        · obtain ⟨k1, hk1⟩ := e1 i hi
          obtain ⟨k2, hk2⟩ := e2 i hi
          refine ⟨-(a2 * k1) + a1 * k2, ?_⟩
          have q1 : v1 i = q * k1 + u1 i + a1 * r i := by omega
          have q2 : v2 i = q * k2 + u2 i + a2 * r i := by omega
          rw [q1, q2, Int.mul_add, Int.mul_add, Int.mul_add, Int.mul_add, Int.mul_add, Int.neg_mul, Int.mul_neg, Int.mul_left_comm a2 (q : Int) k1, Int.mul_left_comm a1 (q : Int) k2, Int.mul_left_comm a2 a1 (r i)]
          omega
        · exact Int.dvd_sub (Int.dvd_trans (l1 i hi) (Int.dvd_mul_left _ _)) (Int.dvd_trans (l2 i (by omega)) (Int.dvd_mul_left _ _))
        · intro hz
          have h5 : (q : Int) ∣ a2 * v1 c := by
            have e : a2 * v1 c = (a2 * v1 c - a1 * v2 c) + a1 * v2 c := by omega
            rw [e]; exact Int.dvd_add hz (Int.dvd_trans (l2 c hcd) (Int.dvd_mul_left _ _))
          rcases hp.1 _ _ h5 with h6 | h6
          · exact ha2 h6
          · exact n1 h6
      rw [(h3 c (by omega)).mpr this] at hc2; cases hc2
  have hD : fb_ct (fun c => B c && !B' c) w ≤ 1 := ct_le1 (fun i j hi hj h5 h6 => by
    simp only [Bool.and_eq_true, Bool.not_eq_true'] at h5 h6
    rcases Nat.lt_trichotomy i j with h | h | h
    · exact (hone i j h hj h5.1 h6.1 h5.2 h6.2).elim
    · exact h
    · exact (hone j i h hi h6.1 h5.1 h6.2 h5.2).elim)
  have hsum : fb_ct B w = fb_ct (fun c => B' c || (B c && !B' c)) w := fb_ct_cong (fun c hc => by
    have := hsub c hc
    cases hb : B c <;> cases hb' : B' c <;> simp_all)
  rw [h2, h4, hsum, fb_ct_or (fun c _ => by cases B c <;> cases B' c <;> simp)]
  omega
noncomputable def st (q w n : Nat) (ki en : Nat → Int32) (a : Nat) : Bool := decide (2 * pcn a ≤ w) && decide (rkA q w n ki en a 0 = 2 * pcn a)
theorem st_iff {q w n : Nat} {ki en : Nat → Int32} {a : Nat} : st q w n ki en a = true ↔ 2 * pcn a ≤ w ∧ rkA q w n ki en a 0 = 2 * pcn a := by simp [st]
theorem rkA_0 (q w n : Nat) (ki en : Nat → Int32) : rkA q w n ki en 0 0 = 0 := by
  have h : IsRk w q (Sp w q (GS q w n ki en 0 0)) 0 := by
    refine ⟨fun _ => false, fun c hc => ?_, ?_⟩
    · refine ⟨(fun h => by cases h), fun ⟨v, hv, l1, l2⟩ => ?_⟩
      exact (l2 (hv (fun v => ∀ i, i < w → (q : Int) ∣ v i) ⟨fun i _ => Int.dvd_zero _, fun u v hu hv i hi => Int.dvd_add (hu i hi) (hv i hi), fun c u hu i hi => Int.dvd_trans (hu i hi) (Int.dvd_mul_left _ _), fun u v e hu i hi => by
        have e2 : v i = u i - (u i - v i) := by omega
        rw [e2]; exact Int.dvd_sub (hu i hi) (e i hi)⟩ (fun g hg => by obtain ⟨p, row, -, h, -⟩ := hg; simp at h) c hc)).elim
    · exact (fb_ct_zero.mpr (fun _ _ => rfl)).symm
  exact h.eq.symm
set_option maxRecDepth 100000 in
theorem low_tab : ∀ a, a < 1024 → a ≠ 0 → (List.range 10).any (fun p => a.testBit p && ((List.range 10).all (fun p' => (a &&& (a - 1)).testBit p' == (a.testBit p' && !(p' == p))) && (pcn (a &&& (a - 1)) + 1 == pcn a))) = true := by decide +kernel
theorem and_lt {a b n : Nat} (h : a < n) : a &&& b < n := Nat.lt_of_le_of_lt Nat.and_le_left h
theorem st_low {q w n : Nat} {ki en : Nat → Int32} {a : Nat} (hp : PrimeQ q) (ha : a < 1024) (hn : n ≤ 10) (h0 : a ≠ 0) (h : st q w n ki en a = true) : st q w n ki en (a &&& (a - 1)) = true := by
  obtain ⟨p, hpr, h1⟩ := List.any_eq_true.mp (low_tab a ha h0)
  rw [Bool.and_eq_true, Bool.and_eq_true] at h1
  obtain ⟨h1, h2, h3⟩ := h1
  have h3 : pcn (a &&& (a - 1)) + 1 = pcn a := by simpa using h3
  have h2 : ∀ p', p' < 10 → (a &&& (a - 1)).testBit p' = (a.testBit p' && !(p' == p)) := fun p' hp' => by
    have := List.all_eq_true.mp h2 p' (List.mem_range.mpr hp')
    simpa using this
  obtain ⟨s1, s2⟩ := st_iff.mp h
  rw [st_iff]
  refine ⟨by omega, ?_⟩
  -- RANK grows by two at the most
  have hle : rkA q w n ki en a 0 ≤ rkA q w n ki en (a &&& (a - 1)) 0 + 2 := by
    have e : ∀ v, Sp w q (GS q w n ki en a 0) v → Sp w q (fun v => (GS q w n ki en (a &&& (a - 1)) 0 v ∨ v = fun i => ((rv q ki en p 0 i : Nat) : Int)) ∨ v = fun i => ((rv q ki en p 1 i : Nat) : Int)) v := fun v => Sp_mono (fun g hg => Sp_gen (by
      obtain ⟨p', row, g1, g2, g3, rfl⟩ := hg
      by_cases he : p' = p
      · subst he
        rcases (show row = 0 ∨ row = 1 by omega) with rfl | rfl
        · exact Or.inl (Or.inr (by simp))
        · exact Or.inr (by simp)
      · exact Or.inl (Or.inl ⟨p', row, g1, by rw [h2 p' (by omega), g2]; simp [he], g3, rfl⟩)))
    have m1 := rk_add (w := w) (G := fun v => GS q w n ki en (a &&& (a - 1)) 0 v ∨ v = fun i => ((rv q ki en p 0 i : Nat) : Int)) (r := fun i => ((rv q ki en p 1 i : Nat) : Int)) hp
    have m2 := rk_add (w := w) (G := GS q w n ki en (a &&& (a - 1)) 0) (r := fun i => ((rv q ki en p 0 i : Nat) : Int)) hp
    have m3 : rk w q (Sp w q (GS q w n ki en a 0)) ≤ rk w q (Sp w q (fun v => (GS q w n ki en (a &&& (a - 1)) 0 v ∨ v = fun i => ((rv q ki en p 0 i : Nat) : Int)) ∨ v = fun i => ((rv q ki en p 1 i : Nat) : Int))) := by
      refine fb_ct_sub (fun c _ hc => ?_)
      simp only [decide_eq_true_eq] at hc ⊢
      obtain ⟨v, hv, l1, l2⟩ := hc
      exact ⟨v, e v hv, l1, l2⟩
    unfold rkA
    omega
  -- and it can't be more than the rows are
  have hup : ∀ b, b < 1024 → rkA q w n ki en b 0 ≤ 2 * pcn b := by
    intro b
    induction b using Nat.strongRecOn with
    | _ b ih =>
      intro hb
      by_cases hb0 : b = 0
      · subst hb0
        have := rkA_0 q w n ki en
        omega
      · obtain ⟨p, hpr, h1⟩ := List.any_eq_true.mp (low_tab b hb hb0)
        rw [Bool.and_eq_true, Bool.and_eq_true] at h1
        obtain ⟨h1, h2, h3⟩ := h1
        have h3 : pcn (b &&& (b - 1)) + 1 = pcn b := by simpa using h3
        have h2 : ∀ p', p' < 10 → (b &&& (b - 1)).testBit p' = (b.testBit p' && !(p' == p)) := fun p' hp' => by
          have := List.all_eq_true.mp h2 p' (List.mem_range.mpr hp')
          simpa using this
        have hlt : b &&& (b - 1) < b := Nat.lt_of_le_of_lt Nat.and_le_right (by omega)
        have hi := ih _ hlt (by omega)
        have e : ∀ v, Sp w q (GS q w n ki en b 0) v → Sp w q (fun v => (GS q w n ki en (b &&& (b - 1)) 0 v ∨ v = fun i => ((rv q ki en p 0 i : Nat) : Int)) ∨ v = fun i => ((rv q ki en p 1 i : Nat) : Int)) v := fun v => Sp_mono (fun g hg => Sp_gen (by
          obtain ⟨p', row, g1, g2, g3, rfl⟩ := hg
          by_cases he : p' = p
          · subst he
            rcases (show row = 0 ∨ row = 1 by omega) with rfl | rfl
            · exact Or.inl (Or.inr (by simp))
            · exact Or.inr (by simp)
          · exact Or.inl (Or.inl ⟨p', row, g1, by rw [h2 p' (by omega), g2]; simp [he], g3, rfl⟩)))
        have m1 := rk_add (w := w) (G := fun v => GS q w n ki en (b &&& (b - 1)) 0 v ∨ v = fun i => ((rv q ki en p 0 i : Nat) : Int)) (r := fun i => ((rv q ki en p 1 i : Nat) : Int)) hp
        have m2 := rk_add (w := w) (G := GS q w n ki en (b &&& (b - 1)) 0) (r := fun i => ((rv q ki en p 0 i : Nat) : Int)) hp
        have m3 : rk w q (Sp w q (GS q w n ki en b 0)) ≤ rk w q (Sp w q (fun v => (GS q w n ki en (b &&& (b - 1)) 0 v ∨ v = fun i => ((rv q ki en p 0 i : Nat) : Int)) ∨ v = fun i => ((rv q ki en p 1 i : Nat) : Int))) := by
          refine fb_ct_sub (fun c _ hc => ?_)
          simp only [decide_eq_true_eq] at hc ⊢
          obtain ⟨v, hv, l1, l2⟩ := hc
          exact ⟨v, e v hv, l1, l2⟩
        unfold rkA at hi ⊢
        omega
  have := hup (a &&& (a - 1)) (and_lt ha)
  omega
theorem st_0 {q w n : Nat} {ki en : Nat → Int32} : st q w n ki en 0 = true := by
  rw [st_iff, pcn_0]
  exact ⟨by omega, rkA_0 q w n ki en⟩
theorem isStandingC {S : Sg} {q w n a : Nat} {ki en : Nat → Int32} (hF : Filled S q w n ki en) (hqp : q ∈ primes) (hw : w ≤ 6) (hn : n ≤ 10) (ha : a < 1024) :
    ∃ S', f_X5_isStanding (nI a) S = some (b01 (st q w n ki en a = true), S') ∧ (∀ k, ¬ (15 ≤ k ∧ k ≤ 18) → S'.1 k = S.1 k) ∧ S'.2 = S.2 := by
  have hpc := pcn_le a
  have hrk := rkA_le q w n ki en a 0
  unfold f_X5_isStanding
  rw [bitCount_tab a ha, cl1_s, bv_e, hF.2.1, show (2 : Int32) = nI 2 from rfl, pk_mul]
  by_cases h1 : w < 2 * pcn a
  · rw [if_pos (nI_lt h1 (by omega)), b01_f (fun h => by rw [st_iff] at h; omega)]
    exact ⟨S, rfl, fun _ _ => rfl, rfl⟩
  · rw [if_neg (nI_nlt (by omega) (by omega))]
    obtain ⟨S', c1, c2, c3⟩ := rankC (a := a) (lo := 0) hF hqp hw hn (by omega) (by decide)
    rw [show (0 : Int32) = nI 0 from rfl, c1, cl_s]
    refine ⟨S', ?_, c2, c3⟩
    by_cases h2 : rkA q w n ki en a 0 = 2 * pcn a
    · rw [if_pos (by rw [h2]), b01_t (by rw [st_iff]; omega)]
    · rw [if_neg (fun z => h2 ((nI_eq (by omega) (by omega)).mp z)), b01_f (fun h => by rw [st_iff] at h; omega)]; rfl
theorem isStandingM {T : Sg} {q w n a : Nat} (hqp : q ∈ primes) (hw : w ≤ 6) (hn : n ≤ 10) (ha : a < 1024) (e0 : T.1 0 0 = nI q) (e1 : T.1 0 1 = nI w) (e2 : T.1 0 2 = nI n) :
    ∃ T', f_X10_isStanding (nI a) T = some (b01 (st q w n (T.1 1) (T.1 4) a = true), T') ∧ Fm T T' := by
  have hpc := pcn_le a
  have hrk := rkA_le q w n (T.1 1) (T.1 4) a 0
  unfold f_X10_isStanding
  rw [many_tab a ha, cl1_s, e1, show (2 : Int32) = nI 2 from rfl, pk_mul]
  by_cases h1 : w < 2 * pcn a
  · rw [if_pos (nI_lt h1 (by omega)), b01_f (fun h => by rw [st_iff] at h; omega)]
    exact ⟨T, rfl, Fm.rf T⟩
  · rw [if_neg (nI_nlt (by omega) (by omega))]
    obtain ⟨T', c1, c2⟩ := rankM (a := a) (lo := 0) hqp hw hn (by omega) (Nat.pow_pos (by decide)) e0 e1 e2
    rw [pcn_0, Nat.add_zero] at c1
    rw [show (0 : Int32) = nI 0 from rfl, c1, cl_s]
    refine ⟨T', ?_, c2⟩
    rw [cl1_s, pk_mul]
    by_cases h2 : rkA q w n (T.1 1) (T.1 4) a 0 = 2 * pcn a
    · rw [if_pos (by rw [h2]), b01_t (by rw [st_iff]; omega)]
    · rw [if_neg (fun z => h2 ((nI_eq (by omega) (by omega)).mp z)), b01_f (fun h => by rw [st_iff] at h; omega)]; rfl
