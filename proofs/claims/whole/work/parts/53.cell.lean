/-! cell, read, load -/
theorem has6C {S : Sg} {k b : Nat} (hb : b ≤ 30) (e : S.1 k 1 = nI b) (a : Int32) : f_X6_has k a S = some (b01 (0 ≤ a.toInt ∧ a.toInt < b)) :=
  rngC (f := fun a => f_X6_has k a S) (k := nI b) (m := b) (by omega) rfl (fun a => by
    show f_X6_has k a S = _
    unfold f_X6_has
    rw [e]) a
theorem wrongM {T : Sg} {s b : Nat} (hs : s < 4) (hb : b ≤ 30) (e : T.1 16 s = nI b) (a : Int32) : f_X10_wrong (nI s) a T = some (if 0 ≤ T.1 15 s then (if 0 ≤ a.toInt ∧ a.toInt < b then 0 else -12) else -11) := by
  unfold f_X10_wrong
  have ew : ((nI b - 1 : Int32).toInt64).toInt = (b : Int) - 1 := by
    rw [Int32.toInt_toInt64]; exact pk_sub_toInt (a := b) (b := 1) (by omega) (by decide)
  have es : (nI s).toInt = (s : Int) := nI_toInt (by omega)
  rw [sheetM, cl1_s, b01_t (by rw [es]; omega), if_neg n10, inb_p hs (by decide), inb_p hs (by decide), ix_nI (by omega), e, in32 a 0 ((b : Int) - 1) (by decide) ew, cl1_s]
  by_cases h1 : 0 ≤ T.1 15 s
  · rw [if_pos h1, if_pos h1]
    by_cases h2 : 0 ≤ a.toInt ∧ a.toInt < b
    · rw [if_pos h2, b01_t (by omega), if_neg n10]
    · rw [if_neg h2, b01_f (by omega), if_pos z00]
  · rw [if_neg h1, if_neg h1]
theorem wrongN {T : Sg} {s a : Int32} (h : ¬ (0 ≤ s.toInt ∧ s.toInt < 4)) : f_X10_wrong s a T = some (-2) := by
  unfold f_X10_wrong
  rw [sheetM, cl1_s, b01_f h, if_pos z00]
theorem sk_t {v : Int32} (h : v = -1 ∨ v = 0 ∨ v = 1) : v = -1 ∨ 0 ≤ v := by
  rcases h with rfl | rfl | rfl
  · exact Or.inl rfl
  · exact Or.inr (by decide)
  · exact Or.inr (by decide)
theorem Rel_cell {S T : Sg} (h : Rel S T) {s i : Nat} (hs : s < 4) (hi : i < 30) (x : Int64) : Rel (sl S (32 + 2 * s + 1) i x) (sl T 17 (30 * s + i) x) := by
  refine Rel_sheet h (fun k hk => ⟨rfl, sl_ne _ _ _ (by omega)⟩) (fun k hk => ⟨rfl, sl_ne _ _ _ (by omega)⟩) (fun s' hs' => ?_)
  obtain ⟨k1, k2, k3, b, hb, k4, k5⟩ := h.2.2.2.1 s' hs'
  rw [sl_1, sl_1, sl_same]
  refine ⟨k1, k2, k3, b, hb, k4, fun j hj => ?_⟩
  by_cases he : s' = s
  · subst he
    rw [show 33 + 2 * s' = 32 + 2 * s' + 1 by omega, sl_same]
    by_cases hj2 : j = i
    · rw [hj2, updL_s, updL_s]
    · rw [updL_n _ _ hj2, updL_n _ _ (by omega)]
      have := k5 j hj
      rw [show 33 + 2 * s' = 32 + 2 * s' + 1 by omega] at this
      exact this
  · rw [sl_ne _ _ _ (by omega), updL_n _ _ (by omega)]
    exact k5 j hj
theorem e_cell {S T : Sg} (h : Rel S T) (a0 : Int32) (a1 : Int32) (a2 : Int64) : ∃ (r : Int32) (S' : Sg) (T' : Sg), f_X9_cell a0 a1 a2 S = some (r, S') ∧ f_X10_cell a0 a1 a2 T = some (r, T') ∧ Rel S' T' := by
  unfold f_X9_cell f_X10_cell
  simp only [jn_e, bv_e]
  rw [sheetC, cl1_s]
  by_cases h1 : 0 ≤ a0.toInt ∧ a0.toInt < 4
  · rw [b01_t h1, if_neg n10]
    obtain ⟨s, hs, rfl⟩ := nI_from (a := a0) (n := 4) ⟨h1.1, by omega⟩
    obtain ⟨k1, k2, k3, b, hb, k4, k5⟩ := h.2.2.2.1 s hs
    rw [inb_p hs (by decide), inb_p hs (by decide), ix_nI (by omega), wrongM hs hb k4, cl1_s, has6C hb (k2.trans k4), cl1_s]
    unfold f_X6_isMissing f_X9_isInt
    rw [k1]
    rcases sk_t k3 with hm | hm
    · rw [if_pos hm, cl1_s, if_neg n10, hm, if_neg (show ¬ (0 : Int32) ≤ -1 by decide), if_neg (show ¬ (-11 : Int32) = 0 by decide)]
      exact ⟨_, _, _, rfl, rfl, h⟩
    · rw [if_neg (fun z => by rw [z] at hm; exact absurd hm (by decide)), cl1_s, if_pos z00, if_pos hm]
      by_cases h2 : 0 ≤ a1.toInt ∧ a1.toInt < b
      · obtain ⟨i, hi, rfl⟩ := nI_from h2
        rw [b01_t h2, if_neg n10, if_pos h2, if_pos z00, m30, inb_p (by omega) (by decide), inb_p (by omega) (by decide), ix_nI (by omega), ix_nI (by omega)]
        by_cases h3 : T.1 15 s = 0
        · rw [if_pos h3, if_pos h3]
          by_cases h4 : lg_cmp a2 a2.toInt32.toInt64 = 0
          · rw [if_pos h4, if_pos h4, cl1_s, if_neg n10]
            exact ⟨_, _, _, rfl, rfl, Rel_cell h hs (by omega) a2⟩
          · rw [if_neg h4, if_neg h4, cl1_s, if_pos z00]
            exact ⟨_, _, _, rfl, rfl, h⟩
        · rw [if_neg h3, if_neg h3]
          exact ⟨_, _, _, rfl, rfl, Rel_cell h hs (by omega) a2⟩
      · rw [b01_f h2, if_pos z00, if_neg h2, if_neg (by decide)]
        exact ⟨_, _, _, rfl, rfl, h⟩
  · rw [b01_f h1, if_pos z00, wrongN h1, cl1_s, if_neg (by decide)]
    exact ⟨_, _, _, rfl, rfl, h⟩
theorem e_read {S T : Sg} (h : Rel S T) (a0 : Int32) (a1 : Int32) : ∃ (r : Int64), f_X9_read a0 a1 S = some r ∧ f_X10_read a0 a1 T = some r ∧ Rel S T := by
  unfold f_X9_read f_X10_read
  rw [sheetC, cl1_s]
  by_cases h1 : 0 ≤ a0.toInt ∧ a0.toInt < 4
  · rw [b01_t h1, if_neg n10]
    obtain ⟨s, hs, rfl⟩ := nI_from (a := a0) (n := 4) ⟨h1.1, by omega⟩
    obtain ⟨k1, k2, k3, b, hb, k4, k5⟩ := h.2.2.2.1 s hs
    rw [inb_p hs (by decide), ix_nI (by omega), wrongM hs hb k4, cl1_s, has6C hb (k2.trans k4), cl1_s]
    unfold f_X6_isMissing
    rw [k1]
    rcases sk_t k3 with hm | hm
    · rw [if_pos hm, cl1_s, if_neg n10, hm, if_neg (show ¬ (0 : Int32) ≤ -1 by decide), if_neg (show ¬ (-11 : Int32) = 0 by decide)]
      exact ⟨_, rfl, rfl, h⟩
    · rw [if_neg (fun z => by rw [z] at hm; exact absurd hm (by decide)), cl1_s, if_pos z00, if_pos hm]
      by_cases h2 : 0 ≤ a1.toInt ∧ a1.toInt < b
      · obtain ⟨i, hi, rfl⟩ := nI_from h2
        rw [b01_t h2, if_neg n10, if_pos h2, if_pos z00, m30, inb_p (by omega) (by decide), inb_p (by omega) (by decide), ix_nI (by omega), ix_nI (by omega)]
        have := k5 i hi
        rw [show 33 + 2 * s = 32 + 2 * s + 1 by omega] at this
        rw [this]
        exact ⟨_, rfl, rfl, h⟩
      · rw [b01_f h2, if_pos z00, if_neg h2, if_neg (by decide)]
        exact ⟨_, rfl, rfl, h⟩
  · rw [b01_f h1, if_pos z00, wrongN h1, cl1_s, if_neg (by decide)]
    exact ⟨_, rfl, rfl, h⟩
theorem lrm100 (x : Int64) : -99 ≤ ((lrm x 100).toInt32).toInt ∧ ((lrm x 100).toInt32).toInt ≤ 99 := by
  have e := lrm_T x (q := 100) (by decide) (by decide)
  rw [show (nI 100).toInt64 = (100 : Int64) by decide] at e
  have hb := tmod_bounds (a := x.toInt) (M := ((100 : Nat) : Int)) (by decide)
  have e2 : ((lrm x 100).toInt32).toInt = x.toInt.tmod ((100 : Nat) : Int) := by
    rw [Int64.toInt_toInt32, e]
    exact Int.bmod_eq_of_le (by omega) (by omega)
  rw [e2]
  omega
theorem loadC {S : Sg} {s p b : Nat} {V : Nat → Int32} (hs : s < 4) (hp : p < 10) (hb : b + 12 ≤ 30) (hV : ∀ i, i < 12 → (lrm (S.2 (32 + 2 * s + 1) (b + i)) 100).toInt32 = V i) : ∃ S', wp2 (X9_load_L62 (nI s) (nI p) (nI b)) FU 0 S = some (12, S') ∧ Fr 5 S S' ∧ ∀ j, S'.1 5 j = if p * 12 ≤ j ∧ j < p * 12 + 12 then V (j - p * 12) else S.1 5 j := by
  obtain ⟨S', ⟨f1, f2⟩, h4⟩ := for2 (F := X9_load_L62 (nI s) (nI p) (nI b)) 12 (fun i S1 => Fr 5 S S1 ∧ ∀ j, S1.1 5 j = if p * 12 ≤ j ∧ j < p * 12 + i then V (j - p * 12) else S.1 5 j) (fun S => some (12, S)) (by
    rintro i S1 hi ⟨f1, f2⟩
    refine ⟨si S1 5 (p * 12 + i) (V i), ⟨Fr_w f1 _ _, fun j => ?_⟩, fun self => ?_⟩
    · by_cases he : j = p * 12 + i
      · rw [he, si_same, upd_s, if_pos (by omega), show p * 12 + i - p * 12 = i by omega]
      · rw [si_same, upd_n _ _ he, f2]
        by_cases hb : p * 12 ≤ j ∧ j < p * 12 + i
        · rw [if_pos hb, if_pos (by omega)]
        · rw [if_neg hb, if_neg (by omega)]
    · unfold X9_load_L62
      rw [ma12, show (12 : Int32) = nI 12 from rfl, le_n hi (by omega), nI_add, inb_p (by omega) (by decide), inb_p (by omega) (by decide), bv_e, bv_e, ix_nI (by omega), ix_nI (by omega), ix_nI (by omega), f1.2, hV i hi, nI_1]) (by
    rintro S1 ⟨f1, -⟩ self
    unfold X9_load_L62
    rw [show (12 : Int32) = nI 12 from rfl, le_p (Nat.le_refl _) (by omega)]) (i0 := 0) (S0 := S) ⟨Fr.rf _ _, fun j => by rw [if_neg (by omega)]⟩ (by omega) (FU_n (by omega))
  exact ⟨S', h4, f1, f2⟩
theorem loadM {T : Sg} {s p b : Nat} {V : Nat → Int32} (hs : s < 4) (hp : p < 10) (hb : b + 12 ≤ 30) (hV : ∀ i, i < 12 → (lrm (T.2 17 (30 * s + b + i)) 100).toInt32 = V i) : ∃ T', wp2 (X10_load_L55 (nI s) (nI p) (nI b)) FU 0 T = some (12, T') ∧ Fr 4 T T' ∧ ∀ j, T'.1 4 j = if p * 12 ≤ j ∧ j < p * 12 + 12 then V (j - p * 12) else T.1 4 j := by
  obtain ⟨S', ⟨f1, f2⟩, h4⟩ := for2 (F := X10_load_L55 (nI s) (nI p) (nI b)) 12 (fun i S1 => Fr 4 T S1 ∧ ∀ j, S1.1 4 j = if p * 12 ≤ j ∧ j < p * 12 + i then V (j - p * 12) else T.1 4 j) (fun S => some (12, S)) (by
    rintro i S1 hi ⟨f1, f2⟩
    refine ⟨si S1 4 (p * 12 + i) (V i), ⟨Fr_w f1 _ _, fun j => ?_⟩, fun self => ?_⟩
    · by_cases he : j = p * 12 + i
      · rw [he, si_same, upd_s, if_pos (by omega), show p * 12 + i - p * 12 = i by omega]
      · rw [si_same, upd_n _ _ he, f2]
        by_cases hb : p * 12 ≤ j ∧ j < p * 12 + i
        · rw [if_pos hb, if_pos (by omega)]
        · rw [if_neg hb, if_neg (by omega)]
    · unfold X10_load_L55
      rw [mm12, m30, show (12 : Int32) = nI 12 from rfl, le_n hi (by omega), nI_add, inb_p (by omega) (by decide), inb_p (by omega) (by decide), bv_e, bv_e, ix_nI (by omega), ix_nI (by omega), f1.2, hV i hi, nI_1]) (by
    rintro S1 ⟨f1, -⟩ self
    unfold X10_load_L55
    rw [show (12 : Int32) = nI 12 from rfl, le_p (Nat.le_refl _) (by omega)]) (i0 := 0) (S0 := T) ⟨Fr.rf _ _, fun j => by rw [if_neg (by omega)]⟩ (by omega) (FU_n (by omega))
  exact ⟨S', h4, f1, f2⟩
theorem e_load {S T : Sg} (h : Rel S T) (a0 : Int32) (a1 : Int32) (a2 : Int32) : ∃ (r : Int32) (S' : Sg) (T' : Sg), f_X9_load a0 a1 a2 S = some (r, S') ∧ f_X10_load a0 a1 a2 T = some (r, T') ∧ Rel S' T' := by
  obtain ⟨q, w, n, hqp, hw1, hw, hn, s0, t0, s1, t1, s2, t2⟩ := h.nums
  unfold f_X9_load f_X10_load
  rw [sheetC, cl1_s, sheetM, cl1_s, hasC s2 hn, cl1_s, isPairM t2 hn, cl1_s]
  by_cases h1 : 0 ≤ a0.toInt ∧ a0.toInt < 4
  · rw [b01_t h1, if_neg n10, if_neg n10]
    by_cases h2 : 0 ≤ a1.toInt ∧ a1.toInt < n
    · rw [b01_t h2, if_neg n10, if_neg n10]
      obtain ⟨s, hs, rfl⟩ := nI_from (a := a0) (n := 4) ⟨h1.1, by omega⟩
      obtain ⟨p, hp, rfl⟩ := nI_from h2
      obtain ⟨k1, k2, k3, b, hb, k4, k5⟩ := h.2.2.2.1 s hs
      have ew : ((nI b - 12 : Int32).toInt) = (b : Int) - 12 := pk_sub_toInt (a := b) (b := 12) (by omega) (by decide)
      have ew2 : ((nI b - 12 : Int32).toInt64).toInt = (b : Int) - 12 := by rw [Int32.toInt_toInt64, ew]
      rw [inb_p hs (by decide), inb_p hs (by decide), inb_p hs (by decide), ix_nI (show s < 2 ^ 31 by omega)]
      unfold f_X6_isMissing
      rw [k1, k2, k4, in32 a2 0 ((b : Int) - 12) (by decide) ew2, cl1_s]
      rcases sk_t k3 with hm | hm
      · rw [if_pos hm, cl1_s, if_neg n10, hm, if_neg (by decide)]
        exact ⟨_, _, _, rfl, rfl, h⟩
      · rw [if_neg (fun z => by rw [z] at hm; exact absurd hm (by decide)), cl1_s, if_pos z00, if_pos hm]
        by_cases h3 : 0 ≤ a2.toInt ∧ a2.toInt ≤ (b : Int) - 12
        · rw [b01_t h3, if_neg n10, if_neg (show ¬ a2 < 0 by rw [i_lt 0 (by decide)]; omega), if_pos (show a2 ≤ nI b - 12 by rw [i_le _ ew]; omega)]
          obtain ⟨c, hc, rfl⟩ := nI_from (a := a2) (n := b) ⟨h3.1, by omega⟩
          rw [nI_toInt (by omega)] at h3
          obtain ⟨S1, c1, c2, c3⟩ := loadC (S := S) (s := s) (p := p) (b := c) (V := fun i => (lrm (T.2 17 (30 * s + c + i)) 100).toInt32) hs (by omega) (by omega) (fun i hi => by
            have := k5 (c + i) (by omega)
            rw [show 33 + 2 * s = 32 + 2 * s + 1 by omega] at this
            rw [this, Nat.add_assoc])
          obtain ⟨T1, d1, d2, d3⟩ := loadM (T := T) (s := s) (p := p) (b := c) (V := fun i => (lrm (T.2 17 (30 * s + c + i)) 100).toInt32) hs (by omega) (by omega) (fun i hi => rfl)
          rw [c1, d1]
          refine ⟨_, _, _, rfl, rfl, ?_⟩
          obtain ⟨m1, m2, m3, m4, m5, m6, m7, m8⟩ := h.1
          refine Rel_main h (fun k hk => ⟨c2.1 k (by omega), by rw [c2.2]⟩) ⟨fun k hk => ⟨d2.1 k (by omega), by rw [d2.2]⟩, by rw [d2.1 0 (by decide)]⟩ ?_ ?_
          · refine ⟨?_, ?_, ?_, ?_, ?_, ?_, ?_, ?_⟩
            · rw [c2.1 1 (by decide), d2.1 0 (by decide), m1]
            · rw [c2.1 1 (by decide), d2.1 0 (by decide), m2]
            · rw [c2.1 1 (by decide), d2.1 0 (by decide), m3]
            · rw [c2.1 2 (by decide), d2.1 1 (by decide), m4]
            · rw [c2.1 3 (by decide), d2.1 2 (by decide), m5]
            · rw [c2.2, d2.2, m6]
            · funext j; rw [c3, d3, m7]
            · rw [c2.1 6 (by decide), d2.1 5 (by decide), m8]
          · obtain ⟨x1, x2, x3, x4, x5, x6, x7⟩ := h.2.1
            rw [d2.1 0 (by decide), d2.1 1 (by decide), d2.1 2 (by decide), d2.1 5 (by decide)]
            refine ⟨x1, x2, x3, x4, x5, fun j hj => ?_, x7⟩
            rw [d3]
            split
            · exact lrm100 _
            · exact x6 j hj
        · rw [b01_f h3, if_pos z00]
          by_cases h4 : a2 < 0
          · rw [if_pos h4]; exact ⟨_, _, _, rfl, rfl, h⟩
          · rw [if_neg h4, if_neg (show ¬ a2 ≤ nI b - 12 by rw [i_lt 0 (by decide)] at h4; rw [i_le _ ew]; omega)]; exact ⟨_, _, _, rfl, rfl, h⟩
    · rw [b01_f h2, if_pos z00, if_pos z00]; exact ⟨_, _, _, rfl, rfl, h⟩
  · rw [b01_f h1, if_pos z00, if_pos z00]; exact ⟨_, _, _, rfl, rfl, h⟩
