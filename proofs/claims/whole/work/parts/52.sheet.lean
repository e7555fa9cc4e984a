/-! sheet, cell, read, load -/
theorem MD.agr {S T S' T' : Sg} (h : Rel S T) (hS : ∀ k, 1 ≤ k → k ≤ 6 → S'.1 k = S.1 k ∧ S'.2 k = S.2 k) (hT : ∀ k, 1 ≤ k → k ≤ 5 → T'.1 k = T.1 k ∧ T'.2 k = T.2 k) (h0 : ∀ j, j < 3 → T'.1 0 j = T.1 0 j) : MainRel S' T' ∧ Dat (T'.1 0 0) (T'.1 0 1) (T'.1 0 2) (T'.1 1) (T'.1 2) (T'.1 4) (T'.1 5) := by
  obtain ⟨hm, hd, -⟩ := h
  unfold MainRel at hm ⊢
  rw [(hS 1 (by decide) (by decide)).1, (hS 2 (by decide) (by decide)).1, (hS 3 (by decide) (by decide)).1, (hS 4 (by decide) (by decide)).2, (hS 5 (by decide) (by decide)).1, (hS 6 (by decide) (by decide)).1, h0 0 (by decide), h0 1 (by decide), h0 2 (by decide), (hT 1 (by decide) (by decide)).1, (hT 2 (by decide) (by decide)).1, (hT 3 (by decide) (by decide)).2, (hT 4 (by decide) (by decide)).1, (hT 5 (by decide) (by decide)).1]
  exact ⟨hm, hd⟩
theorem KeptRel.agr {S T S' T' : Sg} (hk : KeptRel S T) (hS : ∀ k, (k = 0 ∨ (7 ≤ k ∧ k ≤ 12)) → S'.1 k = S.1 k ∧ S'.2 k = S.2 k) (t1 : T'.1 0 24 = T.1 0 24) (t2 : T'.1 18 = T.1 18) (t3 : T'.2 19 = T.2 19) : KeptRel S' T' := by
  unfold KeptRel at hk ⊢
  rw [(hS 0 (by omega)).1, (hS 7 (by omega)).1, (hS 8 (by omega)).1, (hS 9 (by omega)).1, (hS 10 (by omega)).2, (hS 11 (by omega)).1, (hS 12 (by omega)).1, t1, t2, t3]
  exact hk
theorem HandRel.agr {S T S' T' : Sg} (hh : HandRel S T) (hS : ∀ k, 41 ≤ k → k ≤ 48 → S'.1 k = S.1 k) (hT : ∀ k, 10 ≤ k → k ≤ 14 → T'.1 k = T.1 k) : HandRel S' T' := by
  intro s hs4
  have := hh s hs4
  rw [hS (41 + 2 * s) (by omega) (by omega), hS (42 + 2 * s) (by omega) (by omega), hT 10 (by omega) (by omega), hT 11 (by omega) (by omega), hT 12 (by omega) (by omega), hT 13 (by omega) (by omega), hT 14 (by omega) (by omega)]
  exact this
theorem SheetRel.agr {S T S' T' : Sg} (hs : SheetRel S T) (hS : ∀ k, 32 ≤ k → k ≤ 39 → S'.1 k = S.1 k ∧ S'.2 k = S.2 k) (hT : ∀ k, 15 ≤ k → k ≤ 17 → T'.1 k = T.1 k ∧ T'.2 k = T.2 k) : SheetRel S' T' := by
  intro s hs4
  have := hs s hs4
  rw [(hS (32 + 2 * s) (by omega) (by omega)).1, (hS (33 + 2 * s) (by omega) (by omega)).2, (hT 15 (by omega) (by omega)).1, (hT 16 (by omega) (by omega)).1, (hT 17 (by omega) (by omega)).2]
  exact this
theorem Rel_sheet {S T S' T' : Sg} (h : Rel S T) (hS : ∀ k, (k ≤ 12 ∨ 40 ≤ k) → S'.1 k = S.1 k ∧ S'.2 k = S.2 k) (hT : ∀ k, (k ≤ 14 ∨ 18 ≤ k) → T'.1 k = T.1 k ∧ T'.2 k = T.2 k) (hs : SheetRel S' T') : Rel S' T' := by
  obtain ⟨a, b⟩ := MD.agr h (fun k _ _ => hS k (by omega)) (fun k _ _ => hT k (by omega)) (fun j _ => by rw [(hT 0 (by omega)).1])
  exact ⟨a, b, h.2.2.1.agr (fun k hk => hS k (by omega)) (by rw [(hT 0 (by omega)).1]) (hT 18 (by omega)).1 (hT 19 (by omega)).2, hs, h.2.2.2.2.agr (fun k _ _ => (hS k (by omega)).1) (fun k _ _ => (hT k (by omega)).1)⟩
theorem becomeC {S : Sg} {k m : Nat} {a : Int32} (hm : m ≤ 30) : ∃ S', f_X6_become k a (nI m) S = some S' ∧ S'.1 = (si (si S k 0 a) k 1 (nI m)).1 ∧ (∀ j, j ≠ k + 1 → S'.2 j = S.2 j) ∧ ∀ i, i < m → S'.2 (k + 1) i = 0 := by
  unfold f_X6_become
  rw [bv_e, bv_e]
  generalize hS2 : si (si S k 0 a) k 1 (nI m) = S2
  have z1 : S2.1 k 1 = nI m := by rw [← hS2, si_same, upd_s]
  have z2 : S2.2 = S.2 := by rw [← hS2]; rfl
  obtain ⟨S', ⟨f1, f2, f3⟩, h4⟩ := for2 (F := X6_become_L12 k) m (fun j S1 => S1.1 = S2.1 ∧ (∀ a, a ≠ k + 1 → S1.2 a = S2.2 a) ∧ ∀ i, i < j → S1.2 (k + 1) i = 0) (fun S => some S) (by
    rintro i S1 hi ⟨f1, f2, f3⟩
    refine ⟨sl S1 (k + 1) i 0, ⟨f1, fun a ha => by rw [sl_ne _ _ _ ha]; exact f2 a ha, fun j hj => ?_⟩, fun self => ?_⟩
    · by_cases he : j = i
      · rw [he, sl_same, updL_s]
      · rw [sl_same, updL_n _ _ he]; exact f3 j (by omega)
    · unfold X6_become_L12
      rw [f1, z1, le_n hi (by omega), inb_p (by omega) (by decide), bv_e, bv_e, ix_nI (by omega), nI_1]) (by
    rintro S1 ⟨f1, -⟩ self
    unfold X6_become_L12
    rw [f1, z1, le_p (Nat.le_refl _) (by omega)]) (i0 := 0) (S0 := S2) ⟨rfl, fun _ _ => rfl, fun _ h => by omega⟩ (by omega) (FU_n (by omega))
  exact ⟨S', h4, f1, fun j hj => by rw [f2 j hj, z2], f3⟩
theorem m30 (s i : Nat) : 30 * nI s + nI i = nI (30 * s + i) := by rw [show (30 : Int32) = nI 30 from rfl, pk_mul, nI_add]
theorem sheetZ {T : Sg} {s : Nat} (hs : s < 4) : ∃ T', wp2 (X10_sheet_L68 (nI s)) FU 0 T = some (1, T') ∧ T'.1 = T.1 ∧ (∀ j, j ≠ 17 → T'.2 j = T.2 j) ∧ ∀ j, T'.2 17 j = if 30 * s ≤ j ∧ j < 30 * s + 30 then 0 else T.2 17 j := by
  obtain ⟨S', ⟨f1, f2, f3⟩, h4⟩ := for2 (F := X10_sheet_L68 (nI s)) 30 (fun i S1 => S1.1 = T.1 ∧ (∀ a, a ≠ 17 → S1.2 a = T.2 a) ∧ ∀ j, S1.2 17 j = if 30 * s ≤ j ∧ j < 30 * s + i then 0 else T.2 17 j) (fun S => some (1, S)) (by
    rintro i S1 hi ⟨f1, f2, f3⟩
    refine ⟨sl S1 17 (30 * s + i) 0, ⟨f1, fun a ha => by rw [sl_ne _ _ _ ha]; exact f2 a ha, fun j => ?_⟩, fun self => ?_⟩
    · by_cases he : j = 30 * s + i
      · rw [he, sl_same, updL_s, if_pos (by omega)]
      · rw [sl_same, updL_n _ _ he, f3]
        by_cases hb : 30 * s ≤ j ∧ j < 30 * s + i
        · rw [if_pos hb, if_pos (by omega)]
        · rw [if_neg hb, if_neg (by omega)]
    · unfold X10_sheet_L68
      rw [m30, show (30 : Int32) = nI 30 from rfl, le_n hi (by omega), inb_p (by omega) (by decide), bv_e, bv_e, ix_nI (by omega), nI_1]) (by
    rintro S1 ⟨f1, -⟩ self
    unfold X10_sheet_L68
    rw [show (30 : Int32) = nI 30 from rfl, le_p (Nat.le_refl _) (by omega)]) (i0 := 0) (S0 := T) ⟨rfl, fun _ _ => rfl, fun j => by rw [if_neg (by omega)]⟩ (by omega) (FU_n (by omega))
  exact ⟨S', h4, f1, f2, f3⟩
theorem sheetStep {S T S' T' : Sg} (h : Rel S T) {s m : Nat} {a : Int32} (hs : s < 4) (hm : m ≤ 30) (ha : a = -1 ∨ a = 0 ∨ a = 1)
    (c1 : S'.1 = (si (si S (32 + 2 * s) 0 a) (32 + 2 * s) 1 (nI m)).1) (c2 : ∀ j, j ≠ 32 + 2 * s + 1 → S'.2 j = S.2 j) (c3 : ∀ i, i < m → S'.2 (32 + 2 * s + 1) i = 0)
    (d1 : T'.1 = (si (si T 15 s a) 16 s (nI m)).1) (d2 : ∀ j, j ≠ 17 → T'.2 j = T.2 j) (d3 : ∀ j, T'.2 17 j = if 30 * s ≤ j ∧ j < 30 * s + 30 then 0 else T.2 17 j) : Rel S' T' := by
  refine Rel_sheet h (fun k hk => ⟨by rw [c1, si_ne _ _ _ (by omega), si_ne _ _ _ (by omega)], c2 k (by omega)⟩) (fun k hk => ⟨by rw [d1, si_ne _ _ _ (by omega), si_ne _ _ _ (by omega)], d2 k (by omega)⟩) (fun s' hs' => ?_)
  have e15 : T'.1 15 = upd (T.1 15) s a := by rw [d1, si_ne _ _ _ (by decide), si_same]
  have e16 : T'.1 16 = upd (T.1 16) s (nI m) := by rw [d1, si_same, si_ne _ _ _ (by decide)]
  rw [e15, e16]
  by_cases he : s' = s
  · subst he
    rw [upd_s, upd_s, c1, si_same, upd_s, upd_n _ _ (by decide), si_same, upd_s]
    refine ⟨rfl, rfl, ha, m, hm, rfl, fun i hi => ?_⟩
    rw [show 33 + 2 * s' = 32 + 2 * s' + 1 by omega, c3 i hi, d3, if_pos (by omega)]
  · obtain ⟨k1, k2, k3, b, hb, k4, k5⟩ := h.2.2.2.1 s' hs'
    rw [upd_n _ _ he, upd_n _ _ he, c1, si_ne _ _ _ (by omega), si_ne _ _ _ (by omega)]
    refine ⟨k1, k2, k3, b, hb, k4, fun i hi => ?_⟩
    rw [c2 _ (by omega), d3, if_neg (by omega)]
    exact k5 i hi
theorem e_sheet {S T : Sg} (h : Rel S T) (a0 : Int32) (a1 : Int32) (a2 : Int32) : ∃ (r : Int32) (S' : Sg) (T' : Sg), f_X9_sheet a0 a1 a2 S = some (r, S') ∧ f_X10_sheet a0 a1 a2 T = some (r, T') ∧ Rel S' T' := by
  unfold f_X9_sheet f_X10_sheet
  generalize hW : wp2 (X10_sheet_L68 a0) FU 0 = W
  simp only [jn_e, bv_e]
  rw [sheetC, sheetM, cl1_s, cl1_s, in32 a1 (-1) 1 (by decide) (by decide), cl1_s]
  by_cases h1 : 0 ≤ a0.toInt ∧ a0.toInt < 4
  · rw [b01_t h1, if_neg n10, if_neg n10]
    obtain ⟨s, hs, rfl⟩ := nI_from (a := a0) (n := 4) ⟨h1.1, by omega⟩
    rw [inb_p hs (by decide), inb_p hs (by decide), inb_p hs (by decide), inb_p hs (by decide), ix_nI (by omega)]
    by_cases h2 : -1 ≤ a1.toInt ∧ a1.toInt ≤ 1
    · rw [b01_t h2, if_neg n10, if_neg (show ¬ a1 < -1 by rw [i_lt (-1) (by decide)]; omega), if_pos (show a1 ≤ 1 by rw [i_le 1 (by decide)]; omega)]
      by_cases h3 : a1 = -1
      · subst h3
        rw [if_pos rfl, if_pos rfl, if_pos rfl, if_pos (by decide), if_pos (by decide), if_neg (by decide)]
        obtain ⟨S1, b1, b2, b3, b4⟩ := becomeC (S := S) (k := 32 + 2 * s) (m := 0) (a := -1) (by decide)
        obtain ⟨T1, g1, g2, g3, g4⟩ := sheetZ (T := si (si T 15 s (-1)) 16 s 0) hs
        rw [hW] at g1
        rw [g1, show (0 : Int32) = nI 0 from rfl, b1, cl1_s]
        exact ⟨_, _, _, rfl, rfl, sheetStep h hs (by decide) (Or.inl rfl) b2 b3 b4 g2 g3 g4⟩
      · have h3' : a1.toInt ≠ -1 := fun z => h3 (i32_eq.mpr z)
        have hneg : ¬ a1 < 0 := by rw [i_lt 0 (by decide)]; omega
        rw [if_neg h3, if_neg h3, if_neg h3, if_neg hneg, if_neg hneg, if_pos (show 0 ≤ a1 by rw [i_ge 0 (by decide)]; omega)]
        by_cases h4 : a2 ≤ 30
        · rw [if_pos h4, if_pos h4]
          by_cases h5 : 0 ≤ a2
          · rw [if_pos h5, if_pos h5]
            rw [i_le 30 (by decide)] at h4
            rw [i_ge 0 (by decide)] at h5
            obtain ⟨m, hm, rfl⟩ := nI_from (a := a2) (n := 31) ⟨h5, by omega⟩
            obtain ⟨S1, b1, b2, b3, b4⟩ := becomeC (S := S) (k := 32 + 2 * s) (m := m) (a := a1) (by omega)
            obtain ⟨T1, g1, g2, g3, g4⟩ := sheetZ (T := si (si T 15 s a1) 16 s (nI m)) hs
            rw [hW] at g1
            rw [g1, b1, cl1_s]
            have ha : a1 = -1 ∨ a1 = 0 ∨ a1 = 1 := by
              rcases (show a1.toInt = 0 ∨ a1.toInt = 1 by omega) with z | z
              · exact Or.inr (Or.inl (i32_eq.mpr z))
              · exact Or.inr (Or.inr (i32_eq.mpr z))
            exact ⟨_, _, _, rfl, rfl, sheetStep h hs (by omega) ha b2 b3 b4 g2 g3 g4⟩
          · rw [if_neg h5, if_neg h5]; exact ⟨_, _, _, rfl, rfl, h⟩
        · rw [if_neg h4, if_neg h4]; exact ⟨_, _, _, rfl, rfl, h⟩
    · rw [b01_f h2, if_pos z00]
      by_cases h3 : a1 < -1
      · rw [if_pos h3]; exact ⟨_, _, _, rfl, rfl, h⟩
      · rw [if_neg h3, if_neg (show ¬ a1 ≤ 1 by rw [i_lt (-1) (by decide)] at h3; rw [i_le 1 (by decide)]; omega)]; exact ⟨_, _, _, rfl, rfl, h⟩
  · rw [b01_f h1, if_pos z00, if_pos z00]; exact ⟨_, _, _, rfl, rfl, h⟩
