/-! the reference's rankOf, and how it goes with the class's -/
theorem Fr.tr {k : Nat} {S S1 S2 : Sg} (h1 : Fr k S S1) (h2 : Fr k S1 S2) : Fr k S S2 := ⟨fun a ha => (h2.1 a ha).trans (h1.1 a ha), h2.2.trans h1.2⟩
/-- only the rows and how many there are -/
def Fm (T T' : Sg) : Prop := (∀ a, a ≠ 0 → a ≠ 6 → T'.1 a = T.1 a) ∧ (∀ j, j ≠ 9 → T'.1 0 j = T.1 0 j) ∧ T'.2 = T.2
theorem Fm.rf (T : Sg) : Fm T T := ⟨fun _ _ _ => rfl, fun _ _ => rfl, rfl⟩
theorem Fm.tr {T T1 T2 : Sg} (h1 : Fm T T1) (h2 : Fm T1 T2) : Fm T T2 := ⟨fun a h h' => (h2.1 a h h').trans (h1.1 a h h'), fun j h => (h2.2.1 j h).trans (h1.2.1 j h), h2.2.2.trans h1.2.2⟩
theorem Fm.of {T T' : Sg} (h : Fr 6 T T') : Fm T T' := ⟨fun a _ h' => h.1 a h', fun j _ => by rw [h.1 0 (by decide)], h.2⟩
theorem Fm.agr {T T' : Sg} (h : Fm T T') : AgrM T T' := ⟨fun k hk => ⟨h.1 k (by omega) (by omega), by rw [h.2.2]⟩, fun j hj => h.2.1 j (by omega)⟩
theorem laysRow_eq {T : Sg} {q w m p row : Nat} {x : Nat → Nat → Nat} (hq : 0 < q) (hq2 : q ≤ 97) (hw : w ≤ 6) (hm : m < 26) (hp : p < 10) (hr : row < 2) (e0 : T.1 0 0 = nI q) (e1 : T.1 0 1 = nI w) (e9 : T.1 0 9 = nI m) (hX : RowsX T m w q x) :
    ∃ T', f_X10_laysRow (nI p) (nI row) T = some T' ∧ Fm T T' ∧ T'.1 0 9 = nI (m + 1) ∧ RowsX T' (m + 1) w q (fun t i => if t = m then rv q (T.1 1) (T.1 4) p row i else x t i) := by
  unfold f_X10_laysRow
  obtain ⟨T1, ⟨f1, f2, f3⟩, h4⟩ := for2 (F := X10_laysRow_L2 (nI p) (nI row) (fun (S1 : Sg) => bv (si S1 0 9 ((S1.1 0 9) + (1 : Int32))) fun S2 => some S2)) w (fun j T1 => Fr 6 T T1 ∧ (∀ t i, t < m → i < w → T1.1 6 (6 * t + i) = nI (x t i)) ∧ ∀ i, i < j → T1.1 6 (6 * m + i) = nI (rv q (T.1 1) (T.1 4) p row i)) (fun S1 => some (si S1 0 9 ((S1.1 0 9) + (1 : Int32)))) (by
    rintro i T1 hi ⟨f1, f2, f3⟩
    refine ⟨si T1 6 (6 * m + i) (nI (rv q (T.1 1) (T.1 4) p row i)), ⟨Fr_w f1 _ _, ?_, ?_⟩, ?_⟩
    · intro t a ht ha
      rw [si_same, upd_n _ _ (by omega)]
      exact f2 t a ht ha
    · intro a ha
      by_cases he : a = i
      · subst he; rw [si_same, upd_s]
      · rw [si_same, upd_n _ _ (by omega)]; exact f3 a (by omega)
    · intro self
      unfold X10_laysRow_L2
      have hn := numberOf_eq (T := T1) hq hq2 (by rw [f1.1 0 (by decide), e0]) hp hr (show i < 6 by omega)
      rw [f1.1 1 (by decide), f1.1 4 (by decide)] at hn
      rw [f1.1 0 (by decide), e1, le_n hi (by omega), hn, cl1_s, e9, mm6, inb_p (by omega) (by omega), bv_e, bv_e, ix_nI (by omega), nI_1]) (by
    rintro T1 hJ self
    unfold X10_laysRow_L2
    rw [show T1.1 0 1 = nI w by rw [hJ.1.1 0 (by decide), e1], le_p (Nat.le_refl _) (by omega)]
    rfl) (i0 := 0) (S0 := T) ⟨Fr.rf _ _, fun t i ht hi => (hX t i ht hi).2, fun i h => by omega⟩ (by omega) (FU_n (by omega))
  refine ⟨_, h4, ⟨fun a h h' => by rw [si_ne _ _ _ h, f1.1 a h'], fun j hj => by rw [si_same, upd_n _ _ hj, f1.1 0 (by decide)], by rw [si_2, f1.2]⟩, by rw [si_same, upd_s, f1.1 0 (by decide), e9, nI_1], fun t i ht hi => ?_⟩
  rw [si_ne _ _ _ (by decide)]
  by_cases he : t = m
  · simp only [he, if_true]; exact ⟨rv_lt hq _ _ _ _ _, f3 i hi⟩
  · simp only [he, if_false]; exact ⟨(hX t i (by omega) hi).1, f2 t i (by omega) hi⟩
theorem laysAxis_eq {T : Sg} {q w m ax : Nat} {x : Nat → Nat → Nat} (hq : 1 < q) (hw : w ≤ 6) (hm : m < 26) (hax : ax < 6) (e1 : T.1 0 1 = nI w) (e9 : T.1 0 9 = nI m) (hX : RowsX T m w q x) :
    ∃ T', f_X10_laysAxis (nI ax) T = some T' ∧ Fm T T' ∧ T'.1 0 9 = nI (m + 1) ∧ RowsX T' (m + 1) w q (fun t i => if t = m then (if i = ax then 1 else 0) else x t i) := by
  unfold f_X10_laysAxis
  obtain ⟨T1, ⟨f1, f2, f3⟩, h4⟩ := for2 (F := X10_laysAxis_L2 (nI ax) (fun (S1 : Sg) => bv (si S1 0 9 ((S1.1 0 9) + (1 : Int32))) fun S2 => some S2)) w (fun j T1 => Fr 6 T T1 ∧ (∀ t i, t < m → i < w → T1.1 6 (6 * t + i) = nI (x t i)) ∧ ∀ i, i < j → T1.1 6 (6 * m + i) = nI (if i = ax then 1 else 0)) (fun S1 => some (si S1 0 9 ((S1.1 0 9) + (1 : Int32)))) (by
    rintro i T1 hi ⟨f1, f2, f3⟩
    refine ⟨si T1 6 (6 * m + i) (nI (if i = ax then 1 else 0)), ⟨Fr_w f1 _ _, ?_, ?_⟩, ?_⟩
    · intro t a ht ha
      rw [si_same, upd_n _ _ (by omega)]
      exact f2 t a ht ha
    · intro a ha
      by_cases he : a = i
      · subst he; rw [si_same, upd_s]
      · rw [si_same, upd_n _ _ (by omega)]; exact f3 a (by omega)
    · intro self
      unfold X10_laysAxis_L2
      rw [f1.1 0 (by decide), e1, le_n hi (by omega), jn_e, e9, mm6]
      simp only [inb_nI (show 6 * m + i < 156 by omega) (show 156 < 2 ^ 31 by decide), gd_t, bv_e, ix_nI (show 6 * m + i < 2 ^ 31 by omega), nI_1, nI_eq (show i < 2 ^ 31 by omega) (show ax < 2 ^ 31 by omega)]
      by_cases he : i = ax
      · rw [if_pos he, if_pos he]; rfl
      · rw [if_neg he, if_neg he]; rfl) (by
    rintro T1 hJ self
    unfold X10_laysAxis_L2
    rw [show T1.1 0 1 = nI w by rw [hJ.1.1 0 (by decide), e1], le_p (Nat.le_refl _) (by omega)]
    rfl) (i0 := 0) (S0 := T) ⟨Fr.rf _ _, fun t i ht hi => (hX t i ht hi).2, fun i h => by omega⟩ (by omega) (FU_n (by omega))
  refine ⟨_, h4, ⟨fun a h h' => by rw [si_ne _ _ _ h, f1.1 a h'], fun j hj => by rw [si_same, upd_n _ _ hj, f1.1 0 (by decide)], by rw [si_2, f1.2]⟩, by rw [si_same, upd_s, f1.1 0 (by decide), e9, nI_1], fun t i ht hi => ?_⟩
  rw [si_ne _ _ _ (by decide)]
  by_cases he : t = m
  · simp only [he, if_true]
    refine ⟨?_, f3 i hi⟩
    split <;> omega
  · simp only [he, if_false]; exact ⟨(hX t i (by omega) hi).1, f2 t i (by omega) hi⟩
theorem SpR_succ {m w q : Nat} {x : Nat → Nat → Nat} {r : Nat → Nat} {G : Vc → Prop} (h : ∀ v, SpR m w q x v ↔ Sp w q G v) (v : Vc) : SpR (m + 1) w q (fun t i => if t = m then r i else x t i) v ↔ Sp w q (fun v => G v ∨ v = fun i => ((r i : Nat) : Int)) v := by
  refine Iff.trans (Sp_iff (G' := fun v => (∃ t, t < m ∧ v = fun i => ((x t i : Nat) : Int)) ∨ v = fun i => ((r i : Nat) : Int)) (fun g hg => Sp_gen ?_) (fun g hg => Sp_gen ?_) v) (Sp_or h _ v)
  · obtain ⟨t, ht, rfl⟩ := hg
    by_cases he : t = m
    · simp only [he, if_true]; first | exact Or.inr rfl | exact Or.inr trivial
    · simp only [he, if_false]; exact Or.inl ⟨t, by omega, rfl⟩
  · rcases hg with ⟨t, ht, rfl⟩ | rfl
    · refine ⟨t, by omega, ?_⟩
      simp only [show ¬ t = m by omega, if_false]
    · exact ⟨m, by omega, by simp only [if_true]⟩
/-- the reference's rows: AXES and the ROWS of a SET -/
def GM (q w n : Nat) (ki en : Nat → Int32) (a lo : Nat) : Vc → Prop := fun v => (∃ c, c < w ∧ lo.testBit c = true ∧ v = fun i => if i = c then 1 else 0) ∨ ∃ p row, p < n ∧ a.testBit p = true ∧ row < 2 ∧ v = fun i => ((rv q ki en p row i : Nat) : Int)
theorem rankOfM {T : Sg} {q w n a lo : Nat} (hqp : q ∈ primes) (hw : w ≤ 6) (hn : n ≤ 10) (ha : a < 2 ^ 31) (hlo : lo < 64) (e0 : T.1 0 0 = nI q) (e1 : T.1 0 1 = nI w) (e2 : T.1 0 2 = nI n) :
    ∃ r T', f_X10_rankOf (nI a) (nI lo) T = some (nI r, T') ∧ IsRk w q (Sp w q (GM q w n (T.1 1) (T.1 4) a lo)) r ∧ Fm T T' := by
  have hq := primes_b hqp
  unfold f_X10_rankOf
  rw [bv_e]
  generalize hT0 : si T 0 9 0 = T0
  have z0 : Fm T T0 := by
    rw [← hT0]
    exact ⟨fun a h _ => by rw [si_ne _ _ _ h], fun j hj => by rw [si_same, upd_n _ _ hj], rfl⟩
  have z9 : T0.1 0 9 = nI 0 := by rw [← hT0, si_same, upd_s]; rfl
  -- AXES
  obtain ⟨T1, ⟨f1, m1, x1, hm1, k1, k2, k3⟩, h1⟩ := for2 (F := X10_rankOf_L7 (nI lo) (fun (S2 : Sg) => wp2 (X10_rankOf_L36 (nI a) (fun (S3 : Sg) => cl (f_X10_ranks S3) fun r4 S6 => some (r4, S6))) FU (0 : Int32) S2)) w (fun j T1 => Fm T T1 ∧ ∃ m x, m ≤ j ∧ T1.1 0 9 = nI m ∧ RowsX T1 m w q x ∧ ∀ v, SpR m w q x v ↔ Sp w q (fun v => ∃ c, c < j ∧ lo.testBit c = true ∧ v = fun i => if i = c then 1 else 0) v) (fun S2 => wp2 (X10_rankOf_L36 (nI a) (fun (S3 : Sg) => cl (f_X10_ranks S3) fun r4 S6 => some (r4, S6))) FU (0 : Int32) S2) (by
    rintro c T1 hc ⟨f1, m, x, hm, k1, k2, k3⟩
    have hst : ∀ self, X10_rankOf_L7 (nI lo) (fun (S2 : Sg) => wp2 (X10_rankOf_L36 (nI a) (fun (S3 : Sg) => cl (f_X10_ranks S3) fun r4 S6 => some (r4, S6))) FU (0 : Int32) S2) self (nI c) T1 = if lo.testBit c = true then (cl1 (f_X10_laysAxis (nI c) T1) fun S26 => self (nI (c + 1)) S26) else self (nI (c + 1)) T1 := fun self => by
      unfold X10_rankOf_L7
      rw [f1.2.1 1 (by decide), e1, le_n hc (by omega), has_eq (by omega) (by omega), cl1_s, jn_e]
      simp only [b01_0, bv_e, nI_1]
      by_cases h : lo.testBit c = true
      · simp [h]
      · simp [h]
    by_cases hb : lo.testBit c = true
    · obtain ⟨T2, a1, a2, a3, a4⟩ := laysAxis_eq (ax := c) (by omega) hw (by omega) (by omega) (by rw [f1.2.1 1 (by decide), e1]) k1 k2
      refine ⟨T2, ⟨f1.tr a2, m + 1, _, by omega, a3, a4, fun v => (SpR_succ k3 v).trans (Sp_iff (fun g hg => Sp_gen ?_) (fun g hg => Sp_gen ?_) v)⟩, fun self => by rw [hst, if_pos hb, a1, cl1_s]⟩
      · rcases hg with ⟨c', h1, h2, h3⟩ | h
        · exact ⟨c', by omega, h2, h3⟩
        · refine ⟨c, by omega, hb, ?_⟩
          rw [h]; funext i; split <;> rfl
      · obtain ⟨c', h1, h2, h3⟩ := hg
        by_cases he : c' = c
        · right; rw [h3, he]; funext i; split <;> rfl
        · exact Or.inl ⟨c', by omega, h2, h3⟩
    · refine ⟨T1, ⟨f1, m, x, by omega, k1, k2, fun v => (k3 v).trans (Sp_iff (fun g hg => Sp_gen ?_) (fun g hg => Sp_gen ?_) v)⟩, fun self => by rw [hst, if_neg hb]⟩
      · obtain ⟨c', h1, h2⟩ := hg; exact ⟨c', by omega, h2⟩
      · obtain ⟨c', h1, h2, h3⟩ := hg
        have : c' ≠ c := fun z => hb (by rw [← z]; exact h2)
        exact ⟨c', by omega, h2, h3⟩) (by
    rintro T1 hJ self
    unfold X10_rankOf_L7
    rw [hJ.1.2.1 1 (by decide), e1, le_p (Nat.le_refl _) (by omega)]) (i0 := 0) (S0 := T0) ⟨z0, 0, fun _ _ => 0, by omega, z9, fun t i ht => by omega, fun v => Sp_iff (fun g hg => by obtain ⟨t, ht, -⟩ := hg; omega) (fun g hg => by obtain ⟨t, ht, -⟩ := hg; omega) v⟩ (by omega) (FU_n (by omega))
  rw [show wp2 (X10_rankOf_L7 (nI lo) (fun (S2 : Sg) => wp2 (X10_rankOf_L36 (nI a) (fun (S3 : Sg) => cl (f_X10_ranks S3) fun r4 S6 => some (r4, S6))) FU (0 : Int32) S2)) FU (0 : Int32) T0 = _ from h1]
  -- ROWS
  obtain ⟨T2, ⟨g1, m2, x2, hm2, l1, l2, l3⟩, h2⟩ := for2 (F := X10_rankOf_L36 (nI a) (fun (S3 : Sg) => cl (f_X10_ranks S3) fun r4 S6 => some (r4, S6))) n (fun j T2 => Fm T T2 ∧ ∃ m x, m ≤ w + 2 * j ∧ T2.1 0 9 = nI m ∧ RowsX T2 m w q x ∧ ∀ v, SpR m w q x v ↔ Sp w q (fun v => (∃ c, c < w ∧ lo.testBit c = true ∧ v = fun i => if i = c then 1 else 0) ∨ ∃ p row, p < j ∧ a.testBit p = true ∧ row < 2 ∧ v = fun i => ((rv q (T.1 1) (T.1 4) p row i : Nat) : Int)) v) (fun S3 => cl (f_X10_ranks S3) fun r4 S6 => some (r4, S6)) (by
    rintro p T2 hp ⟨f1, m, x, hm, k1, k2, k3⟩
    have hst : ∀ self, X10_rankOf_L36 (nI a) (fun (S3 : Sg) => cl (f_X10_ranks S3) fun r4 S6 => some (r4, S6)) self (nI p) T2 = if a.testBit p = true then (cl1 (f_X10_laysRow (nI p) (nI 0) T2) fun S14 => cl1 (f_X10_laysRow (nI p) (nI 1) S14) fun S16 => self (nI (p + 1)) S16) else self (nI (p + 1)) T2 := fun self => by
      unfold X10_rankOf_L36
      rw [f1.2.1 2 (by decide), e2, le_n hp (by omega), has_eq ha (by omega), cl1_s, jn_e]
      simp only [b01_0, bv_e, nI_1]
      by_cases h : a.testBit p = true
      · simp [h]; rfl
      · simp [h]
    by_cases hb : a.testBit p = true
    · obtain ⟨T3, a1, a2, a3, a4⟩ := laysRow_eq (p := p) (row := 0) (by omega) (by omega) hw (by omega) (by omega) (by decide) (by rw [f1.2.1 0 (by decide), e0]) (by rw [f1.2.1 1 (by decide), e1]) k1 k2
      have f2 := f1.tr a2
      obtain ⟨T4, d1, d2, d3, d4⟩ := laysRow_eq (p := p) (row := 1) (by omega) (by omega) hw (by omega) (by omega) (by decide) (by rw [f2.2.1 0 (by decide), e0]) (by rw [f2.2.1 1 (by decide), e1]) a3 a4
      rw [f2.1 1 (by decide) (by decide), f2.1 4 (by decide) (by decide)] at d4
      rw [f1.1 1 (by decide) (by decide), f1.1 4 (by decide) (by decide)] at d4
      refine ⟨T4, ⟨f2.tr d2, m + 1 + 1, _, by omega, d3, d4, fun v => (SpR_succ (fun v => SpR_succ k3 v) v).trans (Sp_iff (fun g hg => Sp_gen ?_) (fun g hg => Sp_gen ?_) v)⟩, fun self => by rw [hst, if_pos hb, a1, cl1_s, d1, cl1_s]⟩
      · rcases hg with ((h | ⟨p', row, h1, h2, h3, h4⟩) | h) | h
        · exact Or.inl h
        · exact Or.inr ⟨p', row, by omega, h2, h3, h4⟩
        · exact Or.inr ⟨p, 0, by omega, hb, by decide, h⟩
        · exact Or.inr ⟨p, 1, by omega, hb, by decide, h⟩
      · rcases hg with h | ⟨p', row, h1, h2, h3, h4⟩
        · exact Or.inl (Or.inl (Or.inl h))
        · by_cases he : p' = p
          · subst he
            rcases (show row = 0 ∨ row = 1 by omega) with rfl | rfl
            · exact Or.inl (Or.inr h4)
            · exact Or.inr h4
          · exact Or.inl (Or.inl (Or.inr ⟨p', row, by omega, h2, h3, h4⟩))
    · refine ⟨T2, ⟨f1, m, x, by omega, k1, k2, fun v => (k3 v).trans (Sp_iff (fun g hg => Sp_gen ?_) (fun g hg => Sp_gen ?_) v)⟩, fun self => by rw [hst, if_neg hb]⟩
      · rcases hg with h | ⟨p', row, h1, h2⟩
        · exact Or.inl h
        · exact Or.inr ⟨p', row, by omega, h2⟩
      · rcases hg with h | ⟨p', row, h1, h2, h3⟩
        · exact Or.inl h
        · have : p' ≠ p := fun z => hb (by rw [← z]; exact h2)
          exact Or.inr ⟨p', row, by omega, h2, h3⟩) (by
    rintro T2 hJ self
    unfold X10_rankOf_L36
    rw [hJ.1.2.1 2 (by decide), e2, le_p (Nat.le_refl _) (by omega)]) (i0 := 0) (S0 := T1) ⟨f1, m1, x1, by omega, k1, k2, fun v => (k3 v).trans (Sp_iff (fun g hg => Sp_gen (Or.inl hg)) (fun g hg => by
      rcases hg with h | ⟨p', row, h1, h2⟩
      · exact Sp_gen h
      · omega) v)⟩ (by omega) (FU_n (by omega))
  rw [show wp2 (X10_rankOf_L36 (nI a) (fun (S3 : Sg) => cl (f_X10_ranks S3) fun r4 S6 => some (r4, S6))) FU (0 : Int32) T1 = _ from h2]
  obtain ⟨r, T3, r1, r2, r3⟩ := ranks_eq hqp hw (show m2 ≤ 26 by omega) (by rw [g1.2.1 0 (by decide), e0]) (by rw [g1.2.1 1 (by decide), e1]) l1 l2
  exact ⟨r, T3, by rw [r1, cl_s], r2.cg l3, g1.tr (Fm.of r3)⟩
