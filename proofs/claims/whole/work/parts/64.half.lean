/-! HALF -/
def GT (q w n : Nat) (t : Nat → Nat) (ki en : Nat → Int32) : Vc → Prop := fun v => ∃ i, i < w ∧ v = fun j => ((tv q n t ki en i j : Nat) : Int)
noncomputable def hlf (q w n : Nat) (t : Nat → Nat) (ki en : Nat → Int32) : Nat := rk w q (Sp w q (GT q w n t ki en)) / 2
theorem hlf_le (q w n : Nat) (t : Nat → Nat) (ki en : Nat → Int32) : hlf q w n t ki en ≤ w := by
  have := (rk_is w q (Sp w q (GT q w n t ki en))).le
  unfold hlf
  omega
theorem halfRankC {S : Sg} {q w n : Nat} {ki en : Nat → Int32} {t : Nat → Nat} (hF : Filled S q w n ki en) (hqp : q ∈ primes) (hw : w ≤ 6) (hn : n ≤ 10) (ht : ∀ p, p < n → t p < q ∧ S.1 50 p = nI (t p)) :
    ∃ S', f_X7_halfRank S = some (nI (hlf q w n t ki en), S') ∧ (∀ k, ¬ (22 ≤ k ∧ k ≤ 26) → S'.1 k = S.1 k) ∧ S'.2 = S.2 := by
  have hq := primes_b hqp
  have hp := PrimeQ_of hqp
  unfold f_X7_halfRank
  rw [hF.1, hF.2.1]
  obtain ⟨S1, c1, c2, c3, c4⟩ := clear_eq (S := S) (k := 23) (q := q) (w := w) (lo := 0) hw
  rw [show f_X0_clear 23 (nI q) (nI w) 0 S = some S1 from c1, cl1_s]
  obtain ⟨S', ⟨f1, f2, f3⟩, h4⟩ := for2 (F := X7_halfRank_L18 (fun (S3 : Sg) => some (((S3.1 23 0) / (2 : Int32)), S3))) w (fun i S2 => BInv S2 23 q w 0 (fun v => ∃ i', i' < i ∧ v = fun j => ((tv q n t ki en i' j : Nat) : Int)) ∧ (∀ k, ¬ (22 ≤ k ∧ k ≤ 26) → S2.1 k = S.1 k) ∧ S2.2 = S.2) (fun S3 => some (((S3.1 23 0) / (2 : Int32)), S3)) (by
    rintro i S2 hi ⟨f1, f2, f3⟩
    have inner : ∃ S3, (Fr 22 S2 S3 ∧ ∀ j, j < w → S3.1 22 j = nI (tv q n t ki en i j)) ∧ ∀ k : Sg → Option (Int32 × Sg), wp2 (X7_halfRank_L29 (nI i) k) FU (nI 0) S2 = k S3 := by
      exact for2k (F := fun k => X7_halfRank_L29 (nI i) k) (fun k S => k S) w (fun j S3 => Fr 22 S2 S3 ∧ ∀ j', j' < j → S3.1 22 j' = nI (tv q n t ki en i j')) (by
        rintro j S3 hj ⟨g1, g2⟩
        refine ⟨si S3 22 j (nI (tv q n t ki en i j)), ⟨Fr_w g1 _ _, fun a ha => ?_⟩, fun k self => ?_⟩
        · by_cases he : a = j
          · rw [he, si_same, upd_s]
          · rw [si_same, upd_n _ _ he]; exact g2 a (by omega)
        · have hF3 : Filled S3 q w n ki en := hF.fr (by rw [g1.1 13 (by decide), f2 13 (by decide)]) (by rw [g1.1 14 (by decide), f2 14 (by decide)])
          have hn3 := numberAtC (t := t) hF3 (by omega) (by omega) hw hn (fun p hp => ⟨(ht p hp).1, by rw [g1.1 50 (by decide), f2 50 (by decide)]; exact (ht p hp).2⟩) hi hj
          unfold X7_halfRank_L29
          rw [hF3.2.1, le_n hj (by omega), hn3, cl1_s, inb_p (by omega) (by decide), bv_e, bv_e, ix_nI (by omega), nI_1]) (by
        rintro S3 ⟨g1, -⟩ k self
        unfold X7_halfRank_L29
        rw [g1.1 13 (by decide), f2 13 (by decide), hF.2.1, le_p (Nat.le_refl _) (by omega)]) (i0 := 0) (S0 := S2) ⟨Fr.rf _ _, fun _ h => by omega⟩ (by omega) (show w < FU + 0 from FU_n (by omega))
    obtain ⟨S3, ⟨g1, g2⟩, g3⟩ := inner
    have hB3 : BInv S3 23 q w 0 (fun v => ∃ i', i' < i ∧ v = fun j => ((tv q n t ki en i' j : Nat) : Int)) := by
      unfold BInv bB bK at f1 ⊢
      rw [g1.1 23 (by decide), g1.1 (23 + 1) (by decide), g1.1 (23 + 2) (by decide)]
      exact f1
    obtain ⟨S4, d1, d2, d3, d4⟩ := add_eq (ka := 22) (na := 6) (fr := 0) (row := tv q n t ki en i) hB3 hp (by omega) (by omega) hw (by decide) (fun j hj => ⟨tv_lt (by omega) _ _ _ _ _ _, by rw [Nat.zero_add]; exact g2 j hj⟩) (by decide) (by omega) (by omega)
    refine ⟨S4, ⟨BInv_cg d2 (Sp_iff (fun g hg => Sp_gen ?_) (fun g hg => Sp_gen ?_)), fun k hk => by rw [d3 k (by omega) (by omega) (by omega) (by omega), g1.1 k (by omega), f2 k hk], by rw [d4, g1.2, f3]⟩, fun self => ?_⟩
    · rcases hg with ⟨i', h1, h2⟩ | h
      · exact ⟨i', by omega, h2⟩
      · exact ⟨i, by omega, by rw [h]; simp⟩
    · obtain ⟨i', h1, h2⟩ := hg
      by_cases he : i' = i
      · exact Or.inr (by rw [h2, he]; simp)
      · exact Or.inl ⟨i', by omega, h2⟩
    · unfold X7_halfRank_L18
      rw [f2 13 (by decide), hF.2.1, le_n hi (by omega)]
      have := g3 (fun (S6 : Sg) => cl1 (f_X0_add 23 22 6 (0 : Int32) S6) fun S8 => bv (nI i + 1) fun x9 => self x9 S8)
      rw [show wp2 (X7_halfRank_L29 (nI i) (fun (S6 : Sg) => cl1 (f_X0_add 23 22 6 (0 : Int32) S6) fun S8 => bv (nI i + 1) fun x9 => self x9 S8)) FU (0 : Int32) S2 = _ from this, show f_X0_add 23 22 6 (0 : Int32) S3 = some S4 from d1, cl1_s, bv_e, nI_1]) (by
    rintro S2 ⟨-, f2, -⟩ self
    unfold X7_halfRank_L18
    rw [f2 13 (by decide), hF.2.1, le_p (Nat.le_refl _) (by omega)]) (i0 := 0) (S0 := S1) ⟨BInv_cg c2 (Sp_iff (fun g hg => hg.elim) (fun g hg => by obtain ⟨i', h1, -⟩ := hg; omega)), fun k hk => c3 k (by omega) (by omega) (by omega) (by omega), c4⟩ (by omega) (FU_n (by omega))
  obtain ⟨r, g1, g2⟩ := f1.isRk hw (by omega) hp
  have hr : r = rk w q (Sp w q (GT q w n t ki en)) := g1.eq
  have hrw := g1.le
  refine ⟨S', ?_, f2, f3⟩
  rw [g2, show (2 : Int32) = nI 2 from rfl, pk_div (by omega) (by decide) (by decide), hr] at h4
  exact h4
theorem halfOfM {T : Sg} {q w n : Nat} {t : Nat → Nat} (hqp : q ∈ primes) (hw : w ≤ 6) (hn : n ≤ 10) (t0 : T.1 0 0 = nI q) (t1 : T.1 0 1 = nI w) (t2 : T.1 0 2 = nI n) (ht : ∀ p, p < n → rst (T.2 7 p).toInt q = t p) :
    ∃ T', f_X10_halfOf T = some (nI (hlf q w n t (T.1 1) (T.1 4)), T') ∧ Fm T T' := by
  have hq := primes_b hqp
  unfold f_X10_halfOf
  rw [bv_e, t1]
  generalize hT0 : si T 0 9 (nI w) = T0
  have z1 : Fm T T0 := by
    rw [← hT0]
    exact ⟨fun a h1 _ => by rw [si_ne _ _ _ h1], fun j hj => by rw [si_same, upd_n _ _ hj], rfl⟩
  have z9 : T0.1 0 9 = nI w := by rw [← hT0, si_same, upd_s]
  obtain ⟨T1, ⟨f1, f2⟩, h4⟩ := for2 (F := X10_halfOf_L10 (fun (S2 : Sg) => cl (f_X10_ranks S2) fun r3 S5 => some ((r3 / (2 : Int32)), S5))) w (fun i T1 => Fr 6 T0 T1 ∧ ∀ i' j, i' < i → j < w → T1.1 6 (6 * i' + j) = nI (tv q n t (T.1 1) (T.1 4) i' j)) (fun S2 => cl (f_X10_ranks S2) fun r3 S5 => some ((r3 / (2 : Int32)), S5)) (by
    rintro i T1 hi ⟨f1, f2⟩
    have inner : ∃ T2, (Fr 6 T0 T2 ∧ (∀ i' j, i' < i → j < w → T2.1 6 (6 * i' + j) = nI (tv q n t (T.1 1) (T.1 4) i' j)) ∧ ∀ j, j < w → T2.1 6 (6 * i + j) = nI (tv q n t (T.1 1) (T.1 4) i j)) ∧ ∀ k : Sg → Option (Int32 × Sg), wp2 (X10_halfOf_L20 (nI i) k) FU (nI 0) T1 = k T2 := by
      exact for2k (F := fun k => X10_halfOf_L20 (nI i) k) (fun k S => k S) w (fun j T2 => Fr 6 T0 T2 ∧ (∀ i' j, i' < i → j < w → T2.1 6 (6 * i' + j) = nI (tv q n t (T.1 1) (T.1 4) i' j)) ∧ ∀ j', j' < j → T2.1 6 (6 * i + j') = nI (tv q n t (T.1 1) (T.1 4) i j')) (by
        rintro j T2 hj ⟨g1, g2, g3⟩
        refine ⟨si T2 6 (6 * i + j) (nI (tv q n t (T.1 1) (T.1 4) i j)), ⟨Fr_w g1 _ _, fun i' a h1 h2 => ?_, fun a ha => ?_⟩, fun k self => ?_⟩
        · rw [si_same, upd_n _ _ (by omega)]; exact g2 i' a h1 h2
        · by_cases he : a = j
          · rw [he, si_same, upd_s]
          · rw [si_same, upd_n _ _ (by omega)]; exact g3 a (by omega)
        · have hM := tableAtM (T := T2) (q := q) (n := n) (t := t) (by omega) (by omega) hw hn (by rw [g1.1 0 (by decide), z1.2.1 0 (by decide), t0]) (by rw [g1.1 0 (by decide), z1.2.1 2 (by decide), t2]) (fun p hp => by rw [g1.2, z1.2.2]; exact ht p hp) hi hj
          rw [g1.1 1 (by decide), g1.1 4 (by decide), z1.1 1 (by decide) (by decide), z1.1 4 (by decide) (by decide)] at hM
          unfold X10_halfOf_L20
          rw [g1.1 0 (by decide), z1.2.1 1 (by decide), t1, le_n hj (by omega), hM, cl1_s, mm6, inb_p (by omega) (by decide), bv_e, bv_e, ix_nI (by omega), nI_1]) (by
        rintro T2 ⟨g1, -⟩ k self
        unfold X10_halfOf_L20
        rw [g1.1 0 (by decide), z1.2.1 1 (by decide), t1, le_p (Nat.le_refl _) (by omega)]) (i0 := 0) (S0 := T1) ⟨f1, f2, fun _ h => by omega⟩ (by omega) (show w < FU + 0 from FU_n (by omega))
    obtain ⟨T2, ⟨g1, g2, g3⟩, g4⟩ := inner
    refine ⟨T2, ⟨g1, fun i' j h1 h2 => ?_⟩, fun self => ?_⟩
    · by_cases he : i' = i
      · rw [he]; exact g3 j h2
      · exact g2 i' j (by omega) h2
    · unfold X10_halfOf_L10
      rw [f1.1 0 (by decide), z1.2.1 1 (by decide), t1, le_n hi (by omega)]
      have := g4 (fun (S8 : Sg) => bv (nI i + 1) fun x9 => self x9 S8)
      rw [show wp2 (X10_halfOf_L20 (nI i) (fun (S8 : Sg) => bv (nI i + 1) fun x9 => self x9 S8)) FU (0 : Int32) T1 = _ from this, bv_e, nI_1]) (by
    rintro T1 ⟨f1, -⟩ self
    unfold X10_halfOf_L10
    rw [f1.1 0 (by decide), z1.2.1 1 (by decide), t1, le_p (Nat.le_refl _) (by omega)]) (i0 := 0) (S0 := T0) ⟨Fr.rf _ _, fun _ _ h => by omega⟩ (by omega) (FU_n (by omega))
  obtain ⟨r, T2, c1, c2, c3⟩ := ranks_eq (T := T1) (m := w) (w := w) (q := q) (x := tv q n t (T.1 1) (T.1 4)) hqp hw (by omega) (by rw [f1.1 0 (by decide), z1.2.1 0 (by decide), t0]) (by rw [f1.1 0 (by decide), z1.2.1 1 (by decide), t1]) (by rw [f1.1 0 (by decide), z9]) (fun i j hi hj => ⟨tv_lt (by omega) _ _ _ _ _ _, f2 i j hi hj⟩)
  have hr : r = rk w q (Sp w q (GT q w n t (T.1 1) (T.1 4))) := c2.eq
  have hrw := c2.le
  refine ⟨T2, ?_, (z1.tr (Fm.of f1)).tr (Fm.of c3)⟩
  rw [c1, cl_s, show (2 : Int32) = nI 2 from rfl, pk_div (by omega) (by decide) (by decide), hr] at h4
  exact h4
theorem e_half {S T : Sg} (h : Rel S T) (a0 : Int32) : ∃ (r : Int32) (S' : Sg) (T' : Sg), f_X9_half a0 S = some (r, S') ∧ f_X10_half a0 T = some (r, T') ∧ Rel S' T' := by
  obtain ⟨q, w, n, hqp, hw1, hw, hn, s0, t0, s1, t1, s2, t2⟩ := h.nums
  have hq := primes_b hqp
  unfold f_X9_half f_X10_half
  rw [sheetC, cl1_s]
  by_cases h1 : 0 ≤ a0.toInt ∧ a0.toInt < 4
  · rw [b01_t h1, if_neg n10]
    obtain ⟨s, hs, rfl⟩ := nI_from (a := a0) (n := 4) ⟨h1.1, by omega⟩
    obtain ⟨k1, k2, k3, -⟩ := h.2.2.2.1 s hs
    rw [inb_p hs (by decide), ix_nI (by omega), missC, cl1_s, k1]
    rcases sk_t k3 with hm | hm
    · rw [b01_t hm, if_neg n10, tellsN hs (by rw [hm]; decide), cl_s, if_neg (by decide)]
      exact ⟨_, _, _, rfl, rfl, h⟩
    · rw [b01_f (fun z => by rw [z] at hm; exact absurd hm (by decide)), if_pos z00]
      obtain ⟨S1, S2, T1, b, c1, c2, c3, c4, c5, c6, c7, c8, c9, c10⟩ := ready h hqp hw hn s0 s1 s2 hs hm
      obtain ⟨S3, d1, d2, d3⟩ := halfRankC (t := fun p => rst (shx T s b p).toInt q) c7 hqp hw hn (fun p hp => ⟨rst_lt _ (by omega), c9 p hp⟩)
      obtain ⟨T2, e1, e2⟩ := halfOfM (T := T1) (q := q) (n := n) (t := fun p => rst (shx T s b p).toInt q) hqp hw hn (by rw [c6, t0]) (by rw [c6, t1]) (by rw [c6, t2]) (fun p hp => by rw [c10 p (by omega)])
      rw [c1, cl1_s, inb_p hs (by decide), c2, cl1_s, d1, cl_s, c3, cl_s, if_pos z00, e1, cl_s, c6]
      exact ⟨_, _, _, rfl, rfl, h.agr (c4.tr (fun k hk => ⟨d2 k (by omega), by rw [d3]⟩)) (c5.tr e2.agr)⟩
  · rw [b01_f h1, if_pos z00, tellsB h1, cl_s, if_neg (by decide)]
    exact ⟨_, _, _, rfl, rfl, h⟩
