/-! the reference's elimination, whole -/
theorem ct_ext (B : Nat → Bool) (i : Nat) : ∀ w, i ≤ w → fb_ct (fun c => decide (c < i) && B c) w = fb_ct B i := by
  intro w hw
  obtain ⟨d, rfl⟩ : ∃ d, w = i + d := ⟨w - i, by omega⟩
  rw [fb_ct_split]
  have h1 : fb_ct (fun c => decide (c < i) && B c) i = fb_ct B i := fb_ct_cong (fun c hc => by simp [hc])
  have h2 : fb_ct (fun k => decide (i + k < i) && B (i + k)) d = 0 := fb_ct_zero.mpr (fun k _ => by simp [show ¬ i + k < i by omega])
  rw [h1, h2]; rfl
/-- rows in steps, and rows of 0: their RANK -/
theorem steps_rk {m w q i rank : Nat} {y : Nat → Nat → Nat} {B : Nat → Bool} (hp : PrimeQ q) (hiw : i ≤ w) (hy : ∀ t j, t < m → j < w → y t j < q) (hrm : rank ≤ m) (hr : rank = fb_ct B i) (hB : ∀ c, c < i → B c = true → (∀ j, j < c → y (fb_ct B c) j = 0) ∧ y (fb_ct B c) c ≠ 0) (hz : ∀ t, rank ≤ t → t < m → ∀ j, j < w → y t j = 0) : IsRk w q (SpR m w q y) rank := by
  have hlt : ∀ c, c < i → B c = true → fb_ct B c < rank := fun c hc hb => by
    have h1 := fb_ct_mono B (show c + 1 ≤ i by omega)
    rw [fb_ct_succ, if_pos hb] at h1
    omega
  have hsp : ∀ v, SpR m w q y v ↔ Sp w q (fun v => ∃ c, c < w ∧ (decide (c < i) && B c) = true ∧ v = fun j => ((y (fb_ct B c) j : Nat) : Int)) v := by
    intro v
    refine Sp_iff (fun g hg => ?_) (fun g hg => ?_) v
    · obtain ⟨t, ht, rfl⟩ := hg
      by_cases htr : t < rank
      · obtain ⟨c, h1, h2, h3⟩ := fb_ct_kth (p := B) (k := t) (n := i) (by omega)
        exact Sp_gen ⟨c, by omega, by simp [h1, h2], by rw [h3]⟩
      · exact Sp_cg Sp_0 (fun j hj => by rw [hz t (by omega) ht j hj]; simp)
    · obtain ⟨c, h1, h2, rfl⟩ := hg
      simp only [Bool.and_eq_true, decide_eq_true_eq] at h2
      have := hlt c h2.1 h2.2
      exact Sp_gen ⟨fb_ct B c, by omega, rfl⟩
  refine IsRk.cg (V := Sp w q (fun v => ∃ c, c < w ∧ (decide (c < i) && B c) = true ∧ v = fun j => ((y (fb_ct B c) j : Nat) : Int))) ⟨fun c => decide (c < i) && B c, fun c hc => (ech hp.1 (fun c => decide (c < i) && B c) (fun c j => ((y (fb_ct B c) j : Nat) : Int)) (fun c hc hb => ?_) c hc).symm, ?_⟩ (fun v => (hsp v).symm)
  · simp only [Bool.and_eq_true, decide_eq_true_eq] at hb
    obtain ⟨h1, h2⟩ := hB c hb.1 hb.2
    have := hlt c hb.1 hb.2
    exact ⟨fun j hj => by rw [h1 j hj]; simp, ndvd (hy _ c (by omega) hc) h2⟩
  · rw [hr]; exact (ct_ext B i w hiw).symm
/-- below a pivot all is cleared -/
theorem elim_eq {T : Sg} {m w q i rank : Nat} {y : Nat → Nat → Nat} (hq : q ∈ primes) (hw : w ≤ 6) (hm : m ≤ 26) (hi : i < w) (hr : rank < m) (e0 : T.1 0 0 = nI q) (e1 : T.1 0 1 = nI w) (e9 : T.1 0 9 = nI m) (hX : RowsX T m w q y) (hpv : y rank i ≠ 0) (hz : ∀ t, rank ≤ t → t < m → ∀ j, j < i → y t j = 0) :
    ∃ T', (Fr 6 T T' ∧ ∃ z, RowsX T' m w q z ∧ (∀ v, SpR m w q z v ↔ SpR m w q y v) ∧ (∀ t j, t ≤ rank → j < w → z t j = y t j) ∧ ∀ t, rank < t → t < m → ∀ j, j ≤ i → z t j = 0) ∧ ∀ k, wp2 (X10_ranks_L72 (nI rank) (nI i) k) FU (nI (rank + 1)) T = k T' := by
  have h2 := primes_b hq
  obtain ⟨T', ⟨-, f1, z, z1, z2, z3, z4, z5⟩, h4⟩ := for2k (F := fun k => X10_ranks_L72 (nI rank) (nI i) k) (fun k S => k S) m (fun o T1 => rank < o ∧ Fr 6 T T1 ∧ ∃ z, RowsX T1 m w q z ∧ (∀ v, SpR m w q z v ↔ SpR m w q y v) ∧ (∀ t j, t ≤ rank → j < w → z t j = y t j) ∧ (∀ t, rank < t → t < m → ∀ j, j < i → z t j = 0) ∧ ∀ t, rank < t → t < o → z t i = 0) (by
    rintro o T1 ho ⟨hro, f1, z, z1, z2, z3, z4, z5⟩
    have g0 : T1.1 0 0 = nI q := by rw [f1.1 0 (by decide), e0]
    have g1 : T1.1 0 1 = nI w := by rw [f1.1 0 (by decide), e1]
    have g9 : T1.1 0 9 = nI m := by rw [f1.1 0 (by decide), e9]
    have hzo := (z1 o i ho hi).1
    have hzr := (z1 rank i (by omega) hi).1
    have hb0 : z rank i ≠ 0 := by rw [z3 rank i (Nat.le_refl _) hi]; exact hpv
    have hst : ∀ (k : Sg → Option (Int32 × Sg)) self, X10_ranks_L72 (nI rank) (nI i) k self (nI o) T1 = if z o i = 0 then self (nI (o + 1)) T1 else (cl1 (f_X10_over (nI (z o i)) (nI (z rank i)) T1) fun r20 => cl1 (f_X10_adds (nI o) (nI rank) (nI q - r20) T1) fun S23 => self (nI (o + 1)) S23) := fun k self => by
      unfold X10_ranks_L72
      rw [g9, le_n ho (by omega), mm6, mm6, inb_p (by omega) (by omega), jn_e, inb_p (by omega) (by omega), inb_p (by omega) (by omega), ix_nI (by omega), ix_nI (by omega), (z1 o i ho hi).2, (z1 rank i (by omega) hi).2, g0]
      simp only [bv_e, nI_1, nI_0p (show z o i < 2 ^ 31 by omega)]
    by_cases hz0 : z o i = 0
    · refine ⟨T1, ⟨by omega, f1, z, z1, z2, z3, z4, fun t h1 h3 => ?_⟩, fun k self => by rw [hst, if_pos hz0]⟩
      by_cases he : t = o
      · rw [he]; exact hz0
      · exact z5 t h1 (by omega)
    · obtain ⟨x, x1, x2⟩ := quo_ex hq hzo hzr hb0
      obtain ⟨T2, a1, a2, a3⟩ := adds_eq (to := o) (fr := rank) (tm := q - x) (by omega) (by omega) hw hm g0 g1 z1 ho (by omega) (by omega) (by omega)
      refine ⟨T2, ⟨by omega, ⟨fun a ha => by rw [a2.1 a ha, f1.1 a ha], by rw [a2.2, f1.2]⟩, _, a3, fun v => Iff.trans ?_ (z2 v), ?_, ?_, ?_⟩, fun k self => ?_⟩
      · have hrow : ∀ t, t < m → t ≠ o → SpR m w q (fun t i => if t = o then (z o i + (q - x) * z rank i) % q else z t i) (fun i => ((z t i : Nat) : Int)) := fun t ht hne => by
          have hg := SpR_gen (m := m) (w := w) (q := q) (x := fun t i => if t = o then (z o i + (q - x) * z rank i) % q else z t i) ht
          simp only [hne, if_false] at hg; exact hg
        refine SpR_iff (fun t ht => ?_) (fun t ht => ?_) v
        · by_cases he : t = o
          · simp only [he, if_true]
            refine Sp_cg (Sp_sub2 (SpR_gen (x := z) ho) (SpR_gen (x := z) (show rank < m by omega)) 1 ((q - x : Nat) : Int)) (fun j hj => ?_)
            have := mod_dvd (z o j + (q - x) * z rank j) q
            rw [Int.natCast_add, Int.natCast_mul] at this
            rw [Int.one_mul]; exact this
          · simp only [he, if_false]; exact SpR_gen ht
        · by_cases he : t = o
          · have hg := SpR_gen (m := m) (w := w) (q := q) (x := fun t i => if t = o then (z o i + (q - x) * z rank i) % q else z t i) ho
            simp only [if_true] at hg
            rw [he]
            refine Sp_cg (Sp_sub2 hg (hrow rank (by omega) (by omega)) 1 (-((q - x : Nat) : Int))) (fun j hj => ?_)
            obtain ⟨d, hd⟩ := mod_dvd (z o j + (q - x) * z rank j) q
            rw [Int.natCast_add, Int.natCast_mul] at hd
            refine ⟨-d, ?_⟩
            rw [Int.one_mul, Int.neg_mul, Int.mul_neg, ← hd]
            omega
          · exact hrow t ht he
      · intro t j h1 h3
        rw [if_neg (by omega)]; exact z3 t j h1 h3
      · intro t h1 h3 j hj
        by_cases he : t = o
        · rw [if_pos he, z4 o (by omega) ho j hj, z3 rank j (Nat.le_refl _) (by omega), hz rank (Nat.le_refl _) (by omega) j hj]; simp
        · rw [if_neg he]; exact z4 t h1 h3 j hj
      · intro t h1 h3
        by_cases he : t = o
        · rw [if_pos he]
          have hd := Nat.div_add_mod (x * z rank i) q
          rw [x1.2] at hd
          have hle : x * z rank i ≤ q * z rank i := Nat.mul_le_mul_right _ (by omega)
          have e : z o i + (q - x) * z rank i = q * (z rank i - x * z rank i / q) := by
            rw [Nat.sub_mul, Nat.mul_sub]; omega
          rw [e]; exact Nat.mul_mod_right _ _
        · rw [if_neg he]; exact z5 t h1 (by omega)
      · rw [hst, if_neg hz0, over_eq hq g0 hzo hzr x1 x2, cl1_s, pk_sub (by omega), a1, cl1_s]) (by
    rintro T1 ⟨-, f1, -⟩ k self
    show X10_ranks_L72 (nI rank) (nI i) k self (nI m) T1 = k T1
    unfold X10_ranks_L72
    rw [f1.1 0 (by decide), e9, le_p (Nat.le_refl _) (by omega)]) (i0 := rank + 1) (S0 := T) ⟨by omega, Fr.rf _ _, y, hX, fun v => Iff.rfl, fun _ _ _ _ => rfl, fun t h1 h2 => hz t (by omega) h2, fun t h1 h2 => by omega⟩ (by omega) (fuel := FU) (show m < FU + (rank + 1) by have := FU_n (show m < 2000 by omega); omega)
  exact ⟨T', ⟨f1, z, z1, z2, z3, fun t ht1 ht2 j hj => by
    by_cases he : j = i
    · rw [he]; exact z5 t ht1 ht2
    · exact z4 t ht1 ht2 j (by omega)⟩, h4⟩
theorem ranks_eq {T : Sg} {m w q : Nat} {x : Nat → Nat → Nat} (hq : q ∈ primes) (hw : w ≤ 6) (hm : m ≤ 26) (e0 : T.1 0 0 = nI q) (e1 : T.1 0 1 = nI w) (e9 : T.1 0 9 = nI m) (hX : RowsX T m w q x) :
    ∃ r T', f_X10_ranks T = some (nI r, T') ∧ IsRk w q (SpR m w q x) r ∧ Fr 6 T T' := by
  have h2 := primes_b hq
  have hp := PrimeQ_of hq
  unfold f_X10_ranks
  obtain ⟨r, ⟨rr, T', p1, p2, p3⟩, h4⟩ := wp3R (F := X10_ranks_L4) (fun c v1 v2 T1 => ∃ i rank, i + c = w ∧ v1 = nI rank ∧ v2 = nI i ∧ rank ≤ m ∧ Fr 6 T T1 ∧ ∃ y, RowsX T1 m w q y ∧ (∀ v, SpR m w q y v ↔ SpR m w q x v) ∧ ∃ B, rank = fb_ct B i ∧ (∀ c, c < i → B c = true → (∀ j, j < c → y (fb_ct B c) j = 0) ∧ y (fb_ct B c) c ≠ 0) ∧ ∀ t, rank ≤ t → t < m → ∀ j, j < i → y t j = 0) (fun r => ∃ rr T', r = some (nI rr, T') ∧ IsRk w q (SpR m w q x) rr ∧ Fr 6 T T') (by
    rintro c v1 v2 T1 ⟨i, rank, hi, rfl, rfl, hrm, f1, y, y1, y2, B, b1, b2, b3⟩
    have g0 : T1.1 0 0 = nI q := by rw [f1.1 0 (by decide), e0]
    have g1 : T1.1 0 1 = nI w := by rw [f1.1 0 (by decide), e1]
    have g9 : T1.1 0 9 = nI m := by rw [f1.1 0 (by decide), e9]
    by_cases hend : i = w
    · refine Or.inl ⟨some (nI rank, T1), ⟨rank, T1, rfl, ?_, f1⟩, fun self => ?_⟩
      · exact (steps_rk hp (by omega) (fun t j ht hj => (y1 t j ht hj).1) hrm b1 b2 (fun t h1 h2 j hj => b3 t h1 h2 j (by omega))).cg y2
      · unfold X10_ranks_L4
        rw [g1, le_p (by omega) (by omega)]
    · by_cases hfull : rank = m
      · refine Or.inl ⟨some (nI rank, T1), ⟨rank, T1, rfl, ?_, f1⟩, fun self => ?_⟩
        · exact (steps_rk hp (by omega) (fun t j ht hj => (y1 t j ht hj).1) hrm b1 b2 (fun t h1 h2 j hj => by omega)).cg y2
        · unfold X10_ranks_L4
          rw [g1, le_n (by omega) (by omega), g9, le_p (by omega) (by omega)]
      · obtain ⟨r, r1, r2, r3, r4, r5⟩ := find_eq hw hm (show i < w by omega) hrm (by omega) g9 y1
        by_cases hrm2 : r = m
        · -- no row is left that isn't 0 there
          refine Or.inr ⟨c - 1, nI rank, nI (i + 1), T1, by omega, ⟨i + 1, rank, by omega, rfl, rfl, hrm, f1, y, y1, y2, fun d => decide (d < i) && B d, ?_, ?_, ?_⟩, fun self => ?_⟩
          · rw [b1]; exact (ct_ext B i (i + 1) (by omega)).symm
          · intro d hd hb
            simp only [Bool.and_eq_true, decide_eq_true_eq] at hb
            have e : fb_ct (fun d => decide (d < i) && B d) d = fb_ct B d := fb_ct_cong (fun k hk => by simp [show k < i by omega])
            rw [e]; exact b2 d hb.1 hb.2
          · intro t h1 h2 j hj
            by_cases he : j = i
            · rw [he]; exact r3 t h1 (by omega)
            · exact b3 t h1 h2 j (by omega)
          · unfold X10_ranks_L4
            rw [g1, le_n (by omega) (by omega), g9, le_n (by omega) (by omega), r5, jn_e, if_pos (by rw [hrm2])]
            dsimp only
            rw [bv_e, nI_1]
        · obtain ⟨T2, c1, c2, c3⟩ := changes_eq (a := rank) (b := r) hw hm g1 y1 (by omega) (by omega)
          have hswap : ∀ v, SpR m w q (fun t i => if t = rank then y r i else if t = r then y rank i else y t i) v ↔ SpR m w q y v := by
            intro v
            refine SpR_iff (fun t ht => ?_) (fun t ht => ?_) v
            · by_cases h1 : t = rank
              · simp only [h1, if_true]; exact SpR_gen (by omega)
              · by_cases h2 : t = r
                · have : ¬ r = rank := fun z => h1 (by omega)
                  simp only [h2, this, if_true, if_false]; exact SpR_gen (by omega)
                · simp only [h1, h2, if_false]; exact SpR_gen ht
            · by_cases h1 : t = rank
              · have hg := SpR_gen (m := m) (w := w) (q := q) (x := fun t i => if t = rank then y r i else if t = r then y rank i else y t i) (t := r) (by omega)
                by_cases h3 : r = rank
                · rw [h1]; simp only [h3, if_true] at hg ⊢; exact hg
                · simp only [h3, if_true, if_false] at hg; rw [h1]; exact hg
              · by_cases h2 : t = r
                · have hg := SpR_gen (m := m) (w := w) (q := q) (x := fun t i => if t = rank then y r i else if t = r then y rank i else y t i) (t := rank) (by omega)
                  simp only [if_true] at hg; rw [h2]; exact hg
                · have hg := SpR_gen (m := m) (w := w) (q := q) (x := fun t i => if t = rank then y r i else if t = r then y rank i else y t i) (t := t) ht
                  simp only [h1, h2, if_false] at hg; exact hg
          obtain ⟨T3, ⟨d1, z, z1, z2, z3, z4⟩, d2⟩ := elim_eq (T := T2) (rank := rank) (i := i) hq hw hm (by omega) (by omega) (by rw [c2.1 0 (by decide), g0]) (by rw [c2.1 0 (by decide), g1]) (by rw [c2.1 0 (by decide), g9]) c3 (by simp only [if_true]; exact r4 (by omega)) (fun t h1 h2 j hj => by
            by_cases h3 : t = rank
            · simp only [h3, if_true]; exact b3 r (by omega) (by omega) j hj
            · by_cases h4 : t = r
              · have : ¬ r = rank := fun z => h3 (by omega)
                simp only [h4, this, if_true, if_false]; exact b3 rank (by omega) (by omega) j hj
              · simp only [h3, h4, if_false]; exact b3 t h1 h2 j hj)
          have eB : ∀ d, d ≤ i → fb_ct (fun d => if d = i then true else B d) d = fb_ct B d := fun d hd => fb_ct_cong (fun k hk => by simp [show k ≠ i by omega])
          refine Or.inr ⟨c - 1, nI (rank + 1), nI (i + 1), T3, by omega, ⟨i + 1, rank + 1, by omega, rfl, rfl, by omega, ⟨fun a ha => by rw [d1.1 a ha, c2.1 a ha, f1.1 a ha], by rw [d1.2, c2.2, f1.2]⟩, z, z1, fun v => (z2 v).trans ((hswap v).trans (y2 v)), fun d => if d = i then true else B d, ?_, ?_, ?_⟩, fun self => ?_⟩
          · rw [fb_ct_succ, eB i (Nat.le_refl _), if_pos rfl, if_pos rfl, b1]
          · intro d hd hb
            rw [eB d (by omega)]
            by_cases hdi : d = i
            · subst hdi
              rw [← b1]
              refine ⟨fun j hj => ?_, ?_⟩
              · rw [z3 rank j (Nat.le_refl _) (by omega)]; simp only [if_true]; exact b3 r (by omega) (by omega) j hj
              · rw [z3 rank d (Nat.le_refl _) (by omega)]; simp only [if_true]; exact r4 (by omega)
            · simp only [hdi, if_false] at hb
              have hlt : fb_ct B d < rank := by
                have h1 := fb_ct_mono B (show d + 1 ≤ i by omega)
                rw [fb_ct_succ, if_pos hb] at h1
                omega
              obtain ⟨q1, q2⟩ := b2 d (by omega) hb
              have hne1 : ¬ fb_ct B d = rank := by omega
              have hne2 : ¬ fb_ct B d = r := by omega
              refine ⟨fun j hj => ?_, ?_⟩
              · rw [z3 _ j (by omega) (by omega)]; simp only [hne1, hne2, if_false]; exact q1 j hj
              · rw [z3 _ d (by omega) (by omega)]; simp only [hne1, hne2, if_false]; exact q2
          · intro t h1 h2 j hj
            exact z4 t (by omega) h2 j (by omega)
          · unfold X10_ranks_L4
            rw [g1, le_n (by omega) (by omega), g9, le_n (by omega) (by omega), r5, jn_e, if_neg (fun zz => hrm2 ((nI_eq (by omega) (by omega)).mp zz)), c1, cl1_s, bv_e, show nI rank + 1 = nI (rank + 1) from nI_1 _, d2, bv_e]
            dsimp only
            rw [bv_e, nI_1]) FU w (nI 0) (nI 0) T (FU_n (by omega)) ⟨0, 0, by omega, rfl, rfl, by omega, Fr.rf _ _, x, hX, fun v => Iff.rfl, fun _ => false, rfl, fun c h => by omega, fun t _ _ j h => by omega⟩
  exact ⟨rr, T', by rw [← p1, ← h4]; rfl, p2, p3⟩
