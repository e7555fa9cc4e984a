/-! COVERS: the reference's classes; cover -/
theorem for4 {ρ : Type} {F : (Int32 → Int32 → Int32 → Sg → Option ρ) → Int32 → Int32 → Int32 → Sg → Option ρ} (n : Nat) (g h : Nat → Int32) (J : Nat → Sg → Prop) (exit : Sg → Option ρ) (hs : ∀ i S, i < n → J i S → ∃ S', J (i + 1) S' ∧ ∀ self, F self (g i) (h i) (nI i) S = self (g (i + 1)) (h (i + 1)) (nI (i + 1)) S') (he : ∀ S, J n S → ∀ self, F self (g n) (h n) (nI n) S = exit S) {i0 : Nat} {S0 : Sg} (h0 : J i0 S0) (hi : i0 ≤ n) {fuel : Nat} (hf : n < fuel) : ∃ S', J n S' ∧ wp4 F fuel (g i0) (h i0) (nI i0) S0 = exit S' := by
  obtain ⟨r, ⟨S', h1, h2⟩, h3⟩ := wp4R (F := F) (fun c u v x S => ∃ i, i + c = n ∧ u = g i ∧ v = h i ∧ x = nI i ∧ J i S) (fun r => ∃ S', J n S' ∧ r = exit S') (by
    rintro c u v x S ⟨i, hi, rfl, rfl, rfl, hJ⟩
    rcases Nat.eq_zero_or_pos c with h | h
    · have e : i = n := by omega
      subst e
      exact Or.inl ⟨exit S, ⟨S, hJ, rfl⟩, he S hJ⟩
    · obtain ⟨S', q1, q2⟩ := hs i S (by omega) hJ
      exact Or.inr ⟨c - 1, _, _, nI (i + 1), S', by omega, ⟨i + 1, by omega, rfl, rfl, rfl, q1⟩, q2⟩) fuel (n - i0) (g i0) (h i0) (nI i0) S0 (by omega) ⟨i0, by omega, rfl, rfl, rfl, h0⟩
  exact ⟨S', h1, by rw [h3, h2]⟩
theorem areAxesM {T : Sg} {w : Nat} (t1 : T.1 0 1 = nI w) (hw : w ≤ 6) (a : Int32) : f_X10_areAxes a T = some (b01 (0 ≤ a.toInt ∧ a.toInt < (2 ^ w : Nat))) := by
  unfold f_X10_areAxes
  rw [in_eq, cl1_s, gB, t1, Int32.toInt_toInt64, Int32.toInt_toInt64, shl1 (by omega)]
  congr 1
  apply b01_c
  have h2 := pw_le (show w ≤ 10 by omega)
  have e : (nI (2 ^ w) - 1).toInt = ((2 ^ w : Nat) : Int) - 1 := pk_sub_toInt (a := 2 ^ w) (b := 1) (by omega) (by decide)
  rw [e]
  simp
  omega
theorem classWorthM {T : Sg} {q w n a lo : Nat} (hqp : q ∈ primes) (hw : w ≤ 6) (hn : n ≤ 10) (ha : a < 2 ^ 31) (hlo : lo < 2 ^ w) (e0 : T.1 0 0 = nI q) (e1 : T.1 0 1 = nI w) (e2 : T.1 0 2 = nI n) :
    ∃ T', f_X10_classWorth (nI a) (nI lo) T = some (nI (rkA q w n (T.1 1) (T.1 4) a lo / 2), T') ∧ Fm T T' := by
  have h2 := pw_le (show w ≤ 10 by omega)
  obtain ⟨T', c1, c2⟩ := rankM (a := a) (lo := lo) hqp hw hn ha hlo e0 e1 e2
  have hr := rkA_le q w n (T.1 1) (T.1 4) a lo
  have hp := pcn_le lo
  unfold f_X10_classWorth
  rw [c1, cl_s, many_tab lo (by omega), cl1_s, pk_sub (by omega), Nat.add_sub_cancel, show (2 : Int32) = nI 2 from rfl, pk_div (by omega) (by decide) (by decide)]
  exact ⟨T', rfl, c2⟩
def lkf (p : Nat) (E : Nat → Bool) : Nat → Nat
  | 0 => 2 ^ p
  | i + 1 => if E (p + 1 + i) = true then lkf p E i ||| 2 ^ (p + 1 + i) else lkf p E i
theorem lkf_s (p : Nat) (E : Nat → Bool) (i : Nat) : lkf p E (i + 1) = if E (p + 1 + i) = true then lkf p E i ||| 2 ^ (p + 1 + i) else lkf p E i := rfl
theorem lkf_lt {p : Nat} {E : Nat → Bool} : ∀ i, p + 1 + i ≤ 10 → lkf p E i < 1024
  | 0, h => by
    have := Nat.pow_lt_pow_right (show 1 < 2 by decide) (show p < 10 by omega)
    exact this
  | i + 1, h => by
    have ih := lkf_lt (p := p) (E := E) i (by omega)
    rw [lkf_s]
    split
    · exact or_lt ih (by omega)
    · exact ih
theorem lkf_bit (p : Nat) (E : Nat → Bool) : ∀ i o, (lkf p E i).testBit o = true ↔ o = p ∨ (p < o ∧ o < p + 1 + i ∧ E o = true)
  | 0, o => by
    show (2 ^ p).testBit o = true ↔ _
    rw [Nat.testBit_two_pow]
    simp
    omega
  | i + 1, o => by
    have ih := lkf_bit p E i o
    rw [lkf_s]
    by_cases h : E (p + 1 + i) = true
    · rw [if_pos h, or_bit]
      by_cases he : o = p + 1 + i
      · rw [if_pos he]
        simp only [true_iff]
        exact Or.inr ⟨by omega, by omega, by rw [he]; exact h⟩
      · rw [if_neg he, ih]
        constructor
        · rintro (h1 | ⟨h1, h2, h3⟩)
          · exact Or.inl h1
          · exact Or.inr ⟨h1, by omega, h3⟩
        · rintro (h1 | ⟨h1, h2, h3⟩)
          · exact Or.inl h1
          · exact Or.inr ⟨h1, by omega, h3⟩
    · rw [if_neg h, ih]
      constructor
      · rintro (h1 | ⟨h1, h2, h3⟩)
        · exact Or.inl h1
        · exact Or.inr ⟨h1, by omega, h3⟩
      · rintro (h1 | ⟨h1, h2, h3⟩)
        · exact Or.inl h1
        · refine Or.inr ⟨h1, ?_, h3⟩
          by_cases he : o = p + 1 + i
          · rw [he] at h3; exact absurd h3 h
          · omega
def lik (X : Nat → Int64) (n b p : Nat) : Nat := lkf p (fun o => decide (X o = X p)) (min n b - (p + 1))
theorem lik_lt {X : Nat → Int64} {n b p : Nat} (hn : n ≤ 10) (hp : p < n) : lik X n b p < 1024 := lkf_lt _ (by omega)
theorem lik_bit {X : Nat → Int64} {n b p o : Nat} (ho : o < n) : (lik X n b p).testBit o = true ↔ sim X b p o := by
  unfold lik sim
  rw [lkf_bit]
  simp only [decide_eq_true_eq]
  constructor
  · rintro (h1 | ⟨h1, h2, h3⟩)
    · exact Or.inl h1
    · exact Or.inr ⟨h1, by omega, h3⟩
  · rintro (h1 | ⟨h1, h2, h3⟩)
    · exact Or.inl h1
    · exact Or.inr ⟨h1, by omega, h3⟩
theorem likeM {T : Sg} {n b s p : Nat} {X : Nat → Int64} (hn : n ≤ 10) (hb : b ≤ 30) (hs : s < 4) (hp : p < n) (t2 : T.1 0 2 = nI n) (e : T.1 16 s = nI b) (hX : ∀ o, o < b → T.2 17 (30 * s + o) = X o) (K : Int32 → Option (Int32 × Sg)) : wp2 (X10_cover_L62 (nI s) (nI p) T K) FU (nI (2 ^ p)) (nI (p + 1)) = K (nI (lik X n b p)) := by
  have key : wp2 (X10_cover_L62 (nI s) (nI p) T K) FU (nI (lkf p (fun o => decide (X o = X p)) 0)) (nI (p + 1 + 0)) = K (nI (lik X n b p)) := wp2E (F := X10_cover_L62 (nI s) (nI p) T K) (min n b - (p + 1)) (fun i => nI (lkf p (fun o => decide (X o = X p)) i)) (fun i => nI (p + 1 + i)) (X := K (nI (lik X n b p))) (fun i hi self => by
    unfold X10_cover_L62
    rw [t2, le_n (by omega) (by omega), inb_p hs (by decide), ix_nI (by omega), e, le_n (by omega) (by omega), m30, m30, inb_p (by omega) (by decide), inb_p (by omega) (by decide), ix_nI (by omega), ix_nI (by omega), hX _ (by omega), hX p (by omega)]
    simp only [jn_e, bv_e, nI_1, cmp_eq]
    show _ = self (nI (if decide (X (p + 1 + i) = X p) = true then lkf p (fun o => decide (X o = X p)) i ||| 2 ^ (p + 1 + i) else lkf p (fun o => decide (X o = X p)) i)) (nI (p + 1 + i + 1))
    by_cases h : X (p + 1 + i) = X p
    · rw [if_pos h, if_pos (decide_eq_true h), shl1 (by omega), fa_or]
    · rw [if_neg h, if_neg (fun z => h (of_decide_eq_true z)), show (0 : Int32) = nI 0 from rfl, fa_or, Nat.or_zero]) (fun self => by
    unfold X10_cover_L62
    by_cases h : n ≤ p + 1 + (min n b - (p + 1))
    · rw [t2, le_p h (by omega)]; rfl
    · rw [t2, le_n (by omega) (by omega), inb_p hs (by decide), ix_nI (by omega), e, le_p (by omega) (by omega)]; rfl) (fuel := FU) (FU_n (by omega))
  exact key
/-- what is seen ahead of a PAIR -/
def snf (X : Nat → Int64) (n b : Nat) : Nat → Nat
  | 0 => 0
  | p + 1 => snf X n b p ||| lik X n b p
theorem snf_lt {X : Nat → Int64} {n b : Nat} (hn : n ≤ 10) : ∀ p, p ≤ n → snf X n b p < 1024
  | 0, _ => by simp [snf]
  | p + 1, h => Nat.or_lt_two_pow (n := 10) (snf_lt hn p (by omega)) (lik_lt hn (by omega))
theorem snf_bit {X : Nat → Int64} {n b o : Nat} (ho : o < n) : ∀ p, (snf X n b p).testBit o = true ↔ ∃ c, c < p ∧ sim X b c o
  | 0 => by simp [snf]
  | p + 1 => by
    have ih := snf_bit (X := X) (b := b) ho p
    show (snf X n b p ||| lik X n b p).testBit o = true ↔ _
    rw [Nat.testBit_or, Bool.or_eq_true, ih, lik_bit ho]
    constructor
    · rintro (⟨c, h1, h2⟩ | h)
      · exact ⟨c, by omega, h2⟩
      · exact ⟨p, by omega, h⟩
    · rintro ⟨c, h1, h2⟩
      by_cases he : c = p
      · rw [he] at h2; exact Or.inr h2
      · exact Or.inl ⟨c, by omega, h2⟩
theorem coverM {T : Sg} {q w n b s lo : Nat} {X : Nat → Int64} (hqp : q ∈ primes) (hw : w ≤ 6) (hn : n ≤ 10) (hb : b ≤ 30) (hs : s < 4) (hlo : lo < 2 ^ w) (t0 : T.1 0 0 = nI q) (t1 : T.1 0 1 = nI w) (t2 : T.1 0 2 = nI n) (e : T.1 16 s = nI b) (hX : ∀ o, o < b → T.2 17 (30 * s + o) = X o) :
    ∃ T', wp4 (X10_cover_L41 (nI s) (nI lo)) FU (nI (pcn lo)) 0 0 T = some (nI (cvr q w n (T.1 1) (T.1 4) (clo X b) lo n), T') ∧ Fm T T' := by
  obtain ⟨T', f1, h4⟩ := for4 (F := X10_cover_L41 (nI s) (nI lo)) n (fun k => nI (cvr q w n (T.1 1) (T.1 4) (clo X b) lo k)) (fun k => nI (snf X n b k)) (fun _ T1 => Fm T T1) (fun T1 => some (nI (cvr q w n (T.1 1) (T.1 4) (clo X b) lo n), T1)) (by
    rintro p T1 hp f1
    have hsn := snf_lt (X := X) (b := b) hn p (by omega)
    have hlk := lik_lt (X := X) (b := b) hn hp
    have g2 : T1.1 0 2 = nI n := by rw [f1.2.1 2 (by decide), t2]
    have hst : ∀ self, X10_cover_L41 (nI s) (nI lo) self (nI (cvr q w n (T.1 1) (T.1 4) (clo X b) lo p)) (nI (snf X n b p)) (nI p) T1 = if (snf X n b p).testBit p = true then self (nI (cvr q w n (T.1 1) (T.1 4) (clo X b) lo p)) (nI (snf X n b (p + 1))) (nI (p + 1)) T1 else cl (f_X10_classWorth (nI (lik X n b p)) (nI lo) T1) fun r S => self (nI (cvr q w n (T.1 1) (T.1 4) (clo X b) lo p) + r) (nI (snf X n b (p + 1))) (nI (p + 1)) S := fun self => by
      unfold X10_cover_L41
      rw [g2, le_n hp (by omega), bv_e, bv_e, shl1 (by omega), nI_1, likeM (X := X) hn hb hs hp g2 (by rw [f1.1 16 (by decide) (by decide), e]) (fun o ho => by rw [f1.2.2]; exact hX o ho), has_eq (by omega) (by omega), cl1_s]
      simp only [jn_e, bv_e, nI_1, fa_or, b01_0]
      by_cases h : (snf X n b p).testBit p = true
      · rw [if_pos h, if_neg (fun z => z h), Int32.add_zero]; rfl
      · rw [if_neg h, if_pos h]; rfl
    by_cases h : (snf X n b p).testBit p = true
    · obtain ⟨c', h1, h2⟩ := (snf_bit hp p).mp h
      refine ⟨T1, f1, fun self => ?_⟩
      rw [hst, if_pos h, cvr_s, rkA_e (fun o ho => by rw [mmk_bit]; exact decide_eq_false (fun z => clo_old h1 h2 o z.2.2)), Nat.zero_div]
      rfl
    · have hnew : ∀ c', c' < p → ¬ sim X b c' p := fun c' h1 h2 => h ((snf_bit hp p).mpr ⟨c', h1, h2⟩)
      obtain ⟨T2, c1, c2⟩ := classWorthM (T := T1) (a := lik X n b p) (lo := lo) hqp hw hn (by omega) hlo (by rw [f1.2.1 0 (by decide), t0]) (by rw [f1.2.1 1 (by decide), t1]) g2
      rw [f1.1 1 (by decide) (by decide), f1.1 4 (by decide) (by decide)] at c1
      have er : rkA q w n (T.1 1) (T.1 4) (lik X n b p) lo = rkA q w n (T.1 1) (T.1 4) (mmk (clo X b) p n) lo := rkA_cg (fun o ho => by
        rw [mmk_bit]
        have h1 := lik_bit (X := X) (b := b) (p := p) ho
        have h2 := clo_new hnew o
        have h3 := clo_le X b o
        by_cases hs : sim X b p o
        · rw [h1.mpr hs, decide_eq_true (show o < n ∧ p ≤ o ∧ clo X b o = p from ⟨ho, by have := h2.mpr hs; omega, h2.mpr hs⟩)]
        · rw [decide_eq_false (fun z => hs (h2.mp z.2.2))]
          have : ¬ (lik X n b p).testBit o = true := fun z => hs (h1.mp z)
          simpa using this)
      refine ⟨T2, f1.tr c2, fun self => ?_⟩
      rw [hst, if_neg h, c1, cl_s, nI_add, er, cvr_s]) (by
    rintro T1 f1 self
    unfold X10_cover_L41
    rw [f1.2.1 2 (by decide), t2, le_p (Nat.le_refl _) (by omega)]) (i0 := 0) (S0 := T) (Fm.rf T) (by omega) (FU_n (by omega))
  refine ⟨T', ?_, f1⟩
  have h5 : wp4 (X10_cover_L41 (nI s) (nI lo)) FU (nI (cvr q w n (T.1 1) (T.1 4) (clo X b) lo 0)) (nI (snf X n b 0)) (nI 0) T = some (nI (cvr q w n (T.1 1) (T.1 4) (clo X b) lo n), T') := h4
  rw [cvr_0] at h5
  exact h5
theorem e_cover {S T : Sg} (h : Rel S T) (a0 : Int32) (a1 : Int32) : ∃ (r : Int32) (S' : Sg) (T' : Sg), f_X9_cover a0 a1 S = some (r, S') ∧ f_X10_cover a0 a1 T = some (r, T') ∧ Rel S' T' := by
  obtain ⟨q, w, n, hqp, hw1, hw, hn, s0, t0, s1, t1, s2, t2⟩ := h.nums
  have hq := primes_b hqp
  obtain ⟨m1, m2, m3, m4, m5, m6, m7, m8⟩ := h.1
  have hpw : 2 ^ w ≤ 64 := Nat.pow_le_pow_right (n := 2) (by decide) hw
  have epw : (nI (2 ^ w)).toInt = ((2 ^ w : Nat) : Int) := nI_toInt (by omega)
  unfold f_X9_cover f_X10_cover
  rw [sheetC, cl1_s, sheetM, cl1_s, s1, shl1 (by omega), areAxesM t1 hw, cl1_s]
  by_cases h1 : 0 ≤ a0.toInt ∧ a0.toInt < 4
  · rw [b01_t h1, if_neg n10, if_neg n10]
    obtain ⟨s, hs, rfl⟩ := nI_from (a := a0) (n := 4) ⟨h1.1, by omega⟩
    by_cases h2 : 0 ≤ a1.toInt ∧ a1.toInt < (2 ^ w : Nat)
    · obtain ⟨lo, hlo, rfl⟩ := nI_from h2
      rw [b01_t h2, if_neg n10, if_neg (nI_pos (show lo < 2 ^ 31 by omega)), if_pos (nI_lt hlo (by omega)), inb_p hs (by decide), inb_p hs (by decide), ix_nI (by omega), missC, cl1_s, many_tab lo (by omega), cl1_s]
      obtain ⟨k1, k2, k3, b, hb, k4, k5⟩ := h.2.2.2.1 s hs
      rw [k1]
      rcases sk_t k3 with hm | hm
      · rw [b01_t hm, if_neg n10, hm, if_neg (show ¬ (0 : Int32) ≤ -1 by decide)]
        exact ⟨_, _, _, rfl, rfl, h⟩
      · rw [b01_f (fun z => by rw [z] at hm; exact absurd hm (by decide)), if_pos z00, if_pos hm]
        obtain ⟨S1, c1, c2, c3, c4⟩ := fill_eq (S := S) (by omega) (by omega) hw hn s0 s1 s2
        obtain ⟨S2, d1, d2, d3⟩ := fillClassesC (S := S1) (ks := 32 + 2 * s) (b := b) (n := n) (X := fun o => T.2 17 (30 * s + o)) hn hb (by omega) (by rw [c3 1 (by decide) (by decide), s2]) (by rw [c3 (32 + 2 * s) (by omega) (by omega), k2, k4]) (fun o ho => by
          rw [c4, show 32 + 2 * s + 1 = 33 + 2 * s by omega]; exact k5 o ho)
        rw [m4, m7] at c2
        obtain ⟨S3, x1, x2, x3⟩ := coverByC (S := S2) (lo := lo) (cf := clo (fun o => T.2 17 (30 * s + o)) b) (c2.fr (d2.1 13 (by decide)) (d2.1 14 (by decide))) hqp hw hn (by omega) (fun p hp => ⟨by have := clo_le (fun o => T.2 17 (30 * s + o)) b p; omega, d3 p hp⟩)
        obtain ⟨T1, y1, y2⟩ := coverM (X := fun o => T.2 17 (30 * s + o)) hqp hw hn hb hs hlo t0 t1 t2 k4 (fun _ _ => rfl)
        rw [c1, cl1_s, inb_p hs (by decide), d1, cl1_s, x1, cl_s, y1]
        exact ⟨_, _, _, rfl, rfl, h.agr (fun k hk => ⟨by rw [x2 k (by omega), d2.1 k (by omega), c3 k (by omega) (by omega)], by rw [x3, d2.2, c4]⟩) y2.agr⟩
    · rw [b01_f h2, if_pos z00]
      by_cases z : a1 < 0
      · rw [if_pos z]; exact ⟨_, _, _, rfl, rfl, h⟩
      · have z1 : ¬ a1.toInt < 0 := fun y => z ((i_lt 0 (by decide)).mpr y)
        rw [if_neg z, if_neg (fun y => by have := (i_lt _ epw).mp y; omega)]
        exact ⟨_, _, _, rfl, rfl, h⟩
  · rw [b01_f h1, if_pos z00, if_pos z00]
    exact ⟨_, _, _, rfl, rfl, h⟩
