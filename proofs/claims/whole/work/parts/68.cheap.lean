/-! cheap -/
theorem for3k {ρ κ : Type} {F : κ → (Int32 → Int32 → Sg → Option ρ) → Int32 → Int32 → Sg → Option ρ} (ex : κ → Sg → Option ρ) (n : Nat) (g : Nat → Int32) (J : Nat → Sg → Prop) (hs : ∀ i S, i < n → J i S → ∃ S', J (i + 1) S' ∧ ∀ k self, F k self (g i) (nI i) S = self (g (i + 1)) (nI (i + 1)) S') (he : ∀ S, J n S → ∀ k self, F k self (g n) (nI n) S = ex k S) : ∀ {i0 : Nat} {S0 : Sg}, J i0 S0 → i0 ≤ n → ∀ {fuel : Nat}, n < fuel + i0 → ∃ S', J n S' ∧ ∀ k, wp3 (F k) fuel (g i0) (nI i0) S0 = ex k S' := by
  have key : ∀ (c i0 : Nat) (S0 : Sg) (fuel : Nat), i0 + c = n → J i0 S0 → c < fuel → ∃ S', J n S' ∧ ∀ k, wp3 (F k) fuel (g i0) (nI i0) S0 = ex k S' := by
    intro c
    induction c with
    | zero =>
      intro i0 S0 fuel h1 h2 h3
      obtain ⟨f, rfl⟩ : ∃ f, fuel = f + 1 := ⟨fuel - 1, by omega⟩
      have e : i0 = n := by omega
      subst e
      exact ⟨S0, h2, fun k => by rw [wp3s]; exact he S0 h2 k _⟩
    | succ c ih =>
      intro i0 S0 fuel h1 h2 h3
      obtain ⟨f, rfl⟩ : ∃ f, fuel = f + 1 := ⟨fuel - 1, by omega⟩
      obtain ⟨S1, q1, q2⟩ := hs i0 S0 (by omega) h2
      obtain ⟨S', q3, q4⟩ := ih (i0 + 1) S1 f (by omega) q1 (by omega)
      exact ⟨S', q3, fun k => by rw [wp3s, q2]; exact q4 k⟩
  intro i0 S0 h0 hi fuel hf
  exact key (n - i0) i0 S0 fuel (by omega) h0 (by omega)
theorem cheapIn0 {T : Sg} {k : Nat} {x : Int32} (K : Int32 → Sg → Option (Int32 × Sg)) : wp3 (X10_cheap_L73 0 (nI k) K) FU x 0 T = K x T := by
  rw [show FU = 1999 + 1 from rfl, wp3s]
  generalize wp3 (X10_cheap_L73 0 (nI k) K) 1999 = W
  unfold X10_cheap_L73
  by_cases h : T.1 0 2 ≤ (0 : Int32)
  · rw [if_pos h]
  · rw [if_neg h, if_neg (show ¬ (0 : Int32) = 1 by decide)]
theorem cheapIn1 {T : Sg} {q w n k : Nat} (hqp : q ∈ primes) (hw : w ≤ 6) (hn : n ≤ 10) (hk : k < 2 ^ w) (t0 : T.1 0 0 = nI q) (t1 : T.1 0 1 = nI w) (t2 : T.1 0 2 = nI n) : ∃ T', Fm T T' ∧ ∀ K : Int32 → Sg → Option (Int32 × Sg), wp3 (X10_cheap_L73 1 (nI k) K) FU (nI (pcn k)) 0 T = K (nI (cvr q w n (T.1 1) (T.1 4) (fun p => p) k n)) T' := by
  obtain ⟨T', f1, h4⟩ := for3k (F := fun K => X10_cheap_L73 1 (nI k) K) (fun K T1 => K (nI (cvr q w n (T.1 1) (T.1 4) (fun p => p) k n)) T1) n (fun p => nI (cvr q w n (T.1 1) (T.1 4) (fun p => p) k p)) (fun _ T1 => Fm T T1) (by
    rintro p T1 hp f1
    have h2 := two_lt hp
    have hpn := pw_le hn
    obtain ⟨T2, c1, c2⟩ := classWorthM (T := T1) (a := 2 ^ p) (lo := k) hqp hw hn (by omega) hk (by rw [f1.2.1 0 (by decide), t0]) (by rw [f1.2.1 1 (by decide), t1]) (by rw [f1.2.1 2 (by decide), t2])
    rw [f1.1 1 (by decide) (by decide), f1.1 4 (by decide) (by decide)] at c1
    have er : rkA q w n (T.1 1) (T.1 4) (2 ^ p) k = rkA q w n (T.1 1) (T.1 4) (mmk (fun p => p) p n) k := rkA_cg (fun o ho => by
      rw [mmk_bit, Nat.testBit_two_pow]
      by_cases he : p = o
      · rw [decide_eq_true he, decide_eq_true (show o < n ∧ p ≤ o ∧ o = p from ⟨ho, by omega, he.symm⟩)]
      · rw [decide_eq_false he, decide_eq_false (fun z => he z.2.2.symm)])
    refine ⟨T2, f1.tr c2, fun K self => ?_⟩
    unfold X10_cheap_L73
    rw [f1.2.1 2 (by decide), t2, le_n hp (by omega), if_pos rfl, shl1 (by omega), c1, cl_s, bv_e, bv_e, nI_add, nI_1, er, cvr_s]) (by
    rintro T1 f1 K self
    unfold X10_cheap_L73
    rw [f1.2.1 2 (by decide), t2, le_p (Nat.le_refl _) (by omega)]) (i0 := 0) (S0 := T) (Fm.rf T) (by omega) (fuel := FU) (show n < FU + 0 from FU_n (by omega))
  refine ⟨T', f1, fun K => ?_⟩
  have h5 : wp3 (X10_cheap_L73 1 (nI k) K) FU (nI (cvr q w n (T.1 1) (T.1 4) (fun p => p) k 0)) (nI 0) T = K (nI (cvr q w n (T.1 1) (T.1 4) (fun p => p) k n)) T' := h4 K
  rw [cvr_0] at h5
  exact h5
theorem sm_first {f : Nat → Nat} (h : ∀ c, 1 ≤ c → f c = 0) : ∀ n, fb_sm f (n + 1) = f 0
  | 0 => by rw [fb_sm_succ]; show 0 + f 0 = f 0; omega
  | n + 1 => by rw [fb_sm_succ, sm_first h n, h (n + 1) (by omega)]; rfl
theorem cvr_all {q w n : Nat} (ki en : Nat → Int32) (k : Nat) : cvr q w n ki en (fun _ => 0) k n = pcn k + rkA q w n ki en (2 ^ n - 1) k / 2 := by
  unfold cvr
  rcases Nat.eq_zero_or_pos n with h | h
  · subst h
    rw [rkA_e (fun p hp => by omega)]
    rfl
  · obtain ⟨m, rfl⟩ : ∃ m, n = m + 1 := ⟨n - 1, by omega⟩
    rw [sm_first (fun c hc => by rw [rkA_e (fun p hp => by rw [mmk_bit]; exact decide_eq_false (fun z => by have := z.2.2; omega))])]
    rw [rkA_cg (a := mmk (fun _ => 0) 0 (m + 1)) (a' := 2 ^ (m + 1) - 1) (fun p hp => by
      rw [mmk_bit, Nat.testBit_two_pow_sub_one, decide_eq_true (show p < m + 1 ∧ 0 ≤ p ∧ 0 = 0 from ⟨hp, by omega, rfl⟩), decide_eq_true hp])]
/-- one step of the reference: the COVER by axes k is weighed -/
theorem cheapRow {T : Sg} {q w n k how : Nat} (hh : how < 2) (hqp : q ∈ primes) (hw : w ≤ 6) (hn : n ≤ 10) (hk : k < 2 ^ w) (t0 : T.1 0 0 = nI q) (t1 : T.1 0 1 = nI w) (t2 : T.1 0 2 = nI n) : ∃ T', Fm T T' ∧ ∀ (K : Int32 → Int32 → Sg → Option (Int32 × Sg)) self v9 v10, X10_cheap_L31 (nI how) K self v9 v10 (nI k) T = if v9 = (-1 : Int32) then self (nI k) (nI (cvr q w n (T.1 1) (T.1 4) (fun p => if how = 0 then 0 else p) k n)) (nI (k + 1)) T' else if v10 ≤ nI (cvr q w n (T.1 1) (T.1 4) (fun p => if how = 0 then 0 else p) k n) then self v9 v10 (nI (k + 1)) T' else self (nI k) (nI (cvr q w n (T.1 1) (T.1 4) (fun p => if how = 0 then 0 else p) k n)) (nI (k + 1)) T' := by
  have hpw : 2 ^ w ≤ 64 := Nat.pow_le_pow_right (n := 2) (by decide) hw
  have hpn := pw_le hn
  have hax : f_X10_areAxes (nI k) T = some 1 := by rw [areAxesM t1 hw, b01_t (by rw [nI_T (by omega)]; omega)]
  rcases (show how = 0 ∨ how = 1 by omega) with rfl | rfl
  · obtain ⟨T', c1, c2⟩ := classWorthM (T := T) (a := 2 ^ n - 1) (lo := k) hqp hw hn (by omega) hk t0 t1 t2
    refine ⟨T', c2, fun K self v9 v10 => ?_⟩
    unfold X10_cheap_L31
    rw [hax, cl1_s, if_neg n10, many_tab k (by omega), cl1_s, jn_e, if_pos (show nI 0 = 0 from rfl), t2, shl1 (by omega), show nI (2 ^ n) - 1 = nI (2 ^ n - 1) from pk_sub (a := 2 ^ n) (b := 1) (Nat.pow_pos (by decide)), c1, cl_s, bv_e, nI_add]
    have hc := cvr_all (q := q) (w := w) (n := n) (T.1 1) (T.1 4) k
    show wp3 (X10_cheap_L73 0 (nI k) _) FU (nI (pcn k + rkA q w n (T.1 1) (T.1 4) (2 ^ n - 1) k / 2)) 0 T' = _
    rw [cheapIn0, ← hc]
    simp only [jn_e, bv_e, nI_1, if_true]
  · obtain ⟨T', c1, c2⟩ := cheapIn1 (T := T) (k := k) hqp hw hn hk t0 t1 t2
    refine ⟨T', c1, fun K self v9 v10 => ?_⟩
    unfold X10_cheap_L31
    rw [hax, cl1_s, if_neg n10, many_tab k (by omega), cl1_s, jn_e, if_neg (show ¬ nI 1 = 0 by decide)]
    show wp3 (X10_cheap_L73 1 (nI k) _) FU (nI (pcn k)) 0 T = _
    rw [c2]
    simp only [jn_e, bv_e, nI_1, show ¬ (1 : Nat) = 0 by decide, if_false]
/-- the least COVER by axes 0 .. k, and the least axes that have it -/
def bls (cv : Nat → Nat) : Nat → Nat × Nat
  | 0 => (0, cv 0)
  | k + 1 => if cv (k + 1) < (bls cv k).2 then (k + 1, cv (k + 1)) else bls cv k
theorem bls_s (cv : Nat → Nat) (k : Nat) : bls cv (k + 1) = if cv (k + 1) < (bls cv k).2 then (k + 1, cv (k + 1)) else bls cv k := rfl
theorem bls_le {cv : Nat → Nat} {m : Nat} (h : ∀ k, cv k ≤ m) : ∀ k, (bls cv k).1 ≤ k ∧ (bls cv k).2 ≤ m
  | 0 => ⟨Nat.le_refl _, h 0⟩
  | k + 1 => by
    have ih := bls_le h k
    rw [bls_s]
    split
    · exact ⟨Nat.le_refl _, h _⟩
    · exact ⟨by omega, ih.2⟩
theorem cheapM {T : Sg} {q w n how : Nat} (hh : how < 2) (hqp : q ∈ primes) (hw : w ≤ 6) (hn : n ≤ 10) (t0 : T.1 0 0 = nI q) (t1 : T.1 0 1 = nI w) (t2 : T.1 0 2 = nI n) (K : Int32 → Int32 → Sg → Option (Int32 × Sg)) :
    ∃ T', Fm T T' ∧ wp4 (X10_cheap_L31 (nI how) K) FU (-1) 0 0 T = K (nI (bls (fun k => cvr q w n (T.1 1) (T.1 4) (fun p => if how = 0 then 0 else p) k n) (2 ^ w - 1)).1) (nI (bls (fun k => cvr q w n (T.1 1) (T.1 4) (fun p => if how = 0 then 0 else p) k n) (2 ^ w - 1)).2) T' := by
  have hpw : 2 ^ w ≤ 64 := Nat.pow_le_pow_right (n := 2) (by decide) hw
  have hpos : 0 < 2 ^ w := Nat.pow_pos (by decide)
  generalize hcv : (fun k => cvr q w n (T.1 1) (T.1 4) (fun p => if how = 0 then 0 else p) k n) = cv
  have hcv2 : ∀ k, cvr q w n (T.1 1) (T.1 4) (fun p => if how = 0 then 0 else p) k n = cv k := fun k => by rw [← hcv]
  have hb : ∀ k, cv k ≤ 70 := fun k => by
    have := (cvr_le hw (T.1 1) (T.1 4) (fun p => if how = 0 then 0 else p) k (q := q) (n := n) n).2
    rw [hcv2] at this; omega
  obtain ⟨T', f1, h4⟩ := for4 (F := X10_cheap_L31 (nI how) K) (2 ^ w) (fun k => if k = 0 then -1 else nI (bls cv (k - 1)).1) (fun k => if k = 0 then 0 else nI (bls cv (k - 1)).2) (fun _ T1 => Fm T T1) (fun T1 => K (nI (bls cv (2 ^ w - 1)).1) (nI (bls cv (2 ^ w - 1)).2) T1) (by
    rintro k T1 hk f1
    obtain ⟨T2, c1, c2⟩ := cheapRow (T := T1) (k := k) hh hqp hw hn hk (by rw [f1.2.1 0 (by decide), t0]) (by rw [f1.2.1 1 (by decide), t1]) (by rw [f1.2.1 2 (by decide), t2])
    rw [f1.1 1 (by decide) (by decide), f1.1 4 (by decide) (by decide), hcv2] at c2
    refine ⟨T2, f1.tr c1, fun self => ?_⟩
    rw [c2]
    rcases Nat.eq_zero_or_pos k with h0 | h0
    · subst h0
      rw [if_pos rfl, if_pos rfl, if_neg (by decide), if_neg (by decide)]
      rfl
    · obtain ⟨k', rfl⟩ : ∃ k', k = k' + 1 := ⟨k - 1, by omega⟩
      have hle := bls_le hb k'
      have hbk := hb (k' + 1)
      simp only [show ¬ k' + 1 = 0 by omega, show ¬ k' + 1 + 1 = 0 by omega, if_false, Nat.add_sub_cancel]
      rw [if_neg (nI_m1 (by omega)), bls_s]
      by_cases hlt : cv (k' + 1) < (bls cv k').2
      · rw [le_n hlt (by omega), if_pos hlt]
      · rw [le_p (by omega) (by omega), if_neg hlt]) (by
    rintro T1 f1 self
    unfold X10_cheap_L31
    rw [areAxesM (by rw [f1.2.1 1 (by decide), t1]) hw, cl1_s, b01_f (by rw [nI_T (by omega)]; omega), if_pos z00, if_neg (by omega), if_neg (by omega)]) (i0 := 0) (S0 := T) (Fm.rf T) (by omega) (FU_n (by omega))
  exact ⟨T', f1, h4⟩
theorem cheapC {S : Sg} {q w n : Nat} {ki en : Nat → Int32} {cf : Nat → Nat} (hF : Filled S q w n ki en) (hqp : q ∈ primes) (hw : w ≤ 6) (hn : n ≤ 10) (s1 : S.1 1 1 = nI w) (hcf : ∀ p, p < n → cf p < 10 ∧ S.1 51 p = nI (cf p)) (K : Int32 → Int32 → Sg → Option (Int32 × Sg)) :
    ∃ S', ((∀ k, ¬ (15 ≤ k ∧ k ≤ 18) → S'.1 k = S.1 k) ∧ S'.2 = S.2) ∧ wp4 (X9_cheap_L81 K) FU 0 (nI (cvr q w n ki en cf 0 n)) 1 S = K (nI (bls (fun k => cvr q w n ki en cf k n) (2 ^ w - 1)).1) (nI (bls (fun k => cvr q w n ki en cf k n) (2 ^ w - 1)).2) S' := by
  have hpw : 2 ^ w ≤ 64 := Nat.pow_le_pow_right (n := 2) (by decide) hw
  have hpos : 0 < 2 ^ w := Nat.pow_pos (by decide)
  generalize hcv : (fun k => cvr q w n ki en cf k n) = cv
  have hcv2 : ∀ k, cvr q w n ki en cf k n = cv k := fun k => by rw [← hcv]
  have hb : ∀ k, cv k ≤ 70 := fun k => by
    have := (cvr_le hw ki en cf k (q := q) (n := n) n).2
    rw [hcv2] at this; omega
  have hlo : ∀ k, pcn k ≤ cv k := fun k => by
    have := (cvr_le hw ki en cf k (q := q) (n := n) n).1
    rw [hcv2] at this; omega
  obtain ⟨S', ⟨-, f1⟩, h4⟩ := for4 (F := X9_cheap_L81 K) (2 ^ w) (fun k => nI (bls cv (k - 1)).1) (fun k => nI (bls cv (k - 1)).2) (fun k S1 => 1 ≤ k ∧ (∀ k, ¬ (15 ≤ k ∧ k ≤ 18) → S1.1 k = S.1 k) ∧ S1.2 = S.2) (fun S1 => K (nI (bls cv (2 ^ w - 1)).1) (nI (bls cv (2 ^ w - 1)).2) S1) (by
    rintro k S1 hk ⟨h1, f1, f2⟩
    obtain ⟨k', rfl⟩ : ∃ k', k = k' + 1 := ⟨k - 1, by omega⟩
    have hle := bls_le hb k'
    have hbk := hb (k' + 1)
    have hlk := hlo (k' + 1)
    have hpk := pcn_le (k' + 1)
    simp only [Nat.add_sub_cancel]
    by_cases h2 : (bls cv k').2 ≤ pcn (k' + 1)
    · refine ⟨S1, ⟨by omega, f1, f2⟩, fun self => ?_⟩
      unfold X9_cheap_L81
      rw [f1 1 (by decide), s1, shl1 (by omega), le_n hk (by omega), bitCount_tab _ (by omega), cl1_s]
      simp only [jn_e, bv_e, nI_1]
      rw [le_p h2 (by omega), bls_s, if_neg (by omega)]
    · obtain ⟨S2, c1, c2, c3⟩ := coverByC (S := S1) (lo := k' + 1) (cf := cf) (hF.fr (f1 13 (by decide)) (f1 14 (by decide))) hqp hw hn (by omega) (fun p hp => ⟨(hcf p hp).1, by rw [f1 51 (by decide)]; exact (hcf p hp).2⟩)
      rw [hcv2] at c1
      refine ⟨S2, ⟨by omega, fun k hk => by rw [c2 k hk, f1 k hk], by rw [c3, f2]⟩, fun self => ?_⟩
      unfold X9_cheap_L81
      rw [f1 1 (by decide), s1, shl1 (by omega), le_n hk (by omega), bitCount_tab _ (by omega), cl1_s]
      simp only [jn_e, bv_e, nI_1]
      rw [le_n (by omega) (by omega), c1, cl_s, bls_s]
      by_cases hlt : cv (k' + 1) < (bls cv k').2
      · rw [le_n hlt (by omega), if_pos hlt]
      · rw [le_p (by omega) (by omega), if_neg hlt]) (by
    rintro S1 ⟨-, f1, f2⟩ self
    unfold X9_cheap_L81
    rw [f1 1 (by decide), s1, shl1 (by omega), le_p (Nat.le_refl _) (by omega)]) (i0 := 1) (S0 := S) ⟨Nat.le_refl _, fun _ _ => rfl, rfl⟩ (by omega) (FU_n (by omega))
  refine ⟨S', f1, ?_⟩
  rw [hcv2]
  exact h4
theorem cheapF {S : Sg} {n how : Nat} (hh : how < 2) (hn : n ≤ 10) (s2 : S.1 1 2 = nI n) (K : Sg → Option (Int32 × Sg)) : ∃ S', (Fr 51 S S' ∧ ∀ p, p < n → S'.1 51 p = nI (if how = 0 then 0 else p)) ∧ wp2 (X9_cheap_L30 (nI how) K) FU 0 S = K S' := by
  exact for2 (F := X9_cheap_L30 (nI how) K) n (fun j S1 => Fr 51 S S1 ∧ ∀ p, p < j → S1.1 51 p = nI (if how = 0 then 0 else p)) (fun S => K S) (by
    rintro p S1 hp ⟨f1, f2⟩
    refine ⟨si S1 51 p (nI (if how = 0 then 0 else p)), ⟨Fr_w f1 _ _, fun a ha => ?_⟩, fun self => ?_⟩
    · by_cases he : a = p
      · rw [he, si_same, upd_s]
      · rw [si_same, upd_n _ _ he]; exact f2 a (by omega)
    · unfold X9_cheap_L30
      rw [f1.1 1 (by decide), s2, le_n hp (by omega)]
      simp only [jn_e, bv_e, nI_1]
      by_cases h0 : how = 0
      · rw [h0, if_pos (show nI 0 = 0 from rfl), if_pos rfl, inb_p (by omega) (by decide), ix_nI (by omega)]; rfl
      · rw [if_neg (fun z => h0 ((nI_0p (by omega)).mp z)), if_neg h0, inb_p (by omega) (by decide), ix_nI (by omega)]) (by
    rintro S1 ⟨f1, -⟩ self
    unfold X9_cheap_L30
    rw [f1.1 1 (by decide), s2, le_p (Nat.le_refl _) (by omega)]) (i0 := 0) (S0 := S) ⟨Fr.rf _ _, fun _ h => by omega⟩ (by omega) (FU_n (by omega))
theorem e_cheap {S T : Sg} (h : Rel S T) (a0 : Int32) (a1 : Int32) : ∃ (r : Int32) (S' : Sg) (T' : Sg), f_X9_cheap a0 a1 S = some (r, S') ∧ f_X10_cheap a0 a1 T = some (r, T') ∧ Rel S' T' := by
  obtain ⟨q, w, n, hqp, hw1, hw, hn, s0, t0, s1, t1, s2, t2⟩ := h.nums
  have hq := primes_b hqp
  obtain ⟨m1, m2, m3, m4, m5, m6, m7, m8⟩ := h.1
  unfold f_X9_cheap f_X10_cheap
  rw [bitC, cl1_s, bitC, cl1_s, in32 a0 0 1 (by decide) (by decide), cl1_s, in32 a1 0 1 (by decide) (by decide), cl1_s]
  by_cases h1 : 0 ≤ a0.toInt ∧ a0.toInt ≤ 1
  · rw [b01_t h1, if_neg n10, if_neg n10]
    by_cases h2 : 0 ≤ a1.toInt ∧ a1.toInt ≤ 1
    · rw [b01_t h2, if_neg n10, if_neg n10]
      obtain ⟨how, hh, rfl⟩ := nI_from (a := a0) (n := 2) ⟨h1.1, by omega⟩
      obtain ⟨S1, c1, c2, c3, c4⟩ := fill_eq (S := S) (by omega) (by omega) hw hn s0 s1 s2
      rw [m4, m7] at c2
      rw [c1, cl1_s]
      obtain ⟨S2, ⟨d1, d2⟩, d3⟩ := cheapF (S := S1) (n := n) hh hn (by rw [c3 1 (by decide) (by decide), s2]) (fun (S7 : Sg) => cl (f_X5_coverBy (0 : Int32) S7) fun r8 S10 => wp4 (X9_cheap_L81 (fun (v11 : Int32) (v12 : Int32) (S13 : Sg) => if a1 = 0 then (some (v12, S13)) else (some (v11, S13)))) FU (0 : Int32) r8 (1 : Int32) S10)
      have hF2 : Filled S2 q w n (T.1 1) (T.1 4) := c2.fr (d1.1 13 (by decide)) (d1.1 14 (by decide))
      have hcf : ∀ p, p < n → (fun p => if how = 0 then 0 else p) p < 10 ∧ S2.1 51 p = nI ((fun p => if how = 0 then 0 else p) p) := fun p hp => ⟨by dsimp only; split <;> omega, d2 p hp⟩
      obtain ⟨S3, x1, x2, x3⟩ := coverByC (S := S2) (lo := 0) (cf := fun p => if how = 0 then 0 else p) hF2 hqp hw hn (by decide) hcf
      obtain ⟨S4, ⟨y1, y2⟩, y3⟩ := cheapC (S := S3) (cf := fun p => if how = 0 then 0 else p) (hF2.fr (x2 13 (by decide)) (x2 14 (by decide))) hqp hw hn (by rw [x2 1 (by decide), d1.1 1 (by decide), c3 1 (by decide) (by decide), s1]) (fun p hp => ⟨(hcf p hp).1, by rw [x2 51 (by decide)]; exact (hcf p hp).2⟩) (fun (v11 : Int32) (v12 : Int32) (S13 : Sg) => if a1 = 0 then (some (v12, S13)) else (some (v11, S13)))
      obtain ⟨T1, z1, z2⟩ := cheapM (T := T) hh hqp hw hn t0 t1 t2 (fun (v5 : Int32) (v6 : Int32) (S7 : Sg) => if a1 = 0 then (some (v6, S7)) else (some (v5, S7)))
      rw [d3, show f_X5_coverBy 0 S2 = _ from x1, cl_s, y3, z2]
      have hR : Rel S4 T1 := h.agr (fun k hk => ⟨by rw [y1 k (by omega), x2 k (by omega), d1.1 k (by omega), c3 k (by omega) (by omega)], by rw [y2, x3, d1.2, c4]⟩) z1.agr
      by_cases h3 : a1 = 0
      · rw [if_pos h3, if_pos h3]; exact ⟨_, _, _, rfl, rfl, hR⟩
      · rw [if_neg h3, if_neg h3]; exact ⟨_, _, _, rfl, rfl, hR⟩
    · rw [b01_f h2, if_pos z00, if_pos z00]
      exact ⟨_, _, _, rfl, rfl, h⟩
  · rw [b01_f h1, if_pos z00, if_pos z00]
    exact ⟨_, _, _, rfl, rfl, h⟩
