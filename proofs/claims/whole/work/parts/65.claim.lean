/-! DRAWS; claim, sure -/
def dz (z : Int32) : Nat → Int32
  | 0 => z
  | k + 1 => dz z k * 1103515245 + 12345
theorem dz_add (z : Int32) (a : Nat) : ∀ b, dz (dz z a) b = dz z (a + b)
  | 0 => rfl
  | b + 1 => by
    show dz (dz z a) b * 1103515245 + 12345 = dz z (a + b) * 1103515245 + 12345
    rw [dz_add z a b]
def drN (q : Nat) (x : Int32) : Nat := x.toBitVec.toNat / 2 ^ 8 % q
theorem drN_lt {q : Nat} (hq : 0 < q) (x : Int32) : drN q x < q := Nat.mod_lt _ hq
theorem draw_eq (x : Int32) {q : Nat} (hq : 0 < q) (hq2 : q ≤ 97) : irm (ush x 8) (nI q) = nI (drN q x) := by
  obtain ⟨m, hm, rfl⟩ := wb_of32 x
  unfold ush drN
  rw [pk_ushrN hm 8 8 (by decide), pk_tn hm, irm_nI (by omega) hq (by omega)]
def drT (q : Nat) (z : Int32) (p : Nat) : Nat := drN q (dz z (p + 1))
theorem drawTimesC {S : Sg} {q n : Nat} (hq : 0 < q) (hq2 : q ≤ 97) (hn : n ≤ 10) (e0 : S.1 1 0 = nI q) (e2 : S.1 1 2 = nI n) (z : Int32) : ∃ S', f_X9_drawTimes z S = some (dz z n, S') ∧ Fr 50 S S' ∧ ∀ p, p < n → S'.1 50 p = nI (drT q z p) := by
  unfold f_X9_drawTimes
  obtain ⟨S', ⟨f1, f2⟩, h4⟩ := for3 (F := X9_drawTimes_L4) n (fun k => dz z k) (fun j S1 => Fr 50 S S1 ∧ ∀ p, p < j → S1.1 50 p = nI (drT q z p)) (fun S => some (dz z n, S)) (by
    rintro p S1 hp ⟨f1, f2⟩
    refine ⟨si S1 50 p (nI (drT q z p)), ⟨Fr_w f1 _ _, fun a ha => ?_⟩, fun self => ?_⟩
    · by_cases he : a = p
      · rw [he, si_same, upd_s]
      · rw [si_same, upd_n _ _ he]; exact f2 a (by omega)
    · unfold X9_drawTimes_L4
      rw [f1.1 1 (by decide), e2, le_n hp (by omega), bv_e, e0, gd_p (nz_nI (by omega) (by omega)), inb_p (by omega) (by decide), bv_e, bv_e, ix_nI (by omega), draw_eq _ hq hq2, nI_1]
      rfl) (by
    rintro S1 ⟨f1, -⟩ self
    unfold X9_drawTimes_L4
    rw [f1.1 1 (by decide), e2, le_p (Nat.le_refl _) (by omega)]) (i0 := 0) (S0 := S) ⟨Fr.rf _ _, fun _ h => by omega⟩ (by omega) (FU_n (by omega))
  exact ⟨S', h4, f1, f2⟩
/-- what draws change -/
def FrD (T T' : Sg) : Prop := (∀ a, a ≠ 0 → a ≠ 6 → T'.1 a = T.1 a) ∧ (∀ j, j ≠ 9 → j ≠ 13 → T'.1 0 j = T.1 0 j) ∧ ∀ a, a ≠ 7 → T'.2 a = T.2 a
theorem FrD.rf (T : Sg) : FrD T T := ⟨fun _ _ _ => rfl, fun _ _ _ => rfl, fun _ _ => rfl⟩
theorem FrD.tr {T T1 T2 : Sg} (h1 : FrD T T1) (h2 : FrD T1 T2) : FrD T T2 := ⟨fun a h h' => (h2.1 a h h').trans (h1.1 a h h'), fun j h h' => (h2.2.1 j h h').trans (h1.2.1 j h h'), fun a h => (h2.2.2 a h).trans (h1.2.2 a h)⟩
theorem FrD.of {T T' : Sg} (h : Fm T T') : FrD T T' := ⟨fun a h1 h2 => h.1 a h1 h2, fun j h1 _ => h.2.1 j h1, fun a _ => by rw [h.2.2]⟩
theorem FrD.agr {T T' : Sg} (h : FrD T T') : AgrM T T' := ⟨fun k hk => ⟨h.1 k (by omega) (by omega), h.2.2 k (by omega)⟩, fun j hj => h.2.1 j (by omega) (by omega)⟩
theorem drawsM {T : Sg} {q n : Nat} (hq : 0 < q) (hq2 : q ≤ 97) (hn : n ≤ 10) (t0 : T.1 0 0 = nI q) (t2 : T.1 0 2 = nI n) : ∃ T', f_X10_draws T = some T' ∧ FrD T T' ∧ T'.1 0 13 = dz (T.1 0 13) n ∧ ∀ p, p < n → rst (T'.2 7 p).toInt q = drT q (T.1 0 13) p := by
  unfold f_X10_draws
  obtain ⟨T', ⟨f1, f2, f3⟩, h4⟩ := for2 (F := X10_draws_L2) n (fun j T1 => FrD T T1 ∧ T1.1 0 13 = dz (T.1 0 13) j ∧ ∀ p, p < j → T1.2 7 p = (nI (drT q (T.1 0 13) p)).toInt64) (fun S => some S) (by
    rintro p T1 hp ⟨f1, f2, f3⟩
    refine ⟨sl (si T1 0 13 (dz (T.1 0 13) (p + 1))) 7 p (nI (drT q (T.1 0 13) p)).toInt64, ⟨⟨fun a h1 h2 => ?_, fun j h1 h2 => ?_, fun a h1 => ?_⟩, ?_, fun a ha => ?_⟩, fun self => ?_⟩
    · rw [sl_1, si_ne _ _ _ h1]; exact f1.1 a h1 h2
    · rw [sl_1, si_same, upd_n _ _ h2]; exact f1.2.1 j h1 h2
    · rw [sl_ne _ _ _ h1, si_2]; exact f1.2.2 a h1
    · rw [sl_1, si_same, upd_s]
    · by_cases he : a = p
      · rw [he, sl_same, updL_s]
      · rw [sl_same, updL_n _ _ he, si_2]; exact f3 a (by omega)
    · have y0 : (si T1 0 13 (dz (T.1 0 13) (p + 1))).1 0 0 = nI q := by rw [si_same, upd_n _ _ (by decide), f1.2.1 0 (by decide) (by decide), t0]
      have y13 : (si T1 0 13 (dz (T.1 0 13) (p + 1))).1 0 13 = dz (T.1 0 13) (p + 1) := by rw [si_same, upd_s]
      unfold X10_draws_L2
      rw [f1.2.1 2 (by decide) (by decide), t2, le_n hp (by omega), bv_e, f2, show dz (T.1 0 13) p * 1103515245 + 12345 = dz (T.1 0 13) (p + 1) from rfl, y0, y13, gd_p (nz_nI (by omega) (by omega)), inb_p (by omega) (by decide), bv_e, bv_e, ix_nI (by omega), draw_eq _ hq hq2, nI_1]
      rfl) (by
    rintro T1 ⟨f1, -⟩ self
    unfold X10_draws_L2
    rw [f1.2.1 2 (by decide) (by decide), t2, le_p (Nat.le_refl _) (by omega)]) (i0 := 0) (S0 := T) ⟨FrD.rf _, rfl, fun _ h => by omega⟩ (by omega) (FU_n (by omega))
  refine ⟨T', h4, f1, f2, fun p hp => ?_⟩
  have hl : drT q (T.1 0 13) p < q := drN_lt hq _
  rw [f3 p hp, Int32.toInt_toInt64, nI_T (by omega), rst_nat, Nat.mod_eq_of_lt hl]
/-- one TABLE of drawn numbers, in both -/
theorem drawn {S T : Sg} {q w n : Nat} {ki en : Nat → Int32} (hqp : q ∈ primes) (hw : w ≤ 6) (hn : n ≤ 10) (hF : Filled S q w n ki en) (s0 : S.1 1 0 = nI q) (s2 : S.1 1 2 = nI n) (t0 : T.1 0 0 = nI q) (t1 : T.1 0 1 = nI w) (t2 : T.1 0 2 = nI n) (e1 : T.1 1 = ki) (e4 : T.1 4 = en) :
    ∃ S1 S2 T1 T2 r, f_X9_drawTimes (T.1 0 13) S = some (T2.1 0 13, S1) ∧ f_X7_halfRank S1 = some (nI r, S2) ∧ f_X10_draws T = some T1 ∧ f_X10_halfOf T1 = some (nI r, T2) ∧ r ≤ 6 ∧ AgrC S S2 ∧ (∀ k, k ≤ 20 → S2.1 k = S.1 k) ∧ FrD T T2 := by
  have hq := primes_b hqp
  obtain ⟨S1, a1, a2, a3⟩ := drawTimesC (S := S) (q := q) (n := n) (by omega) (by omega) hn s0 s2 (T.1 0 13)
  obtain ⟨T1, b1, b2, b3, b4⟩ := drawsM (T := T) (q := q) (n := n) (by omega) (by omega) hn t0 t2
  obtain ⟨S2, c1, c2, c3⟩ := halfRankC (S := S1) (t := drT q (T.1 0 13)) (hF.fr (a2.1 13 (by decide)) (a2.1 14 (by decide))) hqp hw hn (fun p hp => ⟨drN_lt (by omega) _, a3 p hp⟩)
  obtain ⟨T2, d1, d2⟩ := halfOfM (T := T1) (q := q) (w := w) (n := n) (t := drT q (T.1 0 13)) hqp hw hn (by rw [b2.2.1 0 (by decide) (by decide), t0]) (by rw [b2.2.1 1 (by decide) (by decide), t1]) (by rw [b2.2.1 2 (by decide) (by decide), t2]) b4
  rw [b2.1 1 (by decide) (by decide), b2.1 4 (by decide) (by decide), e1, e4] at d1
  have hl := hlf_le q w n (drT q (T.1 0 13)) ki en
  refine ⟨S1, S2, T1, T2, _, ?_, c1, b1, d1, by omega, fun k hk => ⟨by rw [c2 k (by omega), a2.1 k (by omega)], by rw [c3, a2.2]⟩, fun k hk => by rw [c2 k (by omega), a2.1 k (by omega)], b2.tr (FrD.of d2)⟩
  rw [d2.2.1 13 (by decide), b3]
  exact a1
theorem claimL {q w n N : Nat} {ki en : Nat → Int32} (hqp : q ∈ primes) (hw : w ≤ 6) (hn : n ≤ 10) (hN : N ≤ 20) : ∀ (c k : Nat) (S T : Sg) (mx fuel : Nat), k + c = N → c < fuel → mx ≤ 6 → Filled S q w n ki en → S.1 1 0 = nI q → S.1 1 2 = nI n → T.1 0 0 = nI q → T.1 0 1 = nI w → T.1 0 2 = nI n → T.1 1 = ki → T.1 4 = en →
    ∃ r S' T', wp4 (X9_claim_L33 (nI N)) fuel (T.1 0 13) (nI mx) (nI k) S = some (r, S') ∧ wp3 (X10_claim_L25 (nI N)) fuel (nI mx) (nI k) T = some (r, T') ∧ AgrC S S' ∧ AgrM T T' := by
  intro c
  induction c with
  | zero =>
    intro k S T mx fuel hk hf hm hF s0 s2 t0 t1 t2 e1 e4
    obtain ⟨f, rfl⟩ : ∃ f, fuel = f + 1 := ⟨fuel - 1, by omega⟩
    refine ⟨nI mx, S, T, ?_, ?_, AgrC.rf S, AgrM.rf T⟩
    · rw [wp4s]
      unfold X9_claim_L33
      rw [le_p (by omega) (by omega)]
    · rw [wp3s]
      unfold X10_claim_L25
      rw [le_p (by omega) (by omega)]
  | succ c ih =>
    intro k S T mx fuel hk hf hm hF s0 s2 t0 t1 t2 e1 e4
    obtain ⟨f, rfl⟩ : ∃ f, fuel = f + 1 := ⟨fuel - 1, by omega⟩
    obtain ⟨S1, S2, T1, T2, r, a1, a2, a3, a4, a5, a6, a7, a8⟩ := drawn hqp hw hn hF s0 s2 t0 t1 t2 e1 e4
    obtain ⟨r', S', T', b1, b2, b3, b4⟩ := ih (k + 1) S2 T2 (if mx < r then r else mx) f (by omega) (by omega) (by split <;> omega) (hF.fr (a7 13 (by decide)) (a7 14 (by decide))) (by rw [a7 1 (by decide), s0]) (by rw [a7 1 (by decide), s2]) (by rw [a8.2.1 0 (by decide) (by decide), t0]) (by rw [a8.2.1 1 (by decide) (by decide), t1]) (by rw [a8.2.1 2 (by decide) (by decide), t2]) (by rw [a8.1 1 (by decide) (by decide), e1]) (by rw [a8.1 4 (by decide) (by decide), e4])
    refine ⟨r', S', T', ?_, ?_, a6.tr b3, a8.agr.tr b4⟩
    · rw [wp4s]
      generalize wp4 (X9_claim_L33 (nI N)) f = W at b1 ⊢
      unfold X9_claim_L33
      rw [le_n (by omega) (by omega), a1, cl_s, a2, cl_s, bv_e, bv_e, nI_1]
      by_cases hlt : mx < r
      · rw [if_pos (nI_lt hlt (by omega))]; rw [if_pos hlt] at b1; exact b1
      · rw [if_neg (nI_nlt (by omega) (by omega))]; rw [if_neg hlt] at b1; exact b1
    · rw [wp3s]
      generalize wp3 (X10_claim_L25 (nI N)) f = W at b2 ⊢
      unfold X10_claim_L25
      rw [le_n (by omega) (by omega), a3, cl1_s, a4, cl_s]
      simp only [jn_e, bv_e, nI_1]
      by_cases hlt : mx < r
      · rw [le_n hlt (by omega)]; rw [if_pos hlt] at b2; exact b2
      · rw [le_p (by omega) (by omega)]; rw [if_neg hlt] at b2; exact b2
theorem sureL {q w n N mm : Nat} {ki en : Nat → Int32} (hqp : q ∈ primes) (hw : w ≤ 6) (hn : n ≤ 10) (hN : N ≤ 20) (hmm : mm ≤ 10) : ∀ (c k : Nat) (S T : Sg) (x : Int32) (fuel : Nat), k + c = N → c < fuel → Filled S q w n ki en → S.1 1 0 = nI q → S.1 1 2 = nI n → T.1 0 0 = nI q → T.1 0 1 = nI w → T.1 0 2 = nI n → T.1 1 = ki → T.1 4 = en →
    ∃ r S' T', wp4 (X9_sure_L35 (nI N) (nI mm)) fuel (T.1 0 13) x (nI k) S = some (r, S') ∧ wp3 (X10_sure_L31 (nI N) (nI mm)) fuel x (nI k) T = some (r, T') ∧ AgrC S S' ∧ AgrM T T' := by
  intro c
  induction c with
  | zero =>
    intro k S T x fuel hk hf hF s0 s2 t0 t1 t2 e1 e4
    obtain ⟨f, rfl⟩ : ∃ f, fuel = f + 1 := ⟨fuel - 1, by omega⟩
    refine ⟨x, S, T, ?_, ?_, AgrC.rf S, AgrM.rf T⟩
    · rw [wp4s]
      unfold X9_sure_L35
      rw [le_p (by omega) (by omega)]
    · rw [wp3s]
      unfold X10_sure_L31
      rw [le_p (by omega) (by omega)]
  | succ c ih =>
    intro k S T x fuel hk hf hF s0 s2 t0 t1 t2 e1 e4
    obtain ⟨f, rfl⟩ : ∃ f, fuel = f + 1 := ⟨fuel - 1, by omega⟩
    obtain ⟨S1, S2, T1, T2, r, a1, a2, a3, a4, a5, a6, a7, a8⟩ := drawn hqp hw hn hF s0 s2 t0 t1 t2 e1 e4
    obtain ⟨r', S', T', b1, b2, b3, b4⟩ := ih (k + 1) S2 T2 (if r = mm then x + 1 else x) f (by omega) (by omega) (hF.fr (a7 13 (by decide)) (a7 14 (by decide))) (by rw [a7 1 (by decide), s0]) (by rw [a7 1 (by decide), s2]) (by rw [a8.2.1 0 (by decide) (by decide), t0]) (by rw [a8.2.1 1 (by decide) (by decide), t1]) (by rw [a8.2.1 2 (by decide) (by decide), t2]) (by rw [a8.1 1 (by decide) (by decide), e1]) (by rw [a8.1 4 (by decide) (by decide), e4])
    refine ⟨r', S', T', ?_, ?_, a6.tr b3, a8.agr.tr b4⟩
    · rw [wp4s]
      generalize wp4 (X9_sure_L35 (nI N) (nI mm)) f = W at b1 ⊢
      unfold X9_sure_L35
      rw [le_n (by omega) (by omega), a1, cl_s, a2, cl_s]
      simp only [jn_e, bv_e, nI_1]
      by_cases hlt : r = mm
      · rw [if_pos (by rw [hlt])]; rw [if_pos hlt] at b1; exact b1
      · rw [if_neg (fun z => hlt ((nI_eq (by omega) (by omega)).mp z))]; rw [if_neg hlt] at b1; exact b1
    · rw [wp3s]
      generalize wp3 (X10_sure_L31 (nI N) (nI mm)) f = W at b2 ⊢
      unfold X10_sure_L31
      rw [le_n (by omega) (by omega), a3, cl1_s, a4, cl_s]
      simp only [jn_e, bv_e, nI_1]
      by_cases hlt : r = mm
      · rw [if_pos (by rw [hlt])]; rw [if_pos hlt] at b2; exact b2
      · rw [if_neg (fun z => hlt ((nI_eq (by omega) (by omega)).mp z)), Int32.add_zero]; rw [if_neg hlt] at b2; exact b2
theorem one20 (a : Int32) : f_X10_in a.toInt64 1 20 = some (b01 (1 ≤ a.toInt ∧ a.toInt ≤ 20)) := in32 a 1 20 (by decide) (by decide)
theorem e_claim {S T : Sg} (h : Rel S T) (a0 : Int32) (a1 : Int32) : ∃ (r : Int32) (S' : Sg) (T' : Sg), f_X9_claim a0 a1 S = some (r, S') ∧ f_X10_claim a0 a1 T = some (r, T') ∧ Rel S' T' := by
  obtain ⟨q, w, n, hqp, hw1, hw, hn, s0, t0, s1, t1, s2, t2⟩ := h.nums
  have hq := primes_b hqp
  obtain ⟨m1, m2, m3, m4, m5, m6, m7, m8⟩ := h.1
  unfold f_X9_claim f_X10_claim
  rw [one20, cl1_s, bv_e]
  by_cases h1 : 1 ≤ a1.toInt ∧ a1.toInt ≤ 20
  · obtain ⟨N, hN, rfl⟩ := nI_from (a := a1) (n := 21) ⟨by omega, by omega⟩
    rw [b01_t h1, if_neg n10, if_neg (fun z => by have := (i_lt 1 (by decide)).mp z; omega), if_pos ((i_le 20 (by decide)).mpr h1.2)]
    obtain ⟨S1, c1, c2, c3, c4⟩ := fill_eq (S := S) (by omega) (by omega) hw hn s0 s1 s2
    rw [m4, m7] at c2
    generalize hT0 : si T 0 13 a0 = T0
    have z1 : FrD T T0 := by
      rw [← hT0]
      exact ⟨fun a h1 _ => by rw [si_ne _ _ _ h1], fun j _ hj => by rw [si_same, upd_n _ _ hj], fun _ _ => rfl⟩
    have z2 : T0.1 0 13 = a0 := by rw [← hT0, si_same, upd_s]
    obtain ⟨r, S', T', d1, d2, d3, d4⟩ := claimL (N := N) hqp hw hn (by omega) N 0 S1 T0 0 FU (by omega) (FU_n (by omega)) (by omega) c2 (by rw [c3 1 (by decide) (by decide), s0]) (by rw [c3 1 (by decide) (by decide), s2]) (by rw [z1.2.1 0 (by decide) (by decide), t0]) (by rw [z1.2.1 1 (by decide) (by decide), t1]) (by rw [z1.2.1 2 (by decide) (by decide), t2]) (z1.1 1 (by decide) (by decide)) (z1.1 4 (by decide) (by decide))
    rw [z2] at d1
    rw [c1, cl1_s]
    exact ⟨r, S', T', d1, d2, h.agr (AgrC.tr (S1 := S1) (fun k hk => ⟨c3 k (by omega) (by omega), by rw [c4]⟩) d3) (z1.agr.tr d4)⟩
  · rw [b01_f h1, if_pos z00]
    by_cases z : a1 < 1
    · rw [if_pos z]; exact ⟨_, _, _, rfl, rfl, h⟩
    · have z1 : ¬ a1.toInt < 1 := fun y => z ((i_lt 1 (by decide)).mpr y)
      rw [if_neg z, if_neg (fun y => by have := (i_le 20 (by decide)).mp y; omega)]
      exact ⟨_, _, _, rfl, rfl, h⟩
theorem e_sure {S T : Sg} (h : Rel S T) (a0 : Int32) (a1 : Int32) : ∃ (r : Int32) (S' : Sg) (T' : Sg), f_X9_sure a0 a1 S = some (r, S') ∧ f_X10_sure a0 a1 T = some (r, T') ∧ Rel S' T' := by
  obtain ⟨q, w, n, hqp, hw1, hw, hn, s0, t0, s1, t1, s2, t2⟩ := h.nums
  have hq := primes_b hqp
  obtain ⟨m1, m2, m3, m4, m5, m6, m7, m8⟩ := h.1
  unfold f_X9_sure f_X10_sure
  rw [one20, cl1_s]
  by_cases h1 : 1 ≤ a1.toInt ∧ a1.toInt ≤ 20
  · obtain ⟨N, hN, rfl⟩ := nI_from (a := a1) (n := 21) ⟨by omega, by omega⟩
    rw [b01_t h1, if_neg n10, if_neg (fun z => by have := (i_lt 1 (by decide)).mp z; omega), if_pos ((i_le 20 (by decide)).mpr h1.2)]
    obtain ⟨S1, c1, c2, c3, c4⟩ := fillStandingC (S := S) hqp hw hn s0 s1 s2
    have c5 := greatestC hn c4
    rw [m4, m7] at c3 c5
    obtain ⟨T1, b1, b2⟩ := mostOfM (T := T) hqp hw hn t0 t1 t2
    have hmx := mxf_le q w n (T.1 1) (T.1 4) (2 ^ n)
    rw [c1, cl1_s, c5, cl1_s, b1, cl_s, bv_e]
    generalize hT0 : si T1 0 13 a0 = T0
    have z1 : FrD T T0 := by
      rw [← hT0]
      exact (FrD.of b2).tr ⟨fun a h1 _ => by rw [si_ne _ _ _ h1], fun j _ hj => by rw [si_same, upd_n _ _ hj], fun _ _ => rfl⟩
    have z2 : T0.1 0 13 = a0 := by rw [← hT0, si_same, upd_s]
    obtain ⟨r, S', T', d1, d2, d3, d4⟩ := sureL (N := N) (mm := mxf q w n (T.1 1) (T.1 4) (2 ^ n)) hqp hw hn (by omega) hmx N 0 S1 T0 0 FU (by omega) (FU_n (by omega)) c3 (by rw [(c2 1 (by omega)).1, s0]) (by rw [(c2 1 (by omega)).1, s2]) (by rw [z1.2.1 0 (by decide) (by decide), t0]) (by rw [z1.2.1 1 (by decide) (by decide), t1]) (by rw [z1.2.1 2 (by decide) (by decide), t2]) (z1.1 1 (by decide) (by decide)) (z1.1 4 (by decide) (by decide))
    rw [z2] at d1
    exact ⟨r, S', T', d1, d2, h.agr (c2.tr d3) (z1.agr.tr d4)⟩
  · rw [b01_f h1, if_pos z00]
    by_cases z : a1 < 1
    · rw [if_pos z]; exact ⟨_, _, _, rfl, rfl, h⟩
    · have z1 : ¬ a1.toInt < 1 := fun y => z ((i_lt 1 (by decide)).mpr y)
      rw [if_neg z, if_neg (fun y => by have := (i_le 20 (by decide)).mp y; omega)]
      exact ⟨_, _, _, rfl, rfl, h⟩
