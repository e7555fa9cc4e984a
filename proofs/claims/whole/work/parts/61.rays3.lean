/-! rays, ray, rayOf, hold -/
theorem FrT.agr {T T' : Sg} (h : FrT T T') : AgrM T T' := ⟨fun k hk => ⟨h.1 k (by omega), h.2.2 k (by omega)⟩, fun j hj => h.2.1 j (by omega)⟩
theorem e_rays {S T : Sg} (h : Rel S T)  : ∃ (r : Int32) (S' : Sg) (T' : Sg), f_X9_rays S = some (r, S') ∧ f_X10_rays T = some (r, T') ∧ Rel S' T' := by
  obtain ⟨q, w, n, hqp, hw1, hw, hn, s0, t0, s1, t1, s2, t2⟩ := h.nums
  obtain ⟨S1, T1, m, a, x1, x2, x3, x4, x5, x6, x7, x8⟩ := raysFill h hqp hw hn s0 t0 s1 t1 s2 t2
  unfold f_X9_rays f_X10_rays
  rw [x1, x2, cl1_s, cl1_s, x6.1, x6.2.1]
  exact ⟨_, _, _, rfl, rfl, h.agr x3 x4.agr⟩
theorem has3C {S : Sg} {m : Nat} (hm : m ≤ 20) (e : S.1 29 0 = nI m) (a : Int32) : f_X3_has a S = some (b01 (0 ≤ a.toInt ∧ a.toInt < m)) :=
  rngC (f := fun a => f_X3_has a S) (k := nI m) (m := m) (by omega) rfl (fun a => by
    show f_X3_has a S = _
    unfold f_X3_has
    rw [e]) a
theorem e_ray {S T : Sg} (h : Rel S T) (a0 : Int32) : ∃ (r : Int64) (S' : Sg) (T' : Sg), f_X9_ray a0 S = some (r, S') ∧ f_X10_ray a0 T = some (r, T') ∧ Rel S' T' := by
  obtain ⟨q, w, n, hqp, hw1, hw, hn, s0, t0, s1, t1, s2, t2⟩ := h.nums
  obtain ⟨S1, T1, m, a, x1, x2, x3, x4, x5, x6, x7, x8⟩ := raysFill h hqp hw hn s0 t0 s1 t1 s2 t2
  have hR := h.agr x3 x4.agr
  unfold f_X9_ray f_X10_ray
  have ew : ((nI m - 1 : Int32).toInt64).toInt = (m : Int) - 1 := by
    rw [Int32.toInt_toInt64]; exact pk_sub_toInt (a := m) (b := 1) (by omega) (by decide)
  rw [x1, x2, cl1_s, cl1_s, has3C x7 x6.1, cl1_s, x6.2.1, in32 a0 0 ((m : Int) - 1) (by decide) ew, cl1_s]
  by_cases h1 : 0 ≤ a0.toInt ∧ a0.toInt < m
  · rw [b01_t h1, b01_t (show 0 ≤ a0.toInt ∧ a0.toInt ≤ (m : Int) - 1 by omega), if_neg n10, if_neg n10]
    obtain ⟨j, hj, rfl⟩ := nI_from h1
    rw [inb_p (by omega) (by decide), inb_p (by omega) (by decide), ix_nI (by omega), x6.2.2.1 j hj, x6.2.2.2.1 j hj]
    exact ⟨_, _, _, rfl, rfl, hR⟩
  · rw [b01_f h1, b01_f (show ¬ (0 ≤ a0.toInt ∧ a0.toInt ≤ (m : Int) - 1) by omega), if_pos z00, if_pos z00]
    exact ⟨_, _, _, rfl, rfl, hR⟩
theorem findM {T : Sg} {m : Nat} {a : Nat → Nat} (hm : m ≤ 20) (e : T.1 0 15 = nI m) (ha : ∀ j, j < m → T.2 9 j = lN (a j)) (hb : ∀ j, j < m → 1 ≤ a j ∧ a j < 97 ^ 6) (hs : ∀ j k, j < k → k < m → a j < a k) :
    wp1 (X10_rayOf_L35 T (-1)) FU 0 = some (-1, T) ∧ ∀ j, j < m → wp1 (X10_rayOf_L35 T (lN (a j))) FU 0 = some (nI j, T) := by
  constructor
  · refine wp1E (F := X10_rayOf_L35 T (-1)) m (fun i => nI i) (fun i hi self => ?_) (fun self => ?_) (FU_n (by omega))
    · unfold X10_rayOf_L35
      rw [e, le_n hi (by omega), inb_p (by omega) (by decide), ix_nI (by omega), ha i hi, if_neg (fun z => ?_), bv_e, nI_1]
      have z2 := i64_eq.mp ((cmp_eq _ _).mp z)
      rw [lT (hb i hi).2, show (-1 : Int64).toInt = -1 by decide] at z2
      omega
    · unfold X10_rayOf_L35
      rw [e, le_p (Nat.le_refl _) (by omega)]
  · intro j hj
    refine wp1E (F := X10_rayOf_L35 T (lN (a j))) j (fun i => nI i) (fun i hi self => ?_) (fun self => ?_) (FU_n (by omega))
    · unfold X10_rayOf_L35
      rw [e, le_n (by omega) (by omega), inb_p (by omega) (by decide), ix_nI (by omega), ha i (by omega), if_neg (fun z => ?_), bv_e, nI_1]
      have z2 := (pk_lEQ (p_lt (hb i (by omega)).2) (p_lt (hb j hj).2)).mp ((cmp_eq _ _).mp z)
      have := hs i j hi hj
      omega
    · unfold X10_rayOf_L35
      rw [e, le_n hj (by omega), inb_p (by omega) (by decide), ix_nI (by omega), ha j hj, if_pos ((cmp_eq _ _).mpr rfl)]
theorem e_rayOf {S T : Sg} (h : Rel S T) (a0 : Int32) (a1 : Int32) : ∃ (r : Int32) (S' : Sg) (T' : Sg), f_X9_rayOf a0 a1 S = some (r, S') ∧ f_X10_rayOf a0 a1 T = some (r, T') ∧ Rel S' T' := by
  obtain ⟨q, w, n, hqp, hw1, hw, hn, s0, t0, s1, t1, s2, t2⟩ := h.nums
  obtain ⟨S1, T1, m, a, x1, x2, x3, x4, x5, ⟨y1, y2, y3, y4, y5, y6⟩, x7, x8⟩ := raysFill h hqp hw hn s0 t0 s1 t1 s2 t2
  have hR := h.agr x3 x4.agr
  unfold f_X9_rayOf f_X10_rayOf
  rw [hasC s2 hn, cl1_s, isPairM t2 hn, cl1_s, bitC, cl1_s, in32 a1 0 1 (by decide) (by decide), cl1_s, x1, x2, cl1_s, cl1_s]
  by_cases h1 : 0 ≤ a0.toInt ∧ a0.toInt < n
  · rw [b01_t h1, if_neg n10, if_neg n10]
    by_cases h2 : 0 ≤ a1.toInt ∧ a1.toInt ≤ 1
    · rw [b01_t h2, if_neg n10, if_neg n10]
      obtain ⟨p, hp, rfl⟩ := nI_from h1
      obtain ⟨row, hr, rfl⟩ := nI_from (a := a1) (n := 2) ⟨h2.1, by omega⟩
      obtain ⟨k1, k2, k3⟩ := cdf_is (ki := T.1 1) (en := T.1 4) hqp hw hn hp hr
      have hx := x8 p row hp hr
      generalize hc : cdf q w n (T.1 1) (T.1 4) p row = c at k1 k2 k3 hx
      have ei : nI p * 12 + nI row * 6 = nI (p * 12 + row * 6) := by
        rw [show (12 : Int32) = nI 12 from rfl, show (6 : Int32) = nI 6 from rfl, pk_mul, pk_mul, nI_add]
      obtain ⟨z1, z2⟩ := findM x7 y2 y4 y5 y6
      rw [ei, k2 S1 x5, cl1_s, k3 T1 (by rw [x4.2.1 0 (by decide), t0]) (by rw [x4.2.1 1 (by decide), t1]) (x4.1 1 (by decide)) (x4.1 4 (by decide)), cl1_s, belowC x7 y1 y3 (fun j hj => (y5 j hj).2), cl1_s]
      by_cases h0 : c = 0
      · rw [if_pos h0, z1, if_pos ((cmp_0 _).mpr (by rw [h0]; rfl))]
        exact ⟨_, _, _, rfl, rfl, hR⟩
      · obtain ⟨j, hj, ej⟩ := hx h0
        have h0' : ¬ lg_cmp (lN c) 0 = 0 := fun z => h0 (by
          have := i64_eq.mp ((cmp_0 _).mp z)
          rw [lT k1] at this
          simp at this
          exact this)
        have hpos : posf a (c : Int) m 0 = j := by
          have l1 := posf_le a c m 0
          have l2 := posf_lo a c m 0
          have l3 := posf_hi a c m 0
          generalize posf a (c : Int) m 0 = r at l1 l2 l3 ⊢
          rcases Nat.lt_trichotomy r j with z | z | z
          · have := l3 (by omega)
            have := y6 r j z hj
            omega
          · exact z
          · have := l2 j (by omega) z
            omega
        rw [if_neg h0, if_neg h0', lT k1, hpos, ← ej, z2 j hj]
        exact ⟨_, _, _, rfl, rfl, hR⟩
    · rw [b01_f h2, if_pos z00, if_pos z00]; exact ⟨_, _, _, rfl, rfl, h⟩
  · rw [b01_f h1, if_pos z00, if_pos z00]; exact ⟨_, _, _, rfl, rfl, h⟩
/-! hold -/
theorem Rel_hand {S T S' T' : Sg} (h : Rel S T) (hS : ∀ k, (k ≤ 12 ∨ (31 ≤ k ∧ k ≤ 40)) → S'.1 k = S.1 k ∧ S'.2 k = S.2 k) (hT : ∀ k, ((1 ≤ k ∧ k ≤ 5) ∨ 15 ≤ k) → T'.1 k = T.1 k ∧ T'.2 k = T.2 k) (h0 : ∀ j, (j = 0 ∨ j = 1 ∨ j = 2 ∨ j = 24) → T'.1 0 j = T.1 0 j) (hh : HandRel S' T') : Rel S' T' := by
  obtain ⟨a, b⟩ := MD.agr h (fun k _ _ => hS k (by omega)) (fun k _ _ => hT k (by omega)) (fun j _ => h0 j (by omega))
  exact ⟨a, b, h.2.2.1.agr (fun k hk => hS k (by omega)) (h0 24 (by omega)) (hT 18 (by omega)).1 (hT 19 (by omega)).2, h.2.2.2.1.agr (fun k _ _ => hS k (by omega)) (fun k _ _ => hT k (by omega)), hh⟩
/-- the digits of a ray -/
def dg (q c : Nat) (w i : Nat) : Nat := c / q ^ (w - 1 - i) % q
theorem unpackC {k q w c : Nat} (hq : 0 < q) (hq2 : q ≤ 97) (hw : w ≤ 6) (hc : c < 97 ^ 6) : ∀ v (S1 : Sg) fuel, v ≤ w → v < fuel → ∃ S2, Fr (k + 1) S1 S2 ∧ (∀ i, S2.1 (k + 1) i = if i < v then nI (dg q c w i) else S1.1 (k + 1) i) ∧ wp3 (X1_takeRay_L20 k (nI q)) fuel (lN (c / q ^ (w - v))) (nI v - 1) S1 = some S2 := by
  intro v
  induction v with
  | zero =>
    intro S1 fuel hv hf
    obtain ⟨f, rfl⟩ : ∃ f, fuel = f + 1 := ⟨fuel - 1, by omega⟩
    refine ⟨S1, Fr.rf _ _, fun i => by rw [if_neg (by omega)], ?_⟩
    rw [wp3s]
    unfold X1_takeRay_L20
    rw [if_pos (show nI 0 - 1 < 0 by decide)]
  | succ v ih =>
    intro S1 fuel hv hf
    obtain ⟨f, rfl⟩ : ∃ f, fuel = f + 1 := ⟨fuel - 1, by omega⟩
    have hx : c / q ^ (w - (v + 1)) < 2 ^ 63 := Nat.lt_of_le_of_lt (Nat.div_le_self _ _) (p_lt hc)
    obtain ⟨S2, h1, h2, h3⟩ := ih (si S1 (k + 1) v (nI (dg q c w v))) f (by omega) (by omega)
    have hm := Nat.mod_lt (c / q ^ (w - (v + 1))) hq
    have hst : ∀ self, X1_takeRay_L20 k (nI q) self (lN (c / q ^ (w - (v + 1)))) (nI (v + 1) - 1) S1 = self (lN (c / q ^ (w - v))) (nI v - 1) (si S1 (k + 1) v (nI (dg q c w v))) := fun self => by
      have hnz : nzl (nI q).toInt64 = true := by
        rw [nI_l (by omega)]
        refine decide_eq_true (fun z => ?_)
        have := (pk_lEQ (a := q) (b := 0) (by omega) (by decide)).mp z
        omega
      unfold X1_takeRay_L20
      rw [nI_s1, if_neg (show ¬ nI v < 0 by rw [i_lt 0 (by decide), nI_toInt (by omega)]; omega), gd_p hnz, inb_p (by omega) (by decide), bv_e, gd_p hnz, bv_e, bv_e, ix_nI (by omega), nI_l (show q < 2 ^ 31 by omega), show lrm (lN (c / q ^ (w - (v + 1)))) (lN q) = lN (c / q ^ (w - (v + 1)) % q) from pk_lRem hx hq (by omega), pk_lDiv hx hq (by omega), lN_i, Nat.div_div_eq_div_mul, ← Nat.pow_succ, show (w - (v + 1)).succ = w - v by omega, show nI v + -1 = nI v - 1 from (Int32.sub_eq_add_neg _ _).symm]
      unfold dg
      rw [show w - 1 - v = w - (v + 1) by omega]
    refine ⟨S2, ⟨fun a ha => by rw [h1.1 a ha, si_ne _ _ _ ha], by rw [h1.2, si_2]⟩, fun i => ?_, by rw [wp3s, hst]; exact h3⟩
    rw [h2, si_same]
    by_cases e1 : i < v
    · rw [if_pos e1, if_pos (by omega)]
    · rw [if_neg e1]
      by_cases e2 : i = v
      · rw [e2, upd_s, if_pos (by omega)]
      · rw [upd_n _ _ e2, if_neg (by omega)]
theorem unpackM {s q w c : Nat} {x8 : Int32} (hs : s < 4) (hq : 0 < q) (hq2 : q ≤ 97) (hw : w ≤ 6) (hc : c < 97 ^ 6) : ∀ v (T1 : Sg) fuel, T1.1 0 0 = nI q → v ≤ w → v < fuel → ∃ T2, Fr 14 T1 T2 ∧ (∀ i, T2.1 14 i = if 6 * s ≤ i ∧ i < 6 * s + v then nI (dg q c w (i - 6 * s)) else T1.1 14 i) ∧ wp3 (X10_hold_L135 (nI s) x8) fuel (lN (c / q ^ (w - v))) (nI v - 1) T1 = some (x8, T2) := by
  intro v
  induction v with
  | zero =>
    intro T1 fuel e0 hv hf
    obtain ⟨f, rfl⟩ : ∃ f, fuel = f + 1 := ⟨fuel - 1, by omega⟩
    refine ⟨T1, Fr.rf _ _, fun i => by rw [if_neg (by omega)], ?_⟩
    rw [wp3s]
    unfold X10_hold_L135
    rw [if_pos (show nI 0 - 1 < 0 by decide)]
  | succ v ih =>
    intro T1 fuel e0 hv hf
    obtain ⟨f, rfl⟩ : ∃ f, fuel = f + 1 := ⟨fuel - 1, by omega⟩
    have hx : c / q ^ (w - (v + 1)) < 2 ^ 63 := Nat.lt_of_le_of_lt (Nat.div_le_self _ _) (p_lt hc)
    obtain ⟨T2, h1, h2, h3⟩ := ih (si T1 14 (6 * s + v) (nI (dg q c w v))) f (by rw [si_ne _ _ _ (by decide)]; exact e0) (by omega) (by omega)
    have hm := Nat.mod_lt (c / q ^ (w - (v + 1))) hq
    have hst : ∀ self, X10_hold_L135 (nI s) x8 self (lN (c / q ^ (w - (v + 1)))) (nI (v + 1) - 1) T1 = self (lN (c / q ^ (w - v))) (nI v - 1) (si T1 14 (6 * s + v) (nI (dg q c w v))) := fun self => by
      have hnz : nzl (nI q).toInt64 = true := by
        rw [nI_l (by omega)]
        refine decide_eq_true (fun z => ?_)
        have := (pk_lEQ (a := q) (b := 0) (by omega) (by decide)).mp z
        omega
      unfold X10_hold_L135
      rw [nI_s1, if_neg (show ¬ nI v < 0 by rw [i_lt 0 (by decide), nI_toInt (by omega)]; omega), e0, gd_p hnz, mm6, inb_p (by omega) (by decide), bv_e, si_ne _ _ _ (show (0 : Nat) ≠ 14 by decide), e0, gd_p hnz, bv_e, bv_e, ix_nI (by omega), nI_l (show q < 2 ^ 31 by omega), show lrm (lN (c / q ^ (w - (v + 1)))) (lN q) = lN (c / q ^ (w - (v + 1)) % q) from pk_lRem hx hq (by omega), pk_lDiv hx hq (by omega), lN_i, Nat.div_div_eq_div_mul, ← Nat.pow_succ, show (w - (v + 1)).succ = w - v by omega, show nI v + -1 = nI v - 1 from (Int32.sub_eq_add_neg _ _).symm]
      unfold dg
      rw [show w - 1 - v = w - (v + 1) by omega]
    refine ⟨T2, ⟨fun a ha => by rw [h1.1 a ha, si_ne _ _ _ ha], by rw [h1.2, si_2]⟩, fun i => ?_, by rw [wp3s, hst]; exact h3⟩
    rw [h2, si_same]
    by_cases e1 : 6 * s ≤ i ∧ i < 6 * s + v
    · rw [if_pos e1, if_pos (by omega)]
    · rw [if_neg e1]
      by_cases e2 : i = 6 * s + v
      · rw [e2, upd_s, if_pos (by omega), show 6 * s + v - 6 * s = v by omega]
      · rw [upd_n _ _ e2, if_neg (by omega)]
theorem dg_lt {q c w i : Nat} (hq : 0 < q) : dg q c w i < q := Nat.mod_lt _ hq
theorem hold1 {S T : Sg} (h : Rel S T) {T1 : Sg} (hT : FrT T T1) {s : Nat} (hs : s < 4) {v : Int32} (hv : v = 0 ∨ v = 1 ∨ v = 2) : Rel (si S (41 + 2 * s) 0 v) (si T1 10 s v) := by
  refine Rel_hand h (fun k hk => ⟨by rw [si_ne _ _ _ (by omega)], rfl⟩) (fun k hk => ⟨by rw [si_ne _ _ _ (by omega)]; exact hT.1 k (by omega), by rw [si_2]; exact hT.2.2 k (by omega)⟩) (fun j hj => by rw [si_ne _ _ _ (by decide)]; exact hT.2.1 j (by omega)) (fun s' hs' => ?_)
  obtain ⟨k1, k2, k3, k4, k5, k6, k7, k8, k9⟩ := h.2.2.2.2 s' hs'
  rw [si_same, hT.1 10 (by decide), si_ne _ _ _ (show (11 : Nat) ≠ 10 by decide), si_ne _ _ _ (show (12 : Nat) ≠ 10 by decide), si_ne _ _ _ (show (13 : Nat) ≠ 10 by decide), si_ne _ _ _ (show (14 : Nat) ≠ 10 by decide), hT.1 11 (by decide), hT.1 12 (by decide), hT.1 13 (by decide), hT.1 14 (by decide), si_ne _ _ _ (show 42 + 2 * s' ≠ 41 + 2 * s by omega)]
  by_cases e : s' = s
  · subst e
    rw [si_same, upd_s, upd_s, upd_n _ _ (by decide), upd_n _ _ (by decide), upd_n _ _ (by decide)]
    exact ⟨rfl, k2, k3, k4, k5, hv, k7, k8, k9⟩
  · rw [si_ne _ _ _ (show 41 + 2 * s' ≠ 41 + 2 * s by omega), upd_n _ _ e]
    exact ⟨k1, k2, k3, k4, k5, k6, k7, k8, k9⟩
theorem hold2 {S T : Sg} (h : Rel S T) {s : Nat} (hs : s < 4) {a : Nat} (ha : a ≤ 5) (x : Int32) : Rel (si (si S (41 + 2 * s) 1 (nI a)) (41 + 2 * s) 2 x) (si (si T 11 s (nI a)) 12 s x) := by
  refine Rel_hand h (fun k hk => ⟨by rw [si_ne _ _ _ (by omega), si_ne _ _ _ (by omega)], rfl⟩) (fun k hk => ⟨by rw [si_ne _ _ _ (by omega), si_ne _ _ _ (by omega)], rfl⟩) (fun j hj => by rw [si_ne _ _ _ (by decide), si_ne _ _ _ (by decide)]) (fun s' hs' => ?_)
  obtain ⟨k1, k2, k3, k4, k5, k6, k7, k8, k9⟩ := h.2.2.2.2 s' hs'
  have z10 : (si (si T 11 s (nI a)) 12 s x).1 10 = T.1 10 := by rw [si_ne _ _ _ (by decide), si_ne _ _ _ (by decide)]
  have z11 : (si (si T 11 s (nI a)) 12 s x).1 11 = upd (T.1 11) s (nI a) := by rw [si_ne _ _ _ (by decide), si_same]
  have z12 : (si (si T 11 s (nI a)) 12 s x).1 12 = upd (T.1 12) s x := by rw [si_same, si_ne _ _ _ (by decide)]
  have z13 : (si (si T 11 s (nI a)) 12 s x).1 13 = T.1 13 := by rw [si_ne _ _ _ (by decide), si_ne _ _ _ (by decide)]
  have z14 : (si (si T 11 s (nI a)) 12 s x).1 14 = T.1 14 := by rw [si_ne _ _ _ (by decide), si_ne _ _ _ (by decide)]
  rw [z10, z11, z12, z13, z14, si_ne _ _ _ (show 42 + 2 * s' ≠ 41 + 2 * s by omega), si_ne _ _ _ (show 42 + 2 * s' ≠ 41 + 2 * s by omega)]
  by_cases e : s' = s
  · subst e
    rw [si_same, si_same, upd_s, upd_s, upd_s, upd_n _ _ (show (0 : Nat) ≠ 2 by decide), upd_n _ _ (show (1 : Nat) ≠ 2 by decide), upd_n _ _ (show (3 : Nat) ≠ 2 by decide), upd_n _ _ (show (0 : Nat) ≠ 1 by decide), upd_n _ _ (show (3 : Nat) ≠ 1 by decide), upd_s]
    exact ⟨k1, rfl, rfl, k4, k5, k6, ⟨a, ha, rfl⟩, k8, k9⟩
  · rw [si_ne _ _ _ (show 41 + 2 * s' ≠ 41 + 2 * s by omega), si_ne _ _ _ (show 41 + 2 * s' ≠ 41 + 2 * s by omega), upd_n _ _ e, upd_n _ _ e]
    exact ⟨k1, k2, k3, k4, k5, k6, k7, k8, k9⟩
theorem hold3 {S T : Sg} (h : Rel S T) {S2 T2 : Sg} {s w q c : Nat} (hs : s < 4) (hw : w ≤ 6) (hq : 0 < q) (hq2 : q ≤ 97) (f1 : Fr (41 + 2 * s + 1) (si S (41 + 2 * s) 3 (nI w)) S2) (f2 : ∀ i, S2.1 (41 + 2 * s + 1) i = if i < w then nI (dg q c w i) else (si S (41 + 2 * s) 3 (nI w)).1 (41 + 2 * s + 1) i) (g1 : Fr 14 (si T 13 s (nI w)) T2) (g2 : ∀ i, T2.1 14 i = if 6 * s ≤ i ∧ i < 6 * s + w then nI (dg q c w (i - 6 * s)) else (si T 13 s (nI w)).1 14 i) : Rel S2 T2 := by
  refine Rel_hand h (fun k hk => ⟨by rw [f1.1 k (by omega), si_ne _ _ _ (by omega)], by rw [f1.2, si_2]⟩) (fun k hk => ⟨by rw [g1.1 k (by omega), si_ne _ _ _ (by omega)], by rw [g1.2, si_2]⟩) (fun j hj => by rw [g1.1 0 (by decide), si_ne _ _ _ (by decide)]) (fun s' hs' => ?_)
  obtain ⟨k1, k2, k3, k4, k5, k6, k7, k8, k9⟩ := h.2.2.2.2 s' hs'
  have z14 : ∀ i, T2.1 14 i = if 6 * s ≤ i ∧ i < 6 * s + w then nI (dg q c w (i - 6 * s)) else T.1 14 i := fun i => by rw [g2, si_ne _ _ _ (by decide)]
  rw [g1.1 10 (by decide), g1.1 11 (by decide), g1.1 12 (by decide), g1.1 13 (by decide), si_ne _ _ _ (show (10 : Nat) ≠ 13 by decide), si_ne _ _ _ (show (11 : Nat) ≠ 13 by decide), si_ne _ _ _ (show (12 : Nat) ≠ 13 by decide), si_same, f1.1 (41 + 2 * s') (by omega)]
  by_cases e : s' = s
  · subst e
    rw [si_same, upd_s, upd_s, upd_n _ _ (show (0 : Nat) ≠ 3 by decide), upd_n _ _ (show (1 : Nat) ≠ 3 by decide), upd_n _ _ (show (2 : Nat) ≠ 3 by decide)]
    refine ⟨k1, k2, k3, rfl, fun i hi => ?_, k6, k7, ⟨w, hw, rfl⟩, fun i hi => ?_⟩
    · rw [show 42 + 2 * s' = 41 + 2 * s' + 1 by omega, f2, z14]
      by_cases e2 : i < w
      · rw [if_pos e2, if_pos (by omega), show 6 * s' + i - 6 * s' = i by omega]
      · rw [if_neg e2, if_neg (by omega), si_ne _ _ _ (by omega), show 41 + 2 * s' + 1 = 42 + 2 * s' by omega]
        exact k5 i hi
    · rw [z14]
      split
      · have := dg_lt (q := q) (c := c) (w := w) (i := 6 * s' + i - 6 * s') hq
        rw [nI_toInt (by omega)]; omega
      · exact k9 i hi
  · rw [si_ne _ _ _ (show 41 + 2 * s' ≠ 41 + 2 * s by omega), upd_n _ _ e]
    refine ⟨k1, k2, k3, k4, fun i hi => ?_, k6, k7, k8, fun i hi => ?_⟩
    · rw [f1.1 (42 + 2 * s') (by omega), si_ne _ _ _ (by omega), z14, if_neg (by omega)]
      exact k5 i hi
    · rw [z14, if_neg (by omega)]; exact k9 i hi
