/-! names, places in the queue; told, name, named, unname, nameAt -/
def nmB (nm : Nat → Int64) (x : Int64) (i : Nat) : Bool := decide (nm i ≠ 0) && decide ((nm i).toInt < x.toInt)
theorem ctB {p : Nat → Bool} {i : Nat} (h : p i = true) : fb_ct p (i + 1) = fb_ct p i + 1 := by rw [fb_ct_succ, h]; rfl
theorem ctN {p : Nat → Bool} {i : Nat} (h : ¬ p i = true) : fb_ct p (i + 1) = fb_ct p i := by rw [fb_ct_succ, if_neg h]; rfl
theorem nmB_t {nm : Nat → Int64} {x : Int64} {i : Nat} : nmB nm x i = true ↔ nm i ≠ 0 ∧ (nm i).toInt < x.toInt := by simp [nmB]
theorem cmp_0 (x : Int64) : lg_cmp x 0 = 0 ↔ x = 0 := cmp_eq x 0
theorem ncmp_ge (x y : Int64) : ¬ 0 ≤ lg_cmp x y ↔ x.toInt < y.toInt := by rw [cmp_ge]; omega
theorem namesBelowC {S : Sg} {n : Nat} (hn : n ≤ 10) (s2 : S.1 1 2 = nI n) (x : Int64) : f_X2_namesBelow x S = some (nI (fb_ct (nmB (S.2 4) x) n)) := by
  unfold f_X2_namesBelow
  refine wp2E (F := X2_namesBelow_L5 x S) n (fun i => nI (fb_ct (nmB (S.2 4) x) i)) (fun i => nI i) (fun i hi self => ?_) (fun self => ?_) (FU_n (by omega))
  · unfold X2_namesBelow_L5
    simp only [jn_e, bv_e]
    rw [s2, le_n hi (by omega), inb_p (by omega) (by decide), inb_p (by omega) (by decide), ix_nI (by omega)]
    by_cases h1 : S.2 4 i = 0
    · rw [if_pos ((cmp_0 _).mpr h1), nI_1, ctN (fun z => (nmB_t.mp z).1 h1)]
    · rw [if_neg (fun z => h1 ((cmp_0 _).mp z))]
      by_cases h2 : 0 ≤ lg_cmp (S.2 4 i) x
      · rw [if_pos h2, nI_1, ctN (fun z => ((ncmp_ge _ _).mpr (nmB_t.mp z).2) h2)]
      · rw [if_neg h2, nI_1, nI_1, ctB (nmB_t.mpr ⟨h1, (ncmp_ge _ _).mp h2⟩)]
  · unfold X2_namesBelow_L5
    rw [s2, le_p (Nat.le_refl _) (by omega)]
theorem namePlaceM {T : Sg} {n p : Nat} (hn : n ≤ 10) (hp : p < 10) (t2 : T.1 0 2 = nI n) : f_X10_namePlace (nI p) T = some (if T.2 3 p = 0 then -1 else nI (fb_ct (nmB (T.2 3) (T.2 3 p)) n)) := by
  unfold f_X10_namePlace
  refine wp2E (F := X10_namePlace_L4 (nI p) T _) n (fun i => nI (fb_ct (nmB (T.2 3) (T.2 3 p)) i)) (fun i => nI i) (fun i hi self => ?_) (fun self => ?_) (FU_n (by omega))
  · unfold X10_namePlace_L4
    simp only [jn_e, bv_e]
    rw [t2, le_n hi (by omega), inb_p (by omega) (by decide), inb_p (by omega) (by decide), inb_p (by omega) (by decide), ix_nI (by omega), ix_nI (by omega)]
    by_cases h1 : T.2 3 i = 0
    · rw [if_pos ((cmp_0 _).mpr h1), nI_1, ctN (fun z => (nmB_t.mp z).1 h1), Int32.add_zero]
    · rw [if_neg (fun z => h1 ((cmp_0 _).mp z))]
      by_cases h2 : 0 ≤ lg_cmp (T.2 3 i) (T.2 3 p)
      · rw [if_pos h2, nI_1, ctN (fun z => ((ncmp_ge _ _).mpr (nmB_t.mp z).2) h2), Int32.add_zero]
      · rw [if_neg h2, nI_1, nI_1, ctB (nmB_t.mpr ⟨h1, (ncmp_ge _ _).mp h2⟩)]
  · unfold X10_namePlace_L4
    rw [t2, le_p (Nat.le_refl _) (by omega)]
    show gd (inb (nI p) 10) (if lg_cmp (T.2 3 (ix (nI p))) 0 = 0 then some (-1) else some (nI (fb_ct (nmB (T.2 3) (T.2 3 p)) n))) = _
    rw [inb_p (by omega) (by decide), ix_nI (by omega)]
    by_cases h1 : T.2 3 p = 0
    · rw [if_pos ((cmp_0 _).mpr h1), if_pos h1]
    · rw [if_neg (fun z => h1 ((cmp_0 _).mp z)), if_neg h1]
/-- a is ahead of b -/
def ahB (we ki : Nat → Int32) (a b : Nat) : Bool := if we a = we b then (if ki a = ki b then decide (a < b) else decide ((ki a).toInt < (ki b).toInt)) else decide ((we b).toInt < (we a).toInt)
theorem isAheadC {S : Sg} {a b : Nat} (ha : a < 10) (hb : b < 10) : f_X2_isAhead (nI a) (nI b) S = some (b01 (ahB (S.1 3) (S.1 2) a b = true)) := by
  unfold f_X2_isAhead ahB
  simp only [inb_nI ha (show 10 < 2 ^ 31 by decide), inb_nI hb (show 10 < 2 ^ 31 by decide), gd_t, ix_nI (show a < 2 ^ 31 by omega), ix_nI (show b < 2 ^ 31 by omega)]
  by_cases h1 : S.1 3 a = S.1 3 b
  · rw [if_pos h1]
    simp only [if_pos h1]
    by_cases h2 : S.1 2 a = S.1 2 b
    · rw [if_pos h2]
      simp only [if_pos h2]
      by_cases h3 : a < b
      · rw [le_n h3 (by omega), b01_t (by simp [h3])]
      · rw [le_p (by omega) (by omega), b01_f (by simp; omega)]
    · rw [if_neg h2]
      simp only [if_neg h2, Int32.le_iff_toInt_le]
      by_cases h3 : (S.1 2 a).toInt < (S.1 2 b).toInt
      · rw [if_neg (by omega), b01_t (by simp [h3])]
      · rw [if_pos (by omega), b01_f (by simp; omega)]
  · rw [if_neg h1]
    simp only [if_neg h1, Int32.le_iff_toInt_le]
    by_cases h3 : (S.1 3 b).toInt < (S.1 3 a).toInt
    · rw [if_neg (by omega), b01_t (by simp [h3])]
    · rw [if_pos (by omega), b01_f (by simp; omega)]
theorem placeC {S : Sg} {n p : Nat} (hn : n ≤ 10) (hp : p < 10) (s2 : S.1 1 2 = nI n) : f_X2_placeInQueue (nI p) S = some (nI (fb_ct (fun o => ahB (S.1 3) (S.1 2) o p) n)) := by
  unfold f_X2_placeInQueue
  refine wp2E (F := X2_placeInQueue_L4 (nI p) S) n (fun i => nI (fb_ct (fun o => ahB (S.1 3) (S.1 2) o p) i)) (fun i => nI i) (fun i hi self => ?_) (fun self => ?_) (FU_n (by omega))
  · unfold X2_placeInQueue_L4
    simp only [jn_e, bv_e]
    rw [s2, le_n hi (by omega), isAheadC (by omega) hp, cl1_s]
    by_cases h1 : ahB (S.1 3) (S.1 2) i p = true
    · rw [b01_t h1, if_neg n10, nI_1, nI_1, ctB (p := fun o => ahB (S.1 3) (S.1 2) o p) h1]
    · rw [b01_f h1, if_pos z00, nI_1, ctN (p := fun o => ahB (S.1 3) (S.1 2) o p) h1]
  · unfold X2_placeInQueue_L4
    rw [s2, le_p (Nat.le_refl _) (by omega)]
theorem aheadM {T : Sg} {n p : Nat} (hn : n ≤ 10) (hp : p < 10) (t2 : T.1 0 2 = nI n) : f_X10_ahead (nI p) T = some (nI (fb_ct (fun o => ahB (T.1 2) (T.1 1) o p) n)) := by
  unfold f_X10_ahead
  refine wp2E (F := X10_ahead_L4 (nI p) T) n (fun i => nI (fb_ct (fun o => ahB (T.1 2) (T.1 1) o p) i)) (fun i => nI i) (fun i hi self => ?_) (fun self => ?_) (FU_n (by omega))
  · have k1 : ahB (T.1 2) (T.1 1) i p = true → nI (fb_ct (fun o => ahB (T.1 2) (T.1 1) o p) i) + 1 = nI (fb_ct (fun o => ahB (T.1 2) (T.1 1) o p) (i + 1)) := fun h1 => by rw [nI_1, ctB (p := fun o => ahB (T.1 2) (T.1 1) o p) h1]
    have k0 : ¬ ahB (T.1 2) (T.1 1) i p = true → nI (fb_ct (fun o => ahB (T.1 2) (T.1 1) o p) i) + 0 = nI (fb_ct (fun o => ahB (T.1 2) (T.1 1) o p) (i + 1)) := fun h1 => by rw [Int32.add_zero, ctN (p := fun o => ahB (T.1 2) (T.1 1) o p) h1]
    unfold X10_ahead_L4
    rw [t2, le_n hi (by omega)]
    simp only [inb_nI (show i < 10 by omega) (show 10 < 2 ^ 31 by decide), inb_nI hp (show 10 < 2 ^ 31 by decide), gd_t, jn_e, bv_e, ix_nI (show i < 2 ^ 31 by omega), ix_nI (show p < 2 ^ 31 by omega), n10, eq_self, if_true, if_false, nI_1 i, Int32.lt_iff_toInt_lt]
    by_cases h0 : T.1 2 i = T.1 2 p
    · rw [if_neg (by rw [h0]; omega), if_pos h0]
      by_cases h1 : T.1 1 i = T.1 1 p
      · rw [if_neg (by rw [h1]; omega), if_pos h1]
        by_cases h2 : i < p
        · rw [le_n h2 (by omega), k1 (by unfold ahB; rw [if_pos h0, if_pos h1]; simp [h2])]
        · rw [le_p (by omega) (by omega), k0 (by unfold ahB; rw [if_pos h0, if_pos h1]; simp; omega)]
      · by_cases h2 : (T.1 1 i).toInt < (T.1 1 p).toInt
        · rw [if_pos h2, k1 (by unfold ahB; rw [if_pos h0, if_neg h1]; simp [h2])]
        · rw [if_neg h2, if_neg h1, k0 (by unfold ahB; rw [if_pos h0, if_neg h1]; simp; omega)]
    · by_cases h2 : (T.1 2 p).toInt < (T.1 2 i).toInt
      · rw [if_pos h2, k1 (by unfold ahB; rw [if_neg h0]; simp [h2])]
      · rw [if_neg h2, if_neg h0, k0 (by unfold ahB; rw [if_neg h0]; simp; omega)]
  · unfold X10_ahead_L4
    rw [t2, le_p (Nat.le_refl _) (by omega)]
theorem e_told {S T : Sg} (h : Rel S T) (a0 : Int32) (a1 : Int32) : ∃ (r : Int32) (S' : Sg) (T' : Sg), f_X9_told a0 a1 S = some (r, S') ∧ f_X10_told a0 a1 T = some (r, T') ∧ Rel S' T' := by
  obtain ⟨q, w, n, hqp, hw1, hw, hn, s0, t0, s1, t1, s2, t2⟩ := h.nums
  have hq := primes_b hqp
  obtain ⟨m1, m2, m3, m4, m5, m6, m7, m8⟩ := h.1
  unfold f_X9_told f_X10_told
  rw [hasC s2 hn, isPairM t2 hn, cl1_s, cl1_s]
  by_cases h1 : 0 ≤ a0.toInt ∧ a0.toInt < n
  · rw [b01_t h1, if_neg n10, if_neg n10]
    obtain ⟨p, hp, rfl⟩ := nI_from h1
    rw [inb_p (by omega) (by decide), inb_p (by omega) (by decide), inb_p (by omega) (by decide), inb_p (by omega) (by decide), inb_p (by omega) (by decide), inb_p (by omega) (by decide), ix_nI (by omega)]
    by_cases c0 : a1 = 0
    · rw [if_pos c0, if_pos c0, m4]; exact ⟨_, _, _, rfl, rfl, h⟩
    rw [if_neg c0, if_neg c0]
    by_cases c1 : a1 = 1
    · rw [if_pos c1, if_pos c1, m5]; exact ⟨_, _, _, rfl, rfl, h⟩
    rw [if_neg c1, if_neg c1]
    by_cases c2 : a1 = 2
    · rw [if_pos c2, if_pos c2, placeC hn (by omega) s2, aheadM hn (by omega) t2, m4, m5]; exact ⟨_, _, _, rfl, rfl, h⟩
    rw [if_neg c2, if_neg c2]
    by_cases c3 : a1 = 3
    · rw [if_pos c3, if_pos c3, namesBelowC hn s2, namePlaceM hn (by omega) t2, m6, cl1_s, cl1_s]
      by_cases h2 : T.2 3 p = 0
      · rw [if_pos ((cmp_0 _).mpr h2), if_pos h2]; exact ⟨_, _, _, rfl, rfl, h⟩
      · rw [if_neg (fun z => h2 ((cmp_0 _).mp z)), if_neg h2]; exact ⟨_, _, _, rfl, rfl, h⟩
    rw [if_neg c3, if_neg c3]
    by_cases c4 : a1 = 4
    · rw [if_pos c4, if_pos c4, shl1 (by omega)]
      have hp2 : 2 ^ p ≤ 1024 := pw_le (by omega)
      obtain ⟨S1, c1, c2, c3, c4⟩ := fill_eq (S := S) (by omega) (by omega) hw hn s0 s1 s2
      obtain ⟨S2, d1, d2, d3⟩ := rankC (a := 2 ^ p) (lo := 0) c2 hqp hw hn (by omega) (by decide)
      obtain ⟨T1, g1, g2⟩ := rankM (T := T) (a := 2 ^ p) (lo := 0) hqp hw hn (by omega) (Nat.pow_pos (by decide)) t0 t1 t2
      rw [pcn_0, Nat.add_zero] at g1
      rw [c1, cl1_s, show (0 : Int32) = nI 0 from rfl, d1, cl_s, g1, cl_s, m4, m7]
      exact ⟨_, _, _, rfl, rfl, h.agr (fun k hk => ⟨by rw [d2 k (by omega), c3 k (by omega) (by omega)], by rw [d3, c4]⟩) g2.agr⟩
    rw [if_neg c4, if_neg c4]
    exact ⟨_, _, _, rfl, rfl, h⟩
  · rw [b01_f h1, if_pos z00, if_pos z00]; exact ⟨_, _, _, rfl, rfl, h⟩
/-! is it a name -/
theorem and255 (x : Int64) : 0 ≤ (x &&& 255).toInt ∧ (x &&& 255).toInt ≤ 255 := by
  have h : (x &&& 255).toBitVec.toNat ≤ 255 := by
    rw [Int64.toBitVec_and, BitVec.toNat_and]
    exact Nat.le_trans Nat.and_le_right (by decide)
  have e : (x &&& 255).toInt = (x &&& 255).toBitVec.toInt := rfl
  rw [e, BitVec.toInt_eq_toNat_of_lt (by omega)]
  omega
def shN (k : Nat) : Int32 := 56 - 8 * nI k
theorem shN_tab : ∀ k, k < 8 → ¬ shN k < 0 ∧ shN k + (-8) = shN (k + 1) := by decide
theorem isName_eq (x : Int64) : ∃ r, f_X9_isName x = some r ∧ f_X10_isName x = some r := by
  unfold f_X9_isName f_X10_isName
  generalize hK : (fun (v1 : Int32) => if v1 = 0 then some (0 : Int32) else if lg_cmp x 0 = 0 then some 0 else some 1) = K
  have hK2 : ∀ v, ∃ r, K v = some r := fun v => by
    rw [← hK]
    show ∃ r, (if v = 0 then some (0 : Int32) else if lg_cmp x 0 = 0 then some 0 else some 1) = some r
    split
    · exact ⟨_, rfl⟩
    · split <;> exact ⟨_, rfl⟩
  have key : ∀ c k v fuel, k + c = 8 → (v = 0 ∨ v = 1) → c < fuel → ∃ r, wp2 (X9_isName_L5 x K) fuel v (shN k) = some r ∧ wp2 (X10_isName_L4 x K) fuel v (nI k) = some r := by
    intro c
    induction c with
    | zero =>
      intro k v fuel hk hv hf
      obtain ⟨f, rfl⟩ : ∃ f, fuel = f + 1 := ⟨fuel - 1, by omega⟩
      have e : k = 8 := by omega
      subst e
      rw [wp2s, wp2s]
      unfold X9_isName_L5 X10_isName_L4
      rw [if_pos (by decide), if_pos (by decide)]
      obtain ⟨r, hr⟩ := hK2 v
      exact ⟨r, hr, hr⟩
    | succ c ih =>
      intro k v fuel hk hv hf
      obtain ⟨f, rfl⟩ : ∃ f, fuel = f + 1 := ⟨fuel - 1, by omega⟩
      obtain ⟨t1, t2⟩ := shN_tab k (by omega)
      have ih' : ∀ v', (v' = 0 ∨ v' = 1) → ∃ r, wp2 (X9_isName_L5 x K) f v' (shN (k + 1)) = some r ∧ wp2 (X10_isName_L4 x K) f v' (nI (k + 1)) = some r := fun v' hv' => ih (k + 1) v' f (by omega) hv' (by omega)
      rw [wp2s, wp2s]
      generalize wp2 (X9_isName_L5 x K) f = W1 at ih' ⊢
      generalize wp2 (X10_isName_L4 x K) f = W2 at ih' ⊢
      unfold X9_isName_L5 X10_isName_L4
      rw [if_neg t1, show (8 : Int32) = nI 8 from rfl, le_n (by omega) (by omega), show (56 : Int32) - nI 8 * nI k = shN k from rfl]
      simp only [jn_e, bv_e]
      rw [show shN k + -nI 8 = shN (k + 1) from t2]
      have hb := and255 (lush x (shN k))
      generalize hB : lush x (shN k) &&& 255 = B at hb ⊢
      have eB : B.toInt32.toInt = B.toInt := by
        rw [Int64.toInt_toInt32]; exact Int.bmod_eq_of_le (by omega) (by omega)
      by_cases h0 : B = 0
      · rw [if_pos (show B.toInt32 = 0 by rw [h0]; rfl), if_pos ((cmp_0 _).mpr h0), if_pos ((cmp_0 _).mpr h0), nI_1]
        have e : v ||| 1 = 1 := by rcases hv with rfl | rfl <;> decide
        rw [e]
        exact ih' 1 (Or.inr rfl)
      · have h0' : ¬ B.toInt32 = 0 := fun z => h0 (i64_eq.mpr (by rw [← eB, z]; rfl))
        rw [if_neg h0', if_neg (fun z => h0 ((cmp_0 _).mp z)), if_neg (fun z => h0 ((cmp_0 _).mp z))]
        by_cases hv0 : v = 0
        · rw [if_pos hv0, if_pos hv0, in_eq, cl1_s]
          have l1 : (97 : Int64).toInt = 97 := by decide
          have l2 : (122 : Int64).toInt = 122 := by decide
          by_cases h1 : 97 ≤ B.toInt ∧ B.toInt ≤ 122
          · rw [b01_t (by rw [l1, l2]; exact h1), if_neg n10, if_neg (by rw [i_lt 97 (by decide), eB]; omega), if_pos (by rw [i_le 122 (by decide), eB]; omega), nI_1]
            have e : v ||| 0 = v := by rw [hv0]; decide
            rw [e]
            exact ih' v hv
          · rw [b01_f (by rw [l1, l2]; exact h1), if_pos z00]
            by_cases h2 : B.toInt32 < 97
            · rw [if_pos h2]; exact ⟨_, rfl, rfl⟩
            · rw [if_neg h2, if_neg (by rw [i_lt 97 (by decide), eB] at h2; rw [i_le 122 (by decide), eB]; omega)]; exact ⟨_, rfl, rfl⟩
        · rw [if_neg hv0, if_neg hv0]; exact ⟨_, rfl, rfl⟩
  exact key 8 0 0 FU (by omega) (Or.inl rfl) (FU_n (by omega))
theorem whoIs_eq {S T : Sg} (h : Rel S T) (x : Int64) : ∃ r, f_X2_ownerOf x S = some r ∧ f_X10_whoIs x T = some r := by
  obtain ⟨q, w, n, hqp, hw1, hw, hn, s0, t0, s1, t1, s2, t2⟩ := h.nums
  obtain ⟨m1, m2, m3, m4, m5, m6, m7, m8⟩ := h.1
  unfold f_X2_ownerOf f_X10_whoIs
  have e : X2_ownerOf_L2 x S = X10_whoIs_L2 x T := by
    funext self v
    unfold X2_ownerOf_L2 X10_whoIs_L2
    rw [m3, m6]
  rw [e]
  obtain ⟨r, ⟨v, hv⟩, h2⟩ := wp1R (F := X10_whoIs_L2 x T) (fun c v => ∃ i, i + c = n ∧ v = nI i) (fun r => ∃ v, r = some v) (by
    rintro c v ⟨i, hi, rfl⟩
    rcases Nat.eq_zero_or_pos c with hc | hc
    · exact Or.inl ⟨some (-1), ⟨_, rfl⟩, fun self => by
        unfold X10_whoIs_L2
        rw [t2, le_p (by omega) (by omega)]⟩
    · by_cases hx : lg_cmp (T.2 3 i) x = 0
      · exact Or.inl ⟨some (nI i), ⟨_, rfl⟩, fun self => by
          unfold X10_whoIs_L2
          rw [t2, le_n (by omega) (by omega), inb_p (by omega) (by decide), ix_nI (by omega), if_pos hx]⟩
      · exact Or.inr ⟨c - 1, nI (i + 1), by omega, ⟨i + 1, by omega, rfl⟩, fun self => by
          unfold X10_whoIs_L2
          rw [t2, le_n (by omega) (by omega), inb_p (by omega) (by decide), ix_nI (by omega), if_neg hx, bv_e, nI_1]⟩) FU n (nI 0) (FU_n (by omega)) ⟨0, by omega, rfl⟩
  exact ⟨v, by rw [show (0 : Int32) = nI 0 from rfl, h2, hv], by rw [show (0 : Int32) = nI 0 from rfl, h2, hv]⟩
theorem Rel_name {S T : Sg} (h : Rel S T) (p : Nat) (x : Int64) : Rel (sl S 4 p x) (sl T 3 p x) := by
  obtain ⟨m1, m2, m3, m4, m5, m6, m7, m8⟩ := h.1
  refine Rel_main h (AgrK_l (AgrK.rf S) _ _ (by omega)) (AgrN_l (AgrN.rf T) _ _ (by omega)) ?_ ?_
  · exact ⟨m1, m2, m3, m4, m5, by rw [sl_same, sl_same, m6], m7, m8⟩
  · exact h.2.1
theorem e_name {S T : Sg} (h : Rel S T) (a0 : Int32) (a1 : Int64) : ∃ (r : Int32) (S' : Sg) (T' : Sg), f_X9_name a0 a1 S = some (r, S') ∧ f_X10_name a0 a1 T = some (r, T') ∧ Rel S' T' := by
  obtain ⟨q, w, n, hqp, hw1, hw, hn, s0, t0, s1, t1, s2, t2⟩ := h.nums
  unfold f_X9_name f_X10_name
  obtain ⟨r, r1, r2⟩ := isName_eq a1
  obtain ⟨o, o1, o2⟩ := whoIs_eq h a1
  rw [hasC s2 hn, isPairM t2 hn, cl1_s, cl1_s, r1, r2, cl1_s, cl1_s, o1, o2, cl1_s, cl1_s]
  by_cases h1 : 0 ≤ a0.toInt ∧ a0.toInt < n
  · rw [b01_t h1, if_neg n10, if_neg n10]
    obtain ⟨p, hp, rfl⟩ := nI_from h1
    rw [inb_p (by omega) (by decide), inb_p (by omega) (by decide), ix_nI (by omega), jn_e, jn_e, bv_e, bv_e]
    by_cases c0 : r = 0
    · rw [if_pos c0, if_pos c0]; exact ⟨_, _, _, rfl, rfl, h⟩
    rw [if_neg c0, if_neg c0]
    by_cases c1 : o = -1
    · rw [if_pos c1, if_pos c1]; exact ⟨_, _, _, rfl, rfl, Rel_name h p a1⟩
    rw [if_neg c1, if_neg c1]
    by_cases c2 : o = nI p
    · rw [if_pos c2, if_pos c2]; exact ⟨_, _, _, rfl, rfl, Rel_name h p a1⟩
    rw [if_neg c2, if_neg c2]; exact ⟨_, _, _, rfl, rfl, h⟩
  · rw [b01_f h1, if_pos z00, if_pos z00]; exact ⟨_, _, _, rfl, rfl, h⟩
theorem e_named {S T : Sg} (h : Rel S T) (a0 : Int64) : ∃ (r : Int32), f_X9_named a0 S = some r ∧ f_X10_named a0 T = some r ∧ Rel S T := by
  unfold f_X9_named f_X10_named
  obtain ⟨r, r1, r2⟩ := isName_eq a0
  obtain ⟨o, o1, o2⟩ := whoIs_eq h a0
  rw [r1, r2, cl1_s, cl1_s, o1, o2, cl1_s]
  by_cases c0 : r = 0
  · rw [if_pos c0]; exact ⟨_, rfl, rfl, h⟩
  · rw [if_neg c0]; exact ⟨_, rfl, rfl, h⟩
theorem e_unname {S T : Sg} (h : Rel S T) (a0 : Int32) : ∃ (r : Int32) (S' : Sg) (T' : Sg), f_X9_unname a0 S = some (r, S') ∧ f_X10_unname a0 T = some (r, T') ∧ Rel S' T' := by
  obtain ⟨q, w, n, hqp, hw1, hw, hn, s0, t0, s1, t1, s2, t2⟩ := h.nums
  obtain ⟨m1, m2, m3, m4, m5, m6, m7, m8⟩ := h.1
  unfold f_X9_unname f_X10_unname
  simp only [jn_e, bv_e]
  rw [hasC s2 hn, isPairM t2 hn, cl1_s, cl1_s, m6]
  by_cases h1 : 0 ≤ a0.toInt ∧ a0.toInt < n
  · rw [b01_t h1, if_neg n10, if_neg n10]
    obtain ⟨p, hp, rfl⟩ := nI_from h1
    rw [inb_p (by omega) (by decide), inb_p (by omega) (by decide), inb_p (by omega) (by decide), inb_p (by omega) (by decide), inb_p (by omega) (by decide), inb_p (by omega) (by decide), ix_nI (by omega)]
    by_cases c0 : lg_cmp (T.2 3 p) 0 = 0
    · rw [if_pos c0, if_pos c0]; exact ⟨_, _, _, rfl, rfl, Rel_name h p 0⟩
    · rw [if_neg c0, if_neg c0]; exact ⟨_, _, _, rfl, rfl, Rel_name h p 0⟩
  · rw [b01_f h1, if_pos z00, if_pos z00]; exact ⟨_, _, _, rfl, rfl, h⟩
theorem e_nameAt {S T : Sg} (h : Rel S T) (a0 : Int32) : ∃ (r : Int64), f_X9_nameAt a0 S = some r ∧ f_X10_nameAt a0 T = some r ∧ Rel S T := by
  obtain ⟨q, w, n, hqp, hw1, hw, hn, s0, t0, s1, t1, s2, t2⟩ := h.nums
  obtain ⟨m1, m2, m3, m4, m5, m6, m7, m8⟩ := h.1
  unfold f_X9_nameAt f_X10_nameAt
  have key : ∀ c i fuel, i + c = n → c < fuel → ∃ r, wp1 (X9_nameAt_L2 a0 S) fuel (nI i) = some r ∧ wp1 (X10_nameAt_L2 a0 T) fuel (nI i) = some r := by
    intro c
    induction c with
    | zero =>
      intro i fuel hi hf
      obtain ⟨f, rfl⟩ : ∃ f, fuel = f + 1 := ⟨fuel - 1, by omega⟩
      rw [wp1s, wp1s]
      unfold X9_nameAt_L2 X10_nameAt_L2
      rw [s2, t2, le_p (by omega) (by omega), le_p (by omega) (by omega)]
      exact ⟨_, rfl, rfl⟩
    | succ c ih =>
      intro i fuel hi hf
      obtain ⟨f, rfl⟩ : ∃ f, fuel = f + 1 := ⟨fuel - 1, by omega⟩
      obtain ⟨r, r1, r2⟩ := ih (i + 1) f (by omega) (by omega)
      rw [wp1s, wp1s]
      generalize wp1 (X9_nameAt_L2 a0 S) f = W1 at r1 ⊢
      generalize wp1 (X10_nameAt_L2 a0 T) f = W2 at r2 ⊢
      unfold X9_nameAt_L2 X10_nameAt_L2
      simp only [jn_e, bv_e]
      rw [s2, t2, le_n (by omega) (by omega), le_n (by omega) (by omega), inb_p (by omega) (by decide), inb_p (by omega) (by decide), inb_p (by omega) (by decide), ix_nI (by omega), namePlaceM hn (by omega) t2, namesBelowC hn s2, cl1_s, cl1_s, m6, nI_1, r1, r2]
      by_cases c0 : T.2 3 i = 0
      · rw [if_pos ((cmp_0 _).mpr c0), if_pos ((cmp_0 _).mpr c0)]; exact ⟨_, rfl, rfl⟩
      · rw [if_neg (fun z => c0 ((cmp_0 _).mp z)), if_neg (fun z => c0 ((cmp_0 _).mp z)), if_neg c0]
        split <;> exact ⟨_, rfl, rfl⟩
  obtain ⟨r, r1, r2⟩ := key n 0 FU (by omega) (FU_n (by omega))
  exact ⟨r, r1, r2, h⟩
