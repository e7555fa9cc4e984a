/-! queue, greedy -/
theorem ahB_t {we ki : Nat → Int32} {a b : Nat} : ahB we ki a b = true ↔ (we b).toInt < (we a).toInt ∨ ((we a).toInt = (we b).toInt ∧ ((ki a).toInt < (ki b).toInt ∨ ((ki a).toInt = (ki b).toInt ∧ a < b))) := by
  unfold ahB
  by_cases h1 : we a = we b
  · rw [if_pos h1]
    by_cases h2 : ki a = ki b
    · rw [if_pos h2, h1, h2]; simp
    · have : (ki a).toInt ≠ (ki b).toInt := fun z => h2 (i32_eq.mpr z)
      rw [if_neg h2, h1]; simp [this]
  · have : (we a).toInt ≠ (we b).toInt := fun z => h1 (i32_eq.mpr z)
    rw [if_neg h1]; simp [this]
/-- the place in the queue -/
def plc (n : Nat) (we ki : Nat → Int32) (p : Nat) : Nat := fb_ct (fun o => ahB we ki o p) n
theorem plc_lt {n : Nat} {we ki : Nat → Int32} {p : Nat} (hp : p < n) : plc n we ki p < n := by
  have h1 := fb_ct_upd (fun o => ahB we ki o p) true hp
  have h2 := fb_ct_le (fun k => if k = p then true else ahB we ki k p) n
  have h3 : ¬ ahB we ki p p = true := fun z => by have := ahB_t.mp z; omega
  rw [if_neg h3, if_pos rfl] at h1
  unfold plc
  omega
theorem plc_mono {n : Nat} {we ki : Nat → Int32} {a b : Nat} (ha : a < n) (h : ahB we ki a b = true) : plc n we ki a < plc n we ki b := by
  have h1 := fb_ct_upd (fun o => ahB we ki o a) true ha
  have h3 : ¬ ahB we ki a a = true := fun z => by have := ahB_t.mp z; omega
  rw [if_neg h3, if_pos rfl] at h1
  have h2 := fb_ct_sub (p := fun k => if k = a then true else ahB we ki k a) (q := fun o => ahB we ki o b) (n := n) (fun k _ hk => by
    by_cases he : k = a
    · rw [he]; exact h
    · simp only [if_neg he] at hk
      have z1 := ahB_t.mp hk
      have z2 := ahB_t.mp h
      exact ahB_t.mpr (by omega))
  unfold plc
  omega
theorem plc_inj {n : Nat} {we ki : Nat → Int32} {a b : Nat} (ha : a < n) (hb : b < n) (e : plc n we ki a = plc n we ki b) : a = b := by
  by_cases h1 : ahB we ki a b = true
  · have := plc_mono ha h1; omega
  · by_cases h2 : ahB we ki b a = true
    · have := plc_mono hb h2; omega
    · have z1 := mt ahB_t.mpr h1
      have z2 := mt ahB_t.mpr h2
      omega
theorem plc_onto {n : Nat} {we ki : Nat → Int32} {y : Nat} (hy : y < n) : ∃ p, p < n ∧ plc n we ki p = y :=
  fb_onto (f := plc n we ki) (fun _ hi => plc_lt hi) (fun i j hij hj e => by have := plc_inj (show i < n by omega) hj e; omega) hy
theorem fillOrderC {S : Sg} {n : Nat} (hn : n ≤ 10) (s2 : S.1 1 2 = nI n) : ∃ S', f_X9_fillOrder S = some S' ∧ Fr 49 S S' ∧ ∀ p, p < n → S'.1 49 (plc n (S.1 3) (S.1 2) p) = nI p := by
  unfold f_X9_fillOrder
  obtain ⟨S', ⟨f1, f2⟩, h4⟩ := for2 (F := X9_fillOrder_L2) n (fun j S1 => Fr 49 S S1 ∧ ∀ p, p < j → S1.1 49 (plc n (S.1 3) (S.1 2) p) = nI p) (fun S => some S) (by
    rintro i S1 hi ⟨f1, f2⟩
    have hl := plc_lt (we := S.1 3) (ki := S.1 2) hi
    refine ⟨si S1 49 (plc n (S.1 3) (S.1 2) i) (nI i), ⟨Fr_w f1 _ _, fun p hp => ?_⟩, fun self => ?_⟩
    · by_cases he : p = i
      · rw [he, si_same, upd_s]
      · rw [si_same, upd_n _ _ (fun z => he (plc_inj (by omega) hi z))]
        exact f2 p (by omega)
    · unfold X9_fillOrder_L2
      have hpc := placeC (S := S1) (p := i) hn (by omega) (by rw [f1.1 1 (by decide), s2])
      rw [f1.1 3 (by decide), f1.1 2 (by decide)] at hpc
      rw [f1.1 1 (by decide), s2, le_n hi (by omega), hpc, cl1_s, show fb_ct (fun o => ahB (S.1 3) (S.1 2) o i) n = plc n (S.1 3) (S.1 2) i from rfl, inb_p (by omega) (by decide), bv_e, bv_e, ix_nI (by omega), nI_1]) (by
    rintro S1 ⟨f1, -⟩ self
    unfold X9_fillOrder_L2
    rw [f1.1 1 (by decide), s2, le_p (Nat.le_refl _) (by omega)]) (i0 := 0) (S0 := S) ⟨Fr.rf _ _, fun _ h => by omega⟩ (by omega) (FU_n (by omega))
  exact ⟨S', h4, f1, f2⟩
theorem queueM {T : Sg} {n p : Nat} (hn : n ≤ 10) (t2 : T.1 0 2 = nI n) (hp : p < n) : f_X10_queue (nI (plc n (T.1 2) (T.1 1) p)) T = some (nI p) := by
  unfold f_X10_queue
  have hl := plc_lt (we := T.1 2) (ki := T.1 1) hp
  refine wp1E (F := X10_queue_L2 (nI (plc n (T.1 2) (T.1 1) p)) T) p (fun i => nI i) (fun i hi self => ?_) (fun self => ?_) (FU_n (by omega))
  · have hli := plc_lt (we := T.1 2) (ki := T.1 1) (show i < n by omega)
    unfold X10_queue_L2
    rw [t2, le_n (by omega) (by omega), aheadM hn (by omega) t2, cl1_s, show fb_ct (fun o => ahB (T.1 2) (T.1 1) o i) n = plc n (T.1 2) (T.1 1) i from rfl, if_neg (fun z => ?_), bv_e, nI_1]
    have := plc_inj (show i < n by omega) hp ((nI_eq (by omega) (by omega)).mp z)
    omega
  · unfold X10_queue_L2
    rw [t2, le_n hp (by omega), aheadM hn (by omega) t2, cl1_s, show fb_ct (fun o => ahB (T.1 2) (T.1 1) o p) n = plc n (T.1 2) (T.1 1) p from rfl, if_pos rfl]
theorem queueN {T : Sg} {n : Nat} (hn : n ≤ 10) (t2 : T.1 0 2 = nI n) {a : Int32} (ha : ¬ (0 ≤ a.toInt ∧ a.toInt < n)) : f_X10_queue a T = some (-12) := by
  unfold f_X10_queue
  refine wp1E (F := X10_queue_L2 a T) n (fun i => nI i) (fun i hi self => ?_) (fun self => ?_) (FU_n (by omega))
  · have hli := plc_lt (we := T.1 2) (ki := T.1 1) hi
    unfold X10_queue_L2
    rw [t2, le_n (by omega) (by omega), aheadM hn (by omega) t2, cl1_s, show fb_ct (fun o => ahB (T.1 2) (T.1 1) o i) n = plc n (T.1 2) (T.1 1) i from rfl, if_neg (fun z => ?_), bv_e, nI_1]
    rw [← z, nI_toInt (by omega)] at ha
    omega
  · unfold X10_queue_L2
    rw [t2, le_p (Nat.le_refl _) (by omega)]
theorem e_queue {S T : Sg} (h : Rel S T) (a0 : Int32) : ∃ (r : Int32) (S' : Sg), f_X9_queue a0 S = some (r, S') ∧ f_X10_queue a0 T = some r ∧ Rel S' T := by
  obtain ⟨q, w, n, hqp, hw1, hw, hn, s0, t0, s1, t1, s2, t2⟩ := h.nums
  obtain ⟨m1, m2, m3, m4, m5, m6, m7, m8⟩ := h.1
  unfold f_X9_queue
  rw [hasC s2 hn, cl1_s]
  by_cases h1 : 0 ≤ a0.toInt ∧ a0.toInt < n
  · rw [b01_t h1, if_neg n10]
    obtain ⟨y, hy, rfl⟩ := nI_from h1
    obtain ⟨S1, f1, f2, f3⟩ := fillOrderC hn s2
    obtain ⟨p, hp, e⟩ := plc_onto (we := T.1 2) (ki := T.1 1) hy
    have e2 := f3 p hp
    rw [m4, m5, e] at e2
    have e3 := queueM hn t2 hp
    rw [e] at e3
    rw [f1, cl1_s, inb_p (by omega) (by decide), ix_nI (by omega), e2, e3]
    exact ⟨_, _, rfl, rfl, h.agr (fun k hk => ⟨f2.1 k (by omega), by rw [f2.2]⟩) (AgrM.rf T)⟩
  · rw [b01_f h1, if_pos z00, queueN hn t2 h1]
    exact ⟨_, _, rfl, rfl, h⟩
theorem or_lt {a p : Nat} (ha : a < 1024) (hp : p < 10) : a ||| 2 ^ p < 1024 := Nat.or_lt_two_pow (n := 10) ha (Nat.pow_lt_pow_right (by decide) hp)
theorem e_greedy {S T : Sg} (h : Rel S T) (a0 : Int32) : ∃ (r : Int32) (S' : Sg) (T' : Sg), f_X9_greedy a0 S = some (r, S') ∧ f_X10_greedy a0 T = some (r, T') ∧ Rel S' T' := by
  obtain ⟨q, w, n, hqp, hw1, hw, hn, s0, t0, s1, t1, s2, t2⟩ := h.nums
  have hq := primes_b hqp
  obtain ⟨m1, m2, m3, m4, m5, m6, m7, m8⟩ := h.1
  unfold f_X9_greedy f_X10_greedy
  rw [bitC, cl1_s, in32 a0 0 1 (by decide) (by decide), cl1_s]
  by_cases h1 : 0 ≤ a0.toInt ∧ a0.toInt ≤ 1
  · rw [b01_t h1, if_neg n10, if_neg n10]
    obtain ⟨S1, c1, c2, c3, c4⟩ := fill_eq (S := S) (by omega) (by omega) hw hn s0 s1 s2
    rw [m4, m7] at c2
    obtain ⟨S2, f1, f2, f3⟩ := fillOrderC (S := S1) hn (by rw [c3 1 (by decide) (by decide), s2])
    rw [c3 3 (by decide) (by decide), c3 2 (by decide) (by decide), m4, m5] at f3
    rw [c1, cl1_s, f1, cl1_s]
    have hA : AgrC S S2 := fun k hk => ⟨by rw [f2.1 k (by omega), c3 k (by omega) (by omega)], by rw [f2.2, c4]⟩
    have hF : Filled S2 q w n (T.1 1) (T.1 4) := c2.fr (f2.1 13 (by decide)) (f2.1 14 (by decide))
    have key : ∀ c k v (S1 T1 : Sg) fuel, k + c = n → v < 1024 → AgrC S S1 → Filled S1 q w n (T.1 1) (T.1 4) → (∀ p, p < n → S1.1 49 (plc n (T.1 2) (T.1 1) p) = nI p) → Fm T T1 → c < fuel → ∃ v' S' T', v' < 1024 ∧ AgrC S S' ∧ Fm T T' ∧ (∀ K, wp3 (X9_greedy_L29 K) fuel (nI v) (nI k) S1 = K (nI v') S') ∧ (∀ K, wp3 (X10_greedy_L17 K) fuel (nI v) (nI k) T1 = K (nI v') T') := by
      intro c
      induction c with
      | zero =>
        intro k v S1 T1 fuel hk hv hA hF hO hM hf
        obtain ⟨f, rfl⟩ : ∃ f, fuel = f + 1 := ⟨fuel - 1, by omega⟩
        refine ⟨v, S1, T1, hv, hA, hM, fun K => ?_, fun K => ?_⟩
        · rw [wp3s]
          unfold X9_greedy_L29
          rw [(hA 1 (by decide)).1, s2, le_p (by omega) (by omega)]
        · rw [wp3s]
          unfold X10_greedy_L17
          rw [hM.2.1 2 (by decide), t2, le_p (by omega) (by omega)]
      | succ c ih =>
        intro k v S1 T1 fuel hk hv hA hF hO hM hf
        obtain ⟨f, rfl⟩ : ∃ f, fuel = f + 1 := ⟨fuel - 1, by omega⟩
        obtain ⟨p, hp, e⟩ := plc_onto (we := T.1 2) (ki := T.1 1) (show k < n by omega)
        have o1 := hO p hp
        rw [e] at o1
        have o2 := queueM (T := T1) hn (by rw [hM.2.1 2 (by decide), t2]) hp
        rw [hM.1 2 (by decide) (by decide), hM.1 1 (by decide) (by decide), e] at o2
        have hv2 := or_lt hv (show p < 10 by omega)
        obtain ⟨S2, d1, d2, d3⟩ := isStandingC (a := v ||| 2 ^ p) hF hqp hw hn hv2
        obtain ⟨T2, g1, g2⟩ := isStandingM (T := T1) (a := v ||| 2 ^ p) hqp hw hn hv2 (by rw [hM.2.1 0 (by decide), t0]) (by rw [hM.2.1 1 (by decide), t1]) (by rw [hM.2.1 2 (by decide), t2])
        rw [hM.1 1 (by decide) (by decide), hM.1 4 (by decide) (by decide)] at g1
        have hsC : ∀ K self, X9_greedy_L29 K self (nI v) (nI k) S1 = self (nI (if st q w n (T.1 1) (T.1 4) (v ||| 2 ^ p) = true then v ||| 2 ^ p else v)) (nI (k + 1)) S2 := fun K self => by
          unfold X9_greedy_L29
          rw [(hA 1 (by decide)).1, s2, le_n (by omega) (by omega), inb_p (by omega) (by decide), ix_nI (by omega), o1, shl1 (by omega), fa_or]
          simp only [bv_e, jn_e]
          rw [d1, cl_s, nI_1]
          by_cases hs : st q w n (T.1 1) (T.1 4) (v ||| 2 ^ p) = true
          · rw [b01_t hs, if_neg n10, if_pos hs]
          · rw [b01_f hs, if_pos z00, if_neg hs]
        have hsM : ∀ K self, X10_greedy_L17 K self (nI v) (nI k) T1 = self (nI (if st q w n (T.1 1) (T.1 4) (v ||| 2 ^ p) = true then v ||| 2 ^ p else v)) (nI (k + 1)) T2 := fun K self => by
          unfold X10_greedy_L17
          rw [hM.2.1 2 (by decide), t2, le_n (by omega) (by omega), o2, cl1_s, shl1 (by omega), fa_or]
          simp only [bv_e, jn_e]
          rw [g1, cl_s, nI_1]
          by_cases hs : st q w n (T.1 1) (T.1 4) (v ||| 2 ^ p) = true
          · rw [b01_t hs, if_neg n10, if_pos hs]
          · rw [b01_f hs, if_pos z00, if_neg hs]
        obtain ⟨v', S', T', r1, r2, r3, r4, r5⟩ := ih (k + 1) (if st q w n (T.1 1) (T.1 4) (v ||| 2 ^ p) = true then v ||| 2 ^ p else v) S2 T2 f (by omega) (by split <;> assumption) (fun j hj => ⟨by rw [d2 j (by omega)]; exact (hA j hj).1, by rw [d3]; exact (hA j hj).2⟩) (hF.fr (d2 13 (by decide)) (d2 14 (by decide))) (fun p hp => by rw [d2 49 (by decide)]; exact hO p hp) (hM.tr g2) (by omega)
        exact ⟨v', S', T', r1, r2, r3, fun K => by rw [wp3s, hsC]; exact r4 K, fun K => by rw [wp3s, hsM]; exact r5 K⟩
    obtain ⟨v', S', T', r1, r2, r3, r4, r5⟩ := key n 0 0 S2 T FU (by omega) (by decide) hA hF f3 (Fm.rf T) (FU_n (by omega))
    rw [show (0 : Int32) = nI 0 from rfl, r4, r5]
    have hR := h.agr r2 r3.agr
    by_cases c0 : a0 = nI 0
    · rw [if_pos c0, if_pos c0]; exact ⟨_, _, _, rfl, rfl, hR⟩
    · rw [if_neg c0, if_neg c0, weightOfC (S := S') hn (by omega) (by rw [(r2 1 (by decide)).1, s2]), weightsM (T := T') hn (by omega) (by rw [r3.2.1 2 (by decide), t2]), cl1_s, cl1_s, hR.1.2.2.2.2.1]
      exact ⟨_, _, _, rfl, rfl, hR⟩
  · rw [b01_f h1, if_pos z00, if_pos z00]; exact ⟨_, _, _, rfl, rfl, h⟩
