/-! rank, stands, most, best, heavy -/
theorem e_rank {S T : Sg} (h : Rel S T) (a0 : Int32) : ∃ (r : Int32) (S' : Sg) (T' : Sg), f_X9_rank a0 S = some (r, S') ∧ f_X10_rank a0 T = some (r, T') ∧ Rel S' T' := by
  obtain ⟨q, w, n, hqp, hw1, hw, hn, s0, t0, s1, t1, s2, t2⟩ := h.nums
  have hq := primes_b hqp
  have hpw := pw_le hn
  unfold f_X9_rank f_X10_rank
  rw [hasAllC s2 hn, isSetM t2 hn, cl1_s, cl1_s]
  by_cases hc : 0 ≤ a0.toInt ∧ a0.toInt < (2 ^ n : Nat)
  · rw [b01_t hc, if_neg (by decide), if_neg (by decide)]
    obtain ⟨a, ha, rfl⟩ := nI_from hc
    obtain ⟨S1, c1, c2, c3, c4⟩ := fill_eq (S := S) (by omega) (by omega) hw hn s0 s1 s2
    obtain ⟨S2, d1, d2, d3⟩ := rankC (a := a) (lo := 0) c2 hqp hw hn (by omega) (by decide)
    obtain ⟨T1, g1, g2⟩ := rankM (T := T) (a := a) (lo := 0) hqp hw hn (by omega) (Nat.pow_pos (by decide)) t0 t1 t2
    rw [pcn_0, Nat.add_zero] at g1
    rw [c1, cl1_s, show (0 : Int32) = nI 0 from rfl, d1, cl_s, g1, cl_s, h.1.2.2.2.1, h.1.2.2.2.2.2.2.1]
    exact ⟨_, _, _, rfl, rfl, h.agr (fun k hk => ⟨by rw [d2 k (by omega), c3 k (by omega) (by omega)], by rw [d3, c4]⟩) g2.agr⟩
  · rw [b01_f hc, if_pos rfl, if_pos rfl]
    exact ⟨_, _, _, rfl, rfl, h⟩
theorem e_stands {S T : Sg} (h : Rel S T) (a0 : Int32) : ∃ (r : Int32) (S' : Sg) (T' : Sg), f_X9_stands a0 S = some (r, S') ∧ f_X10_stands a0 T = some (r, T') ∧ Rel S' T' := by
  obtain ⟨q, w, n, hqp, hw1, hw, hn, s0, t0, s1, t1, s2, t2⟩ := h.nums
  have hq := primes_b hqp
  have hpw := pw_le hn
  unfold f_X9_stands f_X10_stands
  rw [hasAllC s2 hn, isSetM t2 hn, cl1_s, cl1_s]
  by_cases hc : 0 ≤ a0.toInt ∧ a0.toInt < (2 ^ n : Nat)
  · rw [b01_t hc, if_neg (by decide), if_neg (by decide)]
    obtain ⟨a, ha, rfl⟩ := nI_from hc
    obtain ⟨S1, c1, c2, c3, c4⟩ := fill_eq (S := S) (by omega) (by omega) hw hn s0 s1 s2
    obtain ⟨S2, d1, d2, d3⟩ := isStandingC (a := a) c2 hqp hw hn (by omega)
    obtain ⟨T1, g1, g2⟩ := isStandingM (T := T) (a := a) hqp hw hn (by omega) t0 t1 t2
    rw [c1, cl1_s, d1, cl_s, g1, cl_s, h.1.2.2.2.1, h.1.2.2.2.2.2.2.1]
    have hR : Rel S2 T1 := h.agr (fun k hk => ⟨by rw [d2 k (by omega), c3 k (by omega) (by omega)], by rw [d3, c4]⟩) g2.agr
    by_cases hs : st q w n (T.1 1) (T.1 4) a = true
    · rw [b01_t hs, if_neg (by decide), if_neg (by decide)]
      exact ⟨_, _, _, rfl, rfl, hR⟩
    · rw [b01_f hs, if_pos rfl, if_pos rfl]
      exact ⟨_, _, _, rfl, rfl, hR⟩
  · rw [b01_f hc, if_pos rfl, if_pos rfl]
    exact ⟨_, _, _, rfl, rfl, h⟩
theorem e_most {S T : Sg} (h : Rel S T) : ∃ (r : Int32) (S' : Sg) (T' : Sg), f_X9_most S = some (r, S') ∧ f_X10_most T = some (r, T') ∧ Rel S' T' := by
  obtain ⟨q, w, n, hqp, hw1, hw, hn, s0, t0, s1, t1, s2, t2⟩ := h.nums
  unfold f_X9_most f_X10_most
  obtain ⟨S1, c1, c2, c3, c4⟩ := fillStandingC hqp hw hn s0 s1 s2
  obtain ⟨T1, g1, g2⟩ := mostOfM hqp hw hn t0 t1 t2
  rw [c1, cl1_s, greatestC hn c4, cl1_s, g1, cl_s, h.1.2.2.2.1, h.1.2.2.2.2.2.2.1]
  exact ⟨_, _, _, rfl, rfl, h.agr c2 g2.agr⟩
/-! folds, up and down -/
def fU {A : Type} (f : Nat → A → A) : Nat → A → A
  | 0, x => x
  | k + 1, x => f k (fU f k x)
def fD {A : Type} (f : Nat → A → A) (N : Nat) (x : A) : Nat → A
  | 0 => x
  | c + 1 => f (N - 1 - c) (fD f N x c)
theorem fU_comm {A : Type} {f : Nat → A → A} (hc : ∀ a b x, f a (f b x) = f b (f a x)) : ∀ k a x, fU f k (f a x) = f a (fU f k x)
  | 0, _, _ => rfl
  | k + 1, a, x => by
    show f k (fU f k (f a x)) = f a (f k (fU f k x))
    rw [fU_comm hc k a x, hc]
theorem fD_fU {A : Type} {f : Nat → A → A} (hc : ∀ a b x, f a (f b x) = f b (f a x)) (N : Nat) (x : A) : fD f N x N = fU f N x := by
  have key : ∀ c, c ≤ N → fU f (N - c) (fD f N x c) = fU f N x := by
    intro c
    induction c with
    | zero => intro _; rfl
    | succ c ih =>
      intro hcN
      have h := ih (by omega)
      rw [show N - c = (N - (c + 1)) + 1 by omega] at h
      show fU f (N - (c + 1)) (f (N - 1 - c) (fD f N x c)) = fU f N x
      rw [fU_comm hc, show N - 1 - c = N - (c + 1) by omega]
      exact h
  have h := key N (Nat.le_refl N)
  rw [Nat.sub_self] at h
  exact h
def gW (good : Nat → Bool) : Nat → Int32 → Int32 := fun a x => if good a = true then x + 1 else x
def gE (good : Nat → Bool) : Nat → Int32 → Int32 := fun a x => if good a = true then x &&& nI a else x
def gA (good : Nat → Bool) : Nat → Int32 → Int32 := fun a x => if good a = true then x ||| nI a else x
def gF (good : Nat → Bool) : Nat → Int32 → Int32 := fun a x => if good a = true then (if x = -1 then nI a else x) else x
def gL (good : Nat → Bool) : Nat → Int32 → Int32 := fun a x => if good a = true then nI a else x
theorem gW_c (good : Nat → Bool) (a b : Nat) (x : Int32) : gW good a (gW good b x) = gW good b (gW good a x) := by
  unfold gW; split <;> split <;> rfl
theorem gE_c (good : Nat → Bool) (a b : Nat) (x : Int32) : gE good a (gE good b x) = gE good b (gE good a x) := by
  unfold gE; split <;> split <;> first | rfl | (rw [Int32.and_assoc, Int32.and_comm (nI b), ← Int32.and_assoc])
theorem gA_c (good : Nat → Bool) (a b : Nat) (x : Int32) : gA good a (gA good b x) = gA good b (gA good a x) := by
  unfold gA; split <;> split <;> first | rfl | (rw [Int32.or_assoc, Int32.or_comm (nI b), ← Int32.or_assoc])
theorem gFL {good : Nat → Bool} {N g0 : Nat} (hN : N ≤ 1024) (h0 : g0 < N) (hg : good g0 = true) : fU (gF good) N (-1) = fD (gL good) N 0 N := by
  obtain ⟨g, ⟨h1, h2⟩, h3⟩ := pk_least (fun g => g < N ∧ good g = true) ⟨g0, h0, hg⟩
  have hm1 : ∀ k, k < 1024 → nI k ≠ -1 := fun k hk z => by
    have := i32_eq.mp z
    rw [nI_toInt (by omega)] at this
    have e : (-1 : Int32).toInt = -1 := by decide
    omega
  have hu : ∀ k, k ≤ N → fU (gF good) k (-1) = if g < k then nI g else -1 := by
    intro k
    induction k with
    | zero => intro _; rfl
    | succ k ih =>
      intro hk
      show gF good k (fU (gF good) k (-1)) = _
      rw [ih (by omega)]
      unfold gF
      by_cases hgk : good k = true
      · rw [if_pos hgk]
        by_cases hlt : g < k
        · rw [if_pos hlt, if_neg (hm1 g (by omega)), if_pos (by omega)]
        · have : g = k := by
            rcases Nat.lt_or_ge k g with z | z
            · exact absurd ⟨by omega, hgk⟩ (h3 k z)
            · omega
          rw [if_neg hlt, if_pos rfl, if_pos (by omega), this]
      · rw [if_neg hgk]
        have : g ≠ k := fun z => hgk (by rw [← z]; exact h2)
        by_cases hlt : g < k
        · rw [if_pos hlt, if_pos (by omega)]
        · rw [if_neg hlt, if_neg (by omega)]
  have hd : ∀ c, c ≤ N → N - c ≤ g → fD (gL good) N 0 c = fD (gL good) N 0 c := fun _ _ _ => rfl
  have hd2 : ∀ c, c ≤ N → N - g ≤ c → fD (gL good) N 0 c = nI g := by
    intro c
    induction c with
    | zero => intro _ hz; omega
    | succ c ih =>
      intro hc hz
      show gL good (N - 1 - c) (fD (gL good) N 0 c) = nI g
      unfold gL
      by_cases he : N - 1 - c = g
      · rw [he, if_pos h2]
      · rw [if_neg (fun z => h3 (N - 1 - c) (by omega) ⟨by omega, z⟩)]
        exact ih (by omega) (by omega)
  rw [hu N (Nat.le_refl _), if_pos h1, hd2 N (Nat.le_refl _) (by omega)]
noncomputable def goodS (q w n : Nat) (ki en : Nat → Int32) (mx : Nat) (a : Nat) : Bool := st q w n ki en a && decide (pcn a = mx)
theorem mxf_at (q w n : Nat) (ki en : Nat → Int32) : ∀ k, mxf q w n ki en k = 0 ∨ ∃ a, a < k ∧ st q w n ki en a = true ∧ pcn a = mxf q w n ki en k
  | 0 => Or.inl rfl
  | k + 1 => by
    have ih := mxf_at q w n ki en k
    unfold mxf
    by_cases h : st q w n ki en k = true
    · rw [if_pos h]
      by_cases h2 : mxf q w n ki en k < pcn k
      · exact Or.inr ⟨k, by omega, h, by omega⟩
      · rw [show max (mxf q w n ki en k) (pcn k) = mxf q w n ki en k by omega]
        rcases ih with ih | ⟨a, h3, h4, h5⟩
        · exact Or.inl ih
        · exact Or.inr ⟨a, by omega, h4, h5⟩
    · rw [if_neg h]
      rcases ih with ih | ⟨a, h3, h4, h5⟩
      · exact Or.inl ih
      · exact Or.inr ⟨a, by omega, h4, h5⟩
theorem good_ex (q w n : Nat) (ki en : Nat → Int32) : ∃ a, a < 2 ^ n ∧ goodS q w n ki en (mxf q w n ki en (2 ^ n)) a = true := by
  rcases mxf_at q w n ki en (2 ^ n) with h | ⟨a, h1, h2, h3⟩
  · exact ⟨0, Nat.pow_pos (by decide), by unfold goodS; rw [st_0, h, pcn_0]; rfl⟩
  · exact ⟨a, h1, by unfold goodS; rw [h2, h3]; simp⟩
theorem sub1 (x : Int32) : x + (-1) = x - 1 := by rw [Int32.sub_eq_add_neg]
theorem e_best {S T : Sg} (h : Rel S T) (a0 : Int32) : ∃ (r : Int32) (S' : Sg) (T' : Sg), f_X9_best a0 S = some (r, S') ∧ f_X10_best a0 T = some (r, T') ∧ Rel S' T' := by
  obtain ⟨q, w, n, hqp, hw1, hw, hn, s0, t0, s1, t1, s2, t2⟩ := h.nums
  have hpw := pw_le hn
  have hpos : 0 < 2 ^ n := Nat.pow_pos (by decide)
  unfold f_X9_best f_X10_best
  rw [in_eq, cl1_s, Int32.toInt_toInt64]
  by_cases hc : 0 ≤ a0.toInt ∧ a0.toInt ≤ 3
  · have c1 : ¬ a0 < 0 := by rw [Int32.lt_iff_toInt_lt]; simp; omega
    have c2 : a0 ≤ 3 := by rw [Int32.le_iff_toInt_le]; simp; omega
    rw [if_neg c1, if_pos c2, b01_t (by simp; omega), if_neg (by decide)]
    obtain ⟨S1, a1, a2, a3, a4⟩ := fillStandingC hqp hw hn s0 s1 s2
    obtain ⟨T1, g1, g2⟩ := mostOfM hqp hw hn t0 t1 t2
    rw [a1, cl1_s, greatestC hn a4, cl1_s, g1, cl_s, a4.1, h.1.2.2.2.1, h.1.2.2.2.2.2.2.1]
    rw [h.1.2.2.2.1, h.1.2.2.2.2.2.2.1] at a4
    rw [g2.2.1 2 (by decide), t2, shl1 (by omega), bv_e, bv_e, bv_e]
    have hmx := mxf_le q w n (T.1 1) (T.1 4) (2 ^ n)
    generalize hM : mxf q w n (T.1 1) (T.1 4) (2 ^ n) = mx at hmx ⊢
    obtain ⟨good, hgd⟩ : ∃ good : Nat → Bool, good = goodS q w n (T.1 1) (T.1 4) mx := ⟨_, rfl⟩
    obtain ⟨g0, hg1, hg2⟩ := good_ex q w n (T.1 1) (T.1 4)
    rw [hM, ← hgd] at hg2
    have eN : nI (2 ^ n) - 1 = nI (2 ^ n - 1) := pk_sub (a := 2 ^ n) (b := 1) (by omega)
    -- the class, downwards
    have hC : ∀ k : Int32 → Int32 → Int32 → Int32 → Option (Int32 × Sg), wp5 (X9_best_L54 S1 (nI mx) k) FU 0 0 (nI (2 ^ n) - 1) 0 (nI (2 ^ n) - 1) = k (fD (gL good) (2 ^ n) 0 (2 ^ n)) (fD (gW good) (2 ^ n) 0 (2 ^ n)) (fD (gE good) (2 ^ n) (nI (2 ^ n) - 1) (2 ^ n)) (fD (gA good) (2 ^ n) 0 (2 ^ n)) := fun k => by
      refine wp5E (F := X9_best_L54 S1 (nI mx) k) (2 ^ n) (fun c => fD (gL good) (2 ^ n) 0 c) (fun c => fD (gW good) (2 ^ n) 0 c) (fun c => fD (gE good) (2 ^ n) (nI (2 ^ n) - 1) c) (fun c => fD (gA good) (2 ^ n) 0 c) (fun c => nI (2 ^ n - c) - 1) (fun c hcc self => ?_) (fun self => ?_) (FU_n (by omega))
      · have e1 : nI (2 ^ n - c) - 1 = nI (2 ^ n - 1 - c) := by rw [show nI (2 ^ n - c) - 1 = nI (2 ^ n - c - 1) from pk_sub (a := 2 ^ n - c) (b := 1) (by omega)]; congr 1; omega
        have e2 : nI (2 ^ n - (c + 1)) - 1 = nI (2 ^ n - 1 - c) + (-1) := by rw [sub1]; congr 2; omega
        have hpc := pcn_le (2 ^ n - 1 - c)
        rw [e2]
        rw [e1]
        unfold X9_best_L54
        rw [if_neg (nI_pos (by omega)), inb_p (by omega) (by decide), jn_e, ix_nI (by omega), a4.2.2 _ (by omega), bitCount_tab _ (by omega)]
        simp only [b01_0, cl1_s, bv_e, nI_eq (show pcn (2 ^ n - 1 - c) < 2 ^ 31 by omega) (show mx < 2 ^ 31 by omega)]
        show _ = self (gL good (2 ^ n - 1 - c) (fD (gL good) (2 ^ n) 0 c)) (gW good (2 ^ n - 1 - c) (fD (gW good) (2 ^ n) 0 c)) (gE good (2 ^ n - 1 - c) (fD (gE good) (2 ^ n) (nI (2 ^ n) - 1) c)) (gA good (2 ^ n - 1 - c) (fD (gA good) (2 ^ n) 0 c)) (nI (2 ^ n - 1 - c) + (-1))
        unfold gL gW gE gA
        rw [hgd]
        unfold goodS
        by_cases h1 : st q w n (T.1 1) (T.1 4) (2 ^ n - 1 - c) = true
        · by_cases h2 : pcn (2 ^ n - 1 - c) = mx
          · simp [h1, h2]
          · simp [h1, h2]
        · simp [h1]
      · unfold X9_best_L54
        rw [Nat.sub_self, if_pos (by decide)]
    -- the reference, upwards
    have hM2 : ∃ T2, Fm T T2 ∧ ∀ k : Int32 → Int32 → Int32 → Int32 → Sg → Option (Int32 × Sg), wp6 (X10_best_L41 (nI mx) k) FU (-1) 0 (nI (2 ^ n) - 1) 0 0 T1 = k (fU (gF good) (2 ^ n) (-1)) (fU (gW good) (2 ^ n) 0) (fU (gE good) (2 ^ n) (nI (2 ^ n) - 1)) (fU (gA good) (2 ^ n) 0) T2 := by
      have step : ∀ (c a : Nat) (T2 : Sg) (fuel : Nat), a + c = 2 ^ n → Fm T T2 → c < fuel → ∃ T3, Fm T T3 ∧ ∀ k, wp6 (X10_best_L41 (nI mx) k) fuel (fU (gF good) a (-1)) (fU (gW good) a 0) (fU (gE good) a (nI (2 ^ n) - 1)) (fU (gA good) a 0) (nI a) T2 = k (fU (gF good) (2 ^ n) (-1)) (fU (gW good) (2 ^ n) 0) (fU (gE good) (2 ^ n) (nI (2 ^ n) - 1)) (fU (gA good) (2 ^ n) 0) T3 := by
        intro c
        induction c with
        | zero =>
          intro a T2 fuel ha hF hf
          obtain ⟨f, rfl⟩ : ∃ f, fuel = f + 1 := ⟨fuel - 1, by omega⟩
          have e : a = 2 ^ n := by omega
          subst e
          refine ⟨T2, hF, fun k => ?_⟩
          rw [wp6s]
          unfold X10_best_L41
          rw [hF.2.1 2 (by decide), t2, shl1 (by omega), le_p (Nat.le_refl _) (by omega)]
        | succ c ih =>
          intro a T2 fuel ha hF hf
          obtain ⟨f, rfl⟩ : ∃ f, fuel = f + 1 := ⟨fuel - 1, by omega⟩
          have hpc := pcn_le a
          obtain ⟨T3, d1, d2⟩ := isStandingM (T := T2) (a := a) hqp hw hn (by omega) (by rw [hF.2.1 0 (by decide), t0]) (by rw [hF.2.1 1 (by decide), t1]) (by rw [hF.2.1 2 (by decide), t2])
          rw [hF.1 1 (by decide) (by decide), hF.1 4 (by decide) (by decide)] at d1
          have hst : ∀ (k : Int32 → Int32 → Int32 → Int32 → Sg → Option (Int32 × Sg)) self, X10_best_L41 (nI mx) k self (fU (gF good) a (-1)) (fU (gW good) a 0) (fU (gE good) a (nI (2 ^ n) - 1)) (fU (gA good) a 0) (nI a) T2 = self (fU (gF good) (a + 1) (-1)) (fU (gW good) (a + 1) 0) (fU (gE good) (a + 1) (nI (2 ^ n) - 1)) (fU (gA good) (a + 1) 0) (nI (a + 1)) (if pcn a = mx then T3 else T2) := fun k self => by
            show _ = self (gF good a (fU (gF good) a (-1))) (gW good a (fU (gW good) a 0)) (gE good a (fU (gE good) a (nI (2 ^ n) - 1))) (gA good a (fU (gA good) a 0)) (nI (a + 1)) (if pcn a = mx then T3 else T2)
            unfold X10_best_L41
            rw [hF.2.1 2 (by decide), t2, shl1 (by omega), le_n (by omega) (by omega), many_tab a (by omega), cl1_s, d1]
            simp only [jn_e, cl_s, b01_0, bv_e, nI_1, nI_eq (show pcn a < 2 ^ 31 by omega) (show mx < 2 ^ 31 by omega)]
            unfold gF gW gE gA
            rw [hgd]
            unfold goodS
            by_cases h2 : pcn a = mx
            · by_cases h1 : st q w n (T.1 1) (T.1 4) a = true
              · simp only [h1, h2, if_true, not_true, if_false, decide_true, Bool.and_self]
                split <;> rfl
              · simp [h1, h2]
            · simp [h2]
          obtain ⟨T4, k1, k2⟩ := ih (a + 1) (if pcn a = mx then T3 else T2) f (by omega) (by split; exact hF.tr d2; exact hF) (by omega)
          exact ⟨T4, k1, fun k => by rw [wp6s, hst]; exact k2 k⟩
      exact step (2 ^ n) 0 T1 FU (by omega) g2 (FU_n (by omega))
    obtain ⟨T2, k1, k2⟩ := hM2
    rw [hC, k2, fD_fU (gW_c good), fD_fU (gE_c good), fD_fU (gA_c good), ← gFL hpw hg1 hg2]
    have hR : Rel S1 T2 := h.agr a2 k1.agr
    by_cases z0 : a0 = 0
    · rw [if_pos z0, if_pos z0]; exact ⟨_, _, _, rfl, rfl, hR⟩
    · rw [if_neg z0, if_neg z0]
      by_cases z1 : a0 = 1
      · rw [if_pos z1, if_pos z1]; exact ⟨_, _, _, rfl, rfl, hR⟩
      · rw [if_neg z1, if_neg z1]
        by_cases z2 : a0 = 2
        · rw [if_pos z2, if_pos z2]; exact ⟨_, _, _, rfl, rfl, hR⟩
        · rw [if_neg z2, if_neg z2]; exact ⟨_, _, _, rfl, rfl, hR⟩
  · rw [b01_f (by simp; omega), if_pos rfl]
    by_cases c1 : a0 < 0
    · rw [if_pos c1]; exact ⟨_, _, _, rfl, rfl, h⟩
    · have c2 : ¬ a0 ≤ 3 := by
        rw [Int32.lt_iff_toInt_lt] at c1
        rw [Int32.le_iff_toInt_le]
        simp at c1 ⊢; omega
      rw [if_neg c1, if_neg c2]; exact ⟨_, _, _, rfl, rfl, h⟩
