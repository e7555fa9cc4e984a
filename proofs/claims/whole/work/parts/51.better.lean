/-! better -/
def orK {α : Type} (o : Option Nat) (f : Nat → α) (k : α) : α := match o with | some b => f b | none => k
theorem orK_s {α : Type} (b : Nat) (f : Nat → α) (k : α) : orK (some b) f k = f b := rfl
theorem orK_n {α : Type} (f : Nat → α) (k : α) : orK none f k = k := rfl
def srch (f : Nat → Option Nat) : Nat → Nat → Option Nat
  | 0, _ => none
  | c + 1, k => orK (f k) some (srch f c (k + 1))
theorem srch_n {f : Nat → Option Nat} {c k : Nat} (h : f k = none) : srch f (c + 1) k = srch f c (k + 1) := by show orK (f k) some (srch f c (k + 1)) = _; rw [h]; rfl
theorem srch_s {f : Nat → Option Nat} {c k b : Nat} (h : f k = some b) : srch f (c + 1) k = some b := by show orK (f k) some (srch f c (k + 1)) = _; rw [h]; rfl
theorem srch_none {f : Nat → Option Nat} (h : ∀ k, f k = none) : ∀ c k, srch f c k = none
  | 0, _ => rfl
  | c + 1, k => by rw [srch_n (h k)]; exact srch_none h c (k + 1)
theorem srch_at {f : Nat → Option Nat} {b : Nat} : ∀ {c k : Nat}, srch f c k = some b → ∃ i, k ≤ i ∧ i < k + c ∧ f i = some b
  | 0, _, h => by cases h
  | c + 1, k, h => by
    cases e : f k with
    | some b' => rw [srch_s e] at h; exact ⟨k, by omega, by omega, by rw [e, h]⟩
    | none =>
      rw [srch_n e] at h
      obtain ⟨i, h1, h2, h3⟩ := srch_at h
      exact ⟨i, by omega, by omega, h3⟩
def clr (a g : Nat) : Nat := a &&& (1023 - 2 ^ g)
theorem and_1023 {a : Nat} (h : a < 1024) : a &&& 1023 = a := by rw [show 1023 = 2 ^ 10 - 1 from rfl, Nat.and_two_pow_sub_one_eq_mod, Nat.mod_eq_of_lt h]
theorem clr_nI {a g : Nat} (ha : a < 1024) (hg : g < 10) : nI a &&& (((1 : Int32) <<< (nI g &&& 31)) ^^^ (-1 : Int32)) = nI (clr a g) := by
  have e : nI 1023 &&& (((1 : Int32) <<< (nI g &&& 31)) ^^^ (-1 : Int32)) = nI (1023 - 2 ^ g) := (by decide +kernel : ∀ g, g < 10 → nI 1023 &&& (((1 : Int32) <<< (nI g &&& 31)) ^^^ (-1 : Int32)) = nI (1023 - 2 ^ g)) g hg
  have h1 : nI a = nI a &&& nI 1023 := by rw [fa_and, and_1023 ha]
  rw [h1, Int32.and_assoc, e, fa_and]
  rfl
theorem clr_bit {a g k : Nat} (hg : g < 10) (hk : k < 10) : (clr a g).testBit k = if k = g then false else a.testBit k := by
  unfold clr
  have t : Nat.testBit (1023 - 2 ^ g) k = decide (k ≠ g) := (by decide +kernel : ∀ g, g < 10 → ∀ k, k < 10 → Nat.testBit (1023 - 2 ^ g) k = decide (k ≠ g)) g hg k hk
  rw [Nat.testBit_and, t]
  by_cases h : k = g <;> simp [h]
theorem or_bit (a p k : Nat) : (a ||| 2 ^ p).testBit k = if k = p then true else a.testBit k := by
  rw [Nat.testBit_or, Nat.testBit_two_pow]
  by_cases h : k = p
  · simp [h]
  · simp [h, show ¬ p = k from fun z => h z.symm]
theorem pcn_or {a p : Nat} (hp : p < 10) (h : ¬ a.testBit p = true) : pcn (a ||| 2 ^ p) = pcn a + 1 := by
  have h1 := fb_ct_upd (fun k => a.testBit k) true hp
  rw [if_neg h, if_pos rfl] at h1
  have h2 : pcn (a ||| 2 ^ p) = fb_ct (fun k => if k = p then true else a.testBit k) 10 := fb_ct_cong (fun k _ => or_bit a p k)
  rw [h2]
  exact h1
theorem pcn_clr {a g : Nat} (hg : g < 10) (h : a.testBit g = true) : pcn (clr a g) + 1 = pcn a := by
  have h1 := fb_ct_upd (fun k => a.testBit k) false hg
  rw [if_pos h] at h1
  have h2 : pcn (clr a g) = fb_ct (fun k => if k = g then false else a.testBit k) 10 := fb_ct_cong (fun k hk => clr_bit hg hk)
  rw [h2, show pcn a = fb_ct (fun k => a.testBit k) 10 from rfl]
  simpa using h1
theorem or_same {a p : Nat} : a ||| 2 ^ p = a ↔ a.testBit p = true := by
  constructor
  · intro h
    have := or_bit a p p
    rw [h, if_pos rfl] at this
    exact this
  · intro h
    apply Nat.eq_of_testBit_eq
    intro k
    rw [or_bit]
    by_cases hk : k = p
    · rw [if_pos hk, hk, h]
    · rw [if_neg hk]
theorem and_two {a i j : Nat} : a &&& (2 ^ i ||| 2 ^ j) = 0 ↔ ¬ (a.testBit i = true ∨ a.testBit j = true) := by
  constructor
  · rintro h (z | z)
    · have := congrArg (fun x => x.testBit i) h
      simp [z, Nat.testBit_two_pow] at this
    · have := congrArg (fun x => x.testBit j) h
      simp [z, Nat.testBit_two_pow] at this
  · intro h
    apply Nat.eq_of_testBit_eq
    intro k
    rw [Nat.testBit_and, Nat.testBit_or, Nat.testBit_two_pow, Nat.testBit_two_pow, Nat.zero_testBit]
    by_cases h1 : i = k
    · subst h1
      cases e : a.testBit i with
      | true => exact absurd (Or.inl e) h
      | false => rfl
    · by_cases h2 : j = k
      · subst h2
        cases e : a.testBit j with
        | true => exact absurd (Or.inr e) h
        | false => rfl
      · simp [h1, h2]
def fO (s : Nat → Bool) (a p : Nat) : Option Nat := if a.testBit p = true then none else if s (a ||| 2 ^ p) = true then some (a ||| 2 ^ p) else none
def fJ (s : Nat → Bool) (a g i j : Nat) : Option Nat := if a.testBit i = true ∨ a.testBit j = true then none else if s (clr a g ||| (2 ^ i ||| 2 ^ j)) = true then some (clr a g ||| (2 ^ i ||| 2 ^ j)) else none
def fI (s : Nat → Bool) (n a g i : Nat) : Option Nat := srch (fJ s a g i) (n - (i + 1)) (i + 1)
def fG (s : Nat → Bool) (n a g : Nat) : Option Nat := if a.testBit g = true then srch (fI s n a g) n 0 else none
def stp (s : Nat → Bool) (n a : Nat) : Nat := orK (srch (fO s a) n 0) id (orK (srch (fG s n a) n 0) id a)
theorem two_lt {n i : Nat} (h : i < n) : 2 ^ i < 2 ^ n := Nat.pow_lt_pow_right (by decide) h
theorem fO_at {s : Nat → Bool} {n a p b : Nat} (hn : n ≤ 10) (ha : a < 2 ^ n) (hp : p < n) (h : fO s a p = some b) : b < 2 ^ n ∧ s b = true ∧ pcn b = pcn a + 1 := by
  unfold fO at h
  by_cases h1 : a.testBit p = true
  · rw [if_pos h1] at h; cases h
  · rw [if_neg h1] at h
    by_cases h2 : s (a ||| 2 ^ p) = true
    · rw [if_pos h2] at h
      cases h
      exact ⟨Nat.or_lt_two_pow ha (two_lt hp), h2, pcn_or (by omega) h1⟩
    · rw [if_neg h2] at h; cases h
theorem fG_at {s : Nat → Bool} {n a g b : Nat} (hn : n ≤ 10) (ha : a < 2 ^ n) (hg : g < n) (h : fG s n a g = some b) : b < 2 ^ n ∧ s b = true ∧ pcn b = pcn a + 1 := by
  unfold fG at h
  by_cases h1 : a.testBit g = true
  · rw [if_pos h1] at h
    obtain ⟨i, -, hi, h⟩ := srch_at h
    unfold fI at h
    obtain ⟨j, hj1, hj2, h⟩ := srch_at h
    unfold fJ at h
    by_cases h2 : a.testBit i = true ∨ a.testBit j = true
    · rw [if_pos h2] at h; cases h
    · rw [if_neg h2] at h
      by_cases h3 : s (clr a g ||| (2 ^ i ||| 2 ^ j)) = true
      · rw [if_pos h3] at h
        cases h
        have c1 := pcn_clr (show g < 10 by omega) h1
        have hbi : ¬ (clr a g).testBit i = true := by
          rw [clr_bit (by omega) (by omega)]
          split
          · simp
          · exact fun z => h2 (Or.inl z)
        have hbj : ¬ (clr a g ||| 2 ^ i).testBit j = true := by
          rw [or_bit, if_neg (by omega), clr_bit (by omega) (by omega)]
          split
          · simp
          · exact fun z => h2 (Or.inr z)
        have c2 := pcn_or (show i < 10 by omega) hbi
        have c3 := pcn_or (show j < 10 by omega) hbj
        rw [Nat.or_assoc] at c3
        exact ⟨Nat.or_lt_two_pow (Nat.lt_of_le_of_lt Nat.and_le_left ha) (Nat.or_lt_two_pow (two_lt (by omega)) (two_lt (by omega))), h3, by omega⟩
      · rw [if_neg h3] at h; cases h
  · rw [if_neg h1] at h; cases h
theorem stp_at {s : Nat → Bool} {n a : Nat} (hn : n ≤ 10) (ha : a < 2 ^ n) : stp s n a = a ∨ (stp s n a < 2 ^ n ∧ pcn (stp s n a) = pcn a + 1) := by
  unfold stp
  cases e : srch (fO s a) n 0 with
  | some b =>
    obtain ⟨p, -, hp, h⟩ := srch_at e
    obtain ⟨h1, h2, h3⟩ := fO_at hn ha (by omega) h
    exact Or.inr ⟨h1, h3⟩
  | none =>
    rw [orK_n]
    cases e2 : srch (fG s n a) n 0 with
    | some b =>
      obtain ⟨p, -, hp, h⟩ := srch_at e2
      obtain ⟨h1, h2, h3⟩ := fG_at hn ha (by omega) h
      exact Or.inr ⟨h1, h3⟩
    | none => exact Or.inl rfl
theorem stp_lt {s : Nat → Bool} {n a : Nat} (hn : n ≤ 10) (ha : a < 2 ^ n) : stp s n a < 2 ^ n := by
  rcases stp_at (s := s) hn ha with h | h
  · rw [h]; exact ha
  · exact h.1
def stpN (s : Nat → Bool) (n : Nat) : Nat → Nat → Nat
  | 0, x => x
  | c + 1, x => stpN s n c (stp s n x)
theorem stpN_fix {s : Nat → Bool} {n x : Nat} (h : stp s n x = x) : ∀ c, stpN s n c x = x
  | 0 => rfl
  | c + 1 => by show stpN s n c (stp s n x) = x; rw [h]; exact stpN_fix h c
/-! the class -/
theorem eqn_nI {a b : Nat} (ha : a < 2 ^ 31) (hb : b < 2 ^ 31) : (nI a = nI b) = (a = b) := propext (nI_eq ha hb)
theorem oneC {S : Sg} {q w n : Nat} {ki en : Nat → Int32} (hn : n ≤ 10) (hS : StArr S q w n ki en) {a : Nat} (ha : a < 2 ^ n) : f_X8_withOneMore (nI a) S = some (orK (srch (fO (st q w n ki en) a) n 0) nI (nI a)) := by
  have hpw := pw_le hn
  unfold f_X8_withOneMore
  have key : ∀ c p fuel, p + c = n → c < fuel → wp1 (X8_withOneMore_L2 (nI a) S) fuel (nI p) = some (orK (srch (fO (st q w n ki en) a) c p) nI (nI a)) := by
    intro c
    induction c with
    | zero =>
      intro p fuel hp hf
      obtain ⟨f, rfl⟩ : ∃ f, fuel = f + 1 := ⟨fuel - 1, by omega⟩
      rw [wp1s]
      unfold X8_withOneMore_L2
      rw [hS.2.1, le_p (by omega) (by omega)]
      rfl
    | succ c ih =>
      intro p fuel hp hf
      obtain ⟨f, rfl⟩ : ∃ f, fuel = f + 1 := ⟨fuel - 1, by omega⟩
      have IH := ih (p + 1) f (by omega) (by omega)
      have hlt : a ||| 2 ^ p < 2 ^ n := Nat.or_lt_two_pow ha (two_lt (by omega))
      rw [wp1s]
      generalize wp1 (X8_withOneMore_L2 (nI a) S) f = W at IH ⊢
      unfold X8_withOneMore_L2
      simp only [jn_e, bv_e]
      rw [hS.2.1, le_n (by omega) (by omega), shl1 (by omega), fa_or, nI_1, IH, inb_p (by omega) (by decide), ix_nI (by omega), hS.2.2 _ hlt]
      simp only [eqn_nI (show a ||| 2 ^ p < 2 ^ 31 by omega) (show a < 2 ^ 31 by omega)]
      by_cases h1 : a.testBit p = true
      · rw [if_pos (or_same.mpr h1), srch_n (by unfold fO; rw [if_pos h1])]
      · rw [if_neg (fun z => h1 (or_same.mp z))]
        by_cases h2 : st q w n ki en (a ||| 2 ^ p) = true
        · rw [b01_t h2, if_neg n10, srch_s (b := a ||| 2 ^ p) (by unfold fO; rw [if_neg h1, if_pos h2]), orK_s]
        · rw [b01_f h2, if_pos z00, srch_n (by unfold fO; rw [if_neg h1, if_neg h2])]
  exact key n 0 FU (by omega) (FU_n (by omega))
theorem twoJC {S : Sg} {q w n : Nat} {ki en : Nat → Int32} (hn : n ≤ 10) (hS : StArr S q w n ki en) {a g i : Nat} (ha : a < 2 ^ n) (hi : i < n) (K : Option Int32) : ∀ c j fuel, j + c = n → c < fuel → wp1 (X8_twoMore_L15 (nI a) (nI (clr a g)) S (nI i) K) fuel (nI j) = orK (srch (fJ (st q w n ki en) a g i) c j) (fun b => some (nI b)) K := by
  have hpw := pw_le hn
  intro c
  induction c with
  | zero =>
    intro j fuel hj hf
    obtain ⟨f, rfl⟩ : ∃ f, fuel = f + 1 := ⟨fuel - 1, by omega⟩
    rw [wp1s]
    unfold X8_twoMore_L15
    rw [hS.2.1, le_p (by omega) (by omega)]
    rfl
  | succ c ih =>
    intro j fuel hj hf
    obtain ⟨f, rfl⟩ : ∃ f, fuel = f + 1 := ⟨fuel - 1, by omega⟩
    have IH := ih (j + 1) f (by omega) (by omega)
    have hlt2 : 2 ^ i ||| 2 ^ j < 2 ^ n := Nat.or_lt_two_pow (two_lt hi) (two_lt (by omega))
    have hlt : clr a g ||| (2 ^ i ||| 2 ^ j) < 2 ^ n := Nat.or_lt_two_pow (Nat.lt_of_le_of_lt Nat.and_le_left ha) hlt2
    have hlt3 : a &&& (2 ^ i ||| 2 ^ j) < 2 ^ n := Nat.lt_of_le_of_lt Nat.and_le_left ha
    rw [wp1s]
    generalize wp1 (X8_twoMore_L15 (nI a) (nI (clr a g)) S (nI i) K) f = W at IH ⊢
    unfold X8_twoMore_L15
    simp only [jn_e, bv_e]
    rw [hS.2.1, le_n (by omega) (by omega), shl1 (by omega), shl1 (by omega), fa_or, fa_or, fa_and, nI_1, IH, inb_p (by omega) (by decide), ix_nI (by omega), hS.2.2 _ hlt]
    have c0 : (nI (a &&& (2 ^ i ||| 2 ^ j)) = 0) = (a &&& (2 ^ i ||| 2 ^ j) = 0) := propext (nI_0p (by omega))
    simp only [c0]
    by_cases h1 : a.testBit i = true ∨ a.testBit j = true
    · rw [if_neg (fun z => (and_two.mp z) h1), srch_n (by unfold fJ; rw [if_pos h1])]
    · rw [if_pos (and_two.mpr h1)]
      by_cases h2 : st q w n ki en (clr a g ||| (2 ^ i ||| 2 ^ j)) = true
      · rw [b01_t h2, if_neg n10, srch_s (b := clr a g ||| (2 ^ i ||| 2 ^ j)) (by unfold fJ; rw [if_neg h1, if_pos h2]), orK_s]
      · rw [b01_f h2, if_pos z00, srch_n (by unfold fJ; rw [if_neg h1, if_neg h2])]
theorem twoMoreC {S : Sg} {q w n : Nat} {ki en : Nat → Int32} (hn : n ≤ 10) (hS : StArr S q w n ki en) {a g : Nat} (ha : a < 2 ^ n) : f_X8_twoMore (nI a) (nI (clr a g)) S = some (orK (srch (fI (st q w n ki en) n a g) n 0) nI (-1)) := by
  have hpw := pw_le hn
  unfold f_X8_twoMore
  have key : ∀ c i fuel, i + c = n → c < fuel → wp1 (X8_twoMore_L2 (nI a) (nI (clr a g)) S) fuel (nI i) = some (orK (srch (fI (st q w n ki en) n a g) c i) nI (-1)) := by
    intro c
    induction c with
    | zero =>
      intro i fuel hi hf
      obtain ⟨f, rfl⟩ : ∃ f, fuel = f + 1 := ⟨fuel - 1, by omega⟩
      rw [wp1s]
      unfold X8_twoMore_L2
      rw [hS.2.1, le_p (by omega) (by omega)]
      rfl
    | succ c ih =>
      intro i fuel hi hf
      obtain ⟨f, rfl⟩ : ∃ f, fuel = f + 1 := ⟨fuel - 1, by omega⟩
      have IH := ih (i + 1) f (by omega) (by omega)
      rw [wp1s]
      generalize wp1 (X8_twoMore_L2 (nI a) (nI (clr a g)) S) f = W at IH ⊢
      unfold X8_twoMore_L2
      rw [hS.2.1, le_n (by omega) (by omega), bv_e, bv_e, nI_1, IH, twoJC hn hS ha (show i < n by omega) _ (n - (i + 1)) (i + 1) FU (by omega) (FU_n (by omega))]
      cases e : fI (st q w n ki en) n a g i with
      | some b => rw [srch_s e]; unfold fI at e; rw [e]; rfl
      | none => rw [srch_n e]; unfold fI at e; rw [e]; rfl
  exact key n 0 FU (by omega) (FU_n (by omega))
theorem nI_m1 {k : Nat} (hk : k < 2 ^ 31) : nI k ≠ -1 := fun z => by
  have := i32_eq.mp z
  rw [nI_toInt hk] at this
  have e : (-1 : Int32).toInt = -1 := by decide
  omega
theorem twoC {S : Sg} {q w n : Nat} {ki en : Nat → Int32} (hn : n ≤ 10) (hS : StArr S q w n ki en) {a : Nat} (ha : a < 2 ^ n) : f_X8_withTwoForOne (nI a) S = some (orK (srch (fG (st q w n ki en) n a) n 0) nI (nI a)) := by
  have hpw := pw_le hn
  unfold f_X8_withTwoForOne
  have key : ∀ c g fuel, g + c = n → c < fuel → wp1 (X8_withTwoForOne_L2 (nI a) S) fuel (nI g) = some (orK (srch (fG (st q w n ki en) n a) c g) nI (nI a)) := by
    intro c
    induction c with
    | zero =>
      intro g fuel hg hf
      obtain ⟨f, rfl⟩ : ∃ f, fuel = f + 1 := ⟨fuel - 1, by omega⟩
      rw [wp1s]
      unfold X8_withTwoForOne_L2
      rw [hS.2.1, le_p (by omega) (by omega)]
      rfl
    | succ c ih =>
      intro g fuel hg hf
      obtain ⟨f, rfl⟩ : ∃ f, fuel = f + 1 := ⟨fuel - 1, by omega⟩
      have IH := ih (g + 1) f (by omega) (by omega)
      rw [wp1s]
      generalize wp1 (X8_withTwoForOne_L2 (nI a) S) f = W at IH ⊢
      unfold X8_withTwoForOne_L2
      simp only [jn_e, bv_e]
      rw [hS.2.1, le_n (by omega) (by omega), clr_nI (by omega) (by omega), nI_1, IH, twoMoreC hn hS ha, cl1_s]
      have c0 : (((nI a >>> (nI g &&& 31)) &&& 1) = 1) = (a.testBit g = true) := propext (bit_1 (by omega) (by omega))
      simp only [c0]
      by_cases h1 : a.testBit g = true
      · rw [if_pos h1]
        cases e : fG (st q w n ki en) n a g with
        | some b =>
          have hb := fG_at hn ha (show g < n by omega) e
          rw [srch_s e]
          unfold fG at e
          rw [if_pos h1] at e
          rw [e, orK_s, if_neg (nI_m1 (by omega)), orK_s]
        | none =>
          rw [srch_n e]
          unfold fG at e
          rw [if_pos h1] at e
          rw [e, orK_n, if_pos rfl]
      · rw [if_neg h1, srch_n (by unfold fG; rw [if_neg h1])]
  exact key n 0 FU (by omega) (FU_n (by omega))
theorem betteredC {S : Sg} {q w n : Nat} {ki en : Nat → Int32} (hn : n ≤ 10) (hS : StArr S q w n ki en) {a : Nat} (ha : a < 2 ^ n) : f_X8_bettered (nI a) S = some (nI (stpN (st q w n ki en) n n a)) := by
  have hpw := pw_le hn
  unfold f_X8_bettered
  have key : ∀ c i x fuel, i + c = n → x < 2 ^ n → c < fuel → wp2 (X8_bettered_L4 S) fuel (nI x) (nI i) = some (nI (stpN (st q w n ki en) n c x)) := by
    intro c
    induction c with
    | zero =>
      intro i x fuel hi hx hf
      obtain ⟨f, rfl⟩ : ∃ f, fuel = f + 1 := ⟨fuel - 1, by omega⟩
      rw [wp2s]
      unfold X8_bettered_L4
      rw [hS.2.1, le_p (by omega) (by omega)]
      rfl
    | succ c ih =>
      intro i x fuel hi hx hf
      obtain ⟨f, rfl⟩ : ∃ f, fuel = f + 1 := ⟨fuel - 1, by omega⟩
      have IH := ih (i + 1) (stp (st q w n ki en) n x) f (by omega) (stp_lt hn hx) (by omega)
      rw [wp2s]
      generalize wp2 (X8_bettered_L4 S) f = W at IH ⊢
      unfold X8_bettered_L4
      simp only [jn_e, bv_e]
      rw [hS.2.1, le_n (by omega) (by omega), oneC hn hS hx, twoC hn hS hx, cl1_s, cl1_s, nI_1]
      show _ = some (nI (stpN (st q w n ki en) n c (stp (st q w n ki en) n x)))
      rw [← IH]
      unfold stp
      cases e : srch (fO (st q w n ki en) x) n 0 with
      | some b =>
        obtain ⟨p, -, hp, h⟩ := srch_at e
        obtain ⟨h1, h2, h3⟩ := fO_at hn hx (by omega) h
        rw [orK_s, orK_s, if_neg (fun z => ?_)]
        · rfl
        · rw [nI_eq (by omega) (by omega)] at z
          rw [z] at h3; omega
      | none =>
        rw [orK_n, orK_n, if_pos rfl]
        cases e2 : srch (fG (st q w n ki en) n x) n 0 with
        | some b => rfl
        | none => rfl
  exact key n 0 a FU (by omega) ha (FU_n (by omega))
/-! the reference -/
theorem jM {T : Sg} {q w n a g i : Nat} (hqp : q ∈ primes) (hw : w ≤ 6) (hn : n ≤ 10) (e0 : T.1 0 0 = nI q) (e1 : T.1 0 1 = nI w) (e2 : T.1 0 2 = nI n) (ha : a < 2 ^ n) (hg : g < n) (hi : i < n) :
    ∀ c j (T1 : Sg) fuel, j + c = n → Fm T T1 → c < fuel → ∃ T2, Fm T T2 ∧ ∀ K, wp2 (X10_bettered_L75 (nI a) (nI g) (nI i) K) fuel (nI j) T1 = orK (srch (fJ (st q w n (T.1 1) (T.1 4)) a g i) c j) (fun b => some (nI b, T2)) (K T2) := by
  have hpw := pw_le hn
  intro c
  induction c with
  | zero =>
    intro j T1 fuel hj hM hf
    obtain ⟨f, rfl⟩ : ∃ f, fuel = f + 1 := ⟨fuel - 1, by omega⟩
    refine ⟨T1, hM, fun K => ?_⟩
    rw [wp2s]
    unfold X10_bettered_L75
    rw [hM.2.1 2 (by decide), e2, le_p (by omega) (by omega)]
    rfl
  | succ c ih =>
    intro j T1 fuel hj hM hf
    obtain ⟨f, rfl⟩ : ∃ f, fuel = f + 1 := ⟨fuel - 1, by omega⟩
    have hlt : clr a g ||| (2 ^ i ||| 2 ^ j) < 2 ^ n := Nat.or_lt_two_pow (Nat.lt_of_le_of_lt Nat.and_le_left ha) (Nat.or_lt_two_pow (two_lt hi) (two_lt (by omega)))
    obtain ⟨T2, d1, d2⟩ := isStandingM (T := T1) (a := clr a g ||| (2 ^ i ||| 2 ^ j)) hqp hw hn (by omega) (by rw [hM.2.1 0 (by decide), e0]) (by rw [hM.2.1 1 (by decide), e1]) (by rw [hM.2.1 2 (by decide), e2])
    rw [hM.1 1 (by decide) (by decide), hM.1 4 (by decide) (by decide)] at d1
    have hst : ∀ K self, X10_bettered_L75 (nI a) (nI g) (nI i) K self (nI j) T1 = if a.testBit i = true then K T1 else if a.testBit j = true then self (nI (j + 1)) T1 else if st q w n (T.1 1) (T.1 4) (clr a g ||| (2 ^ i ||| 2 ^ j)) = true then some (nI (clr a g ||| (2 ^ i ||| 2 ^ j)), T2) else self (nI (j + 1)) T2 := fun K self => by
      unfold X10_bettered_L75
      simp only [jn_e, bv_e]
      rw [hM.2.1 2 (by decide), e2, le_n (by omega) (by omega), clr_nI (by omega) (by omega), shl1 (by omega), shl1 (by omega), fa_or, fa_or, Nat.or_assoc, d1, has_eq (by omega) (by omega), has_eq (by omega) (by omega), cl1_s, cl1_s, cl_s, nI_1]
      simp only [b01_0]
      by_cases h1 : a.testBit i = true
      · rw [if_neg (fun z => z h1), if_pos h1]
      · rw [if_pos h1, if_neg h1]
        by_cases h2 : a.testBit j = true
        · rw [if_neg (fun z => z h2), if_pos h2]
        · rw [if_pos h2, if_neg h2]
          by_cases h3 : st q w n (T.1 1) (T.1 4) (clr a g ||| (2 ^ i ||| 2 ^ j)) = true
          · rw [if_neg (fun z => z h3), if_pos h3]
          · rw [if_pos h3, if_neg h3]
    by_cases h1 : a.testBit i = true
    · refine ⟨T1, hM, fun K => ?_⟩
      rw [wp2s, hst, if_pos h1, srch_none (fun k => by unfold fJ; rw [if_pos (Or.inl h1)]), orK_n]
    · by_cases h2 : a.testBit j = true
      · obtain ⟨T3, g1, g2⟩ := ih (j + 1) T1 f (by omega) hM (by omega)
        refine ⟨T3, g1, fun K => ?_⟩
        rw [wp2s, hst, if_neg h1, if_pos h2, g2, srch_n (by unfold fJ; rw [if_pos (Or.inr h2)])]
      · have hor : ¬ (a.testBit i = true ∨ a.testBit j = true) := fun z => z.elim h1 h2
        by_cases h3 : st q w n (T.1 1) (T.1 4) (clr a g ||| (2 ^ i ||| 2 ^ j)) = true
        · refine ⟨T2, hM.tr d2, fun K => ?_⟩
          rw [wp2s, hst, if_neg h1, if_neg h2, if_pos h3, srch_s (b := clr a g ||| (2 ^ i ||| 2 ^ j)) (by unfold fJ; rw [if_neg hor, if_pos h3]), orK_s]
        · obtain ⟨T3, g1, g2⟩ := ih (j + 1) T2 f (by omega) (hM.tr d2) (by omega)
          refine ⟨T3, g1, fun K => ?_⟩
          rw [wp2s, hst, if_neg h1, if_neg h2, if_neg h3, g2, srch_n (by unfold fJ; rw [if_neg hor, if_neg h3])]
theorem iM {T : Sg} {q w n a g : Nat} (hqp : q ∈ primes) (hw : w ≤ 6) (hn : n ≤ 10) (e0 : T.1 0 0 = nI q) (e1 : T.1 0 1 = nI w) (e2 : T.1 0 2 = nI n) (ha : a < 2 ^ n) (hg : g < n) :
    ∀ c i (T1 : Sg) fuel, i + c = n → Fm T T1 → c < fuel → ∃ T2, Fm T T2 ∧ ∀ K, wp2 (X10_bettered_L54 (nI a) (nI g) K) fuel (nI i) T1 = orK (if a.testBit g = true then srch (fI (st q w n (T.1 1) (T.1 4)) n a g) c i else none) (fun b => some (nI b, T2)) (K T2) := by
  have hpw := pw_le hn
  intro c
  induction c with
  | zero =>
    intro i T1 fuel hi hM hf
    obtain ⟨f, rfl⟩ : ∃ f, fuel = f + 1 := ⟨fuel - 1, by omega⟩
    refine ⟨T1, hM, fun K => ?_⟩
    rw [wp2s]
    unfold X10_bettered_L54
    rw [hM.2.1 2 (by decide), e2, le_p (by omega) (by omega)]
    split <;> rfl
  | succ c ih =>
    intro i T1 fuel hi hM hf
    obtain ⟨f, rfl⟩ : ∃ f, fuel = f + 1 := ⟨fuel - 1, by omega⟩
    obtain ⟨T2, d1, d2⟩ := jM (i := i) hqp hw hn e0 e1 e2 ha hg (by omega) (n - (i + 1)) (i + 1) T1 FU (by omega) hM (FU_n (by omega))
    obtain ⟨T3, g1, g2⟩ := ih (i + 1) T2 f (by omega) d1 (by omega)
    have hst : ∀ K self, X10_bettered_L54 (nI a) (nI g) K self (nI i) T1 = if a.testBit g = true then orK (fI (st q w n (T.1 1) (T.1 4)) n a g i) (fun b => some (nI b, T2)) (self (nI (i + 1)) T2) else K T1 := fun K self => by
      unfold X10_bettered_L54
      rw [hM.2.1 2 (by decide), e2, le_n (by omega) (by omega), has_eq (by omega) (by omega), cl1_s, bv_e, nI_1, d2, bv_e]
      by_cases h1 : a.testBit g = true
      · rw [b01_t h1, if_neg n10, if_pos h1]; rfl
      · rw [b01_f h1, if_pos z00, if_neg h1]
    by_cases h1 : a.testBit g = true
    · cases e : fI (st q w n (T.1 1) (T.1 4)) n a g i with
      | some b =>
        refine ⟨T2, d1, fun K => ?_⟩
        rw [wp2s, hst, if_pos h1, e, if_pos h1, srch_s e, orK_s, orK_s]
      | none =>
        refine ⟨T3, g1, fun K => ?_⟩
        rw [wp2s, hst, if_pos h1, e, orK_n, g2, if_pos h1, if_pos h1, srch_n e]
    · refine ⟨T1, hM, fun K => ?_⟩
      rw [wp2s, hst, if_neg h1, if_neg h1, orK_n]
theorem gM {T : Sg} {q w n a : Nat} (hqp : q ∈ primes) (hw : w ≤ 6) (hn : n ≤ 10) (e0 : T.1 0 0 = nI q) (e1 : T.1 0 1 = nI w) (e2 : T.1 0 2 = nI n) (ha : a < 2 ^ n) :
    ∀ c g (T1 : Sg) fuel, g + c = n → Fm T T1 → c < fuel → ∃ T2, Fm T T2 ∧ wp2 (X10_bettered_L44 (nI a)) fuel (nI g) T1 = some (orK (srch (fG (st q w n (T.1 1) (T.1 4)) n a) c g) nI (nI a), T2) := by
  have hpw := pw_le hn
  intro c
  induction c with
  | zero =>
    intro g T1 fuel hg hM hf
    obtain ⟨f, rfl⟩ : ∃ f, fuel = f + 1 := ⟨fuel - 1, by omega⟩
    refine ⟨T1, hM, ?_⟩
    rw [wp2s]
    unfold X10_bettered_L44
    rw [hM.2.1 2 (by decide), e2, le_p (by omega) (by omega)]
    rfl
  | succ c ih =>
    intro g T1 fuel hg hM hf
    obtain ⟨f, rfl⟩ : ∃ f, fuel = f + 1 := ⟨fuel - 1, by omega⟩
    obtain ⟨T2, d1, d2⟩ := iM (g := g) hqp hw hn e0 e1 e2 ha (by omega) n 0 T1 FU (by omega) hM (FU_n (by omega))
    obtain ⟨T3, g1, g2⟩ := ih (g + 1) T2 f (by omega) d1 (by omega)
    have hst : ∀ self, X10_bettered_L44 (nI a) self (nI g) T1 = orK (fG (st q w n (T.1 1) (T.1 4)) n a g) (fun b => some (nI b, T2)) (self (nI (g + 1)) T2) := fun self => by
      unfold X10_bettered_L44
      rw [hM.2.1 2 (by decide), e2, le_n (by omega) (by omega), show (0 : Int32) = nI 0 from rfl, d2, bv_e, nI_1]
      rfl
    cases e : fG (st q w n (T.1 1) (T.1 4)) n a g with
    | some b =>
      refine ⟨T2, d1, ?_⟩
      rw [wp2s, hst, e, srch_s e, orK_s, orK_s]
    | none =>
      refine ⟨T3, g1, ?_⟩
      rw [wp2s, hst, e, orK_n, g2, srch_n e]
theorem betteredM {T : Sg} {q w n a : Nat} (hqp : q ∈ primes) (hw : w ≤ 6) (hn : n ≤ 10) (e0 : T.1 0 0 = nI q) (e1 : T.1 0 1 = nI w) (e2 : T.1 0 2 = nI n) (ha : a < 2 ^ n) :
    ∃ T', Fm T T' ∧ f_X10_bettered (nI a) T = some (nI (stp (st q w n (T.1 1) (T.1 4)) n a), T') := by
  have hpw := pw_le hn
  have key : ∀ c p (T1 : Sg) fuel, p + c = n → Fm T T1 → c < fuel → ∃ T2, Fm T T2 ∧ ∀ K, wp2 (X10_bettered_L2 (nI a) K) fuel (nI p) T1 = orK (srch (fO (st q w n (T.1 1) (T.1 4)) a) c p) (fun b => some (nI b, T2)) (K T2) := by
    intro c
    induction c with
    | zero =>
      intro p T1 fuel hp hM hf
      obtain ⟨f, rfl⟩ : ∃ f, fuel = f + 1 := ⟨fuel - 1, by omega⟩
      refine ⟨T1, hM, fun K => ?_⟩
      rw [wp2s]
      unfold X10_bettered_L2
      rw [hM.2.1 2 (by decide), e2, le_p (by omega) (by omega)]
      rfl
    | succ c ih =>
      intro p T1 fuel hp hM hf
      obtain ⟨f, rfl⟩ : ∃ f, fuel = f + 1 := ⟨fuel - 1, by omega⟩
      have hlt : a ||| 2 ^ p < 2 ^ n := Nat.or_lt_two_pow ha (two_lt (by omega))
      obtain ⟨T2, d1, d2⟩ := isStandingM (T := T1) (a := a ||| 2 ^ p) hqp hw hn (by omega) (by rw [hM.2.1 0 (by decide), e0]) (by rw [hM.2.1 1 (by decide), e1]) (by rw [hM.2.1 2 (by decide), e2])
      rw [hM.1 1 (by decide) (by decide), hM.1 4 (by decide) (by decide)] at d1
      have hst : ∀ K self, X10_bettered_L2 (nI a) K self (nI p) T1 = if a.testBit p = true then self (nI (p + 1)) T1 else if st q w n (T.1 1) (T.1 4) (a ||| 2 ^ p) = true then some (nI (a ||| 2 ^ p), T2) else self (nI (p + 1)) T2 := fun K self => by
        unfold X10_bettered_L2
        simp only [jn_e, bv_e]
        rw [hM.2.1 2 (by decide), e2, le_n (by omega) (by omega), shl1 (by omega), fa_or, d1, has_eq (by omega) (by omega), cl1_s, cl_s, nI_1]
        simp only [b01_0]
        by_cases h1 : a.testBit p = true
        · rw [if_neg (fun z => z h1), if_pos h1]
        · rw [if_pos h1, if_neg h1]
          by_cases h3 : st q w n (T.1 1) (T.1 4) (a ||| 2 ^ p) = true
          · rw [if_neg (fun z => z h3), if_pos h3]
          · rw [if_pos h3, if_neg h3]
      by_cases h1 : a.testBit p = true
      · obtain ⟨T3, g1, g2⟩ := ih (p + 1) T1 f (by omega) hM (by omega)
        refine ⟨T3, g1, fun K => ?_⟩
        rw [wp2s, hst, if_pos h1, g2, srch_n (by unfold fO; rw [if_pos h1])]
      · by_cases h3 : st q w n (T.1 1) (T.1 4) (a ||| 2 ^ p) = true
        · refine ⟨T2, hM.tr d2, fun K => ?_⟩
          rw [wp2s, hst, if_neg h1, if_pos h3, srch_s (b := a ||| 2 ^ p) (by unfold fO; rw [if_neg h1, if_pos h3]), orK_s]
        · obtain ⟨T3, g1, g2⟩ := ih (p + 1) T2 f (by omega) (hM.tr d2) (by omega)
          refine ⟨T3, g1, fun K => ?_⟩
          rw [wp2s, hst, if_neg h1, if_neg h3, g2, srch_n (by unfold fO; rw [if_neg h1, if_neg h3])]
  obtain ⟨T2, h1, h2⟩ := key n 0 T FU (by omega) (Fm.rf T) (FU_n (by omega))
  obtain ⟨T3, g1, g2⟩ := gM hqp hw hn e0 e1 e2 ha n 0 T2 FU (by omega) h1 (FU_n (by omega))
  unfold f_X10_bettered
  rw [show (0 : Int32) = nI 0 from rfl, h2, g2]
  unfold stp
  cases e : srch (fO (st q w n (T.1 1) (T.1 4)) a) n 0 with
  | some b => exact ⟨T2, h1, rfl⟩
  | none =>
    refine ⟨T3, g1, ?_⟩
    rw [orK_n, orK_n]
    cases e3 : srch (fG (st q w n (T.1 1) (T.1 4)) n a) n 0 with
    | some b => rfl
    | none => rfl
theorem pcn_n {n a : Nat} (hn : n ≤ 10) (ha : a < 2 ^ n) : pcn a ≤ n := by
  rw [← pcn_w hn ha]; exact fb_ct_le _ _
theorem e_better {S T : Sg} (h : Rel S T) (a0 : Int32) : ∃ (r : Int32) (S' : Sg) (T' : Sg), f_X9_better a0 S = some (r, S') ∧ f_X10_better a0 T = some (r, T') ∧ Rel S' T' := by
  obtain ⟨q, w, n, hqp, hw1, hw, hn, s0, t0, s1, t1, s2, t2⟩ := h.nums
  have hpw := pw_le hn
  obtain ⟨m1, m2, m3, m4, m5, m6, m7, m8⟩ := h.1
  unfold f_X9_better f_X10_better
  rw [hasAllC s2 hn, isSetM t2 hn, cl1_s, cl1_s]
  by_cases hc : 0 ≤ a0.toInt ∧ a0.toInt < (2 ^ n : Nat)
  · rw [b01_t hc, if_neg n10, if_neg n10]
    obtain ⟨a, ha, rfl⟩ := nI_from hc
    obtain ⟨S1, c1, c2, c3, c4⟩ := fillStandingC hqp hw hn s0 s1 s2
    rw [m4, m7] at c4
    obtain ⟨T1, g1, g2⟩ := isStandingM (T := T) (a := a) hqp hw hn (by omega) t0 t1 t2
    rw [c1, cl1_s, inb_p (by omega) (by decide), ix_nI (by omega), c4.2.2 a ha, g1, cl_s]
    by_cases hs : st q w n (T.1 1) (T.1 4) a = true
    · rw [b01_t hs, if_neg n10, if_neg n10, betteredC hn c4 ha, cl1_s]
      have key : ∀ c x y (T1 : Sg) fuel, x < 2 ^ n → n ≤ pcn x + c → Fm T T1 → y ≠ nI x → c + 1 < fuel → ∃ T2, Fm T T2 ∧ wp3 X10_better_L26 fuel y (nI x) T1 = some (nI (stpN (st q w n (T.1 1) (T.1 4)) n c x), T2) := by
        intro c
        induction c with
        | zero =>
          intro x y T1 fuel hx hp hM hy hf
          obtain ⟨f, rfl⟩ : ∃ f, fuel = f + 1 + 1 := ⟨fuel - 2, by omega⟩
          obtain ⟨T2, d1, d2⟩ := betteredM (T := T1) (a := x) hqp hw hn (by rw [hM.2.1 0 (by decide), t0]) (by rw [hM.2.1 1 (by decide), t1]) (by rw [hM.2.1 2 (by decide), t2]) hx
          rw [hM.1 1 (by decide) (by decide), hM.1 4 (by decide) (by decide)] at d2
          have hfix : stp (st q w n (T.1 1) (T.1 4)) n x = x := by
            rcases stp_at (s := st q w n (T.1 1) (T.1 4)) hn hx with z | ⟨z1, z2⟩
            · exact z
            · have := pcn_n hn z1; omega
          refine ⟨T2, hM.tr d1, ?_⟩
          rw [wp3s]
          unfold X10_better_L26
          rw [if_neg hy, d2, cl_s, hfix, wp3s, if_pos rfl]
          rfl
        | succ c ih =>
          intro x y T1 fuel hx hp hM hy hf
          obtain ⟨f, rfl⟩ : ∃ f, fuel = f + 1 := ⟨fuel - 1, by omega⟩
          obtain ⟨T2, d1, d2⟩ := betteredM (T := T1) (a := x) hqp hw hn (by rw [hM.2.1 0 (by decide), t0]) (by rw [hM.2.1 1 (by decide), t1]) (by rw [hM.2.1 2 (by decide), t2]) hx
          rw [hM.1 1 (by decide) (by decide), hM.1 4 (by decide) (by decide)] at d2
          have hst : ∀ self, X10_better_L26 self y (nI x) T1 = self (nI x) (nI (stp (st q w n (T.1 1) (T.1 4)) n x)) T2 := fun self => by
            unfold X10_better_L26
            rw [if_neg hy, d2, cl_s]
          rcases stp_at (s := st q w n (T.1 1) (T.1 4)) hn hx with z | ⟨z1, z2⟩
          · refine ⟨T2, hM.tr d1, ?_⟩
            obtain ⟨f', rfl⟩ : ∃ f', f = f' + 1 := ⟨f - 1, by omega⟩
            rw [wp3s, hst, z, wp3s, stpN_fix z]
            unfold X10_better_L26
            rw [if_pos rfl]
          · obtain ⟨T3, k1, k2⟩ := ih (stp (st q w n (T.1 1) (T.1 4)) n x) (nI x) T2 f z1 (by omega) (hM.tr d1) (fun z => by
              rw [nI_eq (by omega) (by omega)] at z
              rw [← z] at z2; omega) (by omega)
            exact ⟨T3, k1, by rw [wp3s, hst]; exact k2⟩
      obtain ⟨T2, k1, k2⟩ := key n a (-1) T1 FU ha (by omega) g2 (fun z => nI_m1 (by omega) z.symm) (FU_n (by omega))
      rw [k2]
      exact ⟨_, _, _, rfl, rfl, h.agr c2 k1.agr⟩
    · rw [b01_f hs, if_pos z00, if_pos z00]
      exact ⟨_, _, _, rfl, rfl, h.agr c2 g2.agr⟩
  · rw [b01_f hc, if_pos z00, if_pos z00]
    exact ⟨_, _, _, rfl, rfl, h⟩
