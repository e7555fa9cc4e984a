/-! link, breaks, feedback -/
theorem fa_xor (a b : Nat) : nI a ^^^ nI b = nI (a ^^^ b) := by
  apply Int32.toBitVec_inj.mp
  rw [Int32.toBitVec_xor]
  apply BitVec.eq_of_toNat_eq
  rw [BitVec.toNat_xor]
  show (BitVec.ofNat 32 a).toNat ^^^ (BitVec.ofNat 32 b).toNat = (BitVec.ofNat 32 (a ^^^ b)).toNat
  rw [BitVec.toNat_ofNat, BitVec.toNat_ofNat, BitVec.toNat_ofNat, Nat.xor_mod_two_pow]
theorem xor_bit (a p k : Nat) : (a ^^^ 2 ^ p).testBit k = if k = p then !a.testBit p else a.testBit k := by
  rw [Nat.testBit_xor, Nat.testBit_two_pow]
  by_cases h : k = p
  · subst h; simp
  · simp [h, show ¬ p = k from fun z => h z.symm]
theorem Rel_lines {S T : Sg} (h : Rel S T) {a b : Nat} {g : Nat → Nat} (ha : a < 8) (hb : b < 8) (hne : a ≠ b) (hg : ∀ j, j < 8 → g j < 256 ∧ T.1 5 j = nI (g j)) (hsy : ∀ i j, i < 8 → j < 8 → (g i).testBit j = (g j).testBit i) (h3 : ∀ j, j < 8 → fb_ct (fun i => (g j).testBit i) 8 ≤ 3) (hd : (g a).testBit b = true ∨ (pcn (g a) < 3 ∧ pcn (g b) < 3)) :
    Rel (si (si S 6 a (nI (g a ^^^ 2 ^ b))) 6 b (nI (g b ^^^ 2 ^ a))) (si (si T 5 a (nI (g a ^^^ 2 ^ b))) 5 b (nI (g b ^^^ 2 ^ a))) := by
  obtain ⟨m1, m2, m3, m4, m5, m6, m7, m8⟩ := h.1
  refine Rel_main h (AgrK_i (AgrK_i (AgrK.rf S) _ _ (by omega)) _ _ (by omega)) (AgrN_i (AgrN_i (AgrN.rf T) _ _ (by omega)) _ _ (by omega)) ?_ ?_
  · refine ⟨?_, ?_, ?_, ?_, ?_, ?_, ?_, ?_⟩
    · rw [si_ne _ _ _ (by decide), si_ne _ _ _ (by decide), si_ne _ _ _ (by decide), si_ne _ _ _ (by decide), m1]
    · rw [si_ne _ _ _ (by decide), si_ne _ _ _ (by decide), si_ne _ _ _ (by decide), si_ne _ _ _ (by decide), m2]
    · rw [si_ne _ _ _ (by decide), si_ne _ _ _ (by decide), si_ne _ _ _ (by decide), si_ne _ _ _ (by decide), m3]
    · rw [si_ne _ _ _ (by decide), si_ne _ _ _ (by decide), si_ne _ _ _ (by decide), si_ne _ _ _ (by decide), m4]
    · rw [si_ne _ _ _ (by decide), si_ne _ _ _ (by decide), si_ne _ _ _ (by decide), si_ne _ _ _ (by decide), m5]
    · rw [si_2, si_2, si_2, si_2, m6]
    · rw [si_ne _ _ _ (by decide), si_ne _ _ _ (by decide), si_ne _ _ _ (by decide), si_ne _ _ _ (by decide), m7]
    · rw [si_same, si_same, si_same, si_same, m8]
  · obtain ⟨d1, d2, d3, d4, d5, d6, -⟩ := h.2.1
    rw [si_ne _ _ _ (show (0 : Nat) ≠ 5 by decide), si_ne _ _ _ (show (1 : Nat) ≠ 5 by decide), si_ne _ _ _ (show (2 : Nat) ≠ 5 by decide), si_ne _ _ _ (show (4 : Nat) ≠ 5 by decide), si_ne _ _ _ (show (0 : Nat) ≠ 5 by decide), si_ne _ _ _ (show (1 : Nat) ≠ 5 by decide), si_ne _ _ _ (show (2 : Nat) ≠ 5 by decide), si_ne _ _ _ (show (4 : Nat) ≠ 5 by decide), si_same, si_same]
    have xl : ∀ x p, x < 256 → p < 8 → x ^^^ 2 ^ p < 256 := fun x p hx hp => Nat.xor_lt_two_pow (n := 8) hx (Nat.pow_lt_pow_right (by decide) hp)
    refine ⟨d1, d2, d3, d4, d5, d6, fun k => if k = a then g a ^^^ 2 ^ b else if k = b then g b ^^^ 2 ^ a else g k, fun j hj => ?_, fun i j hi hj => ?_, fun j hj => ?_⟩
    · by_cases e1 : j = a
      · subst e1
        simp only [if_pos]
        exact ⟨xl _ _ (hg j hj).1 hb, by rw [upd_n _ _ hne, upd_s]⟩
      · simp only [if_neg e1]
        by_cases e2 : j = b
        · subst e2
          simp only [if_pos]
          exact ⟨xl _ _ (hg j hj).1 ha, by rw [upd_s]⟩
        · simp only [if_neg e2]
          exact ⟨(hg j hj).1, by rw [upd_n _ _ e2, upd_n _ _ e1, (hg j hj).2]⟩
    · have key : ∀ i j, ((if i = a then g a ^^^ 2 ^ b else if i = b then g b ^^^ 2 ^ a else g i).testBit j) = if (i = a ∧ j = b) ∨ (i = b ∧ j = a) then !(g i).testBit j else (g i).testBit j := fun i j => by
        by_cases e1 : i = a
        · subst e1
          rw [if_pos rfl, xor_bit]
          by_cases e2 : j = b
          · subst e2
            rw [if_pos rfl, if_pos (Or.inl ⟨rfl, rfl⟩)]
          · rw [if_neg e2, if_neg (by omega)]
        · rw [if_neg e1]
          by_cases e2 : i = b
          · subst e2
            rw [if_pos rfl, xor_bit]
            by_cases e3 : j = a
            · subst e3
              rw [if_pos rfl, if_pos (Or.inr ⟨rfl, rfl⟩)]
            · rw [if_neg e3, if_neg (by omega)]
          · rw [if_neg e2, if_neg (by omega)]
      show ((if i = a then g a ^^^ 2 ^ b else if i = b then g b ^^^ 2 ^ a else g i).testBit j) = ((if j = a then g a ^^^ 2 ^ b else if j = b then g b ^^^ 2 ^ a else g j).testBit i)
      rw [key, key]
      by_cases e1 : (i = a ∧ j = b) ∨ (i = b ∧ j = a)
      · rw [if_pos e1, if_pos (by omega), hsy i j hi hj]
      · rw [if_neg e1, if_neg (by omega), hsy i j hi hj]
    · have cnt : ∀ x p, p < 8 → x < 256 → fb_ct (fun i => x.testBit i) 8 ≤ 3 → (x.testBit p = true ∨ pcn x < 3) → fb_ct (fun i => (x ^^^ 2 ^ p).testBit i) 8 ≤ 3 := fun x p hp hx h1 h2 => by
        have e := fb_ct_upd (fun i => x.testBit i) (!x.testBit p) hp
        rw [fb_ct_cong (q := fun k => if k = p then !x.testBit p else x.testBit k) (fun k _ => xor_bit x p k)]
        rw [pcn_8 hx] at e h1
        cases e2 : x.testBit p with
        | true => simp [e2] at e ⊢; omega
        | false =>
          rcases h2 with h2 | h2
          · rw [e2] at h2; cases h2
          · simp [e2] at e ⊢; omega
      have hsab := hsy a b ha hb
      by_cases e1 : j = a
      · subst e1
        simp only [if_pos]
        exact cnt _ _ hb (hg j hj).1 (h3 j hj) (by rcases hd with z | z; exact Or.inl z; exact Or.inr z.1)
      · simp only [if_neg e1]
        by_cases e2 : j = b
        · subst e2
          simp only [if_pos]
          exact cnt _ _ ha (hg j hj).1 (h3 j hj) (by rcases hd with z | z; exact Or.inl (by rw [← hsab]; exact z); exact Or.inr z.2)
        · simp only [if_neg e2]
          exact h3 j hj
theorem e_link {S T : Sg} (h : Rel S T) (a0 : Int32) (a1 : Int32) (a2 : Int32) : ∃ (r : Int32) (S' : Sg) (T' : Sg), f_X9_link a0 a1 a2 S = some (r, S') ∧ f_X10_link a0 a1 a2 T = some (r, T') ∧ Rel S' T' := by
  obtain ⟨m1, m2, m3, m4, m5, m6, m7, m8⟩ := h.1
  obtain ⟨g, hg, hsy, h3⟩ := lines_ex h
  unfold f_X9_link f_X10_link f_X2_linesAt
  simp only [jn_e, bv_e]
  rw [pointC, cl1_s, pointM, cl1_s, pointC, cl1_s, pointM, cl1_s, bitC, cl1_s, in32 a2 0 1 (by decide) (by decide), cl1_s]
  by_cases c1 : 0 ≤ a0.toInt ∧ a0.toInt < 8
  · rw [b01_t c1, if_neg n10, if_neg n10]
    by_cases c2 : 0 ≤ a1.toInt ∧ a1.toInt < 8
    · rw [b01_t c2, if_neg n10, if_neg n10]
      by_cases c3 : a0 = a1
      · rw [if_pos c3, if_pos c3]; exact ⟨_, _, _, rfl, rfl, h⟩
      · rw [if_neg c3, if_neg c3]
        by_cases c4 : 0 ≤ a2.toInt ∧ a2.toInt ≤ 1
        · rw [b01_t c4, if_neg n10, if_neg n10]
          obtain ⟨a, ha, rfl⟩ := nI_from (a := a0) (n := 8) ⟨c1.1, by omega⟩
          obtain ⟨b, hb, rfl⟩ := nI_from (a := a1) (n := 8) ⟨c2.1, by omega⟩
          have hne : a ≠ b := fun z => c3 (by rw [z])
          have hga := (hg a ha).1
          have hgb := (hg b hb).1
          have pa := h3 a ha
          have pb := h3 b hb
          rw [pcn_8 hga] at pa
          rw [pcn_8 hgb] at pb
          simp only [inb_nI ha (show 8 < 2 ^ 31 by decide), inb_nI hb (show 8 < 2 ^ 31 by decide), gd_t, ix_nI (show a < 2 ^ 31 by omega), ix_nI (show b < 2 ^ 31 by omega), m8, (hg a ha).2, (hg b hb).2]
          rw [show (si S 6 a (nI (g a) ^^^ 1 <<< (nI b &&& 31))).1 6 b = nI (g b) by rw [si_same, upd_n _ _ (fun z => hne z.symm), m8, (hg b hb).2], show (si T 5 a (nI (g a) ^^^ 1 <<< (nI b &&& 31))).1 5 b = nI (g b) by rw [si_same, upd_n _ _ (fun z => hne z.symm), (hg b hb).2], shl1 (by omega), shl1 (by omega), fa_xor, fa_xor, bitCount_tab _ (by omega), bitCount_tab _ (by omega), many_tab _ (by omega), many_tab _ (by omega)]
          simp only [cl1_s]
          have hbit := bit_nI (a := g a) (p := b) (by omega) (by omega)
          rw [hbit]
          have x3 : ∀ x : Nat, x ≤ 3 → (((3 : Int32) ≤ nI x) ↔ x = 3) ∧ ((nI x < (3 : Int32)) ↔ x ≠ 3) ∧ ((nI x = (3 : Int32)) ↔ x = 3) := fun x hx => (by decide : ∀ x, x < 4 → (((3 : Int32) ≤ nI x) ↔ x = 3) ∧ ((nI x < (3 : Int32)) ↔ x ≠ 3) ∧ ((nI x = (3 : Int32)) ↔ x = 3)) x (by omega)
          have fin : ∀ x : Int32, ((g a).testBit b = true ∨ (pcn (g a) < 3 ∧ pcn (g b) < 3)) ∨ a2 = x → ∃ (r : Int32) (S' : Sg) (T' : Sg), (if a2 = x then some (x, S) else some (x, si (si S 6 a (nI (g a ^^^ 2 ^ b))) 6 b (nI (g b ^^^ 2 ^ a)))) = some (r, S') ∧ (if a2 = x then some (x, T) else some (x, si (si T 5 a (nI (g a ^^^ 2 ^ b))) 5 b (nI (g b ^^^ 2 ^ a)))) = some (r, T') ∧ Rel S' T' := fun x hx => by
            by_cases e : a2 = x
            · rw [if_pos e, if_pos e]; exact ⟨_, _, _, rfl, rfl, h⟩
            · rw [if_neg e, if_neg e]
              refine ⟨_, _, _, rfl, rfl, Rel_lines h ha hb hne hg hsy h3 ?_⟩
              rcases hx with z | z
              · exact z
              · exact absurd z e
          cases hb1 : (g a).testBit b with
          | true =>
            rw [if_pos rfl, if_neg (show ¬ nI 1 = 0 by decide), if_neg (show ¬ nI 1 = 0 by decide)]
            have := fin (nI 1) (Or.inl (Or.inl hb1))
            split <;> exact this
          | false =>
            rw [if_neg (show ¬ false = true by decide), if_pos (show nI 0 = 0 from rfl), if_pos (show nI 0 = 0 from rfl)]
            by_cases c5 : a2 = 1
            · rw [if_pos c5, if_pos c5]
              by_cases c6 : pcn (g a) = 3
              · rw [if_pos ((x3 _ pa).1.mpr c6), if_pos ((x3 _ pa).2.2.mpr c6)]; exact ⟨_, _, _, rfl, rfl, h⟩
              · rw [if_neg (fun z => c6 ((x3 _ pa).1.mp z)), if_neg (fun z => c6 ((x3 _ pa).2.2.mp z))]
                by_cases c7 : pcn (g b) = 3
                · rw [if_neg (fun z => (x3 _ pb).2.1.mp z c7), if_pos ((x3 _ pb).2.2.mpr c7)]; exact ⟨_, _, _, rfl, rfl, h⟩
                · rw [if_pos ((x3 _ pb).2.1.mpr c7), if_neg (fun z => c7 ((x3 _ pb).2.2.mp z))]
                  exact fin (nI 0) (Or.inl (Or.inr ⟨by omega, by omega⟩))
            · rw [if_neg c5, if_neg c5]
              refine fin (nI 0) (Or.inr (i32_eq.mpr ?_))
              have : a2.toInt ≠ 1 := fun z => c5 (i32_eq.mpr z)
              rw [show (nI 0).toInt = 0 from rfl]
              omega
        · rw [b01_f c4, if_pos z00, if_pos z00]; exact ⟨_, _, _, rfl, rfl, h⟩
    · rw [b01_f c2, if_pos z00, if_pos z00]; exact ⟨_, _, _, rfl, rfl, h⟩
  · rw [b01_f c1, if_pos z00, if_pos z00]; exact ⟨_, _, _, rfl, rfl, h⟩
/-! rings -/
def pas (g : Nat → Nat) : Nat → Nat → Nat → Nat
  | 0, _, v => v
  | c + 1, k, v => pas g c (k + 1) (if 2 ≤ pcn (g k &&& v) then v else clr v k)
theorem clr_le (v k : Nat) : clr v k ≤ v := Nat.and_le_left
theorem clr_or {v k : Nat} (hv : v < 1024) (hk : k < 10) : clr v k = v ∨ pcn (clr v k) < pcn v := by
  by_cases h : v.testBit k = true
  · have := pcn_clr hk h
    exact Or.inr (by omega)
  · refine Or.inl (Nat.eq_of_testBit_eq fun i => ?_)
    by_cases hi : i < 10
    · rw [clr_bit hk hi]
      by_cases e : i = k
      · rw [if_pos e, e]; simpa using h
      · rw [if_neg e]
    · have e1 : v < 2 ^ i := Nat.lt_of_lt_of_le (show v < 2 ^ 10 from hv) (Nat.pow_le_pow_right (by decide) (by omega))
      rw [Nat.testBit_lt_two_pow e1, Nat.testBit_lt_two_pow (Nat.lt_of_le_of_lt (clr_le v k) e1)]
theorem pas_le (g : Nat → Nat) : ∀ c k v, pas g c k v ≤ v
  | 0, _, _ => Nat.le_refl _
  | c + 1, k, v => by
    show pas g c (k + 1) (if 2 ≤ pcn (g k &&& v) then v else clr v k) ≤ v
    refine Nat.le_trans (pas_le g c (k + 1) _) ?_
    split
    · exact Nat.le_refl _
    · exact clr_le v k
theorem pas_or (g : Nat → Nat) : ∀ c k v, k + c ≤ 8 → v < 256 → pas g c k v = v ∨ pcn (pas g c k v) < pcn v
  | 0, _, _, _, _ => Or.inl rfl
  | c + 1, k, v, hk, hv => by
    show pas g c (k + 1) (if 2 ≤ pcn (g k &&& v) then v else clr v k) = v ∨ pcn (pas g c (k + 1) (if 2 ≤ pcn (g k &&& v) then v else clr v k)) < pcn v
    by_cases h : 2 ≤ pcn (g k &&& v)
    · rw [if_pos h]; exact pas_or g c (k + 1) v (by omega) hv
    · rw [if_neg h]
      have hle := clr_le v k
      have h2 := pas_or g c (k + 1) (clr v k) (by omega) (by omega)
      rcases clr_or (show v < 1024 by omega) (show k < 10 by omega) with h3 | h3
      · rw [h3] at h2 ⊢; exact h2
      · rcases h2 with h4 | h4
        · rw [h4]; exact Or.inr h3
        · exact Or.inr (by omega)
def pasN (g : Nat → Nat) : Nat → Nat → Nat
  | 0, v => v
  | c + 1, v => pasN g c (pas g 8 0 v)
theorem pasN_fix {g : Nat → Nat} {v : Nat} (h : pas g 8 0 v = v) : ∀ c, pasN g c v = v
  | 0 => rfl
  | c + 1 => by show pasN g c (pas g 8 0 v) = v; rw [h]; exact pasN_fix h c
theorem pcn_z {v : Nat} (hv : v < 1024) (h : pcn v = 0) : v = 0 := by
  refine Nat.eq_of_testBit_eq fun i => ?_
  rw [Nat.zero_testBit]
  by_cases hi : i < 10
  · exact fb_ct_zero.mp h i hi
  · exact Nat.testBit_lt_two_pow (Nat.lt_of_lt_of_le (show v < 2 ^ 10 from hv) (Nat.pow_le_pow_right (by decide) (by omega)))
/-- after the SET a is taken away, no ring is left -/
def brk (g : Nat → Nat) (a : Nat) : Bool := decide (pasN g 8 (255 - a) = 0)
theorem inv255C : ∀ a, a < 256 → (nI a ^^^ (-1 : Int32)) &&& 255 = nI (255 - a) := by decide +kernel
theorem inv255M : ∀ a, a < 256 → (255 : Int32) &&& (nI a ^^^ (-1 : Int32)) = nI (255 - a) := by decide +kernel
theorem pasC {S : Sg} {g : Nat → Nat} (hg : ∀ j, j < 8 → g j < 256 ∧ S.1 6 j = nI (g j)) (K : Int32 → Option Int32) : ∀ c k v fuel, k + c = 8 → v < 256 → c < fuel → wp2 (X9_hasRing_L13 S K) fuel (nI v) (nI k) = K (nI (pas g c k v)) := by
  intro c
  induction c with
  | zero =>
    intro k v fuel hk hv hf
    obtain ⟨f, rfl⟩ : ∃ f, fuel = f + 1 := ⟨fuel - 1, by omega⟩
    rw [wp2s]
    unfold X9_hasRing_L13
    rw [show (8 : Int32) = nI 8 from rfl, le_p (by omega) (by omega)]
    rfl
  | succ c ih =>
    intro k v fuel hk hv hf
    obtain ⟨f, rfl⟩ : ∃ f, fuel = f + 1 := ⟨fuel - 1, by omega⟩
    have hle := clr_le v k
    have IH := ih (k + 1) (if 2 ≤ pcn (g k &&& v) then v else clr v k) f (by omega) (by split <;> omega) (by omega)
    have hand : g k &&& v < 1024 := Nat.lt_of_le_of_lt Nat.and_le_right (by omega)
    have hpc := pcn_le (g k &&& v)
    rw [wp2s]
    generalize wp2 (X9_hasRing_L13 S K) f = W at IH ⊢
    unfold X9_hasRing_L13
    simp only [jn_e, bv_e]
    rw [show (8 : Int32) = nI 8 from rfl, le_n (by omega) (by omega), inb_p (by omega) (by decide), ix_nI (by omega), (hg k (by omega)).2, fa_and, bitCount_tab _ hand, cl1_s, clr_nI (by omega) (by omega), nI_1]
    show _ = K (nI (pas g c (k + 1) (if 2 ≤ pcn (g k &&& v) then v else clr v k)))
    rw [← IH]
    by_cases h : 2 ≤ pcn (g k &&& v)
    · rw [if_pos h, if_pos (by rw [i_gt 1 (by decide), nI_toInt (by omega)]; omega)]
    · rw [if_neg h, if_neg (by rw [i_gt 1 (by decide), nI_toInt (by omega)]; omega)]
theorem pasM {T : Sg} {g : Nat → Nat} (hg : ∀ j, j < 8 → g j < 256 ∧ T.1 5 j = nI (g j)) (K : Int32 → Option Int32) : ∀ c k v fuel, k + c = 8 → v < 256 → c < fuel → wp2 (X10_isBroken_L20 T K) fuel (nI v) (nI k) = K (nI (pas g c k v)) := by
  intro c
  induction c with
  | zero =>
    intro k v fuel hk hv hf
    obtain ⟨f, rfl⟩ : ∃ f, fuel = f + 1 := ⟨fuel - 1, by omega⟩
    rw [wp2s]
    unfold X10_isBroken_L20
    rw [show (8 : Int32) = nI 8 from rfl, le_p (by omega) (by omega)]
    rfl
  | succ c ih =>
    intro k v fuel hk hv hf
    obtain ⟨f, rfl⟩ : ∃ f, fuel = f + 1 := ⟨fuel - 1, by omega⟩
    have hle := clr_le v k
    have IH := ih (k + 1) (if 2 ≤ pcn (g k &&& v) then v else clr v k) f (by omega) (by split <;> omega) (by omega)
    have hand : g k &&& v < 1024 := Nat.lt_of_le_of_lt Nat.and_le_right (by omega)
    have hpc := pcn_le (g k &&& v)
    rw [wp2s]
    generalize wp2 (X10_isBroken_L20 T K) f = W at IH ⊢
    unfold X10_isBroken_L20
    simp only [jn_e, bv_e]
    rw [show (8 : Int32) = nI 8 from rfl, le_n (by omega) (by omega), inb_p (by omega) (by decide), ix_nI (by omega), (hg k (by omega)).2, fa_and, many_tab _ hand, cl1_s, clr_nI (by omega) (by omega), nI_1]
    show _ = K (nI (pas g c (k + 1) (if 2 ≤ pcn (g k &&& v) then v else clr v k)))
    rw [← IH]
    by_cases h : 2 ≤ pcn (g k &&& v)
    · rw [if_pos h, if_pos (by rw [i_ge 2 (by decide), nI_toInt (by omega)]; omega), show nI v &&& -1 = nI v from Int32.and_neg_one]
    · rw [if_neg h, if_neg (by rw [i_ge 2 (by decide), nI_toInt (by omega)]; omega)]
theorem isBrokenC {S : Sg} {g : Nat → Nat} (hg : ∀ j, j < 8 → g j < 256 ∧ S.1 6 j = nI (g j)) {a : Nat} (ha : a < 256) : f_X9_isBroken (nI a) S = some (b01 (brk g a = true)) := by
  unfold f_X9_isBroken f_X9_hasRing
  rw [inv255C a ha]
  have key : ∀ (K : Int32 → Option Int32) c i v fuel, i + c = 8 → v < 256 → c < fuel → wp2 (X9_hasRing_L4 S K) fuel (nI v) (nI i) = K (nI (pasN g c v)) := by
    intro K c
    induction c with
    | zero =>
      intro i v fuel hi hv hf
      obtain ⟨f, rfl⟩ : ∃ f, fuel = f + 1 := ⟨fuel - 1, by omega⟩
      rw [wp2s]
      unfold X9_hasRing_L4
      rw [show (8 : Int32) = nI 8 from rfl, le_p (by omega) (by omega)]
      rfl
    | succ c ih =>
      intro i v fuel hi hv hf
      obtain ⟨f, rfl⟩ : ∃ f, fuel = f + 1 := ⟨fuel - 1, by omega⟩
      have hle := pas_le g 8 0 v
      have IH := ih (i + 1) (pas g 8 0 v) f (by omega) (by omega) (by omega)
      rw [wp2s]
      generalize wp2 (X9_hasRing_L4 S K) f = W at IH ⊢
      unfold X9_hasRing_L4
      rw [show (8 : Int32) = nI 8 from rfl, le_n (by omega) (by omega), show (0 : Int32) = nI 0 from rfl, pasC hg _ 8 0 v FU (by omega) hv (FU_n (by omega)), bv_e, nI_1, IH]
      rfl
  have e := key (fun (v1 : Int32) => if v1 = 0 then some (0 : Int32) else some 1) 8 0 (255 - a) FU (by omega) (by omega) (FU_n (by omega))
  have hlt : pasN g 8 (255 - a) < 256 := by
    have : ∀ c v, v < 256 → pasN g c v < 256 := fun c => by
      induction c with
      | zero => exact fun v hv => hv
      | succ c ih => exact fun v hv => ih _ (Nat.lt_of_le_of_lt (pas_le g 8 0 v) hv)
    exact this 8 _ (by omega)
  rw [show wp2 (X9_hasRing_L4 S (fun (v1 : Int32) => if v1 = 0 then some (0 : Int32) else some 1)) FU (nI (255 - a)) (0 : Int32) = _ from e]
  show cl1 (if nI (pasN g 8 (255 - a)) = 0 then some (0 : Int32) else some 1) _ = _
  unfold brk
  by_cases h : pasN g 8 (255 - a) = 0
  · rw [if_pos ((nI_0p (by omega)).mpr h), cl1_s, if_pos z00, b01_t (by simp [h])]
  · rw [if_neg (fun z => h ((nI_0p (by omega)).mp z)), cl1_s, if_neg n10, b01_f (by simp [h])]
theorem isBrokenM {T : Sg} {g : Nat → Nat} (hg : ∀ j, j < 8 → g j < 256 ∧ T.1 5 j = nI (g j)) {a : Nat} (ha : a < 256) : f_X10_isBroken (nI a) T = some (b01 (brk g a = true)) := by
  unfold f_X10_isBroken
  rw [inv255M a ha, bv_e]
  have key : ∀ (K : Int32 → Option Int32) c v y fuel, pcn v ≤ c → v < 256 → y ≠ nI v → c + 1 < fuel → wp2 (X10_isBroken_L10 T K) fuel (nI v) y = K (nI (pasN g c v)) := by
    intro K c
    induction c with
    | zero =>
      intro v y fuel hp hv hy hf
      obtain ⟨f, rfl⟩ : ∃ f, fuel = f + 1 + 1 := ⟨fuel - 2, by omega⟩
      have hfix : pas g 8 0 v = v := by
        rcases pas_or g 8 0 v (by decide) hv with z | z
        · exact z
        · omega
      rw [wp2s]
      unfold X10_isBroken_L10
      rw [if_neg hy, show (0 : Int32) = nI 0 from rfl, pasM hg _ 8 0 v FU (by omega) hv (FU_n (by omega)), hfix, wp2s, if_pos rfl]
      rfl
    | succ c ih =>
      intro v y fuel hp hv hy hf
      obtain ⟨f, rfl⟩ : ∃ f, fuel = f + 1 := ⟨fuel - 1, by omega⟩
      have hle := pas_le g 8 0 v
      have hst : ∀ self, X10_isBroken_L10 T K self (nI v) y = self (nI (pas g 8 0 v)) (nI v) := fun self => by
        unfold X10_isBroken_L10
        rw [if_neg hy, show (0 : Int32) = nI 0 from rfl, pasM hg _ 8 0 v FU (by omega) hv (FU_n (by omega))]
      rcases pas_or g 8 0 v (by decide) hv with z | z
      · obtain ⟨f', rfl⟩ : ∃ f', f = f' + 1 := ⟨f - 1, by omega⟩
        rw [wp2s, hst, z, wp2s, pasN_fix z]
        unfold X10_isBroken_L10
        rw [if_pos rfl]
      · rw [wp2s, hst, ih (pas g 8 0 v) (nI v) f (by omega) (by omega) (fun e => by
          rw [nI_eq (by omega) (by omega)] at e
          rw [← e] at z; omega) (by omega)]
        rfl
  have hpc : pcn (255 - a) ≤ 8 := by
    rw [← pcn_8 (by omega)]; exact fb_ct_le _ _
  have e := key (fun (v2 : Int32) => if v2 = 0 then some (1 : Int32) else some 0) 8 (255 - a) (-1) FU hpc (by omega) (fun z => nI_m1 (by omega) z.symm) (FU_n (by omega))
  have hlt : pasN g 8 (255 - a) < 256 := by
    have : ∀ c v, v < 256 → pasN g c v < 256 := fun c => by
      induction c with
      | zero => exact fun v hv => hv
      | succ c ih => exact fun v hv => ih _ (Nat.lt_of_le_of_lt (pas_le g 8 0 v) hv)
    exact this 8 _ (by omega)
  rw [show wp2 (X10_isBroken_L10 T (fun (v2 : Int32) => if v2 = 0 then some (1 : Int32) else some 0)) FU (nI (255 - a)) (-1) = _ from e]
  show (if nI (pasN g 8 (255 - a)) = 0 then some (1 : Int32) else some 0) = _
  unfold brk
  by_cases h : pasN g 8 (255 - a) = 0
  · rw [if_pos ((nI_0p (by omega)).mpr h), b01_t (by simp [h])]
  · rw [if_neg (fun z => h ((nI_0p (by omega)).mp z)), b01_f (by simp [h])]
theorem e_breaks {S T : Sg} (h : Rel S T) (a0 : Int32) : ∃ (r : Int32), f_X9_breaks a0 S = some r ∧ f_X10_breaks a0 T = some r ∧ Rel S T := by
  obtain ⟨m1, m2, m3, m4, m5, m6, m7, m8⟩ := h.1
  obtain ⟨g, hg, hsy, h3⟩ := lines_ex h
  unfold f_X9_breaks f_X10_breaks
  rw [in32 a0 0 255 (by decide) (by decide), cl1_s]
  by_cases c1 : 0 ≤ a0.toInt ∧ a0.toInt ≤ 255
  · rw [b01_t c1, if_neg n10, if_neg (by rw [i_lt 0 (by decide)]; omega), if_pos (by rw [i_lt 256 (by decide)]; omega)]
    obtain ⟨a, ha, rfl⟩ := nI_from (a := a0) (n := 256) ⟨c1.1, by omega⟩
    rw [isBrokenC (by rw [m8]; exact hg) ha, isBrokenM hg ha, cl1_s]
    split <;> exact ⟨_, rfl, rfl, h⟩
  · rw [b01_f c1, if_pos z00]
    by_cases c2 : a0 < 0
    · rw [if_pos c2]; exact ⟨_, rfl, rfl, h⟩
    · rw [if_neg c2, if_neg (by rw [i_lt 0 (by decide)] at c2; rw [i_lt 256 (by decide)]; omega)]; exact ⟨_, rfl, rfl, h⟩
theorem brk_255 (g : Nat → Nat) : brk g 255 = true := by
  have : pas g 8 0 0 = 0 := Nat.le_zero.mp (pas_le g 8 0 0)
  unfold brk
  rw [show 255 - 255 = 0 from rfl, pasN_fix this]
  rfl
theorem e_feedback {S T : Sg} (h : Rel S T) (a0 : Int32) : ∃ (r : Int32), f_X9_feedback a0 S = some r ∧ f_X10_feedback a0 T = some r ∧ Rel S T := by
  obtain ⟨m1, m2, m3, m4, m5, m6, m7, m8⟩ := h.1
  obtain ⟨g, hg, hsy, h3⟩ := lines_ex h
  unfold f_X9_feedback f_X10_feedback
  rw [in32 a0 0 2 (by decide) (by decide), cl1_s]
  by_cases c1 : 0 ≤ a0.toInt ∧ a0.toInt ≤ 2
  · rw [b01_t c1, if_neg n10, if_neg (by rw [i_lt 0 (by decide)]; omega), if_pos (by rw [i_le 2 (by decide)]; omega)]
    have key : ∀ c i (x y z x' y' z' : Int32) fuel, i + c = 256 → ((x = 9 ∧ y = 0 ∧ z = 0 ∧ x' = 99 ∧ y' = 0 ∧ z' = 0 ∧ ∀ j, j < i → ¬ brk g j = true) ∨ (x' = x ∧ y' = y ∧ z' = z ∧ ∃ k : Nat, k ≤ 10 ∧ x = nI k)) → c < fuel → ∃ u v w, ∀ K, wp4 (X9_feedback_L23 S K) fuel x y z (nI i) = K u v w ∧ wp4 (X10_feedback_L26 T K) fuel x' y' z' (nI i) = K u v w := by
      intro c
      induction c with
      | zero =>
        intro i x y z x' y' z' fuel hi hI hf
        obtain ⟨f, rfl⟩ : ∃ f, fuel = f + 1 := ⟨fuel - 1, by omega⟩
        rcases hI with ⟨-, -, -, -, -, -, hn⟩ | ⟨rfl, rfl, rfl, -⟩
        · exact absurd (brk_255 g) (hn 255 (by omega))
        · refine ⟨x', y', z', fun K => ⟨?_, ?_⟩⟩
          · rw [wp4s]
            unfold X9_feedback_L23
            rw [show (256 : Int32) = nI 256 from rfl, le_p (by omega) (by omega)]
          · rw [wp4s]
            unfold X10_feedback_L26
            rw [show (256 : Int32) = nI 256 from rfl, le_p (by omega) (by omega)]
      | succ c ih =>
        intro i x y z x' y' z' fuel hi hI hf
        obtain ⟨f, rfl⟩ : ∃ f, fuel = f + 1 := ⟨fuel - 1, by omega⟩
        have hpc : pcn i ≤ 8 := by
          rw [← pcn_8 (show i < 256 by omega)]; exact fb_ct_le _ _
        have hC : ∀ K self, X9_feedback_L23 S K self x y z (nI i) = if x < nI (pcn i) then self x y z (nI (i + 1)) else if brk g i = true then (if x ≤ nI (pcn i) then self x y (z + 1) (nI (i + 1)) else self (nI (pcn i)) (nI i) (0 + 1) (nI (i + 1))) else self x y z (nI (i + 1)) := fun K self => by
          unfold X9_feedback_L23
          simp only [jn_e, bv_e]
          rw [show (256 : Int32) = nI 256 from rfl, le_n (by omega) (by omega), bitCount_tab _ (by omega), cl1_s, isBrokenC (by rw [m8]; exact hg) (by omega), cl1_s, nI_1]
          by_cases hb : brk g i = true
          · rw [b01_t hb, if_neg n10, if_pos hb]
          · rw [b01_f hb, if_pos z00, if_neg hb]
        have hM : ∀ K self, X10_feedback_L26 T K self x' y' z' (nI i) = if brk g i = true then (if x' < nI (pcn i) then self x' y' z' (nI (i + 1)) else if x' ≤ nI (pcn i) then self (nI (pcn i)) y' (z' + 1) (nI (i + 1)) else self (nI (pcn i)) (nI i) 1 (nI (i + 1))) else self x' y' z' (nI (i + 1)) := fun K self => by
          unfold X10_feedback_L26
          simp only [jn_e, bv_e]
          rw [show (256 : Int32) = nI 256 from rfl, le_n (by omega) (by omega), many_tab _ (by omega), isBrokenM hg (by omega), cl1_s, nI_1]
          simp only [cl1_s]
          by_cases hb : brk g i = true
          · rw [b01_t hb, if_neg n10, if_pos hb]
            by_cases h1 : x' ≤ nI (pcn i)
            · simp only [if_pos h1]
            · simp only [if_neg h1]
          · rw [b01_f hb, if_pos z00, if_neg hb]
        have hs : ∃ X Y Z X' Y' Z', (∀ K self, X9_feedback_L23 S K self x y z (nI i) = self X Y Z (nI (i + 1))) ∧ (∀ K self, X10_feedback_L26 T K self x' y' z' (nI i) = self X' Y' Z' (nI (i + 1))) ∧ ((X = 9 ∧ Y = 0 ∧ Z = 0 ∧ X' = 99 ∧ Y' = 0 ∧ Z' = 0 ∧ ∀ j, j < i + 1 → ¬ brk g j = true) ∨ (X' = X ∧ Y' = Y ∧ Z' = Z ∧ ∃ k : Nat, k ≤ 10 ∧ X = nI k)) := by
          rcases hI with ⟨rfl, rfl, rfl, rfl, rfl, rfl, hn⟩ | ⟨rfl, rfl, rfl, k, hk, rfl⟩
          · have e9 : ¬ (9 : Int32) < nI (pcn i) := by rw [i_gt 9 (by decide), nI_toInt (by omega)]; omega
            have e9' : ¬ (9 : Int32) ≤ nI (pcn i) := by rw [i_ge 9 (by decide), nI_toInt (by omega)]; omega
            have e99 : ¬ (99 : Int32) < nI (pcn i) := by rw [i_gt 99 (by decide), nI_toInt (by omega)]; omega
            have e99' : ¬ (99 : Int32) ≤ nI (pcn i) := by rw [i_ge 99 (by decide), nI_toInt (by omega)]; omega
            by_cases hb : brk g i = true
            · exact ⟨nI (pcn i), nI i, 0 + 1, nI (pcn i), nI i, 1, fun K self => by rw [hC, if_neg e9, if_pos hb, if_neg e9'], fun K self => by rw [hM, if_pos hb, if_neg e99, if_neg e99'], Or.inr ⟨rfl, rfl, rfl, pcn i, by omega, rfl⟩⟩
            · exact ⟨9, 0, 0, 99, 0, 0, fun K self => by rw [hC, if_neg e9, if_neg hb], fun K self => by rw [hM, if_neg hb], Or.inl ⟨rfl, rfl, rfl, rfl, rfl, rfl, fun j hj => by
                by_cases e : j = i
                · rw [e]; exact hb
                · exact hn j (by omega)⟩⟩
          · by_cases hb : brk g i = true
            · by_cases h1 : k < pcn i
              · have e1 : nI k < nI (pcn i) := (nI_ltI (by omega) (by omega)).mpr h1
                exact ⟨nI k, y', z', nI k, y', z', fun K self => by rw [hC, if_pos e1], fun K self => by rw [hM, if_pos hb, if_pos e1], Or.inr ⟨rfl, rfl, rfl, k, hk, rfl⟩⟩
              · have e1 : ¬ nI k < nI (pcn i) := fun z => h1 ((nI_ltI (by omega) (by omega)).mp z)
                by_cases h2 : k = pcn i
                · have e2 : nI k ≤ nI (pcn i) := nI_le (by omega) (by omega)
                  exact ⟨nI k, y', z' + 1, nI (pcn i), y', z' + 1, fun K self => by rw [hC, if_neg e1, if_pos hb, if_pos e2], fun K self => by rw [hM, if_pos hb, if_neg e1, if_pos e2], Or.inr ⟨by rw [h2], rfl, rfl, k, hk, rfl⟩⟩
                · have e2 : ¬ nI k ≤ nI (pcn i) := nI_ge (by omega) (by omega)
                  exact ⟨nI (pcn i), nI i, 0 + 1, nI (pcn i), nI i, 1, fun K self => by rw [hC, if_neg e1, if_pos hb, if_neg e2], fun K self => by rw [hM, if_pos hb, if_neg e1, if_neg e2], Or.inr ⟨rfl, rfl, rfl, pcn i, by omega, rfl⟩⟩
            · refine ⟨nI k, y', z', nI k, y', z', fun K self => ?_, fun K self => by rw [hM, if_neg hb], Or.inr ⟨rfl, rfl, rfl, k, hk, rfl⟩⟩
              rw [hC, if_neg hb]
              split <;> rfl
        obtain ⟨X, Y, Z, X', Y', Z', r1, r2, r3⟩ := hs
        obtain ⟨u, v, w, r4⟩ := ih (i + 1) X Y Z X' Y' Z' f (by omega) r3 (by omega)
        exact ⟨u, v, w, fun K => ⟨by rw [wp4s, r1]; exact (r4 K).1, by rw [wp4s, r2]; exact (r4 K).2⟩⟩
    obtain ⟨u, v, w, hk⟩ := key 256 0 9 0 0 99 0 0 FU (by omega) (Or.inl ⟨rfl, rfl, rfl, rfl, rfl, rfl, fun _ h => by omega⟩) (FU_n (by omega))
    have e := hk (fun (v1 : Int32) (v2 : Int32) (v3 : Int32) => if a0 = 0 then some v1 else if a0 = 1 then some v2 else some v3)
    rw [show wp4 (X9_feedback_L23 S (fun (v1 : Int32) (v2 : Int32) (v3 : Int32) => if a0 = 0 then some v1 else if a0 = 1 then some v2 else some v3)) FU 9 0 0 (0 : Int32) = _ from e.1, show wp4 (X10_feedback_L26 T (fun (v1 : Int32) (v2 : Int32) (v3 : Int32) => if a0 = 0 then some v1 else if a0 = 1 then some v2 else some v3)) FU 99 0 0 (0 : Int32) = _ from e.2]
    show ∃ r, (if a0 = 0 then some u else if a0 = 1 then some v else some w) = some r ∧ (if a0 = 0 then some u else if a0 = 1 then some v else some w) = some r ∧ Rel S T
    split
    · exact ⟨_, rfl, rfl, h⟩
    · split <;> exact ⟨_, rfl, rfl, h⟩
  · rw [b01_f c1, if_pos z00]
    by_cases c2 : a0 < 0
    · rw [if_pos c2]; exact ⟨_, rfl, rfl, h⟩
    · rw [if_neg c2, if_neg (by rw [i_lt 0 (by decide)] at c2; rw [i_le 2 (by decide)]; omega)]; exact ⟨_, rfl, rfl, h⟩
