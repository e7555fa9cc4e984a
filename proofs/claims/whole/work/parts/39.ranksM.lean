/-! RANK as the reference answers it: its table is cleared by columns -/
theorem rst_nat (n q : Nat) : rst (n : Int) q = n % q := by
  unfold rst
  rw [← Int.natCast_emod]
  exact Int.toNat_natCast _
theorem restN {N q : Nat} (hN : N < 2 ^ 63) (hq : 0 < q) (hq2 : q ≤ 97) : f_X9_restOf (lN N) (nI q) = some (nI (N % q)) := by
  rw [restOf_eq _ hq (by omega), pk_lT hN, rst_nat]
theorem quo_ex {q a b : Nat} (hq : q ∈ primes) (ha : a < q) (hb : b < q) (hb0 : b ≠ 0) : ∃ x, (x < q ∧ x * b % q = a) ∧ ∀ y, y < x → ¬ (y < q ∧ y * b % q = a) := by
  obtain ⟨c, hc, e⟩ := (PrimeQ_of hq).2 b hb hb0
  have h2 := primes_b hq
  obtain ⟨x, h1, h3⟩ := pk_least (fun x => x < q ∧ x * b % q = a) ⟨a * c % q, Nat.mod_lt _ (by omega), by
    rw [Nat.mod_mul_mod, Nat.mul_assoc, Nat.mul_comm c b, Nat.mul_mod, e, Nat.mul_one, Nat.mod_mod, Nat.mod_eq_of_lt ha]⟩
  exact ⟨x, h1, h3⟩
theorem quo_uniq {q a b x y : Nat} (hq : q ∈ primes) (hb : b < q) (hb0 : b ≠ 0) (hx : x < q) (hy : y < q) (ex : x * b % q = a) (ey : y * b % q = a) : x = y := by
  obtain ⟨c, hc, e⟩ := (PrimeQ_of hq).2 b hb hb0
  have h2 := primes_b hq
  have h1 : ∀ z, z < q → z * b % q = a → z = a * c % q := fun z hz ez => by
    rw [← ez, Nat.mod_mul_mod, Nat.mul_assoc, Nat.mul_mod, e, Nat.mul_one, Nat.mod_mod, Nat.mod_eq_of_lt hz]
  rw [h1 x hx ex, h1 y hy ey]
theorem over_eq {T : Sg} {q a b x : Nat} (hq : q ∈ primes) (e0 : T.1 0 0 = nI q) (ha : a < q) (hb : b < q) (hx : x < q ∧ x * b % q = a) (hm : ∀ y, y < x → ¬ (y < q ∧ y * b % q = a)) : f_X10_over (nI a) (nI b) T = some (nI x) := by
  have h2 := primes_b hq
  unfold f_X10_over
  have step : ∀ i, i ≤ x → ∀ self, X10_over_L2 (nI a) (nI b) T self (nI i) = if i * b % q = a then some (nI i) else self (nI (i + 1)) := fun i hi self => by
    unfold X10_over_L2
    have b1 : i * b ≤ 97 * 97 := Nat.mul_le_mul (by omega) (by omega)
    have hl := Nat.mod_lt (i * b) (show 0 < q by omega)
    rw [m_rest, m_rest, e0, nI_l (by omega), nI_l (by omega), nI_l (by omega), lN_mul, restN (by omega) (by omega) (by omega), cl1_s, restN (by omega) (by omega) (by omega), cl1_s, Nat.mod_eq_of_lt ha, bv_e, nI_1]
    simp only [nI_eq (show i * b % q < 2 ^ 31 by omega) (show a < 2 ^ 31 by omega)]
  exact wp1E (F := X10_over_L2 (nI a) (nI b) T) x (fun i => nI i) (fun i hi self => by
    rw [step i (by omega), if_neg (fun z => hm i hi ⟨by omega, z⟩)]) (fun self => by
    rw [step x (Nat.le_refl _), if_pos hx.2]) (FU_n (by omega))
theorem quotient_eq {q a b x : Nat} (hq : q ∈ primes) (ha : a < q) (hb : b < q) (hx : x < q ∧ x * b % q = a) (hm : ∀ y, y < x → ¬ (y < q ∧ y * b % q = a)) : f_X9_quotient (nI a) (nI b) (nI q) = some (nI x) := by
  have h2 := primes_b hq
  unfold f_X9_quotient
  have e1 : nI q - 1 = nI (q - 1) := pk_sub (a := q) (b := 1) (by omega)
  exact wp1E (F := X9_quotient_L2 (nI a) (nI b) (nI q)) x (fun i => nI i) (fun i hi self => by
    have b1 : i * b ≤ 97 * 97 := Nat.mul_le_mul (by omega) (by omega)
    have hl := Nat.mod_lt (i * b) (show 0 < q by omega)
    unfold X9_quotient_L2
    rw [e1, le_n (by omega) (by omega), gd_p (nz_nI (by omega) (by omega)), pk_mul, irm_nI (by omega) (by omega) (by omega), if_neg (fun z => hm i hi ⟨by omega, (nI_eq (by omega) (by omega)).mp z⟩), bv_e, nI_1]) (fun self => by
    have b1 : x * b ≤ 97 * 97 := Nat.mul_le_mul (by omega) (by omega)
    unfold X9_quotient_L2
    by_cases hl : q - 1 ≤ x
    · rw [e1, le_p hl (by omega)]
    · rw [e1, le_n (by omega) (by omega), gd_p (nz_nI (by omega) (by omega)), pk_mul, irm_nI (by omega) (by omega) (by omega), if_pos (by rw [hx.2])]) (FU_n (by omega))
def RowsX (T : Sg) (m w q : Nat) (x : Nat → Nat → Nat) : Prop := ∀ t i, t < m → i < w → x t i < q ∧ T.1 6 (6 * t + i) = nI (x t i)
def SpR (m w q : Nat) (x : Nat → Nat → Nat) : Vc → Prop := Sp w q (fun v => ∃ t, t < m ∧ v = fun i => ((x t i : Nat) : Int))
theorem SpR_gen {m w q : Nat} {x : Nat → Nat → Nat} {t : Nat} (h : t < m) : SpR m w q x (fun i => ((x t i : Nat) : Int)) := Sp_gen ⟨t, h, rfl⟩
theorem SpR_iff {m m' w q : Nat} {x x' : Nat → Nat → Nat} (h1 : ∀ t, t < m → SpR m' w q x' (fun i => ((x t i : Nat) : Int))) (h2 : ∀ t, t < m' → SpR m w q x (fun i => ((x' t i : Nat) : Int))) (v : Vc) : SpR m w q x v ↔ SpR m' w q x' v :=
  Sp_iff (fun g hg => by obtain ⟨t, ht, rfl⟩ := hg; exact h1 t ht) (fun g hg => by obtain ⟨t, ht, rfl⟩ := hg; exact h2 t ht) v
theorem adds_eq {T : Sg} {m w q to fr tm : Nat} {x : Nat → Nat → Nat} (hq : 0 < q) (hq2 : q ≤ 97) (hw : w ≤ 6) (hm : m ≤ 26) (e0 : T.1 0 0 = nI q) (e1 : T.1 0 1 = nI w) (hX : RowsX T m w q x) (hto : to < m) (hfr : fr < m) (hne : to ≠ fr) (htm : tm ≤ 97) :
    ∃ T', f_X10_adds (nI to) (nI fr) (nI tm) T = some T' ∧ Fr 6 T T' ∧ RowsX T' m w q (fun t i => if t = to then (x to i + tm * x fr i) % q else x t i) := by
  unfold f_X10_adds
  obtain ⟨T', ⟨f1, f2, f3⟩, h4⟩ := for2 (F := X10_adds_L3 (nI to) (nI fr) (nI tm)) w (fun j T1 => Fr 6 T T1 ∧ (∀ t i, t < m → i < w → (t ≠ to ∨ j ≤ i) → T1.1 6 (6 * t + i) = nI (x t i)) ∧ ∀ i, i < j → T1.1 6 (6 * to + i) = nI ((x to i + tm * x fr i) % q)) (fun T => some T) (by
    rintro i T1 hi ⟨f1, f2, f3⟩
    refine ⟨si T1 6 (6 * to + i) (nI ((x to i + tm * x fr i) % q)), ⟨Fr_w f1 _ _, ?_, ?_⟩, ?_⟩
    · intro t a ht ha hc
      rw [si_same, upd_n _ _ (by omega)]
      exact f2 t a ht ha (by omega)
    · intro a ha
      by_cases he : a = i
      · subst he; rw [si_same, upd_s]
      · rw [si_same, upd_n _ _ (by omega)]; exact f3 a (by omega)
    · intro self
      have x1 := (hX to i hto hi).1
      have x2 := (hX fr i hfr hi).1
      have b1 : tm * x fr i ≤ 97 * 97 := Nat.mul_le_mul htm (by omega)
      unfold X10_adds_L3
      rw [f1.1 0 (by decide), e1, le_n hi (by omega), mm6, mm6, inb_p (by omega) (by omega), inb_p (by omega) (by omega), m_rest, f1.1 0 (by decide), e0, ix_nI (by omega), ix_nI (by omega), f2 to i hto hi (Or.inr (Nat.le_refl _)), f2 fr i hfr hi (Or.inl (by omega)), nI_l (by omega), nI_l (by omega), nI_l (by omega), lN_mul, lN_add, restN (by omega) hq hq2, cl1_s, inb_p (by omega) (by omega), bv_e, bv_e, nI_1]) (by
    rintro T1 hJ self
    unfold X10_adds_L3
    rw [hJ.1.1 0 (by decide), e1, le_p (Nat.le_refl _) (by omega)]) (i0 := 0) (S0 := T) ⟨Fr.rf _ _, fun t i ht hi _ => (hX t i ht hi).2, fun i h => by omega⟩ (by omega) (FU_n (by omega))
  refine ⟨T', h4, f1, fun t i ht hi => ?_⟩
  dsimp only
  by_cases he : t = to
  · rw [if_pos he, he]; exact ⟨Nat.mod_lt _ hq, f3 i hi⟩
  · rw [if_neg he]; exact ⟨(hX t i ht hi).1, f2 t i ht hi (Or.inl he)⟩
theorem changes_eq {T : Sg} {m w q a b : Nat} {x : Nat → Nat → Nat} (hw : w ≤ 6) (hm : m ≤ 26) (e1 : T.1 0 1 = nI w) (hX : RowsX T m w q x) (ha : a < m) (hb : b < m) :
    ∃ T', f_X10_changes (nI a) (nI b) T = some T' ∧ Fr 6 T T' ∧ RowsX T' m w q (fun t i => if t = a then x b i else if t = b then x a i else x t i) := by
  unfold f_X10_changes
  obtain ⟨T', ⟨f1, f2, f3⟩, h4⟩ := for2 (F := X10_changes_L2 (nI a) (nI b)) w (fun j T1 => Fr 6 T T1 ∧ (∀ t i, t < m → i < w → j ≤ i → T1.1 6 (6 * t + i) = nI (x t i)) ∧ ∀ t i, t < m → i < j → T1.1 6 (6 * t + i) = nI (if t = a then x b i else if t = b then x a i else x t i)) (fun T => some T) (by
    rintro i T1 hi ⟨f1, f2, f3⟩
    refine ⟨si (si T1 6 (6 * a + i) (nI (x b i))) 6 (6 * b + i) (nI (x a i)), ⟨Fr_w (Fr_w f1 _ _) _ _, ?_, ?_⟩, ?_⟩
    · intro t c ht hc hj
      rw [si_same, upd_n _ _ (by omega), si_same, upd_n _ _ (by omega)]
      exact f2 t c ht hc (by omega)
    · intro t c ht hc
      by_cases he : c = i
      · subst he
        by_cases hta : t = a
        · rw [if_pos hta]
          by_cases hab : a = b
          · rw [si_same, hta, hab, upd_s]
          · rw [si_same, upd_n _ _ (by omega), si_same, hta, upd_s]
        · rw [if_neg hta]
          by_cases htb : t = b
          · rw [if_pos htb, si_same, htb, upd_s]
          · rw [if_neg htb, si_same, upd_n _ _ (by omega), si_same, upd_n _ _ (by omega)]
            exact f2 t c ht hi (by omega)
      · rw [si_same, upd_n _ _ (by omega), si_same, upd_n _ _ (by omega)]
        exact f3 t c ht (by omega)
    · intro self
      unfold X10_changes_L2
      rw [f1.1 0 (by decide), e1, le_n hi (by omega), mm6, mm6, inb_p (by omega) (by omega), bv_e, inb_p (by omega) (by omega), inb_p (by omega) (by omega), bv_e, inb_p (by omega) (by omega), bv_e, bv_e, ix_nI (by omega), ix_nI (by omega), f2 a i ha hi (Nat.le_refl _), f2 b i hb hi (Nat.le_refl _), nI_1]) (by
    rintro T1 hJ self
    unfold X10_changes_L2
    rw [hJ.1.1 0 (by decide), e1, le_p (Nat.le_refl _) (by omega)]) (i0 := 0) (S0 := T) ⟨Fr.rf _ _, fun t i ht hi _ => (hX t i ht hi).2, fun t i _ h => by omega⟩ (by omega) (FU_n (by omega))
  refine ⟨T', h4, f1, fun t i ht hi => ⟨?_, f3 t i ht hi⟩⟩
  dsimp only
  split
  · exact (hX b i hb hi).1
  · split
    · exact (hX a i ha hi).1
    · exact (hX t i ht hi).1
theorem find_eq {T : Sg} {m w q i rank : Nat} {y : Nat → Nat → Nat} (hw : w ≤ 6) (hm : m ≤ 26) (hi : i < w) (hr : rank ≤ m) (hq2 : q ≤ 97) (e9 : T.1 0 9 = nI m) (hX : RowsX T m w q y) :
    ∃ r, rank ≤ r ∧ r ≤ m ∧ (∀ t, rank ≤ t → t < r → y t i = 0) ∧ (r < m → y r i ≠ 0) ∧ ∀ k, wp1 (X10_ranks_L22 (nI i) T k) FU (nI rank) = k (nI r) := by
  obtain ⟨r, ⟨h1, h2, h3⟩, h4⟩ := pk_least (fun r => rank ≤ r ∧ r ≤ m ∧ (r < m → y r i ≠ 0)) ⟨m, hr, Nat.le_refl _, fun h => by omega⟩
  have h5 : ∀ t, rank ≤ t → t < r → y t i = 0 := fun t ht htr => by
    by_cases hz : y t i = 0
    · exact hz
    · exact absurd ⟨ht, by omega, fun _ => hz⟩ (h4 t htr)
  refine ⟨r, h1, h2, h5, h3, fun k => ?_⟩
  have := wp1E (F := X10_ranks_L22 (nI i) T k) (r - rank) (fun j => nI (rank + j)) (X := k (nI r)) (fun j hj self => by
    unfold X10_ranks_L22
    rw [e9, le_n (by omega) (by omega), mm6, inb_p (by omega) (by omega), ix_nI (by omega), (hX (rank + j) i (by omega) hi).2, h5 (rank + j) (by omega) (by omega), if_pos nI_0, bv_e, nI_1]; rfl) (fun self => by
    unfold X10_ranks_L22
    rw [show rank + (r - rank) = r by omega, e9]
    by_cases hrm : r < m
    · have hy := (hX r i hrm hi).1
      rw [le_n hrm (by omega), mm6, inb_p (by omega) (by omega), ix_nI (by omega), (hX r i hrm hi).2, if_neg (nI_ne0 (Nat.pos_of_ne_zero (h3 hrm)) (by omega))]
    · rw [le_p (by omega) (by omega)]) (fuel := FU) (FU_n (by omega))
  exact this
