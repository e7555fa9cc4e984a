/-! the class's elimination -/
theorem for2 {ρ : Type} {F : (Int32 → Sg → Option ρ) → Int32 → Sg → Option ρ} (n : Nat) (J : Nat → Sg → Prop) (exit : Sg → Option ρ) (hs : ∀ i S, i < n → J i S → ∃ S', J (i + 1) S' ∧ ∀ self, F self (nI i) S = self (nI (i + 1)) S') (he : ∀ S, J n S → ∀ self, F self (nI n) S = exit S) {i0 : Nat} {S0 : Sg} (h0 : J i0 S0) (hi : i0 ≤ n) {fuel : Nat} (hf : n < fuel) : ∃ S', J n S' ∧ wp2 F fuel (nI i0) S0 = exit S' := by
  obtain ⟨r, ⟨S', h1, h2⟩, h3⟩ := wp2R (F := F) (fun c v S => ∃ i, i + c = n ∧ v = nI i ∧ J i S) (fun r => ∃ S', J n S' ∧ r = exit S') (by
    rintro c v S ⟨i, hi, rfl, hJ⟩
    rcases Nat.eq_zero_or_pos c with h | h
    · have e : i = n := by omega
      subst e
      exact Or.inl ⟨exit S, ⟨S, hJ, rfl⟩, he S hJ⟩
    · obtain ⟨S', q1, q2⟩ := hs i S (by omega) hJ
      exact Or.inr ⟨c - 1, nI (i + 1), S', by omega, ⟨i + 1, by omega, rfl, q1⟩, q2⟩) fuel (n - i0) (nI i0) S0 (by omega) ⟨i0, by omega, rfl, h0⟩
  exact ⟨S', h1, by rw [h3, h2]⟩
theorem ma6 (a b : Nat) : nI a * 6 + nI b = nI (a * 6 + b) := by rw [show (6 : Int32) = nI 6 from rfl, pk_mul, nI_add]
theorem ma12 (a b : Nat) : nI a * 12 + nI b = nI (a * 12 + b) := by rw [show (12 : Int32) = nI 12 from rfl, pk_mul, nI_add]
theorem ma126 (a b : Nat) : nI a * 12 + 6 + nI b = nI (a * 12 + 6 + b) := by rw [show (12 : Int32) = nI 12 from rfl, show (6 : Int32) = nI 6 from rfl, pk_mul, nI_add, nI_add]
theorem m12 (a : Nat) : nI a * 12 = nI (a * 12) := by rw [show (12 : Int32) = nI 12 from rfl, pk_mul]
theorem m126 (a : Nat) : nI a * 12 + 6 = nI (a * 12 + 6) := by rw [show (12 : Int32) = nI 12 from rfl, show (6 : Int32) = nI 6 from rfl, pk_mul, nI_add]
theorem FU_n {n : Nat} (h : n < 2000) : n < FU := h
theorem inb_p {a n : Nat} {α : Type} {k : Option α} (h : a < n) (hn : n < 2 ^ 31) : gd (inb (nI a) n) k = k := gd_p (inb_nI h hn)
theorem le_p {a b : Nat} {α : Type} {x y : α} (h : a ≤ b) (hb : b < 2 ^ 31) : (if nI a ≤ nI b then x else y) = x := if_pos (nI_le h hb)
theorem le_n {a b : Nat} {α : Type} {x y : α} (h : b < a) (ha : a < 2 ^ 31) : (if nI a ≤ nI b then x else y) = y := if_neg (nI_ge h ha)
theorem irm_nI {a d : Nat} (ha : a < 2 ^ 31) (h0 : 0 < d) (hd : d < 2 ^ 31) : irm (nI a) (nI d) = nI (a % d) := pk_rem ha h0 hd
/-- only an int row k has changed -/
def Fr (k : Nat) (S S' : Sg) : Prop := (∀ a, a ≠ k → S'.1 a = S.1 a) ∧ S'.2 = S.2
theorem Fr.rf (k : Nat) (S : Sg) : Fr k S S := ⟨fun _ _ => rfl, rfl⟩
theorem Fr_w {k : Nat} {S S1 : Sg} (h : Fr k S S1) (j : Nat) (v : Int32) : Fr k S (si S1 k j v) := ⟨fun a ha => by rw [si_ne _ _ _ ha]; exact h.1 a ha, h.2⟩
theorem clearPlace_eq {S : Sg} {k c q w : Nat} {W K : Nat → Nat} (hq : 0 < q) (hq2 : q ≤ 97) (hw : w ≤ 6) (hc : c < w) (e1 : S.1 k 1 = nI q) (e2 : S.1 k 2 = nI w) (hW : ∀ i, i < w → W i < q ∧ S.1 (k + 3) i = nI (W i)) (hK : ∀ i, i < w → K i < q ∧ S.1 (k + 1) (c * 6 + i) = nI (K i)) :
    ∃ S', f_X0_clearPlace k (nI c) S = some S' ∧ Fr (k + 3) S S' ∧ (∀ i, i < c → S'.1 (k + 3) i = S.1 (k + 3) i) ∧ ∀ i, c ≤ i → i < w → S'.1 (k + 3) i = nI ((W i * K c + (q - W c) * K i) % q) := by
  unfold f_X0_clearPlace
  obtain ⟨w1, w2⟩ := hW c hc
  obtain ⟨k1, k2⟩ := hK c hc
  rw [inb_p (by omega) (by omega), bv_e, ix_nI (by omega), w2, e1, pk_sub (by omega)]
  rw [ma6, inb_p (by omega) (by omega), bv_e, ix_nI (by omega), k2]
  obtain ⟨S', ⟨-, h1, h2, h3⟩, h4⟩ := for2 (F := X0_clearPlace_L27 k (nI c) (nI (q - W c)) (nI (K c))) w (fun j S1 => c ≤ j ∧ Fr (k + 3) S S1 ∧ (∀ i, i < c ∨ j ≤ i → S1.1 (k + 3) i = S.1 (k + 3) i) ∧ ∀ i, c ≤ i → i < j → S1.1 (k + 3) i = nI ((W i * K c + (q - W c) * K i) % q)) (fun S => some S) (by
    rintro i S1 hi ⟨hci, f1, f2, f3⟩
    refine ⟨si S1 (k + 3) i (nI ((W i * K c + (q - W c) * K i) % q)), ⟨by omega, Fr_w f1 _ _, ?_, ?_⟩, ?_⟩
    · intro a ha
      rw [si_same, upd_n _ _ (by omega)]
      exact f2 a (by omega)
    · intro a h1 h2
      by_cases he : a = i
      · subst he; rw [si_same, upd_s]
      · rw [si_same, upd_n _ _ he]; exact f3 a h1 (by omega)
    · intro self
      obtain ⟨x1, x2⟩ := hW i hi
      obtain ⟨y1, y2⟩ := hK i hi
      have b1 : W i * K c ≤ 96 * 96 := Nat.mul_le_mul (by omega) (by omega)
      have b2 : (q - W c) * K i ≤ 97 * 96 := Nat.mul_le_mul (by omega) (by omega)
      unfold X0_clearPlace_L27
      rw [f1.1 k (by omega), e2, le_n hi (by omega), inb_p (by omega) (by omega), f1.1 (k + 1) (by omega), e1, ma6]
      simp only [inb_nI (show i < 6 by omega) (show 6 < 2 ^ 31 by decide), inb_nI (show c * 6 + i < 36 by omega) (show 36 < 2 ^ 31 by decide), gd_t, bv_e, ix_nI (show i < 2 ^ 31 by omega), ix_nI (show c * 6 + i < 2 ^ 31 by omega)]
      rw [f2 i (by omega), x2, y2, pk_mul, pk_mul, nI_add, nz_nI (by omega) (by omega), gd_t, irm_nI (by omega) (by omega) (by omega), nI_1]) (by
    rintro S1 hJ self
    unfold X0_clearPlace_L27
    rw [hJ.2.1.1 k (by omega), e2, le_p (Nat.le_refl _) (by omega)]) (i0 := c) (S0 := S) ⟨Nat.le_refl _, Fr.rf _ _, fun _ _ => rfl, fun i h1 h2 => by omega⟩ (by omega) (FU_n (by omega))
  exact ⟨S', h4, h1, fun i hi => h2 i (Or.inl hi), fun i h5 h6 => h3 i h5 h6⟩
theorem zb_1 : zb 1 = 1 := by decide
theorem zb_0 : zb 0 = 0 := by decide
theorem keepWork_eq {S : Sg} {k c w sz : Nat} (hw : w ≤ 6) (hc : c < w) (e0 : S.1 k 0 = nI sz) (e2 : S.1 k 2 = nI w) :
    ∃ S', f_X0_keepWork k (nI c) S = some S' ∧ (∀ a, a ≠ k → a ≠ k + 1 → a ≠ k + 2 → S'.1 a = S.1 a) ∧ S'.2 = S.2 ∧ S'.1 k = upd (S.1 k) 0 (nI (sz + 1)) ∧ S'.1 (k + 2) = upd (S.1 (k + 2)) c 1 ∧ (∀ i, i < w → S'.1 (k + 1) (c * 6 + i) = S.1 (k + 3) i) ∧ ∀ j, (j < c * 6 ∨ c * 6 + w ≤ j) → S'.1 (k + 1) j = S.1 (k + 1) j := by
  unfold f_X0_keepWork
  rw [inb_p (by omega) (by omega), bv_e, bv_e, ix_nI (by omega), zb_1, si_ne _ _ _ (show k ≠ k + 2 by omega), e0, nI_1]
  generalize hS0 : si (si S (k + 2) c 1) k 0 (nI (sz + 1)) = S0
  have z1 : ∀ a, a ≠ k → a ≠ k + 2 → S0.1 a = S.1 a := fun a h1 h2 => by rw [← hS0, si_ne _ _ _ h1, si_ne _ _ _ h2]
  have z2 : S0.2 = S.2 := by rw [← hS0]; rfl
  have z3 : S0.1 k = upd (S.1 k) 0 (nI (sz + 1)) := by rw [← hS0, si_same, si_ne _ _ _ (by omega)]
  have z4 : S0.1 (k + 2) = upd (S.1 (k + 2)) c 1 := by rw [← hS0, si_ne _ _ _ (by omega), si_same]
  obtain ⟨S', ⟨h1, h2, h3⟩, h4⟩ := for2 (F := X0_keepWork_L19 k (nI c)) w (fun j S1 => Fr (k + 1) S0 S1 ∧ (∀ i, i < j → S1.1 (k + 1) (c * 6 + i) = S.1 (k + 3) i) ∧ ∀ i, (i < c * 6 ∨ c * 6 + j ≤ i) → S1.1 (k + 1) i = S.1 (k + 1) i) (fun S => some S) (by
    rintro i S1 hi ⟨f1, f2, f3⟩
    refine ⟨si S1 (k + 1) (c * 6 + i) (S.1 (k + 3) i), ⟨Fr_w f1 _ _, ?_, ?_⟩, ?_⟩
    · intro a ha
      by_cases he : a = i
      · subst he; rw [si_same, upd_s]
      · rw [si_same, upd_n _ _ (by omega)]; exact f2 a (by omega)
    · intro a ha
      rw [si_same, upd_n _ _ (by omega)]
      exact f3 a (by omega)
    · intro self
      unfold X0_keepWork_L19
      rw [f1.1 k (by omega), z3, upd_n _ _ (by omega), e2, le_n hi (by omega), inb_p (by omega) (by omega), ma6, inb_p (by omega) (by omega), bv_e, bv_e, ix_nI (by omega), ix_nI (by omega), f1.1 (k + 3) (by omega), z1 (k + 3) (by omega) (by omega), nI_1]) (by
    rintro S1 hJ self
    unfold X0_keepWork_L19
    rw [hJ.1.1 k (by omega), z3, upd_n _ _ (by omega), e2, le_p (Nat.le_refl _) (by omega)]) (i0 := 0) (S0 := S0) ⟨Fr.rf _ _, fun i h => by omega, fun i _ => by rw [z1 (k + 1) (by omega) (by omega)]⟩ (by omega) (FU_n (by omega))
  exact ⟨S', h4, fun a q1 q2 q3 => by rw [h1.1 a q2, z1 a q1 q3], by rw [h1.2, z2], by rw [h1.1 k (by omega), z3], by rw [h1.1 (k + 2) (by omega), z4], h2, h3⟩
/-- a basis by its flags and rows, and what it is made of -/
def bB (S : Sg) (k c : Nat) : Bool := decide (S.1 (k + 2) c ≠ 0)
def bK (S : Sg) (k c : Nat) : Vc := fun i => (S.1 (k + 1) (c * 6 + i)).toInt
def BInv (S : Sg) (k q w lo : Nat) (G : Vc → Prop) : Prop :=
  S.1 k 1 = nI q ∧ S.1 k 2 = nI w ∧ S.1 k 3 = nI lo ∧ S.1 k 0 = nI (fb_ct (bB S k) w) ∧ (∀ c, c < w → bB S k c = true → (∀ i, i < w → ∃ a, a < q ∧ S.1 (k + 1) (c * 6 + i) = nI a) ∧ (∀ i, i < c → bK S k c i = 0) ∧ bK S k c c ≠ 0) ∧
  ∀ v, Sp w q G v ↔ Sp w q (fun v => ∃ c, c < w ∧ bB S k c = true ∧ v = bK S k c) v
theorem toInt_nI0 {a : Nat} (h : a < 2 ^ 31) : (nI a).toInt = 0 ↔ a = 0 := by rw [nI_toInt h]; omega
theorem ndvd {q a : Nat} (h : a < q) (h0 : a ≠ 0) : ¬ (q : Int) ∣ (a : Int) := fun ⟨c, e⟩ => by
  have h1 : (a : Int) < q := by omega
  rcases Int.lt_trichotomy c 0 with hc | hc | hc
  · have : (q : Int) * c ≤ (q : Int) * (-1) := Int.mul_le_mul_of_nonneg_left (by omega) (by omega)
    omega
  · subst hc; simp at e; omega
  · have : (q : Int) * 1 ≤ (q : Int) * c := Int.mul_le_mul_of_nonneg_left (by omega) (by omega)
    omega
theorem BInv.lead {S : Sg} {k q w lo : Nat} {G : Vc → Prop} (h : BInv S k q w lo G) (hw : w ≤ 6) (hq : q ≤ 97) (c : Nat) (hc : c < w) (hB : bB S k c = true) : (∀ i, i < c → (q : Int) ∣ bK S k c i) ∧ ¬ (q : Int) ∣ bK S k c c := by
  obtain ⟨h1, h2, h3⟩ := h.2.2.2.2.1 c hc hB
  refine ⟨fun i hi => by rw [h2 i hi]; exact Int.dvd_zero _, ?_⟩
  obtain ⟨a, ha, e⟩ := h1 c hc
  have e2 : bK S k c c = (a : Int) := by unfold bK; rw [e, nI_toInt (by omega)]
  rw [e2] at h3 ⊢
  exact ndvd ha (by omega)
/-- rest's prime -/
def PrimeQ (q : Nat) : Prop := (∀ a b : Int, (q : Int) ∣ a * b → (q : Int) ∣ a ∨ (q : Int) ∣ b) ∧ ∀ a : Nat, a < q → a ≠ 0 → ∃ b : Nat, b < q ∧ a * b % q = 1
theorem BInv.rank {S : Sg} {k q w lo : Nat} {G : Vc → Prop} (h : BInv S k q w lo G) (hw : w ≤ 6) (hq : q ≤ 97) (hp : PrimeQ q) (c : Nat) (hc : c < w) : Lset q (Sp w q G) c ↔ bB S k c = true :=
  (Lset_c h.2.2.2.2.2 c).trans (ech hp.1 (bB S k) (bK S k) (h.lead hw hq) c hc)
