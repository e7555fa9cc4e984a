/-! the ROWS of PAIRS -/
theorem for2k {ρ κ : Type} {F : κ → (Int32 → Sg → Option ρ) → Int32 → Sg → Option ρ} (ex : κ → Sg → Option ρ) (n : Nat) (J : Nat → Sg → Prop) (hs : ∀ i S, i < n → J i S → ∃ S', J (i + 1) S' ∧ ∀ k self, F k self (nI i) S = self (nI (i + 1)) S') (he : ∀ S, J n S → ∀ k self, F k self (nI n) S = ex k S) : ∀ {i0 : Nat} {S0 : Sg}, J i0 S0 → i0 ≤ n → ∀ {fuel : Nat}, n < fuel + i0 → ∃ S', J n S' ∧ ∀ k, wp2 (F k) fuel (nI i0) S0 = ex k S' := by
  have key : ∀ (c i0 : Nat) (S0 : Sg) (fuel : Nat), i0 + c = n → J i0 S0 → c < fuel → ∃ S', J n S' ∧ ∀ k, wp2 (F k) fuel (nI i0) S0 = ex k S' := by
    intro c
    induction c with
    | zero =>
      intro i0 S0 fuel h1 h2 h3
      obtain ⟨f, rfl⟩ : ∃ f, fuel = f + 1 := ⟨fuel - 1, by omega⟩
      have e : i0 = n := by omega
      subst e
      exact ⟨S0, h2, fun k => by rw [wp2s]; exact he S0 h2 k _⟩
    | succ c ih =>
      intro i0 S0 fuel h1 h2 h3
      obtain ⟨f, rfl⟩ : ∃ f, fuel = f + 1 := ⟨fuel - 1, by omega⟩
      obtain ⟨S1, q1, q2⟩ := hs i0 S0 (by omega) h2
      obtain ⟨S', q3, q4⟩ := ih (i0 + 1) S1 f (by omega) q1 (by omega)
      exact ⟨S', q3, fun k => by rw [wp2s, q2]; exact q4 k⟩
  intro i0 S0 h0 hi fuel hf
  exact key (n - i0) i0 S0 fuel (by omega) h0 (by omega)
def bs32 (k a b : Int32) (row i : Nat) : Int32 := if row = 0 then (if k = 2 then b else if k = 4 then (if i = 0 then 0 else b) else a) else (if k = 1 then a + b else if k = 2 then a else if k = 3 then a + b + a else if k = 4 then a else if k = 5 then a else b)
def rv (q : Nat) (ki en : Nat → Int32) (p row i : Nat) : Nat := rst (bs32 (ki p) (en (p * 12 + i)) (en (p * 12 + 6 + i)) row i).toInt q
theorem rv_lt {q : Nat} (h : 0 < q) (ki en : Nat → Int32) (p row i : Nat) : rv q ki en p row i < q := rst_lt _ h
theorem nI_0p {a : Nat} (h : a < 2 ^ 31) : nI a = 0 ↔ a = 0 := by
  rw [show (0 : Int32) = nI 0 from nI_0.symm, nI_eq h (by decide)]
theorem nI_1p {a : Nat} (h : a < 2 ^ 31) : nI a = 1 ↔ a = 1 := by
  rw [show (1 : Int32) = nI 1 from rfl, nI_eq h (by decide)]
theorem rowNumber_eq {S : Sg} {q p row i : Nat} (hq : 0 < q) (hq2 : q ≤ 97) (e0 : S.1 1 0 = nI q) (hp : p < 10) (hr : row < 2) (hi : i < 6) : f_X2_rowNumber (nI p) (nI row) (nI i) S = some (nI (rv q (S.1 2) (S.1 5) p row i)) := by
  unfold f_X2_rowNumber
  rw [ma12, ma126, inb_p (by omega) (by omega), bv_e, inb_p (by omega) (by omega), bv_e, inb_p (by omega) (by omega), bv_e, ix_nI (by omega), ix_nI (by omega), ix_nI (by omega), e0, jn_e]
  simp only [restOf_eq _ hq (show q < 2 ^ 30 by omega), cl1_s, Int32.toInt_toInt64, nI_0p (show row < 2 ^ 31 by omega)]
  by_cases h : row = 0
  · subst h
    rw [if_pos rfl]
    unfold f_X2_inFirst rv bs32
    rw [if_pos rfl]
    simp only [nI_0p (show i < 2 ^ 31 by omega)]
    split
    · rw [cl1_s]
    · split
      · split
        · rw [cl1_s]
        · rw [cl1_s]
      · rw [cl1_s]
  · rw [if_neg h]
    unfold f_X2_inSecond rv bs32
    rw [if_neg h]
    repeat' split
    all_goals rw [cl1_s]
theorem mm12 (a b : Nat) : 12 * nI a + nI b = nI (a * 12 + b) := by rw [show (12 : Int32) = nI 12 from rfl, pk_mul, nI_add, Nat.mul_comm]
theorem mm126 (a b : Nat) : 12 * nI a + 6 + nI b = nI (a * 12 + 6 + b) := by rw [show (12 : Int32) = nI 12 from rfl, show (6 : Int32) = nI 6 from rfl, pk_mul, nI_add, nI_add, Nat.mul_comm]
theorem mm6 (a b : Nat) : 6 * nI a + nI b = nI (6 * a + b) := by rw [show (6 : Int32) = nI 6 from rfl, pk_mul, nI_add]
theorem m_rest (v : Int64) (T : Sg) : f_X10_rest v T = f_X9_restOf v (T.1 0 0) := rfl
theorem numberOf_eq {T : Sg} {q p row i : Nat} (hq : 0 < q) (hq2 : q ≤ 97) (e0 : T.1 0 0 = nI q) (hp : p < 10) (hr : row < 2) (hi : i < 6) : f_X10_numberOf (nI p) (nI row) (nI i) T = some (nI (rv q (T.1 1) (T.1 4) p row i)) := by
  unfold f_X10_numberOf
  rw [mm12, mm126, inb_p (by omega) (by omega), bv_e, inb_p (by omega) (by omega), bv_e, inb_p (by omega) (by omega), bv_e, ix_nI (by omega), ix_nI (by omega), ix_nI (by omega)]
  simp only [m_rest, e0, jn_e, restOf_eq _ hq (show q < 2 ^ 30 by omega), cl1_s, Int32.toInt_toInt64, nI_0p (show row < 2 ^ 31 by omega), nI_1p (show row < 2 ^ 31 by omega), nI_0p (show i < 2 ^ 31 by omega)]
  unfold rv bs32
  by_cases h : row = 0
  · subst h
    simp only [if_true]
    by_cases c1 : T.1 1 p = 1
    · rw [c1]; simp
    · by_cases c2 : T.1 1 p = 2
      · rw [c2]; simp
      · by_cases c3 : T.1 1 p = 3
        · rw [c3]; simp
        · by_cases c4 : T.1 1 p = 4
          · rw [c4]; simp
            split <;> simp
          · simp [c1, c2, c3, c4]
  · have h1 : row = 1 := by omega
    subst h1
    by_cases c1 : T.1 1 p = 1
    · rw [c1]; simp
    · by_cases c2 : T.1 1 p = 2
      · rw [c2]; simp
      · by_cases c3 : T.1 1 p = 3
        · rw [c3]; simp
        · by_cases c4 : T.1 1 p = 4
          · rw [c4]; simp
          · by_cases c5 : T.1 1 p = 5
            · rw [c5]; simp
            · simp [c1, c2, c3, c4, c5]
/-- ROWS are filled: what there is then -/
def Filled (S : Sg) (q w n : Nat) (ki en : Nat → Int32) : Prop := S.1 13 0 = nI q ∧ S.1 13 1 = nI w ∧ S.1 13 2 = nI n ∧ ∀ p row i, p < n → row < 2 → i < w → S.1 14 (p * 12 + row * 6 + i) = nI (rv q ki en p row i)
theorem fill_eq {S : Sg} {q w n : Nat} (hq : 0 < q) (hq2 : q ≤ 97) (hw : w ≤ 6) (hn : n ≤ 10) (e0 : S.1 1 0 = nI q) (e1 : S.1 1 1 = nI w) (e2 : S.1 1 2 = nI n) :
    ∃ S', f_X5_fill S = some S' ∧ Filled S' q w n (S.1 2) (S.1 5) ∧ (∀ a, a ≠ 13 → a ≠ 14 → S'.1 a = S.1 a) ∧ S'.2 = S.2 := by
  unfold f_X5_fill
  rw [bv_e, bv_e, bv_e, e0]
  rw [si_ne _ _ _ (show (1 : Nat) ≠ 13 by decide), e1, si_ne _ _ _ (show (1 : Nat) ≠ 13 by decide), si_ne _ _ _ (show (1 : Nat) ≠ 13 by decide), e2]
  generalize hS0 : si (si (si S 13 0 (nI q)) 13 1 (nI w)) 13 2 (nI n) = S0
  have z1 : ∀ a, a ≠ 13 → S0.1 a = S.1 a := fun a h => by rw [← hS0, si_ne _ _ _ h, si_ne _ _ _ h, si_ne _ _ _ h]
  have z2 : S0.2 = S.2 := by rw [← hS0]; rfl
  have y0 : S0.1 13 0 = nI q := by rw [← hS0]; simp [si_same, upd]
  have y1 : S0.1 13 1 = nI w := by rw [← hS0]; simp [si_same, upd]
  have y2 : S0.1 13 2 = nI n := by rw [← hS0]; simp [si_same, upd]
  obtain ⟨S', ⟨f1, f2⟩, h4⟩ := for2 (F := X5_fill_L26) n (fun j S1 => Fr 14 S0 S1 ∧ ∀ p row i, p < j → row < 2 → i < w → S1.1 14 (p * 12 + row * 6 + i) = nI (rv q (S.1 2) (S.1 5) p row i)) (fun S => some S) (by
    rintro p S1 hp ⟨f1, f2⟩
    -- the inner loop
    have inner : ∃ S2, (Fr 14 S0 S2 ∧ (∀ p' row i, p' < p → row < 2 → i < w → S2.1 14 (p' * 12 + row * 6 + i) = nI (rv q (S.1 2) (S.1 5) p' row i)) ∧ ∀ row i, row < 2 → i < w → S2.1 14 (p * 12 + row * 6 + i) = nI (rv q (S.1 2) (S.1 5) p row i)) ∧ ∀ k : Sg → Option Sg, wp2 (X5_fill_L36 (nI p) k) FU (nI 0) S1 = k S2 := by
      exact for2k (F := fun k => X5_fill_L36 (nI p) k) (fun k S => k S) w (fun j S2 => Fr 14 S0 S2 ∧ (∀ p' row i, p' < p → row < 2 → i < w → S2.1 14 (p' * 12 + row * 6 + i) = nI (rv q (S.1 2) (S.1 5) p' row i)) ∧ ∀ row i, row < 2 → i < j → S2.1 14 (p * 12 + row * 6 + i) = nI (rv q (S.1 2) (S.1 5) p row i)) (by
        rintro i S2 hi ⟨g1, g2, g3⟩
        refine ⟨si (si S2 14 (p * 12 + i) (nI (rv q (S.1 2) (S.1 5) p 0 i))) 14 (p * 12 + 6 + i) (nI (rv q (S.1 2) (S.1 5) p 1 i)), ⟨Fr_w (Fr_w g1 _ _) _ _, ?_, ?_⟩, ?_⟩
        · intro p' row a hp' hr ha
          rw [si_same, upd_n _ _ (by omega), si_same, upd_n _ _ (by omega)]
          exact g2 p' row a hp' hr ha
        · intro row a hr ha
          by_cases he : a = i
          · subst he
            rcases (show row = 0 ∨ row = 1 by omega) with rfl | rfl
            · rw [si_same, upd_n _ _ (by omega), si_same, show p * 12 + 0 * 6 + a = p * 12 + a by omega, upd_s]
            · rw [si_same, show p * 12 + 1 * 6 + a = p * 12 + 6 + a by omega, upd_s]
          · rw [si_same, upd_n _ _ (by omega), si_same, upd_n _ _ (by omega)]
            exact g3 row a hr (by omega)
        · intro k self2
          unfold X5_fill_L36
          have c0 : S2.1 1 0 = nI q := by rw [g1.1 1 (by decide), z1 1 (by decide), e0]
          have r0 := rowNumber_eq (S := S2) hq hq2 c0 (show p < 10 by omega) (show 0 < 2 by decide) (show i < 6 by omega)
          rw [g1.1 2 (by decide), z1 2 (by decide), g1.1 5 (by decide), z1 5 (by decide)] at r0
          rw [g1.1 13 (by decide), y1, le_n hi (by omega), show f_X2_rowNumber (nI p) 0 (nI i) S2 = _ from r0, cl1_s, ma12, inb_p (by omega) (by omega), bv_e, ix_nI (by omega)]
          have c1 : (si S2 14 (p * 12 + i) (nI (rv q (S.1 2) (S.1 5) p 0 i))).1 1 0 = nI q := by rw [si_ne _ _ _ (by decide)]; exact c0
          have r1 := rowNumber_eq (S := si S2 14 (p * 12 + i) (nI (rv q (S.1 2) (S.1 5) p 0 i))) hq hq2 c1 (show p < 10 by omega) (show 1 < 2 by decide) (show i < 6 by omega)
          rw [si_ne _ _ _ (by decide), si_ne _ _ _ (by decide), g1.1 2 (by decide), z1 2 (by decide), g1.1 5 (by decide), z1 5 (by decide)] at r1
          rw [show f_X2_rowNumber (nI p) 1 (nI i) (si S2 14 (p * 12 + i) (nI (rv q (S.1 2) (S.1 5) p 0 i))) = _ from r1, cl1_s, ma126, inb_p (by omega) (by omega), bv_e, bv_e, ix_nI (by omega), nI_1]) (by
        rintro S2 ⟨g1, -⟩ k self2
        unfold X5_fill_L36
        rw [g1.1 13 (by decide), y1, le_p (Nat.le_refl _) (by omega)]) (i0 := 0) (S0 := S1) ⟨f1, f2, fun _ _ _ h => by omega⟩ (by omega) (show w < FU + 0 from FU_n (by omega))
    obtain ⟨S2, ⟨g1, g2, g3⟩, g4⟩ := inner
    refine ⟨S2, ⟨g1, fun p' row i hp' hr hi => ?_⟩, fun self => ?_⟩
    · by_cases he : p' = p
      · rw [he]; exact g3 row i hr hi
      · exact g2 p' row i (by omega) hr hi
    · unfold X5_fill_L26
      rw [f1.1 13 (by decide), y2, le_n hp (by omega)]
      have := g4 (fun (S6 : Sg) => bv (nI p + 1) fun x7 => self x7 S6)
      rw [show wp2 (X5_fill_L36 (nI p) (fun (S6 : Sg) => bv (nI p + 1) fun x7 => self x7 S6)) FU (0 : Int32) S1 = _ from this, bv_e, nI_1]) (by
    rintro S1 hJ self
    unfold X5_fill_L26
    rw [hJ.1.1 13 (by decide), y2, le_p (Nat.le_refl _) (by omega)]) (i0 := 0) (S0 := S0) ⟨Fr.rf _ _, fun _ _ _ h => by omega⟩ (by omega) (FU_n (by omega))
  refine ⟨S', h4, ⟨?_, ?_, ?_, f2⟩, fun a h1 h2 => by rw [f1.1 a h2, z1 a h1], by rw [f1.2, z2]⟩
  · rw [f1.1 13 (by decide), y0]
  · rw [f1.1 13 (by decide), y1]
  · rw [f1.1 13 (by decide), y2]
