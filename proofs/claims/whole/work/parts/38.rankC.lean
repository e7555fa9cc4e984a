/-! RANK as the class answers it -/
theorem inv_tab : ∀ q ∈ primes, ∀ a, a < q → a ≠ 0 → (List.range q).any (fun b => a * b % q == 1) = true := by decide +kernel
theorem PrimeQ_of {q : Nat} (h : q ∈ primes) : PrimeQ q := by
  have h2 : ∀ a : Nat, a < q → a ≠ 0 → ∃ b : Nat, b < q ∧ a * b % q = 1 := by
    intro a ha h0
    obtain ⟨b, h1, h2⟩ := List.any_eq_true.mp (inv_tab q h a ha h0)
    exact ⟨b, List.mem_range.mp h1, by simpa using h2⟩
  refine ⟨fun a b hab => ?_, h2⟩
  have hq := primes_b h
  have hn := Int.emod_nonneg a (b := (q : Int)) (by omega)
  have hl := Int.emod_lt_of_pos a (b := (q : Int)) (by omega)
  by_cases hz : a % (q : Int) = 0
  · exact Or.inl (Int.dvd_of_emod_eq_zero hz)
  · obtain ⟨c, hc, e⟩ := h2 (a % (q : Int)).toNat (by omega) (by omega)
    refine Or.inr ?_
    -- c a = 1, so b = c a b
    obtain ⟨m, hm⟩ := mod_dvd ((a % (q : Int)).toNat * c) q
    rw [e, Int.natCast_mul, show (((a % (q : Int)).toNat : Nat) : Int) = a % (q : Int) by omega] at hm
    have hd := Int.emod_add_mul_ediv a (q : Int)
    obtain ⟨d, hd2⟩ := hab
    refine ⟨c * d - b * m - b * (a / (q : Int)) * c, ?_⟩
    have e1 : a % (q : Int) * c = 1 + q * m := by omega
    have e2 : a = a % (q : Int) + q * (a / (q : Int)) := by omega
    have e3 : a * b * c = (a % (q : Int) * c) * b + q * (b * (a / (q : Int)) * c) := by
      conv => lhs; rw [e2]
      rw [Int.add_mul, Int.add_mul]
      congr 1
      · rw [Int.mul_assoc, Int.mul_comm b (c : Int), ← Int.mul_assoc]
      · rw [Int.mul_assoc, Int.mul_assoc]
        congr 1
        rw [← Int.mul_assoc, Int.mul_comm (a / (q : Int)) b]
    rw [hd2, e1, Int.add_mul, Int.one_mul] at e3
    have e4 : (q : Int) * m * b = q * (b * m) := by rw [Int.mul_assoc, Int.mul_comm m b]
    have e5 : (q : Int) * d * c = q * (c * d) := by rw [Int.mul_assoc, Int.mul_comm d (c : Int)]
    rw [e4, e5] at e3
    rw [Int.mul_sub, Int.mul_sub]
    omega
def IsRk (w q : Nat) (V : Vc → Prop) (r : Nat) : Prop := ∃ B : Nat → Bool, (∀ c, c < w → (B c = true ↔ Lset q V c)) ∧ r = fb_ct B w
theorem IsRk.uniq {w q : Nat} {V : Vc → Prop} {r r' : Nat} (h : IsRk w q V r) (h' : IsRk w q V r') : r = r' := by
  obtain ⟨B, h1, h2⟩ := h
  obtain ⟨B', h3, h4⟩ := h'
  rw [h2, h4]
  refine fb_ct_cong (fun c hc => ?_)
  have := (h1 c hc).trans (h3 c hc).symm
  cases hb : B c <;> cases hb' : B' c <;> simp_all
theorem IsRk.cg {w q : Nat} {V V' : Vc → Prop} {r : Nat} (h : IsRk w q V r) (e : ∀ v, V v ↔ V' v) : IsRk w q V' r := by
  obtain ⟨B, h1, h2⟩ := h
  exact ⟨B, fun c hc => (h1 c hc).trans (Lset_c e c), h2⟩
theorem IsRk.le {w q : Nat} {V : Vc → Prop} {r : Nat} (h : IsRk w q V r) : r ≤ w := by
  obtain ⟨B, h1, h2⟩ := h
  rw [h2]; exact fb_ct_le _ _
theorem BInv_cg {S : Sg} {k q w lo : Nat} {G G' : Vc → Prop} (h : BInv S k q w lo G) (e : ∀ v, Sp w q G v ↔ Sp w q G' v) : BInv S k q w lo G' := by
  obtain ⟨h1, h2, h3, h4, h5, h6⟩ := h
  exact ⟨h1, h2, h3, h4, h5, fun v => (e v).symm.trans (h6 v)⟩
theorem BInv.isRk {S : Sg} {k q w lo : Nat} {G : Vc → Prop} (h : BInv S k q w lo G) (hw : w ≤ 6) (hq : q ≤ 97) (hp : PrimeQ q) : ∃ r, IsRk w q (Sp w q G) r ∧ S.1 k 0 = nI r :=
  ⟨_, ⟨bB S k, fun c hc => (h.rank hw hq hp c hc).symm, rfl⟩, h.2.2.2.1⟩
theorem clear_eq {S : Sg} {k q w lo : Nat} (hw : w ≤ 6) : ∃ S', f_X0_clear k (nI q) (nI w) (nI lo) S = some S' ∧ BInv S' k q w lo (fun _ => False) ∧ (∀ a, a ≠ k → a ≠ k + 1 → a ≠ k + 2 → a ≠ k + 3 → S'.1 a = S.1 a) ∧ S'.2 = S.2 := by
  unfold f_X0_clear
  rw [bv_e, bv_e, bv_e, bv_e]
  generalize hS0 : si (si (si (si S k 1 (nI q)) k 2 (nI w)) k 3 (nI lo)) k 0 0 = S0
  have z1 : ∀ a, a ≠ k → S0.1 a = S.1 a := fun a h => by rw [← hS0, si_ne _ _ _ h, si_ne _ _ _ h, si_ne _ _ _ h, si_ne _ _ _ h]
  have z2 : S0.2 = S.2 := by rw [← hS0]; rfl
  have y0 : S0.1 k 0 = 0 := by rw [← hS0]; simp [si_same, upd]
  have y1 : S0.1 k 1 = nI q := by rw [← hS0]; simp [si_same, upd]
  have y2 : S0.1 k 2 = nI w := by rw [← hS0]; simp [si_same, upd]
  have y3 : S0.1 k 3 = nI lo := by rw [← hS0]; simp [si_same, upd]
  obtain ⟨S', ⟨f1, f2⟩, h4⟩ := for2 (F := X0_clear_L23 k) 6 (fun j S1 => Fr (k + 2) S0 S1 ∧ ∀ i, i < j → S1.1 (k + 2) i = 0) (fun S => some S) (by
    rintro i S1 hi ⟨f1, f2⟩
    refine ⟨si S1 (k + 2) i 0, ⟨Fr_w f1 _ _, fun a ha => ?_⟩, fun self => ?_⟩
    · by_cases he : a = i
      · subst he; rw [si_same, upd_s]
      · rw [si_same, upd_n _ _ he]; exact f2 a (by omega)
    · unfold X0_clear_L23
      rw [show (6 : Int32) = nI 6 from rfl, le_n hi (by decide), inb_p hi (by decide), bv_e, bv_e, ix_nI (by omega), zb_0, nI_1]) (by
    rintro S1 hJ self
    unfold X0_clear_L23
    rw [show (6 : Int32) = nI 6 from rfl, le_p (Nat.le_refl _) (by decide)]) (i0 := 0) (S0 := S0) ⟨Fr.rf _ _, fun i h => by omega⟩ (by omega) (FU_n (by omega))
  have hB : ∀ c, c < w → bB S' k c = false := fun c hc => by unfold bB; rw [f2 c (by omega)]; rfl
  refine ⟨S', h4, ⟨?_, ?_, ?_, ?_, ?_, ?_⟩, fun a h1 _ h3 _ => by rw [f1.1 a h3, z1 a h1], by rw [f1.2, z2]⟩
  · rw [f1.1 k (by omega), y1]
  · rw [f1.1 k (by omega), y2]
  · rw [f1.1 k (by omega), y3]
  · rw [f1.1 k (by omega), y0, fb_ct_zero.mpr hB]; rfl
  · intro c hc h; rw [hB c hc] at h; cases h
  · intro v
    refine Sp_iff (fun g hg => hg.elim) (fun g hg => ?_) v
    obtain ⟨c, hc, h, -⟩ := hg
    rw [hB c hc] at h; cases h
/-- the ROWS of a SET, with 0 at the places of AXES -/
def GS (q w n : Nat) (ki en : Nat → Int32) (a lo : Nat) : Vc → Prop := fun v => ∃ p row, p < n ∧ a.testBit p = true ∧ row < 2 ∧ v = fun i => if lo.testBit i = true then 0 else ((rv q ki en p row i : Nat) : Int)
theorem rankOfC {S : Sg} {q w n a lo : Nat} {ki en : Nat → Int32} (hF : Filled S q w n ki en) (hqp : q ∈ primes) (hw : w ≤ 6) (hn : n ≤ 10) (ha : a < 2 ^ 31) (hlo : lo < 64) :
    ∃ r S', f_X5_rankOf (nI a) (nI lo) S = some (nI r, S') ∧ IsRk w q (Sp w q (GS q w n ki en a lo)) r ∧ (∀ k, ¬ (15 ≤ k ∧ k ≤ 18) → S'.1 k = S.1 k) ∧ S'.2 = S.2 := by
  have hq := primes_b hqp
  have hp := PrimeQ_of hqp
  obtain ⟨e0, e1, e2, e3⟩ := hF
  unfold f_X5_rankOf
  rw [e0, e1]
  obtain ⟨S1, c1, c2, c3, c4⟩ := clear_eq (S := S) (k := 15) (q := q) (w := w) (lo := lo) hw
  rw [c1, cl1_s]
  obtain ⟨S', ⟨f1, f2, f3⟩, h4⟩ := for2 (F := X5_rankOf_L18 (nI a) (fun (S3 : Sg) => some ((S3.1 15 0), S3))) n (fun j S2 => BInv S2 15 q w lo (fun v => ∃ p row, p < j ∧ a.testBit p = true ∧ row < 2 ∧ v = fun i => if lo.testBit i = true then 0 else ((rv q ki en p row i : Nat) : Int)) ∧ (∀ k, ¬ (15 ≤ k ∧ k ≤ 18) → S2.1 k = S.1 k) ∧ S2.2 = S.2) (fun S3 => some ((S3.1 15 0), S3)) (by
    rintro p S2 hpn ⟨f1, f2, f3⟩
    have hst : ∀ self, X5_rankOf_L18 (nI a) (fun (S3 : Sg) => some ((S3.1 15 0), S3)) self (nI p) S2 = if a.testBit p = true then (cl1 (f_X0_add 15 14 120 (nI (p * 12)) S2) fun S9 => cl1 (f_X0_add 15 14 120 (nI (p * 12 + 6)) S9) fun S11 => self (nI (p + 1)) S11) else self (nI (p + 1)) S2 := fun self => by
      unfold X5_rankOf_L18
      rw [f2 13 (by omega), e2, le_n hpn (by omega), jn_e, m12, show nI (p * 12) + 6 = nI (p * 12 + 6) from nI_add _ 6]
      simp only [bv_e, nI_1, bit_1 ha (show p < 32 by omega)]
    by_cases hb : a.testBit p = true
    · obtain ⟨S3, a1, a2, a3, a4⟩ := add_eq (ka := 14) (na := 120) (fr := p * 12) (row := rv q ki en p 0) f1 hp (by omega) (by omega) hw hlo (fun i hi => ⟨rv_lt (by omega) _ _ _ _ _, by rw [f2 14 (by omega)]; exact e3 p 0 i hpn (by decide) hi⟩) (by omega) (by omega) (by omega)
      obtain ⟨S4, d1, d2, d3, d4⟩ := add_eq (ka := 14) (na := 120) (fr := p * 12 + 6) (row := rv q ki en p 1) a2 hp (by omega) (by omega) hw hlo (fun i hi => ⟨rv_lt (by omega) _ _ _ _ _, by rw [a3 14 (by omega) (by omega) (by omega) (by omega), f2 14 (by omega)]; exact e3 p 1 i hpn (by decide) hi⟩) (by omega) (by omega) (by omega)
      refine ⟨S4, ⟨BInv_cg d2 (Sp_iff (fun g hg => Sp_gen ?_) (fun g hg => Sp_gen ?_)), fun k hk => by rw [d3 k (by omega) (by omega) (by omega) (by omega), a3 k (by omega) (by omega) (by omega) (by omega), f2 k hk], by rw [d4, a4, f3]⟩, fun self => ?_⟩
      · rcases hg with (⟨p', row, h1, h2, h3, h4⟩ | h) | h
        · exact ⟨p', row, by omega, h2, h3, h4⟩
        · exact ⟨p, 0, by omega, hb, by decide, h⟩
        · exact ⟨p, 1, by omega, hb, by decide, h⟩
      · obtain ⟨p', row, h1, h2, h3, h4⟩ := hg
        by_cases he : p' = p
        · subst he
          rcases (show row = 0 ∨ row = 1 by omega) with rfl | rfl
          · exact Or.inl (Or.inr h4)
          · exact Or.inr h4
        · exact Or.inl (Or.inl ⟨p', row, by omega, h2, h3, h4⟩)
      · rw [hst, if_pos hb, a1, cl1_s, d1, cl1_s]
    · refine ⟨S2, ⟨BInv_cg f1 (Sp_iff (fun g hg => Sp_gen ?_) (fun g hg => Sp_gen ?_)), f2, f3⟩, fun self => by rw [hst, if_neg hb]⟩
      · obtain ⟨p', row, h1, h2, h3, h4⟩ := hg
        exact ⟨p', row, by omega, h2, h3, h4⟩
      · obtain ⟨p', row, h1, h2, h3, h4⟩ := hg
        have he : p' ≠ p := fun z => hb (by rw [← z]; exact h2)
        exact ⟨p', row, by omega, h2, h3, h4⟩) (by
    rintro S2 ⟨f1, f2, f3⟩ self
    unfold X5_rankOf_L18
    rw [f2 13 (by omega), e2, le_p (Nat.le_refl _) (by omega)]) (i0 := 0) (S0 := S1) ⟨BInv_cg c2 (Sp_iff (fun g hg => hg.elim) (fun g hg => by obtain ⟨p', row, h1, -⟩ := hg; omega)), fun k hk => c3 k (by omega) (by omega) (by omega) (by omega), c4⟩ (by omega) (FU_n (by omega))
  obtain ⟨r, g1, g2⟩ := f1.isRk hw (by omega) hp
  refine ⟨r, S', ?_, g1, f2, f3⟩
  rw [← g2]
  exact h4
