/-! a row more in the class's basis -/
theorem Sp_or {w q : Nat} {G G' : Vc → Prop} (h : ∀ v, Sp w q G v ↔ Sp w q G' v) (r : Vc) (v : Vc) : Sp w q (fun v => G v ∨ v = r) v ↔ Sp w q (fun v => G' v ∨ v = r) v := by
  refine Sp_iff (fun g hg => ?_) (fun g hg => ?_) v
  · rcases hg with hg | hg
    · exact Sp_mono (fun g hg => Sp_gen (Or.inl hg)) ((h g).mp (Sp_gen hg))
    · exact Sp_gen (Or.inr hg)
  · rcases hg with hg | hg
    · exact Sp_mono (fun g hg => Sp_gen (Or.inl hg)) ((h g).mpr (Sp_gen hg))
    · exact Sp_gen (Or.inr hg)
theorem mod_dvd (a q : Nat) : (q : Int) ∣ (a : Int) - ((a % q : Nat) : Int) := by
  refine ⟨(a / q : Nat), ?_⟩
  have := Nat.div_add_mod a q
  rw [← Int.natCast_mul]
  omega
theorem add_eq {S : Sg} {k ka na fr q w lo : Nat} {G : Vc → Prop} {row : Nat → Nat} (hI : BInv S k q w lo G) (hp : PrimeQ q) (hq : 0 < q) (hq2 : q ≤ 97) (hw : w ≤ 6) (hlo : lo < 64) (hrow : ∀ i, i < w → row i < q ∧ S.1 ka (fr + i) = nI (row i)) (hka : ka ≠ k ∧ ka ≠ k + 1 ∧ ka ≠ k + 2 ∧ ka ≠ k + 3) (hna : fr + w ≤ na) (hna2 : na ≤ 1000) :
    ∃ S', f_X0_add k ka na (nI fr) S = some S' ∧ BInv S' k q w lo (fun v => G v ∨ v = fun i => if lo.testBit i = true then 0 else ((row i : Nat) : Int)) ∧ (∀ a, a ≠ k → a ≠ k + 1 → a ≠ k + 2 → a ≠ k + 3 → S'.1 a = S.1 a) ∧ S'.2 = S.2 := by
  obtain ⟨b1, b2, b3, b4, b5, b6⟩ := id hI
  -- the row is laid into the work
  obtain ⟨mr, hmr⟩ : ∃ mr : Nat → Nat, mr = fun i => if lo.testBit i = true then 0 else row i := ⟨_, rfl⟩
  have hmq : ∀ i, i < w → mr i < q := fun i hi => by
    rw [hmr]; dsimp only
    split
    · exact hq
    · exact (hrow i hi).1
  have hmv : (fun i => if lo.testBit i = true then 0 else ((row i : Nat) : Int)) = fun i => ((mr i : Nat) : Int) := by
    funext i; rw [hmr]; dsimp only; split <;> rfl
  rw [hmv]
  unfold f_X0_add
  obtain ⟨S1, ⟨f1, f2⟩, e1⟩ := for2 (F := X0_add_L2 k ka na (nI fr) (fun (S1 : Sg) => wp2 (X0_add_L45 k) FU (0 : Int32) S1)) w (fun j S1 => Fr (k + 3) S S1 ∧ ∀ i, i < j → S1.1 (k + 3) i = nI (mr i)) (fun S1 => wp2 (X0_add_L45 k) FU (0 : Int32) S1) (by
    rintro i S1 hi ⟨f1, f2⟩
    refine ⟨si S1 (k + 3) i (nI (mr i)), ⟨Fr_w f1 _ _, ?_⟩, ?_⟩
    · intro a ha
      by_cases he : a = i
      · subst he; rw [si_same, upd_s]
      · rw [si_same, upd_n _ _ he]; exact f2 a (by omega)
    · intro self
      unfold X0_add_L2
      rw [f1.1 k (by omega), b2, le_n hi (by omega), jn_e, b3]
      by_cases hb : lo.testBit i = true
      · rw [if_pos ((bit_1 (by omega) (by omega)).mpr hb)]
        dsimp only
        rw [inb_p (by omega) (by omega), bv_e, bv_e, ix_nI (by omega), nI_1, hmr]
        dsimp only
        rw [if_pos hb]; rfl
      · rw [if_neg (fun z => hb ((bit_1 (by omega) (by omega)).mp z)), nI_add, inb_p (by omega) (by omega)]
        dsimp only
        rw [inb_p (by omega) (by omega), bv_e, bv_e, ix_nI (by omega), ix_nI (by omega), f1.1 ka hka.2.2.2, (hrow i hi).2, nI_1, hmr]
        dsimp only
        rw [if_neg hb]) (by
    rintro S1 hJ self
    unfold X0_add_L2
    rw [hJ.1.1 k (by omega), b2, le_p (Nat.le_refl _) (by omega)]) (i0 := 0) (S0 := S) ⟨Fr.rf _ _, fun i h => by omega⟩ (by omega) (FU_n (by omega))
  rw [show wp2 (X0_add_L2 k ka na (nI fr) (fun (S1 : Sg) => wp2 (X0_add_L45 k) FU (0 : Int32) S1)) FU (0 : Int32) S = wp2 (X0_add_L45 k) FU (0 : Int32) S1 from e1]
  -- it is cleared place by place
  obtain ⟨KS, hKS⟩ : ∃ KS : Vc → Prop, KS = fun v => ∃ c, c < w ∧ bB S k c = true ∧ v = bK S k c := ⟨_, rfl⟩
  have b6' : ∀ v, Sp w q G v ↔ Sp w q KS v := by rw [hKS]; exact b6
  obtain ⟨r, hr, e2⟩ := wp2R (F := X0_add_L45 k) (fun n v S3 => ∃ c, c + n = w ∧ v = nI c ∧ Fr (k + 3) S S3 ∧ ∃ W : Nat → Nat, (∀ i, i < w → W i < q ∧ S3.1 (k + 3) i = nI (W i)) ∧ (∀ i, i < c → W i = 0) ∧ ∀ v, Sp w q (fun v => KS v ∨ v = fun i => ((W i : Nat) : Int)) v ↔ Sp w q (fun v => KS v ∨ v = fun i => ((mr i : Nat) : Int)) v) (fun r => ∃ S', r = some S' ∧ BInv S' k q w lo (fun v => G v ∨ v = fun i => ((mr i : Nat) : Int)) ∧ (∀ a, a ≠ k → a ≠ k + 1 → a ≠ k + 2 → a ≠ k + 3 → S'.1 a = S.1 a) ∧ S'.2 = S.2) (by
    rintro n v S3 ⟨c, hc, rfl, f3, W, w1, w2, w3⟩
    have g2 : S3.1 k 2 = nI w := by rw [f3.1 k (by omega), b2]
    rcases Nat.eq_zero_or_pos n with hn | hn
    · -- nothing is left of it
      refine Or.inl ⟨some S3, ⟨S3, rfl, ?_, fun a _ _ _ h4 => f3.1 a h4, f3.2⟩, fun self => ?_⟩
      · have eB : bB S3 k = bB S k := by funext d; unfold bB; rw [f3.1 (k + 2) (by omega)]
        have eK : bK S3 k = bK S k := by funext d; unfold bK; rw [f3.1 (k + 1) (by omega)]
        refine ⟨by rw [f3.1 k (by omega), b1], g2, by rw [f3.1 k (by omega), b3], by rw [f3.1 k (by omega), b4, eB], ?_, ?_⟩
        · intro d hd hB
          rw [eB] at hB
          rw [eK, f3.1 (k + 1) (by omega)]
          exact b5 d hd hB
        · intro v
          rw [eB, eK, Sp_or b6' _ v, ← w3 v]
          refine Sp_iff (fun g hg => ?_) (fun g hg => ?_) v
          · rcases hg with hg | hg
            · rw [hKS] at hg; exact Sp_gen hg
            · rw [hg]
              exact Sp_cg Sp_0 (fun i hi => by rw [w2 i (by omega)]; simp)
          · exact Sp_gen (Or.inl (by rw [hKS]; exact hg))
      · unfold X0_add_L45
        rw [g2, le_p (by omega) (by omega)]
    · have hcw : c < w := by omega
      obtain ⟨x1, x2⟩ := w1 c hcw
      by_cases hz : W c = 0
      · refine Or.inr ⟨n - 1, nI (c + 1), S3, by omega, ⟨c + 1, by omega, rfl, f3, W, w1, fun i hi => ?_, w3⟩, fun self => ?_⟩
        · by_cases he : i = c
          · rw [he]; exact hz
          · exact w2 i (by omega)
        · unfold X0_add_L45
          rw [g2, le_n hcw (by omega), inb_p (by omega) (by omega), jn_e, ix_nI (by omega), x2, hz, if_pos nI_0]
          dsimp only
          rw [bv_e, nI_1]
      · have hstep : ∀ self, X0_add_L45 k self (nI c) S3 = if S3.1 (k + 2) c = 0 then (cl1 (f_X0_keepWork k (nI c) S3) fun S11 => some S11) else (cl1 (f_X0_clearPlace k (nI c) S3) fun S9 => self (nI (c + 1)) S9) := fun self => by
          unfold X0_add_L45
          rw [g2, le_n hcw (by omega), inb_p (by omega) (by omega), jn_e, ix_nI (by omega), x2, if_neg (nI_ne0 (by omega) (by omega)), inb_p (by omega) (by omega)]
          simp only [bv_e, nI_1]
        by_cases hB : bB S k c = true
        · -- a row begins there: it is cleared
          obtain ⟨y1, y2, y3⟩ := b5 c hcw hB
          obtain ⟨K, hK⟩ : ∃ K : Nat → Nat, ∀ i, i < w → K i < q ∧ S3.1 (k + 1) (c * 6 + i) = nI (K i) := by
            refine ⟨fun i => (S.1 (k + 1) (c * 6 + i)).toInt.toNat, fun i hi => ?_⟩
            obtain ⟨a, ha, e⟩ := y1 i hi
            dsimp only
            rw [f3.1 (k + 1) (by omega), e, nI_toInt (by omega)]
            exact ⟨by omega, by simp⟩
          have hKb : ∀ i, i < w → bK S k c i = (K i : Int) := fun i hi => by
            unfold bK
            rw [← f3.1 (k + 1) (by omega), (hK i hi).2, nI_toInt (by have := (hK i hi).1; omega)]
          have hKc0 : K c ≠ 0 := fun z => y3 (by rw [hKb c hcw, z]; rfl)
          have hKl : ∀ i, i < c → K i = 0 := fun i hi => by
            have := y2 i hi
            rw [hKb i (by omega)] at this
            omega
          obtain ⟨S4, p1, p2, p3, p4⟩ := clearPlace_eq hq hq2 hw hcw (by rw [f3.1 k (by omega), b1]) g2 w1 hK
          obtain ⟨inv, i1, i2⟩ := hp.2 (K c) (hK c hcw).1 hKc0
          refine Or.inr ⟨n - 1, nI (c + 1), S4, by omega, ⟨c + 1, by omega, rfl, ⟨fun a ha => by rw [p2.1 a ha, f3.1 a ha], by rw [p2.2, f3.2]⟩, fun i => (W i * K c + (q - W c) * K i) % q, ?_, ?_, ?_⟩, fun self => ?_⟩
          · intro i hi
            refine ⟨Nat.mod_lt _ hq, ?_⟩
            by_cases hic : c ≤ i
            · exact p4 i hic hi
            · rw [p3 i (by omega), (w1 i hi).2]
              dsimp only
              rw [w2 i (by omega), hKl i (by omega)]
              simp
          · intro i hi
            dsimp only
            by_cases hic : i = c
            · subst hic
              rw [← Nat.add_mul, show W i + (q - W i) = q by omega]
              exact Nat.mul_mod_right q _
            · rw [w2 i (by omega), hKl i (by omega)]; simp
          · intro v
            rw [← w3 v]
            have hKin : ∀ G' : Vc → Prop, (∀ g, KS g → Sp w q G' g) → Sp w q G' (bK S k c) := fun G' h => h _ (by rw [hKS]; exact ⟨c, hcw, hB, rfl⟩)
            refine Sp_iff (fun g hg => ?_) (fun g hg => ?_) v
            · rcases hg with hg | hg
              · exact Sp_gen (Or.inl hg)
              · rw [hg]
                refine Sp_cg (Sp_sub2 (Sp_gen (G := fun v => KS v ∨ v = fun i => ((W i : Nat) : Int)) (Or.inr rfl)) (hKin _ (fun g hg => Sp_gen (Or.inl hg))) (K c : Int) ((q - W c : Nat) : Int)) (fun i hi => ?_)
                rw [hKb i hi]
                have := mod_dvd (W i * K c + (q - W c) * K i) q
                have e : (K c : Int) * (W i : Int) + ((q - W c : Nat) : Int) * (K i : Int) = ((W i * K c + (q - W c) * K i : Nat) : Int) := by
                  rw [Int.natCast_add, Int.natCast_mul, Int.natCast_mul, Int.mul_comm (K c : Int)]
                rw [e]; exact this
            · rcases hg with hg | hg
              · exact Sp_gen (Or.inl hg)
              · rw [hg]
                refine Sp_cg (Sp_sub2 (Sp_gen (G := fun v => KS v ∨ v = fun i => (((W i * K c + (q - W c) * K i) % q : Nat) : Int)) (Or.inr rfl)) (hKin _ (fun g hg => Sp_gen (Or.inl hg))) (inv : Int) (-((inv * (q - W c) : Nat) : Int))) (fun i hi => ?_)
                rw [hKb i hi]
                obtain ⟨m1, e1⟩ := mod_dvd (W i * K c + (q - W c) * K i) q
                obtain ⟨m2, e2⟩ := mod_dvd (K c * inv) q
                rw [i2] at e2
                refine ⟨W i * m2 - inv * m1, ?_⟩
                have h1 : (((W i * K c + (q - W c) * K i) % q : Nat) : Int) = ((W i * K c + (q - W c) * K i : Nat) : Int) - q * m1 := by omega
                rw [h1]
                have h2 : (K c : Int) * (inv : Int) = 1 + q * m2 := by
                  rw [← Int.natCast_mul]; omega
                rw [Int.natCast_add, Int.natCast_mul, Int.natCast_mul, Int.natCast_mul]
                generalize ((q - W c : Nat) : Int) = o at *
                generalize (W i : Int) = a at *
                generalize (K i : Int) = b at *
                generalize (K c : Int) = d at *
                generalize (inv : Int) = t at *
                have h3 : t * (a * d) = a * (d * t) := by rw [Int.mul_comm d t, Int.mul_left_comm]
                rw [Int.mul_sub, Int.mul_add, h3, h2, Int.mul_add, Int.mul_sub, Int.neg_mul, Int.mul_assoc t o b, Int.mul_left_comm t (q : Int) m1, Int.mul_left_comm a (q : Int) m2]
                omega
          · rw [hstep, f3.1 (k + 2) (by omega), if_neg (of_decide_eq_true hB), p1, cl1_s]
        · -- no row begins there: it is kept
          have hB0 : S.1 (k + 2) c = 0 := by
            by_cases z : S.1 (k + 2) c = 0
            · exact z
            · exact absurd (decide_eq_true z) hB
          have hBf : bB S k c = false := by cases h : bB S k c <;> simp_all
          obtain ⟨S4, p1, p2, p3, p4, p5, p6, p7⟩ := keepWork_eq (S := S3) (k := k) hw hcw (by rw [f3.1 k (by omega), b4]) g2
          refine Or.inl ⟨some S4, ⟨S4, rfl, ?_, fun a h1 h2 h3 h4 => by rw [p2 a h1 h2 h3, f3.1 a h4], by rw [p3, f3.2]⟩, fun self => ?_⟩
          · have eB : ∀ d, bB S4 k d = if d = c then true else bB S k d := fun d => by
              unfold bB
              rw [p5, f3.1 (k + 2) (by omega)]
              by_cases hd : d = c
              · subst hd; rw [upd_s, if_pos rfl]; decide
              · rw [upd_n _ _ hd, if_neg hd]
            have eK : ∀ d, d ≠ c → ∀ i, i < w → bK S4 k d i = bK S k d i := fun d hd i hi => by
              unfold bK
              rw [p7 _ (by omega), f3.1 (k + 1) (by omega)]
            have eKc : ∀ i, i < w → bK S4 k c i = (W i : Int) := fun i hi => by
              unfold bK
              rw [p6 i hi, (w1 i hi).2, nI_toInt (by have := (w1 i hi).1; omega)]
            refine ⟨?_, ?_, ?_, ?_, ?_, ?_⟩
            · rw [p4, upd_n _ _ (by decide), f3.1 k (by omega), b1]
            · rw [p4, upd_n _ _ (by decide), g2]
            · rw [p4, upd_n _ _ (by decide), f3.1 k (by omega), b3]
            · rw [p4, upd_s]
              congr 1
              have h := fb_ct_upd (bB S k) true (i := c) hcw
              rw [hBf] at h
              have e : fb_ct (bB S4 k) w = fb_ct (fun d => if d = c then true else bB S k d) w := fb_ct_cong (fun d _ => eB d)
              simp only [Bool.false_eq_true, if_false, if_true, Nat.add_zero] at h
              omega
            · intro d hd hBd
              by_cases hdc : d = c
              · subst hdc
                refine ⟨fun i hi => ⟨W i, (w1 i hi).1, by rw [p6 i hi, (w1 i hi).2]⟩, fun i hi => ?_, ?_⟩
                · rw [eKc i (by omega), w2 i hi]; rfl
                · rw [eKc d hcw]; omega
              · rw [eB d, if_neg hdc] at hBd
                obtain ⟨y1, y2, y3⟩ := b5 d hd hBd
                refine ⟨fun i hi => ?_, fun i hi => ?_, ?_⟩
                · rw [p7 _ (by omega), f3.1 (k + 1) (by omega)]; exact y1 i hi
                · rw [eK d hdc i (by omega)]; exact y2 i hi
                · rw [eK d hdc d hd]; exact y3
            · intro v
              rw [Sp_or b6' _ v, ← w3 v]
              refine Sp_iff (fun g hg => ?_) (fun g hg => ?_) v
              · rcases hg with hg | hg
                · rw [hKS] at hg
                  obtain ⟨d, hd, hBd, rfl⟩ := hg
                  have hdc : d ≠ c := fun z => by rw [z, hBf] at hBd; cases hBd
                  exact Sp_cg (Sp_gen (v := bK S4 k d) ⟨d, hd, by rw [eB d, if_neg hdc]; exact hBd, rfl⟩) (fun i hi => by rw [eK d hdc i hi]; simp)
                · rw [hg]
                  exact Sp_cg (Sp_gen (v := bK S4 k c) ⟨c, hcw, by rw [eB c, if_pos rfl], rfl⟩) (fun i hi => by rw [eKc i hi]; simp)
              · obtain ⟨d, hd, hBd, rfl⟩ := hg
                by_cases hdc : d = c
                · subst hdc
                  exact Sp_cg (Sp_gen (v := fun i => ((W i : Nat) : Int)) (Or.inr rfl)) (fun i hi => by rw [eKc i hi]; simp)
                · rw [eB d, if_neg hdc] at hBd
                  exact Sp_cg (Sp_gen (v := bK S k d) (Or.inl (by rw [hKS]; exact ⟨d, hd, hBd, rfl⟩))) (fun i hi => by rw [eK d hdc i hi]; simp)
          · rw [hstep, f3.1 (k + 2) (by omega), if_pos hB0, p1, cl1_s]) FU w (0 : Int32) S1 (FU_n (by omega)) ⟨0, by omega, rfl, f1, mr, fun i hi => ⟨hmq i hi, f2 i hi⟩, fun i h => by omega, fun v => Iff.rfl⟩
  obtain ⟨S', e3, h1, h2, h3⟩ := hr
  exact ⟨S', by rw [e2, e3], h1, h2, h3⟩
