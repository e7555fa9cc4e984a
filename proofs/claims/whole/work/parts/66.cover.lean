/-! COVERS: classes, their RANKS -/
theorem rkA_cg {q w n lo a a' : Nat} {ki en : Nat → Int32} (h : ∀ p, p < n → a.testBit p = a'.testBit p) : rkA q w n ki en a lo = rkA q w n ki en a' lo := by
  have e : GS q w n ki en a lo = GS q w n ki en a' lo := by
    funext v
    apply propext
    constructor
    · rintro ⟨p, row, h1, h2, h3, h4⟩
      exact ⟨p, row, h1, by rw [← h p h1]; exact h2, h3, h4⟩
    · rintro ⟨p, row, h1, h2, h3, h4⟩
      exact ⟨p, row, h1, by rw [h p h1]; exact h2, h3, h4⟩
  unfold rkA
  rw [e]
theorem rkA_e {q w n lo a : Nat} {ki en : Nat → Int32} (ha : ∀ p, p < n → a.testBit p = false) : rkA q w n ki en a lo = 0 := by
  have h : IsRk w q (Sp w q (GS q w n ki en a lo)) 0 := by
    refine ⟨fun _ => false, fun c hc => ?_, ?_⟩
    · refine ⟨(fun h => by cases h), fun ⟨v, hv, l1, l2⟩ => ?_⟩
      exact (l2 (hv (fun v => ∀ i, i < w → (q : Int) ∣ v i) ⟨fun i _ => Int.dvd_zero _, fun u v hu hv i hi => Int.dvd_add (hu i hi) (hv i hi), fun c u hu i hi => Int.dvd_trans (hu i hi) (Int.dvd_mul_left _ _), fun u v e hu i hi => by
        have e2 : v i = u i - (u i - v i) := by omega
        rw [e2]; exact Int.dvd_sub (hu i hi) (e i hi)⟩ (fun g hg => by obtain ⟨p, row, hp, h, -⟩ := hg; rw [ha p hp] at h; cases h) c hc)).elim
    · exact (fb_ct_zero.mpr (fun _ _ => rfl)).symm
  exact h.eq.symm
/-- the PAIRS of class c, as the class's loop finds them -/
def mmk (cf : Nat → Nat) (c : Nat) : Nat → Nat
  | 0 => 0
  | p + 1 => if c ≤ p ∧ cf p = c then mmk cf c p ||| 2 ^ p else mmk cf c p
theorem mmk_s (cf : Nat → Nat) (c p : Nat) : mmk cf c (p + 1) = if c ≤ p ∧ cf p = c then mmk cf c p ||| 2 ^ p else mmk cf c p := rfl
theorem mmk_lt (cf : Nat → Nat) (c : Nat) : ∀ k, k ≤ 10 → mmk cf c k < 1024
  | 0, _ => by simp [mmk]
  | k + 1, hk => by
    have ih := mmk_lt cf c k (by omega)
    rw [mmk_s]
    split
    · exact or_lt ih (by omega)
    · exact ih
theorem mmk_0 (cf : Nat → Nat) (c : Nat) : ∀ k, k ≤ c → mmk cf c k = 0
  | 0, _ => rfl
  | k + 1, hk => by rw [mmk_s, if_neg (by omega), mmk_0 cf c k (by omega)]
theorem mmk_bit (cf : Nat → Nat) (c : Nat) : ∀ k p, (mmk cf c k).testBit p = decide (p < k ∧ c ≤ p ∧ cf p = c)
  | 0, p => by simp [mmk]
  | k + 1, p => by
    have ih := mmk_bit cf c k p
    rw [mmk_s]
    by_cases h : c ≤ k ∧ cf k = c
    · rw [if_pos h, or_bit]
      by_cases he : p = k
      · rw [if_pos he, he]; simp [h]
      · rw [if_neg he, ih]
        have : (p < k ∧ c ≤ p ∧ cf p = c) ↔ (p < k + 1 ∧ c ≤ p ∧ cf p = c) := by omega
        simp only [this]
    · rw [if_neg h, ih]
      have : (p < k ∧ c ≤ p ∧ cf p = c) ↔ (p < k + 1 ∧ c ≤ p ∧ cf p = c) := by
        constructor
        · rintro ⟨h1, h2⟩; exact ⟨by omega, h2⟩
        · rintro ⟨h1, h2⟩
          refine ⟨?_, h2⟩
          by_cases he : p = k
          · rw [he] at h2; exact absurd h2 h
          · omega
      simp only [this]
theorem memC {S : Sg} {n c : Nat} {cf : Nat → Nat} (hn : n ≤ 10) (hc : c < n) (e2 : S.1 13 2 = nI n) (hcf : ∀ p, p < n → cf p < 10 ∧ S.1 51 p = nI (cf p)) (K : Int32 → Option (Int32 × Sg)) : wp2 (X5_coverBy_L24 (nI c) S K) FU 0 (nI c) = K (nI (mmk cf c n)) := by
  have key : wp2 (X5_coverBy_L24 (nI c) S K) FU (nI (mmk cf c c)) (nI c) = K (nI (mmk cf c n)) := wp2E (F := X5_coverBy_L24 (nI c) S K) (n - c) (fun i => nI (mmk cf c (c + i))) (fun i => nI (c + i)) (X := K (nI (mmk cf c n))) (fun i hi self => by
    have hx := hcf (c + i) (by omega)
    unfold X5_coverBy_L24
    rw [e2, le_n (by omega) (by omega), inb_p (by omega) (by decide), ix_nI (by omega), hx.2]
    simp only [jn_e, bv_e, nI_1]
    show _ = self (nI (if c ≤ c + i ∧ cf (c + i) = c then mmk cf c (c + i) ||| 2 ^ (c + i) else mmk cf c (c + i))) (nI (c + i + 1))
    by_cases h : cf (c + i) = c
    · rw [if_pos (by rw [h]), shl1 (by omega), fa_or, if_pos ⟨by omega, h⟩]
    · rw [if_neg (fun z => h ((nI_eq (by omega) (by omega)).mp z)), if_neg (fun z => h z.2)]) (fun self => by
    unfold X5_coverBy_L24
    rw [show c + (n - c) = n by omega, e2, le_p (Nat.le_refl _) (by omega)]) (fuel := FU) (FU_n (by omega))
  rw [mmk_0 cf c c (Nat.le_refl _)] at key
  exact key
noncomputable def cvr (q w n : Nat) (ki en : Nat → Int32) (cf : Nat → Nat) (lo k : Nat) : Nat := pcn lo + fb_sm (fun c => rkA q w n ki en (mmk cf c n) lo / 2) k
theorem cvr_s (q w n : Nat) (ki en : Nat → Int32) (cf : Nat → Nat) (lo k : Nat) : cvr q w n ki en cf lo (k + 1) = cvr q w n ki en cf lo k + rkA q w n ki en (mmk cf k n) lo / 2 := by
  unfold cvr
  rw [fb_sm_succ, Nat.add_assoc]
theorem cvr_0 (q w n : Nat) (ki en : Nat → Int32) (cf : Nat → Nat) (lo : Nat) : cvr q w n ki en cf lo 0 = pcn lo := rfl
theorem cvr_le {q w n : Nat} (hw : w ≤ 6) (ki en : Nat → Int32) (cf : Nat → Nat) (lo : Nat) : ∀ k, pcn lo ≤ cvr q w n ki en cf lo k ∧ cvr q w n ki en cf lo k ≤ 10 + k * 6
  | 0 => by rw [cvr_0]; have := pcn_le lo; omega
  | k + 1 => by
    have ih := cvr_le hw ki en cf lo (q := q) (n := n) k
    have := rkA_le q w n ki en (mmk cf k n) lo
    rw [cvr_s]
    omega
theorem coverByC {S : Sg} {q w n lo : Nat} {ki en : Nat → Int32} {cf : Nat → Nat} (hF : Filled S q w n ki en) (hqp : q ∈ primes) (hw : w ≤ 6) (hn : n ≤ 10) (hlo : lo < 64) (hcf : ∀ p, p < n → cf p < 10 ∧ S.1 51 p = nI (cf p)) :
    ∃ S', f_X5_coverBy (nI lo) S = some (nI (cvr q w n ki en cf lo n), S') ∧ (∀ k, ¬ (15 ≤ k ∧ k ≤ 18) → S'.1 k = S.1 k) ∧ S'.2 = S.2 := by
  unfold f_X5_coverBy
  rw [bitCount_tab lo (by omega), cl1_s]
  obtain ⟨S', ⟨f1, f2⟩, h4⟩ := for3 (F := X5_coverBy_L8 (nI lo)) n (fun k => nI (cvr q w n ki en cf lo k)) (fun _ S1 => (∀ k, ¬ (15 ≤ k ∧ k ≤ 18) → S1.1 k = S.1 k) ∧ S1.2 = S.2) (fun S => some (nI (cvr q w n ki en cf lo n), S)) (by
    rintro c S1 hc ⟨f1, f2⟩
    have hF1 : Filled S1 q w n ki en := hF.fr (f1 13 (by decide)) (f1 14 (by decide))
    have hm := mmk_lt cf c n hn
    obtain ⟨S2, c1, c2, c3⟩ := rankC (a := mmk cf c n) (lo := lo) hF1 hqp hw hn (by omega) hlo
    have hr := rkA_le q w n ki en (mmk cf c n) lo
    refine ⟨S2, ⟨fun k hk => by rw [c2 k hk, f1 k hk], by rw [c3, f2]⟩, fun self => ?_⟩
    unfold X5_coverBy_L8
    rw [hF1.2.2.1, le_n hc (by omega), memC hn hc hF1.2.2.1 (fun p hp => ⟨(hcf p hp).1, by rw [f1 51 (by decide)]; exact (hcf p hp).2⟩), c1, cl_s, show (2 : Int32) = nI 2 from rfl, pk_div (by omega) (by decide) (by decide), bv_e, bv_e, nI_add, nI_1, cvr_s]) (by
    rintro S1 ⟨f1, -⟩ self
    unfold X5_coverBy_L8
    rw [f1 13 (by decide), hF.2.2.1, le_p (Nat.le_refl _) (by omega)]) (i0 := 0) (S0 := S) ⟨fun _ _ => rfl, rfl⟩ (by omega) (FU_n (by omega))
  refine ⟨S', ?_, f1, f2⟩
  have h5 : wp3 (X5_coverBy_L8 (nI lo)) FU (nI (cvr q w n ki en cf lo 0)) (nI 0) S = some (nI (cvr q w n ki en cf lo n), S') := h4
  rw [cvr_0] at h5
  exact h5
/-- the least one alike, as the class's loop finds it -/
def crf (E : Nat → Bool) : Nat → Nat → Nat
  | 0, cur => cur
  | o + 1, cur => crf E o (if E o = true then o else cur)
theorem crf_spec (E : Nat → Bool) : ∀ k cur, (crf E k cur < k ∧ E (crf E k cur) = true ∧ ∀ o, o < crf E k cur → E o = false) ∨ (crf E k cur = cur ∧ ∀ o, o < k → E o = false)
  | 0, cur => Or.inr ⟨rfl, fun _ h => by omega⟩
  | k + 1, cur => by
    show (crf E k (if E k = true then k else cur) < k + 1 ∧ E (crf E k (if E k = true then k else cur)) = true ∧ ∀ o, o < crf E k (if E k = true then k else cur) → E o = false) ∨ (crf E k (if E k = true then k else cur) = cur ∧ ∀ o, o < k + 1 → E o = false)
    rcases crf_spec E k (if E k = true then k else cur) with ⟨h1, h2, h3⟩ | ⟨h1, h2⟩
    · exact Or.inl ⟨by omega, h2, h3⟩
    · by_cases hk : E k = true
      · rw [if_pos hk] at h1 ⊢
        rw [h1]
        exact Or.inl ⟨by omega, hk, h2⟩
      · rw [if_neg hk] at h1 ⊢
        refine Or.inr ⟨h1, fun o ho => ?_⟩
        by_cases he : o = k
        · rw [he]; simpa using hk
        · exact h2 o (by omega)
def clo (X : Nat → Int64) (b p : Nat) : Nat := if p < b then crf (fun o => decide (X o = X p)) p p else p
theorem clo_le (X : Nat → Int64) (b p : Nat) : clo X b p ≤ p := by
  unfold clo
  split
  · rcases crf_spec (fun o => decide (X o = X p)) p p with ⟨h1, -⟩ | ⟨h1, -⟩
    · omega
    · omega
  · exact Nat.le_refl _
/-- o is of the class that begins with c, or c is one that is told as it -/
def sim (X : Nat → Int64) (b c o : Nat) : Prop := o = c ∨ (c < o ∧ o < b ∧ X o = X c)
theorem clo_sim (X : Nat → Int64) (b p : Nat) : sim X b (clo X b p) p ∧ ∀ c, c < clo X b p → ¬ sim X b c p := by
  unfold clo
  by_cases hb : p < b
  · rw [if_pos hb]
    rcases crf_spec (fun o => decide (X o = X p)) p p with ⟨h1, h2, h3⟩ | ⟨h1, h2⟩
    · refine ⟨Or.inr ⟨h1, hb, (of_decide_eq_true h2).symm⟩, fun c hc hs => ?_⟩
      rcases hs with hs | ⟨-, -, hs⟩
      · omega
      · have := of_decide_eq_false (h3 c hc)
        exact this hs.symm
    · rw [h1]
      refine ⟨Or.inl rfl, fun c hc hs => ?_⟩
      rcases hs with hs | ⟨-, -, hs⟩
      · omega
      · have := of_decide_eq_false (h2 c hc)
        exact this hs.symm
  · rw [if_neg hb]
    refine ⟨Or.inl rfl, fun c hc hs => ?_⟩
    rcases hs with hs | ⟨-, hs, -⟩ <;> omega
/-- not seen: the class of c is all that is like it -/
theorem clo_new {X : Nat → Int64} {b c : Nat} (h : ∀ c', c' < c → ¬ sim X b c' c) (p : Nat) : clo X b p = c ↔ sim X b c p := by
  obtain ⟨h1, h2⟩ := clo_sim X b p
  constructor
  · intro e; rw [e] at h1; exact h1
  · intro hs
    rcases Nat.lt_trichotomy (clo X b p) c with hl | he | hl
    · exfalso
      apply h _ hl
      rcases hs with rfl | ⟨g1, g2, g3⟩
      · exact h1
      · rcases h1 with h1 | ⟨k1, k2, k3⟩
        · omega
        · exact Or.inr ⟨hl, by omega, g3.symm.trans k3⟩
    · exact he
    · exact absurd hs (h2 c hl)
/-- seen: none is of the class c -/
theorem clo_old {X : Nat → Int64} {b c c' : Nat} (hc : c' < c) (h : sim X b c' c) (p : Nat) : clo X b p ≠ c := by
  intro e
  obtain ⟨h1, h2⟩ := clo_sim X b p
  rw [e] at h1 h2
  apply h2 c' hc
  rcases h1 with rfl | ⟨k1, k2, k3⟩
  · exact h
  · rcases h with h | ⟨g1, g2, g3⟩
    · omega
    · exact Or.inr ⟨by omega, k2, k3.trans g3⟩
theorem classIn {S0 : Sg} {ks b p : Nat} {X : Nat → Int64} (hb : b ≤ 30) (hp : p < 10) (hpb : p < b) (hk : ks ≠ 51) (e : S0.1 ks 1 = nI b) (hX : ∀ o, o < b → S0.2 (ks + 1) o = X o) : ∀ (o : Nat) (S1 : Sg) (cur fuel : Nat), o ≤ p → o < fuel → Fr 51 S0 S1 → (∀ a, a ≠ p → S1.1 51 a = S0.1 51 a) → S1.1 51 p = nI cur →
    ∃ S2, (Fr 51 S0 S2 ∧ (∀ a, a ≠ p → S2.1 51 a = S0.1 51 a) ∧ S2.1 51 p = nI (crf (fun o => decide (X o = X p)) o cur)) ∧ ∀ K, wp2 (X9_fillClasses_L24 ks (nI p) K) fuel (nI o - 1) S1 = K S2 := by
  intro o
  induction o with
  | zero =>
    intro S1 cur fuel ho hf f1 f2 f3
    obtain ⟨f, rfl⟩ : ∃ f, fuel = f + 1 := ⟨fuel - 1, by omega⟩
    refine ⟨S1, ⟨f1, f2, f3⟩, fun K => ?_⟩
    rw [wp2s]
    unfold X9_fillClasses_L24
    rw [if_pos (by decide)]
  | succ o ih =>
    intro S1 cur fuel ho hf f1 f2 f3
    obtain ⟨f, rfl⟩ : ∃ f, fuel = f + 1 := ⟨fuel - 1, by omega⟩
    have hst : ∀ (K : Sg → Option Sg) (self : Int32 → Sg → Option Sg), X9_fillClasses_L24 ks (nI p) K self (nI (o + 1) - 1) S1 = if X o = X p then self (nI o - 1) (si S1 51 p (nI o)) else self (nI o - 1) S1 := fun K self => by
      unfold X9_fillClasses_L24
      rw [nI_s1, if_neg (nI_pos (by omega)), has6C hb (by rw [f1.1 ks hk, e]), cl1_s, b01_t (by rw [nI_T (by omega)]; omega), if_neg n10, inb_p (by omega) (by decide), inb_p (by omega) (by decide), ix_nI (by omega), ix_nI (by omega), f1.2, hX o (by omega), hX p hpb]
      simp only [jn_e, bv_e, sub1, cmp_eq, inb_nI hp (show 10 < 2 ^ 31 by decide), gd_t]
    by_cases he : X o = X p
    · obtain ⟨S2, g1, g2⟩ := ih (si S1 51 p (nI o)) o f (by omega) (by omega) (Fr_w f1 _ _) (fun a ha => by rw [si_same, upd_n _ _ ha]; exact f2 a ha) (by rw [si_same, upd_s])
      refine ⟨S2, ⟨g1.1, g1.2.1, ?_⟩, fun K => ?_⟩
      · show S2.1 51 p = nI (crf (fun o => decide (X o = X p)) o (if decide (X o = X p) = true then o else cur))
        rw [if_pos (decide_eq_true he)]
        exact g1.2.2
      · rw [wp2s, hst, if_pos he]; exact g2 K
    · obtain ⟨S2, g1, g2⟩ := ih S1 cur f (by omega) (by omega) f1 f2 f3
      refine ⟨S2, ⟨g1.1, g1.2.1, ?_⟩, fun K => ?_⟩
      · show S2.1 51 p = nI (crf (fun o => decide (X o = X p)) o (if decide (X o = X p) = true then o else cur))
        rw [if_neg (fun z => he (of_decide_eq_true z))]
        exact g1.2.2
      · rw [wp2s, hst, if_neg he]; exact g2 K
theorem fillClassesC {S : Sg} {ks b n : Nat} {X : Nat → Int64} (hn : n ≤ 10) (hb : b ≤ 30) (hk : ks ≠ 51) (e2 : S.1 1 2 = nI n) (e : S.1 ks 1 = nI b) (hX : ∀ o, o < b → S.2 (ks + 1) o = X o) : ∃ S', f_X9_fillClasses ks S = some S' ∧ Fr 51 S S' ∧ ∀ p, p < n → S'.1 51 p = nI (clo X b p) := by
  unfold f_X9_fillClasses
  obtain ⟨S', ⟨f1, f2⟩, h4⟩ := for2 (F := X9_fillClasses_L2 ks) n (fun j S1 => Fr 51 S S1 ∧ ∀ p, p < j → S1.1 51 p = nI (clo X b p)) (fun S => some S) (by
    rintro p S1 hp ⟨f1, f2⟩
    have hst : ∀ self, X9_fillClasses_L2 ks self (nI p) S1 = wp2 (X9_fillClasses_L24 ks (nI p) (fun (S6 : Sg) => bv (nI p + 1) fun x7 => self x7 S6)) FU (nI p - 1) (si S1 51 p (nI p)) := fun self => by
      unfold X9_fillClasses_L2
      rw [f1.1 1 (by decide), e2, le_n hp (by omega), inb_p (by omega) (by decide), bv_e, bv_e, ix_nI (by omega)]
    by_cases hpb : p < b
    · obtain ⟨S2, ⟨g1, g2, g3⟩, g4⟩ := classIn (S0 := si S1 51 p (nI p)) (X := X) (p := p) hb (by omega) hpb hk (by rw [si_ne _ _ _ hk, f1.1 ks hk, e]) (fun o ho => by rw [si_2, f1.2]; exact hX o ho) p (si S1 51 p (nI p)) p FU (Nat.le_refl _) (FU_n (by omega)) (Fr.rf _ _) (fun _ _ => rfl) (by rw [si_same, upd_s])
      refine ⟨S2, ⟨(Fr_w f1 p (nI p)).tr g1, fun a ha => ?_⟩, fun self => ?_⟩
      · by_cases he : a = p
        · rw [he, g3]; unfold clo; rw [if_pos hpb]
        · rw [g2 a he, si_same, upd_n _ _ he]; exact f2 a (by omega)
      · rw [hst, g4, bv_e, nI_1]
    · refine ⟨si S1 51 p (nI p), ⟨Fr_w f1 _ _, fun a ha => ?_⟩, fun self => ?_⟩
      · by_cases he : a = p
        · rw [he, si_same, upd_s]; unfold clo; rw [if_neg hpb]
        · rw [si_same, upd_n _ _ he]; exact f2 a (by omega)
      · rw [hst, show FU = 1999 + 1 from rfl, wp2s]
        generalize wp2 (X9_fillClasses_L24 ks (nI p) (fun (S6 : Sg) => bv (nI p + 1) fun x7 => self x7 S6)) 1999 = W
        unfold X9_fillClasses_L24
        by_cases h0 : p = 0
        · rw [h0, if_pos (by decide)]; rfl
        · obtain ⟨p', rfl⟩ : ∃ p', p = p' + 1 := ⟨p - 1, by omega⟩
          rw [nI_s1, if_neg (nI_pos (by omega)), has6C hb (by rw [si_ne _ _ _ hk, f1.1 ks hk, e]), cl1_s, b01_f (by rw [nI_T (by omega)]; omega), if_pos z00]
          show self (nI (p' + 1) + 1) _ = _
          rw [nI_1]) (by
    rintro S1 ⟨f1, -⟩ self
    unfold X9_fillClasses_L2
    rw [f1.1 1 (by decide), e2, le_p (Nat.le_refl _) (by omega)]) (i0 := 0) (S0 := S) ⟨Fr.rf _ _, fun _ h => by omega⟩ (by omega) (FU_n (by omega))
  exact ⟨S', h4, f1, f2⟩
