/-! asPair, asRay, compare -/
theorem under_tab : ∀ a, a < 6 → ∀ b, b < 6 → f_X9_isUnder (nI a) (nI b) = f_X10_isUnder (nI a) (nI b) ∧ (f_X10_isUnder (nI a) (nI b)).isSome = true := by decide +kernel
theorem under_eq {a b : Nat} (ha : a < 6) (hb : b < 6) : ∃ r, f_X9_isUnder (nI a) (nI b) = some r ∧ f_X10_isUnder (nI a) (nI b) = some r := by
  obtain ⟨h1, h2⟩ := under_tab a ha b hb
  obtain ⟨r, hr⟩ := Option.isSome_iff_exists.mp h2
  exact ⟨r, by rw [h1, hr], hr⟩
theorem lacksM {T : Sg} {s : Nat} (hs : s < 4) (a : Int32) : f_X10_lacks (nI s) a T = some (if T.1 10 s = 0 then -11 else if T.1 10 s = a then 0 else -13) := by
  unfold f_X10_lacks
  rw [inb_p hs (by decide), inb_p hs (by decide), ix_nI (by omega)]
  by_cases h1 : T.1 10 s = 0
  · rw [if_pos h1, if_pos h1]
  · rw [if_neg h1, if_neg h1]
    by_cases h2 : T.1 10 s = a
    · rw [if_pos h2, if_pos h2]
    · rw [if_neg h2, if_neg h2]
theorem n11 : ¬ (-11 : Int32) = 0 := by decide
theorem n13 : ¬ (-13 : Int32) = 0 := by decide
theorem e_asPair {S T : Sg} (h : Rel S T) (a0 : Int32) (a1 : Int32) : ∃ (r : Int32), f_X9_asPair a0 a1 S = some r ∧ f_X10_asPair a0 a1 T = some r ∧ Rel S T := by
  unfold f_X9_asPair f_X10_asPair
  rw [handC, cl1_s, handM, cl1_s, kindC, cl1_s, in32 a1 0 5 (by decide) (by decide), cl1_s]
  by_cases h1 : 0 ≤ a0.toInt ∧ a0.toInt < 4
  · rw [b01_t h1, if_neg n10, if_neg n10]
    by_cases h2 : 0 ≤ a1.toInt ∧ a1.toInt < 6
    · rw [b01_t h2, b01_t (show 0 ≤ a1.toInt ∧ a1.toInt ≤ 5 by omega), if_neg n10, if_neg n10]
      obtain ⟨s, hs, rfl⟩ := nI_from (a := a0) (n := 4) ⟨h1.1, by omega⟩
      obtain ⟨b, hb, rfl⟩ := nI_from (a := a1) (n := 6) ⟨h2.1, by omega⟩
      obtain ⟨k1, k2, k3, k4, k5, k6, ⟨a, ha, k7⟩, k8, k9⟩ := h.2.2.2.2 s hs
      obtain ⟨r, r1, r2⟩ := under_eq (show a < 6 by omega) hb
      rw [lacksM hs, cl1_s, inb_p hs (by decide), inb_p hs (by decide), inb_p hs (by decide), ix_nI (by omega), k1, k2, k3, k7, r1, r2, cl1_s]
      by_cases c0 : T.1 10 s = 0
      · rw [if_pos c0, if_pos c0, if_neg n11]; exact ⟨_, rfl, rfl, h⟩
      · rw [if_neg c0, if_neg c0]
        by_cases c1 : T.1 10 s = 1
        · rw [if_pos c1, if_pos c1, if_pos z00]
          by_cases c2 : r = 0
          · rw [if_pos c2]; exact ⟨_, rfl, rfl, h⟩
          · rw [if_neg c2]; exact ⟨_, rfl, rfl, h⟩
        · rw [if_neg c1, if_neg c1, if_neg n13]; exact ⟨_, rfl, rfl, h⟩
    · rw [b01_f h2, b01_f (show ¬ (0 ≤ a1.toInt ∧ a1.toInt ≤ 5) by omega), if_pos z00, if_pos z00]; exact ⟨_, rfl, rfl, h⟩
  · rw [b01_f h1, if_pos z00, if_pos z00]; exact ⟨_, rfl, rfl, h⟩
theorem e_asRay {S T : Sg} (h : Rel S T) (a0 : Int32) (a1 : Int32) : ∃ (r : Int32), f_X9_asRay a0 a1 S = some r ∧ f_X10_asRay a0 a1 T = some r ∧ Rel S T := by
  unfold f_X9_asRay f_X10_asRay
  rw [handC, cl1_s, handM, cl1_s]
  by_cases h1 : 0 ≤ a0.toInt ∧ a0.toInt < 4
  · rw [b01_t h1, if_neg n10, if_neg n10]
    obtain ⟨s, hs, rfl⟩ := nI_from (a := a0) (n := 4) ⟨h1.1, by omega⟩
    obtain ⟨k1, k2, k3, k4, k5, k6, k7, ⟨l, hl, k8⟩, k9⟩ := h.2.2.2.2 s hs
    have ew : ((nI l - 1 : Int32).toInt64).toInt = (l : Int) - 1 := by
      rw [Int32.toInt_toInt64]; exact pk_sub_toInt (a := l) (b := 1) (by omega) (by decide)
    rw [lacksM hs, cl1_s, inb_p hs (by decide), inb_p hs (by decide), ix_nI (show s < 2 ^ 31 by omega), k1, k4, k8, in32 a1 0 ((l : Int) - 1) (by decide) ew, cl1_s]
    by_cases c0 : T.1 10 s = 0
    · rw [if_pos c0, if_pos c0, if_neg n11]; exact ⟨_, rfl, rfl, h⟩
    · rw [if_neg c0, if_neg c0]
      by_cases c1 : T.1 10 s = 2
      · rw [if_pos c1, if_pos c1, if_pos z00]
        by_cases h2 : 0 ≤ a1.toInt ∧ a1.toInt ≤ (l : Int) - 1
        · rw [b01_t h2, if_neg n10, if_neg (show ¬ a1 < 0 by rw [i_lt 0 (by decide)]; omega), if_pos (show a1 < nI l by rw [i_lt (l : Int) (nI_toInt (by omega))]; omega)]
          obtain ⟨i, hi, rfl⟩ := nI_from (a := a1) (n := l) ⟨h2.1, by omega⟩
          rw [mm6, inb_p (by omega) (by decide), inb_p (by omega) (by decide), ix_nI (by omega), ix_nI (by omega), show 41 + 2 * s + 1 = 42 + 2 * s by omega, k5 i (by omega)]
          exact ⟨_, rfl, rfl, h⟩
        · rw [b01_f h2, if_pos z00]
          by_cases h3 : a1 < 0
          · rw [if_pos h3]; exact ⟨_, rfl, rfl, h⟩
          · rw [if_neg h3, if_neg (show ¬ a1 < nI l by rw [i_lt 0 (by decide)] at h3; rw [i_lt (l : Int) (nI_toInt (by omega))]; omega)]; exact ⟨_, rfl, rfl, h⟩
      · rw [if_neg c1, if_neg c1, if_neg n13]; exact ⟨_, rfl, rfl, h⟩
  · rw [b01_f h1, if_pos z00, if_pos z00]; exact ⟨_, rfl, rfl, h⟩
theorem cmp_ll {a b : Nat} (ha : a ≤ 6) (hb : b ≤ 6) : f_J6_compare_7cf53 (nI a) (nI b) = some (if a < b then -1 else if a = b then 0 else 1) := by
  unfold f_J6_compare_7cf53
  by_cases h1 : a < b
  · rw [le_n h1 (by omega), if_pos h1]
  · rw [le_p (by omega) (by omega), if_neg h1]
    by_cases h2 : a = b
    · rw [if_pos h2, if_pos (by rw [h2])]
    · rw [if_neg h2, if_neg (fun z => h2 ((nI_eq (by omega) (by omega)).mp z))]
theorem e_compare {S T : Sg} (h : Rel S T) (a0 : Int32) (a1 : Int32) : ∃ (r : Int32), f_X9_compare a0 a1 S = some r ∧ f_X10_compare a0 a1 T = some r ∧ Rel S T := by
  unfold f_X9_compare f_X10_compare
  rw [handC, cl1_s, handM, cl1_s, handC, cl1_s, handM, cl1_s]
  by_cases h1 : 0 ≤ a0.toInt ∧ a0.toInt < 4
  · rw [b01_t h1, if_neg n10, if_neg n10]
    by_cases h2 : 0 ≤ a1.toInt ∧ a1.toInt < 4
    · rw [b01_t h2, if_neg n10, if_neg n10]
      obtain ⟨s, hs, rfl⟩ := nI_from (a := a0) (n := 4) ⟨h1.1, by omega⟩
      obtain ⟨t, ht, rfl⟩ := nI_from (a := a1) (n := 4) ⟨h2.1, by omega⟩
      obtain ⟨k1, k2, k3, k4, k5, k6, k7, ⟨l1, hl1, k8⟩, k9⟩ := h.2.2.2.2 s hs
      obtain ⟨j1, j2, j3, j4, j5, j6, j7, ⟨l2, hl2, j8⟩, j9⟩ := h.2.2.2.2 t ht
      have key : ∃ r, f_X1_orderTo (41 + 2 * s) (41 + 2 * t) S = some r ∧ wp1 (X10_compare_L63 (nI s) (nI t) T) FU 0 = some r := by
        have tail : ∀ c i fuel, i + c = 6 → l1 ≤ i → l2 ≤ i → c < fuel → wp1 (X10_compare_L63 (nI s) (nI t) T) fuel (nI i) = some 0 := by
          intro c
          induction c with
          | zero =>
            intro i fuel hi _ _ hf
            obtain ⟨f, rfl⟩ : ∃ f, fuel = f + 1 := ⟨fuel - 1, by omega⟩
            rw [wp1s]
            unfold X10_compare_L63
            rw [show (6 : Int32) = nI 6 from rfl, le_p (by omega) (by omega)]
          | succ c ih =>
            intro i fuel hi q1 q2 hf
            obtain ⟨f, rfl⟩ : ∃ f, fuel = f + 1 := ⟨fuel - 1, by omega⟩
            have IH := ih (i + 1) f (by omega) (by omega) (by omega) (by omega)
            rw [wp1s]
            generalize wp1 (X10_compare_L63 (nI s) (nI t) T) f = W at IH ⊢
            unfold X10_compare_L63
            simp only [jn_e, bv_e]
            rw [inb_p hs (by decide), inb_p ht (by decide), inb_p ht (by decide), ix_nI (show s < 2 ^ 31 by omega), ix_nI (show t < 2 ^ 31 by omega), k8, j8, show (6 : Int32) = nI 6 from rfl, le_n (show i < 6 by omega) (by omega), le_p (show l1 ≤ i by omega) (by omega), le_p (show l2 ≤ i by omega) (by omega), if_pos trivial, nI_1, IH]
        unfold f_X1_orderTo
        rw [bv_e, k4, j4, k8, j8]
        have emin : (if nI l2 < nI l1 then nI l2 else nI l1) = nI (min l1 l2) := by
          by_cases e : l2 < l1
          · rw [if_pos ((nI_ltI (by omega) (by omega)).mpr e), show min l1 l2 = l2 by omega]
          · rw [if_neg (fun z => e ((nI_ltI (by omega) (by omega)).mp z)), show min l1 l2 = l1 by omega]
        rw [emin, cmp_ll hl1 hl2, cl1_s]
        have main : ∀ c i fuel, i + c = min l1 l2 → c + 7 < fuel → ∃ r, wp1 (X1_orderTo_L14 (41 + 2 * s) (41 + 2 * t) S (nI (min l1 l2)) (some (if l1 < l2 then -1 else if l1 = l2 then 0 else 1))) fuel (nI i) = some r ∧ wp1 (X10_compare_L63 (nI s) (nI t) T) fuel (nI i) = some r := by
          intro c
          induction c with
          | zero =>
            intro i fuel hi hf
            by_cases e : l1 = l2
            · refine ⟨0, ?_, tail (6 - i) i fuel (by omega) (by omega) (by omega) (by omega)⟩
              obtain ⟨f, rfl⟩ : ∃ f, fuel = f + 1 := ⟨fuel - 1, by omega⟩
              rw [wp1s]
              unfold X1_orderTo_L14
              rw [le_p (by omega) (by omega), if_neg (by omega), if_pos e]
            · obtain ⟨f, rfl⟩ : ∃ f, fuel = f + 1 := ⟨fuel - 1, by omega⟩
              refine ⟨if l1 < l2 then -1 else 1, ?_, ?_⟩
              · rw [wp1s]
                unfold X1_orderTo_L14
                rw [le_p (by omega) (by omega), if_neg e]
              · rw [wp1s]
                generalize wp1 (X10_compare_L63 (nI s) (nI t) T) f = W
                unfold X10_compare_L63
                simp only [jn_e, bv_e]
                rw [mm6, mm6, inb_p hs (by decide), inb_p ht (by decide), inb_p ht (by decide), ix_nI (show s < 2 ^ 31 by omega), ix_nI (show t < 2 ^ 31 by omega), k8, j8, show (6 : Int32) = nI 6 from rfl, le_n (show i < 6 by omega) (by omega)]
                by_cases e2 : l1 < l2
                · have q9 := j9 i (by omega)
                  have q1 : ¬ (-1 : Int32) = T.1 14 (6 * t + i) := fun z => by rw [← z] at q9; exact absurd q9 (by decide)
                  have q2 : ¬ T.1 14 (6 * t + i) ≤ -1 := by rw [i_le (-1) (by decide)]; omega
                  rw [le_p (show l1 ≤ i by omega) (by omega), le_n (show i < l2 by omega) (by omega), inb_p (show 6 * t + i < 24 by omega) (by decide), ix_nI (show 6 * t + i < 2 ^ 31 by omega), if_neg q1, if_neg q2, if_pos e2]
                · have q9 := k9 i (by omega)
                  have q1 : ¬ T.1 14 (6 * s + i) = -1 := fun z => by rw [z] at q9; exact absurd q9 (by decide)
                  have q2 : -1 ≤ T.1 14 (6 * s + i) := by rw [i_ge (-1) (by decide)]; omega
                  rw [le_n (show i < l1 by omega) (by omega), le_p (show l2 ≤ i by omega) (by omega), inb_p (show 6 * s + i < 24 by omega) (by decide), ix_nI (show 6 * s + i < 2 ^ 31 by omega), if_neg q1, if_pos q2, if_neg e2]
          | succ c ih =>
            intro i fuel hi hf
            obtain ⟨f, rfl⟩ : ∃ f, fuel = f + 1 := ⟨fuel - 1, by omega⟩
            obtain ⟨r, r1, r2⟩ := ih (i + 1) f (by omega) (by omega)
            rw [wp1s, wp1s]
            generalize wp1 (X1_orderTo_L14 (41 + 2 * s) (41 + 2 * t) S (nI (min l1 l2)) (some (if l1 < l2 then -1 else if l1 = l2 then 0 else 1))) f = W1 at r1 ⊢
            generalize wp1 (X10_compare_L63 (nI s) (nI t) T) f = W2 at r2 ⊢
            unfold X1_orderTo_L14 X10_compare_L63
            simp only [jn_e, bv_e]
            rw [mm6, mm6, inb_p hs (by decide), inb_p ht (by decide), inb_p ht (by decide), ix_nI (show s < 2 ^ 31 by omega), ix_nI (show t < 2 ^ 31 by omega), k8, j8, show (6 : Int32) = nI 6 from rfl, le_n (show i < 6 by omega) (by omega), le_n (show i < l1 by omega) (by omega), le_n (show i < l2 by omega) (by omega), inb_p (show 6 * t + i < 24 by omega) (by decide), inb_p (show 6 * s + i < 24 by omega) (by decide), ix_nI (show 6 * t + i < 2 ^ 31 by omega), ix_nI (show 6 * s + i < 2 ^ 31 by omega), le_n (show i < min l1 l2 by omega) (by omega), ix_nI (show i < 2 ^ 31 by omega), show 41 + 2 * s + 1 = 42 + 2 * s by omega, show 41 + 2 * t + 1 = 42 + 2 * t by omega, k5 i (by omega), j5 i (by omega), nI_1, r1, r2]
            simp only [inb_nI (show i < 6 by omega) (show 6 < 2 ^ 31 by decide), gd_t]
            by_cases e : T.1 14 (6 * s + i) = T.1 14 (6 * t + i)
            · rw [if_pos e]; exact ⟨_, rfl, rfl⟩
            · rw [if_neg e]
              split <;> exact ⟨_, rfl, rfl⟩
        exact main (min l1 l2) 0 FU (by omega) (FU_n (by omega))
      obtain ⟨r, r1, r2⟩ := key
      rw [inb_p hs (by decide), inb_p ht (by decide), inb_p hs (by decide), inb_p hs (by decide), inb_p ht (by decide), inb_p ht (by decide), ix_nI (show s < 2 ^ 31 by omega), ix_nI (show t < 2 ^ 31 by omega), k1, j1, r1, r2, cl1_s]
      by_cases c0 : T.1 10 s = 0
      · rw [if_pos c0]; exact ⟨_, rfl, rfl, h⟩
      · rw [if_neg c0]
        by_cases c1 : T.1 10 t = 0
        · rw [if_pos c1]; exact ⟨_, rfl, rfl, h⟩
        · rw [if_neg c1]
          by_cases c2 : T.1 10 s = 2
          · rw [if_pos c2]
            by_cases c3 : T.1 10 t = 2
            · rw [if_pos c3]; exact ⟨_, rfl, rfl, h⟩
            · rw [if_neg c3]; exact ⟨_, rfl, rfl, h⟩
          · rw [if_neg c2]; exact ⟨_, rfl, rfl, h⟩
    · rw [b01_f h2, if_pos z00, if_pos z00]; exact ⟨_, rfl, rfl, h⟩
  · rw [b01_f h1, if_pos z00, if_pos z00]; exact ⟨_, rfl, rfl, h⟩
