/-! ROOT: two loops side by side; the numbers of the TABLE -/
theorem jt2 {ρ ρ' κ κ' : Type} {F : κ → (Int32 → Sg → Option ρ) → Int32 → Sg → Option ρ} {G : κ' → (Int32 → Sg → Option ρ') → Int32 → Sg → Option ρ'} (ex : κ → Sg → Option ρ) (ey : κ' → Sg → Option ρ') (n : Nat) (J : Nat → Sg → Sg → Prop) (hs : ∀ i S T, i < n → J i S T → ∃ S' T', J (i + 1) S' T' ∧ (∀ k self, F k self (nI i) S = self (nI (i + 1)) S') ∧ ∀ k self, G k self (nI i) T = self (nI (i + 1)) T') (he : ∀ S T, J n S T → (∀ k self, F k self (nI n) S = ex k S) ∧ ∀ k self, G k self (nI n) T = ey k T) : ∀ (c i : Nat) (S T : Sg) (fuel : Nat), i + c = n → J i S T → c < fuel → ∃ S' T', J n S' T' ∧ (∀ k, wp2 (F k) fuel (nI i) S = ex k S') ∧ ∀ k, wp2 (G k) fuel (nI i) T = ey k T' := by
  intro c
  induction c with
  | zero =>
    intro i S T fuel h1 h2 h3
    obtain ⟨f, rfl⟩ : ∃ f, fuel = f + 1 := ⟨fuel - 1, by omega⟩
    have e : i = n := by omega
    subst e
    exact ⟨S, T, h2, fun k => by rw [wp2s]; exact (he S T h2).1 k _, fun k => by rw [wp2s]; exact (he S T h2).2 k _⟩
  | succ c ih =>
    intro i S T fuel h1 h2 h3
    obtain ⟨f, rfl⟩ : ∃ f, fuel = f + 1 := ⟨fuel - 1, by omega⟩
    obtain ⟨S1, T1, q1, q2, q3⟩ := hs i S T (by omega) h2
    obtain ⟨S', T', q4, q5, q6⟩ := ih (i + 1) S1 T1 f (by omega) q1 (by omega)
    exact ⟨S', T', q4, fun k => by rw [wp2s, q2]; exact q5 k, fun k => by rw [wp2s, q3]; exact q6 k⟩
theorem jt3 {ρ ρ' κ κ' A : Type} {F : κ → (A → Int32 → Sg → Option ρ) → A → Int32 → Sg → Option ρ} {G : κ' → (A → Int32 → Sg → Option ρ') → A → Int32 → Sg → Option ρ'} (ex : κ → A → Sg → Option ρ) (ey : κ' → A → Sg → Option ρ') (n : Nat) (J : Nat → A → Sg → Sg → Prop) (hs : ∀ i a S T, i < n → J i a S T → ∃ a' S' T', J (i + 1) a' S' T' ∧ (∀ k self, F k self a (nI i) S = self a' (nI (i + 1)) S') ∧ ∀ k self, G k self a (nI i) T = self a' (nI (i + 1)) T') (he : ∀ a S T, J n a S T → (∀ k self, F k self a (nI n) S = ex k a S) ∧ ∀ k self, G k self a (nI n) T = ey k a T) : ∀ (c i : Nat) (a : A) (S T : Sg) (fuel : Nat), i + c = n → J i a S T → c < fuel → ∃ a' S' T', J n a' S' T' ∧ (∀ k, wp3 (F k) fuel a (nI i) S = ex k a' S') ∧ ∀ k, wp3 (G k) fuel a (nI i) T = ey k a' T' := by
  intro c
  induction c with
  | zero =>
    intro i a S T fuel h1 h2 h3
    obtain ⟨f, rfl⟩ : ∃ f, fuel = f + 1 := ⟨fuel - 1, by omega⟩
    have e : i = n := by omega
    subst e
    exact ⟨a, S, T, h2, fun k => by rw [wp3s]; exact (he a S T h2).1 k _, fun k => by rw [wp3s]; exact (he a S T h2).2 k _⟩
  | succ c ih =>
    intro i a S T fuel h1 h2 h3
    obtain ⟨f, rfl⟩ : ∃ f, fuel = f + 1 := ⟨fuel - 1, by omega⟩
    obtain ⟨a1, S1, T1, q1, q2, q3⟩ := hs i a S T (by omega) h2
    obtain ⟨a', S', T', q4, q5, q6⟩ := ih (i + 1) a1 S1 T1 f (by omega) q1 (by omega)
    exact ⟨a', S', T', q4, fun k => by rw [wp3s, q2]; exact q5 k, fun k => by rw [wp3s, q3]; exact q6 k⟩
/-- what ROOT changes in the class, in the reference -/
def FcR (S0 S : Sg) : Prop := (∀ k, k ≠ 27 → S.1 k = S0.1 k) ∧ S.1 27 0 = S0.1 27 0 ∧ ∀ k, k ≠ 28 → S.2 k = S0.2 k
def FmR (T0 T : Sg) : Prop := (∀ k, k ≠ 0 → T.1 k = T0.1 k) ∧ (∀ j, j ≠ 11 → T.1 0 j = T0.1 0 j) ∧ ∀ k, k ≠ 8 → T.2 k = T0.2 k
theorem FcR.rf (S : Sg) : FcR S S := ⟨fun _ _ => rfl, rfl, fun _ _ => rfl⟩
theorem FmR.rf (S : Sg) : FmR S S := ⟨fun _ _ => rfl, fun _ _ => rfl, fun _ _ => rfl⟩
theorem FcR.tr {S S1 S2 : Sg} (h1 : FcR S S1) (h2 : FcR S1 S2) : FcR S S2 := ⟨fun k hk => (h2.1 k hk).trans (h1.1 k hk), h2.2.1.trans h1.2.1, fun k hk => (h2.2.2 k hk).trans (h1.2.2 k hk)⟩
theorem FmR.tr {S S1 S2 : Sg} (h1 : FmR S S1) (h2 : FmR S1 S2) : FmR S S2 := ⟨fun k hk => (h2.1 k hk).trans (h1.1 k hk), fun k hk => (h2.2.1 k hk).trans (h1.2.1 k hk), fun k hk => (h2.2.2 k hk).trans (h1.2.2 k hk)⟩
theorem FcR_f {S S1 : Sg} (h : FcR S S1) (v : Int32) : FcR S (si S1 27 1 v) := ⟨fun k hk => by rw [si_ne _ _ _ hk]; exact h.1 k hk, by rw [si_same, upd_n _ _ (by decide)]; exact h.2.1, h.2.2⟩
theorem FmR_f {S S1 : Sg} (h : FmR S S1) (v : Int32) : FmR S (si S1 0 11 v) := ⟨fun k hk => by rw [si_ne _ _ _ hk]; exact h.1 k hk, fun j hj => by rw [si_same, upd_n _ _ hj]; exact h.2.1 j hj, h.2.2⟩
theorem FcR_l {S S1 : Sg} (h : FcR S S1) (j : Nat) (v : Int64) : FcR S (sl S1 28 j v) := ⟨h.1, h.2.1, fun k hk => by rw [sl_ne _ _ _ hk]; exact h.2.2 k hk⟩
theorem FmR_l {S S1 : Sg} (h : FmR S S1) (j : Nat) (v : Int64) : FmR S (sl S1 8 j v) := ⟨h.1, h.2.1, fun k hk => by rw [sl_ne _ _ _ hk]; exact h.2.2 k hk⟩
theorem FcR.agr {S S1 : Sg} (h : FcR S S1) : AgrC S S1 := fun k hk => ⟨h.1 k (by omega), h.2.2 k (by omega)⟩
theorem FmR.agr {S S1 : Sg} (h : FmR S S1) : AgrM S S1 := ⟨fun k hk => ⟨h.1 k (by omega), h.2.2 k (by omega)⟩, fun j hj => h.2.1 j (by omega)⟩
/-- the two flags are alike -/
def FLG (S T : Sg) : Prop := S.1 27 1 = T.1 0 11 ∧ f01 (T.1 0 11)
theorem fl_S (S : Sg) (v : Int32) : (si S 27 1 v).1 27 1 = v := by rw [si_same, upd_s]
theorem fl_T (S : Sg) (v : Int32) : (si S 0 11 v).1 0 11 = v := by rw [si_same, upd_s]
/-- one number of the TABLE, before it is looked at -/
theorem entryJ {S T : Sg} {q w n ks i j : Nat} {ki en : Nat → Int32} {X : Nat → Int64} (hq : 0 < q) (hq2 : q ≤ 97) (hw : w ≤ 6) (hn : n ≤ 10) (hi : i < w) (hj : j < w) (hF : Filled S q w n ki en) (hX : ∀ S', FcR S S' → ∀ p, p < n → f_X6_numberFor ks (nI p) S' = some (X p)) (t0 : T.1 0 0 = nI q) (t2 : T.1 0 2 = nI n) (e1 : T.1 1 = ki) (e4 : T.1 4 = en) (hY : ∀ p, p < n → T.2 7 p = X p) (hfl : FLG S T) :
    ∃ v S1 T1, (FcR S S1 ∧ S1.2 = S.2 ∧ FmR T T1 ∧ T1.2 = T.2 ∧ FLG S1 T1) ∧ (∀ K, wp3 (X4_wholeNumber_L6 ks (nI i) (nI j) K) FU 0 (nI 0) S = K v S1) ∧ ∀ K, wp3 (X10_laysWhole_L27 (nI i) (nI j) K) FU 0 (nI 0) T = K v T1 := by
  refine jt3 (F := fun K => X4_wholeNumber_L6 ks (nI i) (nI j) K) (G := fun K => X10_laysWhole_L27 (nI i) (nI j) K) (fun K a S => K a S) (fun K a S => K a S) n (fun _ _ S1 T1 => FcR S S1 ∧ S1.2 = S.2 ∧ FmR T T1 ∧ T1.2 = T.2 ∧ FLG S1 T1) ?_ ?_ n 0 (0 : Int64) S T FU (by omega) ⟨FcR.rf S, rfl, FmR.rf T, rfl, hfl⟩ (FU_n (by omega))
  · rintro p a S1 T1 hp ⟨f1, f2, f3, f4, f5, f6⟩
    have hF1 : Filled S1 q w n ki en := hF.fr (f1.1 13 (by decide)) (f1.1 14 (by decide))
    have fC : f01 (S1.1 27 1) := by rw [f5]; exact f6
    have g1 := f01_or f6 (ov (X p) (dfn q ki en p i j).toInt64)
    have g2 := f01_or g1.1 (pov a (X p * (dfn q ki en p i j).toInt64))
    have dM := differenceM (T := T1) hq hq2 (by rw [f3.2.1 0 (by decide), t0]) (show p < 10 by omega) (show i < 6 by omega) (show j < 6 by omega)
    rw [f3.1 1 (by decide), f3.1 4 (by decide), e1, e4] at dM
    refine ⟨a + X p * (dfn q ki en p i j).toInt64, si (si S1 27 1 (T1.1 0 11 ||| bz (ov (X p) (dfn q ki en p i j).toInt64))) 27 1 ((T1.1 0 11 ||| bz (ov (X p) (dfn q ki en p i j).toInt64)) ||| bz (pov a (X p * (dfn q ki en p i j).toInt64))), si (si T1 0 11 (T1.1 0 11 ||| bz (ov (X p) (dfn q ki en p i j).toInt64))) 0 11 ((T1.1 0 11 ||| bz (ov (X p) (dfn q ki en p i j).toInt64)) ||| bz (pov a (X p * (dfn q ki en p i j).toInt64))), ⟨FcR_f (FcR_f f1 _) _, f2, FmR_f (FmR_f f3 _) _, f4, ?_, ?_⟩, fun K self => ?_, fun K self => ?_⟩
    · rw [fl_S, fl_T]
    · rw [fl_T]; exact g2.1
    · unfold X4_wholeNumber_L6
      rw [hF1.2.2.1, le_n hp (by omega), hX S1 f1 p hp, cl1_s, differenceC hF1 hw hn hp hi hj, cl1_s, productC fC, cl_s, plusC (by rw [fl_S, f5]; exact g1.1), cl_s, fl_S, f5, bv_e, nI_1]
    · unfold X10_laysWhole_L27
      rw [f3.2.1 2 (by decide), t2, le_n hp (by omega), inb_p (by omega) (by decide), dM, cl1_s, ix_nI (by omega), f4, hY p hp, timesM f6, cl_s, plusM (by rw [fl_T]; exact g1.1), cl_s, fl_T, bv_e, nI_1]
  · rintro a S1 T1 ⟨f1, f2, f3, f4, f5⟩
    refine ⟨fun K self => ?_, fun K self => ?_⟩
    · unfold X4_wholeNumber_L6
      rw [f1.1 13 (by decide), hF.2.2.1, le_p (Nat.le_refl _) (by omega)]
    · unfold X10_laysWhole_L27
      rw [f3.2.1 2 (by decide), t2, le_p (Nat.le_refl _) (by omega)]
/-- the numbers of the TABLE in both -/
def NE (w : Nat) (S T : Sg) (P : Nat → Nat → Prop) : Prop := ∀ i j, i < j → j < w → P i j → S.2 28 (i * 6 + j) = T.2 8 (6 * i + j)
def tooMuch (v : Int64) : Prop := ¬ v = v.toInt32.toInt64
theorem laysJ {S T : Sg} {q w n ks : Nat} {ki en : Nat → Int32} {X : Nat → Int64} (hq : 0 < q) (hq2 : q ≤ 97) (hw : w ≤ 6) (hn : n ≤ 10) (hF : Filled S q w n ki en) (s27 : S.1 27 0 = nI w) (hX : ∀ S', FcR S S' → ∀ p, p < n → f_X6_numberFor ks (nI p) S' = some (X p)) (t0 : T.1 0 0 = nI q) (t1 : T.1 0 1 = nI w) (t2 : T.1 0 2 = nI n) (e1 : T.1 1 = ki) (e4 : T.1 4 = en) (hY : ∀ p, p < n → T.2 7 p = X p) (hfl : FLG S T) :
    ∃ S' T', (FcR S S' ∧ FmR T T' ∧ FLG S' T' ∧ NE w S' T' (fun _ _ => True)) ∧ (∀ K, wp2 (X4_made_L15 ks K) FU (nI 0) S = K S') ∧ f_X10_laysWhole T = some T' := by
  obtain ⟨S', T', ⟨f1, f2, f3, f4⟩, h5, h6⟩ := jt2 (F := fun K => X4_made_L15 ks K) (G := fun (_ : Unit) => X10_laysWhole_L2) (fun K S => K S) (fun _ T => some T) w (fun i S1 T1 => FcR S S1 ∧ FmR T T1 ∧ FLG S1 T1 ∧ NE w S1 T1 (fun i' _ => i' < i)) (by
    rintro i S1 T1 hi ⟨f1, f2, f3, f4⟩
    obtain ⟨S2, T2, ⟨g1, g2, g3, g4⟩, g5, g6⟩ := jt2 (F := fun K => X4_made_L28 ks (nI i) K) (G := fun K => X10_laysWhole_L14 (nI i) K) (fun K S => K S) (fun K S => K S) w (fun j S2 T2 => FcR S S2 ∧ FmR T T2 ∧ FLG S2 T2 ∧ NE w S2 T2 (fun i' j' => i' < i ∨ (i' = i ∧ j' < j))) (by
      rintro j S2 T2 hj ⟨g1, g2, g3, g4⟩
      obtain ⟨v, S3, T3, ⟨k1, k2, k3, k4, k5, k6⟩, k7, k8⟩ := entryJ (S := S2) (T := T2) (ks := ks) (i := i) (j := j) (X := X) hq hq2 hw hn hi hj (hF.fr (g1.1 13 (by decide)) (g1.1 14 (by decide))) (fun S' h' p hp => hX S' (g1.tr h') p hp) (by rw [g2.2.1 0 (by decide), t0]) (by rw [g2.2.1 2 (by decide), t2]) (by rw [g2.1 1 (by decide), e1]) (by rw [g2.1 4 (by decide), e4]) (fun p hp => by rw [g2.2.2 7 (by decide)]; exact hY p hp) g3
      have hb := f01_or k6 (tooMuch v)
      refine ⟨sl (si S3 27 1 (T3.1 0 11 ||| bz (tooMuch v))) 28 (i * 6 + j) v, sl (si T3 0 11 (T3.1 0 11 ||| bz (tooMuch v))) 8 (6 * i + j) v, ⟨FcR_l (FcR_f (g1.tr k1) _) _ _, FmR_l (FmR_f (g2.tr k3) _) _ _, ⟨?_, ?_⟩, ?_⟩, fun K self => ?_, fun K self => ?_⟩
      · rw [sl_1, sl_1, fl_S, fl_T]
      · rw [sl_1, fl_T]; exact hb.1
      · intro i' j' h1 h2 h3
        rw [sl_same, sl_same]
        by_cases he : i' = i ∧ j' = j
        · rw [he.1, he.2, updL_s, updL_s]
        · rw [updL_n _ _ (by omega), updL_n _ _ (by omega), si_2, si_2, k2, k4]
          exact g4 i' j' h1 h2 (by omega)
      · have hwn : f_X4_wholeNumber ks (nI i) (nI j) S2 = some (v, si S3 27 1 (T3.1 0 11 ||| bz (tooMuch v))) := by
          unfold f_X4_wholeNumber
          rw [show (0 : Int32) = nI 0 from rfl, k7]
          unfold f_X9_isInt
          simp only [nI_0, jn_e, bv_e, cmp_eq, k5]
          by_cases hm : v = v.toInt32.toInt64
          · rw [bz_f (show ¬ tooMuch v from fun z => z hm)] at hb ⊢
            rw [if_pos hm, cl1_s, if_neg n10]
            exact gd_p hb.2.1
          · rw [bz_t (show tooMuch v from hm)] at hb ⊢
            rw [if_neg hm, cl1_s, if_pos rfl]
            exact gd_p hb.2.1
        unfold X4_made_L28
        rw [g1.2.1, s27, le_n hj (by omega), hwn, cl_s, ma6, inb_p (by omega) (by decide), bv_e, bv_e, ix_nI (by omega), nI_1]
      · unfold X10_laysWhole_L14
        rw [g2.2.1 1 (by decide), t1, le_n hj (by omega), show (0 : Int32) = nI 0 from rfl, k8]
        simp only [nI_0, jn_e, bv_e, cmp_eq, mm6, nI_1, inb_nI (show 6 * i + j < 36 by omega) (show 36 < 2 ^ 31 by decide), gd_t, ix_nI (show 6 * i + j < 2 ^ 31 by omega)]
        by_cases hm : v = v.toInt32.toInt64
        · rw [bz_f (show ¬ tooMuch v from fun z => z hm)] at hb ⊢
          rw [if_pos hm]
          exact gd_p hb.2.1
        · rw [bz_t (show tooMuch v from hm)] at hb ⊢
          rw [if_neg hm]
          exact gd_p hb.2.1) (by
      rintro S2 T2 ⟨g1, g2, -⟩
      refine ⟨fun K self => ?_, fun K self => ?_⟩
      · unfold X4_made_L28
        rw [g1.2.1, s27, le_p (Nat.le_refl _) (by omega)]
      · unfold X10_laysWhole_L14
        rw [g2.2.1 1 (by decide), t1, le_p (Nat.le_refl _) (by omega)]) (w - (i + 1)) (i + 1) S1 T1 FU (by omega) ⟨f1, f2, f3, fun i' j' h1 h2 h3 => f4 i' j' h1 h2 (by omega)⟩ (FU_n (by omega))
    refine ⟨S2, T2, ⟨g1, g2, g3, fun i' j' h1 h2 h3 => g4 i' j' h1 h2 (by omega)⟩, fun K self => ?_, fun K self => ?_⟩
    · unfold X4_made_L15
      rw [f1.2.1, s27, le_n hi (by omega), bv_e, nI_1, g5, bv_e]
    · unfold X10_laysWhole_L2
      rw [f2.2.1 1 (by decide), t1, le_n hi (by omega), bv_e, nI_1, g6, bv_e]) (by
    rintro S1 T1 ⟨f1, f2, -⟩
    refine ⟨fun K self => ?_, fun K self => ?_⟩
    · unfold X4_made_L15
      rw [f1.2.1, s27, le_p (Nat.le_refl _) (by omega)]
    · unfold X10_laysWhole_L2
      rw [f2.2.1 1 (by decide), t1, le_p (Nat.le_refl _) (by omega)]) w 0 S T FU (by omega) ⟨FcR.rf S, FmR.rf T, hfl, fun _ _ _ _ h => absurd h (Nat.not_lt_zero _)⟩ (FU_n (by omega))
  exact ⟨S', T', ⟨f1, f2, f3, fun i j h1 h2 _ => f4 i j h1 h2 (by omega)⟩, h5, h6 ()⟩
