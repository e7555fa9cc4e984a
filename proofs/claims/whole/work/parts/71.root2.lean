/-! ROOT: the recursion in both; root -/
theorem lpq4 {ρ : Type} {F : (Int64 → Int32 → Int32 → Sg → Option ρ) → Int64 → Int32 → Int32 → Sg → Option ρ} (n : Nat) (J : Nat → Int64 → Int32 → Sg → Prop) (ex : Int64 → Sg → Option ρ) (hs : ∀ i y b T, i < n → J i y b T → ∃ y' b' T', J (i + 1) y' b' T' ∧ ∀ self, F self y b (nI i) T = self y' b' (nI (i + 1)) T') (he : ∀ y b T, J n y b T → ∀ self, F self y b (nI n) T = ex y T) : ∀ (c i : Nat) (y : Int64) (b : Int32) (T : Sg) (fuel : Nat), i + c = n → J i y b T → c < fuel → ∃ y' b' T', J n y' b' T' ∧ wp4 F fuel y b (nI i) T = ex y' T' := by
  intro c
  induction c with
  | zero =>
    intro i y b T fuel h1 h2 h3
    obtain ⟨f, rfl⟩ : ∃ f, fuel = f + 1 := ⟨fuel - 1, by omega⟩
    have e : i = n := by omega
    subst e
    exact ⟨y, b, T, h2, by rw [wp4s]; exact he y b T h2 _⟩
  | succ c ih =>
    intro i y b T fuel h1 h2 h3
    obtain ⟨f, rfl⟩ : ∃ f, fuel = f + 1 := ⟨fuel - 1, by omega⟩
    obtain ⟨y1, b1, T1, q1, q2⟩ := hs i y b T (by omega) h2
    obtain ⟨y', b', T', q3, q4⟩ := ih (i + 1) y1 b1 T1 f (by omega) q1 (by omega)
    exact ⟨y', b', T', q3, by rw [wp4s, q2]; exact q4⟩
theorem jt4 {ρ ρ' : Type} {F : (Int64 → Int32 → Int32 → Sg → Option ρ) → Int64 → Int32 → Int32 → Sg → Option ρ} {G : (Int64 → Int32 → Int32 → Sg → Option ρ') → Int64 → Int32 → Int32 → Sg → Option ρ'} (n : Nat) (J : Nat → Int64 → Int64 → Int32 → Sg → Sg → Prop) (ex : Int64 → Sg → Option ρ) (ey : Int64 → Sg → Option ρ') (hs : ∀ i x y b S T, i < n → J i x y b S T → ∃ x' y' b' S' T', J (i + 1) x' y' b' S' T' ∧ (∀ self, F self x b (nI i) S = self x' b' (nI (i + 1)) S') ∧ ∀ self, G self y b (nI i) T = self y' b' (nI (i + 1)) T') (he : ∀ x y b S T, J n x y b S T → (∀ self, F self x b (nI n) S = ex x S) ∧ ∀ self, G self y b (nI n) T = ey y T) : ∀ (c i : Nat) (x y : Int64) (b : Int32) (S T : Sg) (fuel : Nat), i + c = n → J i x y b S T → c < fuel → ∃ x' y' b' S' T', J n x' y' b' S' T' ∧ wp4 F fuel x b (nI i) S = ex x' S' ∧ wp4 G fuel y b (nI i) T = ey y' T' := by
  intro c
  induction c with
  | zero =>
    intro i x y b S T fuel h1 h2 h3
    obtain ⟨f, rfl⟩ : ∃ f, fuel = f + 1 := ⟨fuel - 1, by omega⟩
    have e : i = n := by omega
    subst e
    exact ⟨x, y, b, S, T, h2, by rw [wp4s]; exact (he x y b S T h2).1 _, by rw [wp4s]; exact (he x y b S T h2).2 _⟩
  | succ c ih =>
    intro i x y b S T fuel h1 h2 h3
    obtain ⟨f, rfl⟩ : ∃ f, fuel = f + 1 := ⟨fuel - 1, by omega⟩
    obtain ⟨x1, y1, b1, S1, T1, q1, q2, q3⟩ := hs i x y b S T (by omega) h2
    obtain ⟨x', y', b', S', T', q4, q5, q6⟩ := ih (i + 1) x1 y1 b1 S1 T1 f (by omega) q1 (by omega)
    exact ⟨x', y', b', S', T', q4, by rw [wp4s, q2]; exact q5, by rw [wp4s, q3]; exact q6⟩
theorem two_tab : ∀ a, a < 64 → ∀ i, i < 6 → ∀ j, j < 6 → nI a &&& ((((1 : Int32) <<< (nI i &&& 31)) ||| ((1 : Int32) <<< (nI j &&& 31))) ^^^ (-1 : Int32)) = nI (clr (clr a i) j) := by decide +kernel
theorem pcn_zz : ∀ a, a < 1024 → pcn a = 0 → a = 0 := by decide +kernel
/-- only the flag of ROOT has changed -/
def FcT (S0 S : Sg) : Prop := (∀ k, k ≠ 27 → S.1 k = S0.1 k) ∧ S.1 27 0 = S0.1 27 0 ∧ S.2 = S0.2
def FmT (T0 T : Sg) : Prop := (∀ k, k ≠ 0 → T.1 k = T0.1 k) ∧ (∀ j, j ≠ 11 → T.1 0 j = T0.1 0 j) ∧ T.2 = T0.2
theorem FcT.rf (S : Sg) : FcT S S := ⟨fun _ _ => rfl, rfl, rfl⟩
theorem FmT.rf (S : Sg) : FmT S S := ⟨fun _ _ => rfl, fun _ _ => rfl, rfl⟩
theorem FcT.tr {S S1 S2 : Sg} (h1 : FcT S S1) (h2 : FcT S1 S2) : FcT S S2 := ⟨fun k hk => (h2.1 k hk).trans (h1.1 k hk), h2.2.1.trans h1.2.1, h2.2.2.trans h1.2.2⟩
theorem FmT.tr {S S1 S2 : Sg} (h1 : FmT S S1) (h2 : FmT S1 S2) : FmT S S2 := ⟨fun k hk => (h2.1 k hk).trans (h1.1 k hk), fun k hk => (h2.2.1 k hk).trans (h1.2.1 k hk), h2.2.2.trans h1.2.2⟩
theorem FcT_f {S S1 : Sg} (h : FcT S S1) (v : Int32) : FcT S (si S1 27 1 v) := ⟨fun k hk => by rw [si_ne _ _ _ hk]; exact h.1 k hk, by rw [si_same, upd_n _ _ (by decide)]; exact h.2.1, h.2.2⟩
theorem FmT_f {S S1 : Sg} (h : FmT S S1) (v : Int32) : FmT S (si S1 0 11 v) := ⟨fun k hk => by rw [si_ne _ _ _ hk]; exact h.1 k hk, fun j hj => by rw [si_same, upd_n _ _ hj]; exact h.2.1 j hj, h.2.2⟩
theorem FcT.w {S S1 : Sg} (h : FcT S S1) : FcR S S1 := ⟨h.1, h.2.1, fun k _ => by rw [h.2.2]⟩
theorem FmT.w {S S1 : Sg} (h : FmT S S1) : FmR S S1 := ⟨h.1, h.2.1, fun k _ => by rw [h.2.2]⟩
/-- the least place that is left -/
theorem leastP {a w : Nat} (ha : a < 2 ^ w) (h0 : a ≠ 0) : ∃ i, i < w ∧ a.testBit i = true ∧ ∀ o, o < i → a.testBit o = false := by
  obtain ⟨i, h1, h2⟩ := pk_least (fun i => a.testBit i = true) (Nat.exists_testBit_of_ne_zero h0)
  refine ⟨i, ?_, h1, fun o ho => by simpa using h2 o ho⟩
  rcases Nat.lt_or_ge i w with h | h
  · exact h
  · rw [Nat.testBit_lt_two_pow (Nat.lt_of_lt_of_le ha (Nat.pow_le_pow_right (by decide) h))] at h1
    cases h1
theorem less2 {a w i j : Nat} (hw : w ≤ 6) (ha : a < 2 ^ w) (hi : i < w) (hj : j < w) (hij : i < j) (bi : a.testBit i = true) (bj : a.testBit j = true) : clr (clr a i) j < 2 ^ w ∧ pcn (clr (clr a i) j) + 2 = pcn a := by
  have h1 := pcn_clr (a := a) (show i < 10 by omega) bi
  have h2 := pcn_clr (a := clr a i) (g := j) (show j < 10 by omega) (by rw [clr_bit (by omega) (by omega), if_neg (by omega)]; exact bj)
  refine ⟨?_, by omega⟩
  unfold clr
  exact and_lt (and_lt ha)
theorem pl64 {a w : Nat} (hw : w ≤ 6) (ha : a < 2 ^ w) : a < 64 := Nat.lt_of_lt_of_le ha (Nat.pow_le_pow_right (n := 2) (by decide) hw)
theorem findM3 {T : Sg} {a w i : Nat} (t1 : T.1 0 1 = nI w) (hw : w ≤ 6) (ha : a < 64) (hi : i ≤ w) (hb : i < w → a.testBit i = true) (hl : ∀ o, o < i → a.testBit o = false) (K : Int32 → Option (Int64 × Sg)) : wp1 (X10_rootOf_L2 (nI a) T K) FU 0 = K (nI i) := by
  refine wp1E (F := X10_rootOf_L2 (nI a) T K) i (fun o => nI o) (fun o ho self => ?_) (fun self => ?_) (FU_n (by omega))
  · unfold X10_rootOf_L2
    rw [t1, le_n (by omega) (by omega), has_eq (by omega) (by omega), cl1_s, b01_f (by rw [hl o ho]; decide), if_pos z00, bv_e, nI_1]
  · unfold X10_rootOf_L2
    rw [t1]
    by_cases h : i < w
    · rw [le_n h (by omega), has_eq (by omega) (by omega), cl1_s, b01_t (hb h), if_neg n10]
    · rw [le_p (by omega) (by omega)]
theorem findC3 {S : Sg} {a w i : Nat} (s1 : S.1 27 0 = nI w) (hw : w ≤ 6) (ha : a < 64) (hi : i < w) (hb : a.testBit i = true) (hl : ∀ o, o < i → a.testBit o = false) (K : Int32 → Option (Int64 × Sg)) : wp1 (X4_ofPlaces_L20 (nI a) S K) FU 0 = K (nI i) := by
  refine wp1E (F := X4_ofPlaces_L20 (nI a) S K) i (fun o => nI o) (fun o ho self => ?_) (fun self => ?_) (FU_n (by omega))
  · unfold X4_ofPlaces_L20
    rw [s1, le_n (by omega) (by omega), if_pos ((bit_0 (by omega) (by omega)).mpr (hl o ho)), bv_e, nI_1]
  · unfold X4_ofPlaces_L20
    rw [s1, le_n hi (by omega), if_neg (fun z => by rw [(bit_0 (by omega) (by omega)).mp z] at hb; cases hb)]
theorem rootG {T : Sg} {a w i : Nat} (t1 : T.1 0 1 = nI w) (hw : w ≤ 6) (ha : a < 64) (h0 : a ≠ 0) (hi : i < w) (hb : a.testBit i = true) (hl : ∀ o, o < i → a.testBit o = false) (rc : Int32 → Sg → Option (Int64 × Sg)) : g_X10_rootOf rc (nI a) T = wp4 (X10_rootOf_L42 (nI a) rc (nI i)) FU 0 1 (nI (i + 1)) T := by
  unfold g_X10_rootOf
  rw [findM3 t1 hw ha (by omega) (fun _ => hb) hl, jn_e, if_neg (fun z => h0 ((nI_0p (by omega)).mp z))]
  show bv (nI i + 1) (fun x3 => wp4 (X10_rootOf_L42 (nI a) rc (nI i)) FU 0 1 x3 T) = _
  rw [bv_e, nI_1]
theorem root0 {T : Sg} {w : Nat} (t1 : T.1 0 1 = nI w) (hw : w ≤ 6) (rc : Int32 → Sg → Option (Int64 × Sg)) : g_X10_rootOf rc (nI 0) T = some (1, T) := by
  unfold g_X10_rootOf
  rw [findM3 (a := 0) (i := w) t1 hw (by decide) (Nat.le_refl _) (fun h => absurd h (by omega)) (fun o _ => by simp), jn_e, if_pos nI_0]
  show bv (nI w + 1) (fun x3 => wp4 (X10_rootOf_L42 (nI 0) rc (nI w)) FU 1 1 x3 T) = _
  rw [bv_e, nI_1, show FU = 1999 + 1 from rfl, wp4s]
  generalize wp4 (X10_rootOf_L42 (nI 0) rc (nI w)) 1999 = W
  unfold X10_rootOf_L42
  rw [t1, le_p (by omega) (by omega)]
theorem placesG {S : Sg} {a w i k : Nat} (s1 : S.1 27 0 = nI w) (sf : S.1 27 1 = 0) (hw : w ≤ 6) (ha : a < 64) (h0 : a ≠ 0) (hk : k ≤ 3) (hi : i < w) (hb : a.testBit i = true) (hl : ∀ o, o < i → a.testBit o = false) (rc : Int32 → Int32 → Sg → Option (Int64 × Sg)) : g_X4_ofPlaces rc (nI a) (nI k) S = wp4 (X4_ofPlaces_L53 (nI a) (nI k) rc (nI i)) FU 0 1 (nI (i + 1)) S := by
  unfold g_X4_ofPlaces
  rw [if_neg (fun z => h0 ((nI_0p (by omega)).mp z)), if_pos sf, if_pos (show nI k ≤ 3 from nI_le hk (by decide)), findC3 s1 hw ha hi hb hl, bv_e, nI_1]
theorem stepM {T : Sg} {a w i j : Nat} (t1 : T.1 0 1 = nI w) (hw : w ≤ 6) (ha : a < 64) (hi : i < w) (hj : j < w) (rc : Int32 → Sg → Option (Int64 × Sg)) (self : Int64 → Int32 → Int32 → Sg → Option (Int64 × Sg)) (y : Int64) (b : Int32) : X10_rootOf_L42 (nI a) rc (nI i) self y b (nI j) T = if a.testBit j = true then cl (rc (nI (clr (clr a i) j)) T) (fun r T1 => cl (f_X10_times (T.2 8 (6 * i + j)) r T1) fun v T2 => if b = 0 then (cl (f_X10_less y v T2) fun x T3 => self x 1 (nI (j + 1)) T3) else (cl (f_X10_plus y v T2) fun x T3 => self x 0 (nI (j + 1)) T3)) else self y b (nI (j + 1)) T := by
  have hc : clr a i < 1024 := and_lt (by omega)
  unfold X10_rootOf_L42
  rw [t1, le_n hj (by omega), has_eq (by omega) (by omega), cl1_s, clr_nI (by omega) (by omega), clr_nI hc (by omega)]
  simp only [jn_e, bv_e, nI_1, mm6, inb_nI (show 6 * i + j < 36 by omega) (show 36 < 2 ^ 31 by decide), gd_t, ix_nI (show 6 * i + j < 2 ^ 31 by omega), b01_0]
  by_cases h : a.testBit j = true
  · rw [if_neg (fun z => z h), if_pos h]
    by_cases hb : b = 0
    · simp only [if_pos hb]
    · simp only [if_neg hb]
  · rw [if_pos h, if_neg h]
theorem stepC {S : Sg} {a w i j k : Nat} (s1 : S.1 27 0 = nI w) (hw : w ≤ 6) (ha : a < 64) (hi : i < w) (hj : j < w) (rc : Int32 → Int32 → Sg → Option (Int64 × Sg)) (self : Int64 → Int32 → Int32 → Sg → Option (Int64 × Sg)) (x : Int64) (b : Int32) : X4_ofPlaces_L53 (nI a) (nI k) rc (nI i) self x b (nI j) S = if a.testBit j = true then cl (rc (nI (clr (clr a i) j)) (nI (k + 1)) S) (fun r S1 => cl (f_X4_product (S1.2 28 (i * 6 + j)) r S1) fun v S2 => if b = 0 then (cl (f_X4_minus x v S2) fun x' S3 => self x' 1 (nI (j + 1)) S3) else (cl (f_X4_plus x v S2) fun x' S3 => self x' 0 (nI (j + 1)) S3)) else self x b (nI (j + 1)) S := by
  unfold X4_ofPlaces_L53
  rw [s1, le_n hj (by omega), two_tab a ha i (by omega) j (by omega)]
  simp only [jn_e, bv_e, nI_1, ma6, inb_nI (show i * 6 + j < 36 by omega) (show 36 < 2 ^ 31 by decide), gd_t, ix_nI (show i * 6 + j < 2 ^ 31 by omega), bit_1 (show a < 2 ^ 31 by omega) (show j < 32 by omega)]
  by_cases h : a.testBit j = true
  · rw [if_pos h, if_pos h]
    by_cases hb : b = 0
    · simp only [if_pos hb]
    · simp only [if_neg hb]
  · rw [if_neg h, if_neg h]
/-- the reference's ROOT ends, whatever its flag, and leaves a flag that is set -/
theorem rootM {w : Nat} (hw : w ≤ 6) : ∀ (c a : Nat) (T : Sg) (m : Nat), a < 2 ^ w → pcn a = 2 * c → c < m → T.1 0 1 = nI w → f01 (T.1 0 11) → ∃ r T', wp2 g_X10_rootOf m (nI a) T = some (r, T') ∧ FmT T T' ∧ f01 (T'.1 0 11) ∧ (T'.1 0 11 = 0 → T.1 0 11 = 0) := by
  intro c
  induction c with
  | zero =>
    intro a T m ha hc hm t1 hf
    obtain ⟨m', rfl⟩ : ∃ m', m = m' + 1 := ⟨m - 1, by omega⟩
    have ha6 := pl64 hw ha
    have h0 := pcn_zz a (by omega) (by omega)
    subst h0
    rw [wp2s, root0 t1 hw]
    exact ⟨_, _, rfl, FmT.rf T, hf, fun h => h⟩
  | succ c ih =>
    intro a T m ha hc hm t1 hf
    obtain ⟨m', rfl⟩ : ∃ m', m = m' + 1 := ⟨m - 1, by omega⟩
    have ha6 := pl64 hw ha
    have h0 : a ≠ 0 := fun z => by rw [z, pcn_0] at hc; omega
    obtain ⟨i, hi, bi, bl⟩ := leastP ha h0
    rw [wp2s]
    generalize hW : wp2 g_X10_rootOf m' = W at ih
    have ih' : ∀ a T, a < 2 ^ w → pcn a = 2 * c → T.1 0 1 = nI w → f01 (T.1 0 11) → ∃ r T', W (nI a) T = some (r, T') ∧ FmT T T' ∧ f01 (T'.1 0 11) ∧ (T'.1 0 11 = 0 → T.1 0 11 = 0) := fun a T h1 h2 h3 h4 => by rw [← hW]; exact ih a T m' h1 h2 (by omega) h3 h4
    rw [rootG t1 hw ha6 h0 hi bi bl]
    obtain ⟨y, b, T', ⟨-, f1, f2, f3⟩, h4⟩ := lpq4 (F := X10_rootOf_L42 (nI a) W (nI i)) w (fun j _ _ T1 => i < j ∧ FmT T T1 ∧ f01 (T1.1 0 11) ∧ (T1.1 0 11 = 0 → T.1 0 11 = 0)) (fun y T => some (y, T)) (by
      rintro j y b T1 hj ⟨hij, f1, f2, f3⟩
      have g1 : T1.1 0 1 = nI w := by rw [f1.2.1 1 (by decide), t1]
      by_cases bj : a.testBit j = true
      · obtain ⟨l1, l2⟩ := less2 hw ha hi hj hij bi bj
        obtain ⟨r, T2, x1, x2, x3, x4⟩ := ih' (clr (clr a i) j) T1 l1 (by omega) g1 f2
        have p1 := f01_or x3 (ov (T1.2 8 (6 * i + j)) r)
        by_cases hb : b = 0
        · have p2 := f01_or p1.1 (mov y (T1.2 8 (6 * i + j) * r))
          refine ⟨y - T1.2 8 (6 * i + j) * r, 1, _, ⟨by omega, FmT_f (FmT_f (f1.tr x2) (T2.1 0 11 ||| bz (ov (T1.2 8 (6 * i + j)) r))) ((T2.1 0 11 ||| bz (ov (T1.2 8 (6 * i + j)) r)) ||| bz (mov y (T1.2 8 (6 * i + j) * r))), by rw [fl_T]; exact p2.1, fun z => by rw [fl_T] at z; exact f3 (x4 (p1.2.2.mp (p2.2.2.mp z).1).1)⟩, fun self => ?_⟩
          rw [stepM g1 hw ha6 hi hj, if_pos bj, x1, cl_s, timesM x3, cl_s, if_pos hb, lessM (by rw [fl_T]; exact p1.1), cl_s, fl_T]
        · have p2 := f01_or p1.1 (pov y (T1.2 8 (6 * i + j) * r))
          refine ⟨y + T1.2 8 (6 * i + j) * r, 0, _, ⟨by omega, FmT_f (FmT_f (f1.tr x2) (T2.1 0 11 ||| bz (ov (T1.2 8 (6 * i + j)) r))) ((T2.1 0 11 ||| bz (ov (T1.2 8 (6 * i + j)) r)) ||| bz (pov y (T1.2 8 (6 * i + j) * r))), by rw [fl_T]; exact p2.1, fun z => by rw [fl_T] at z; exact f3 (x4 (p1.2.2.mp (p2.2.2.mp z).1).1)⟩, fun self => ?_⟩
          rw [stepM g1 hw ha6 hi hj, if_pos bj, x1, cl_s, timesM x3, cl_s, if_neg hb, plusM (by rw [fl_T]; exact p1.1), cl_s, fl_T]
      · exact ⟨y, b, T1, ⟨by omega, f1, f2, f3⟩, fun self => by rw [stepM g1 hw ha6 hi hj, if_neg bj]⟩) (by
      rintro y b T1 ⟨-, f1, -⟩ self
      unfold X10_rootOf_L42
      rw [f1.2.1 1 (by decide), t1, le_p (Nat.le_refl _) (by omega)]) (w - (i + 1)) (i + 1) 0 1 T FU (by omega) ⟨by omega, FmT.rf T, hf, fun h => h⟩ (FU_n (by omega))
    exact ⟨y, T', h4, f1, f2, f3⟩
theorem or_one {f : Int32} (hf : f01 f) {p p' : Prop} (h : f = 0 → (p ↔ p')) : f ||| bz p = f ||| bz p' := by
  rcases hf with rfl | rfl
  · rw [propext (h rfl)]
  · have e : ∀ p : Prop, (1 : Int32) ||| bz p = 1 := fun p => by
      by_cases hp : p
      · rw [bz_t hp]; decide
      · rw [bz_f hp]; decide
    rw [e, e]
theorem rootJ {w : Nat} (hw : w ≤ 6) : ∀ (c a k : Nat) (S T : Sg) (m : Nat), a < 2 ^ w → pcn a = 2 * c → k + c ≤ 3 → c < m → S.1 27 0 = nI w → T.1 0 1 = nI w → FLG S T → NE w S T (fun _ _ => True) → ∃ r r' S' T', wp3 g_X4_ofPlaces m (nI a) (nI k) S = some (r, S') ∧ wp2 g_X10_rootOf m (nI a) T = some (r', T') ∧ FcT S S' ∧ FmT T T' ∧ FLG S' T' ∧ (T'.1 0 11 = 0 → T.1 0 11 = 0 ∧ r = r') := by
  intro c
  induction c with
  | zero =>
    intro a k S T m ha hc hk hm s1 t1 hf hN
    obtain ⟨m', rfl⟩ : ∃ m', m = m' + 1 := ⟨m - 1, by omega⟩
    have ha6 := pl64 hw ha
    have h0 := pcn_zz a (by omega) (by omega)
    subst h0
    rw [wp2s, root0 t1 hw, wp3s]
    refine ⟨1, 1, S, T, ?_, rfl, FcT.rf S, FmT.rf T, hf, fun h => ⟨h, rfl⟩⟩
    unfold g_X4_ofPlaces
    rw [if_pos nI_0]
  | succ c ih =>
    intro a k S T m ha hc hk hm s1 t1 hf hN
    have ha6 := pl64 hw ha
    have h0 : a ≠ 0 := fun z => by rw [z, pcn_0] at hc; omega
    by_cases hz : T.1 0 11 = 0
    · obtain ⟨m', rfl⟩ : ∃ m', m = m' + 1 := ⟨m - 1, by omega⟩
      obtain ⟨i, hi, bi, bl⟩ := leastP ha h0
      rw [wp2s, wp3s]
      have ih' : ∀ (a k : Nat) (S T : Sg), a < 2 ^ w → pcn a = 2 * c → k + c ≤ 3 → S.1 27 0 = nI w → T.1 0 1 = nI w → FLG S T → NE w S T (fun _ _ => True) → ∃ r r' S' T', wp3 g_X4_ofPlaces m' (nI a) (nI k) S = some (r, S') ∧ wp2 g_X10_rootOf m' (nI a) T = some (r', T') ∧ FcT S S' ∧ FmT T T' ∧ FLG S' T' ∧ (T'.1 0 11 = 0 → T.1 0 11 = 0 ∧ r = r') := fun a k S T h1 h2 h3 h4 h5 h6 h7 => ih a k S T m' h1 h2 h3 (by omega) h4 h5 h6 h7
      generalize wp2 g_X10_rootOf m' = W at ih' ⊢
      generalize wp3 g_X4_ofPlaces m' = V at ih' ⊢
      rw [rootG t1 hw ha6 h0 hi bi bl, placesG s1 (by rw [hf.1]; exact hz) hw ha6 h0 (by omega) hi bi bl]
      obtain ⟨x, y, b, S', T', ⟨-, f1, f2, f3, f4⟩, h5, h6⟩ := jt4 (F := X4_ofPlaces_L53 (nI a) (nI k) V (nI i)) (G := X10_rootOf_L42 (nI a) W (nI i)) w (fun j x y _ S1 T1 => i < j ∧ FcT S S1 ∧ FmT T T1 ∧ FLG S1 T1 ∧ (T1.1 0 11 = 0 → x = y)) (fun x S => some (x, S)) (fun y T => some (y, T)) (by
        rintro j x y b S1 T1 hj ⟨hij, f1, f2, f3, f4⟩
        have g1 : T1.1 0 1 = nI w := by rw [f2.2.1 1 (by decide), t1]
        have g2 : S1.1 27 0 = nI w := by rw [f1.2.1, s1]
        have hNe : S1.2 28 (i * 6 + j) = T1.2 8 (6 * i + j) := by
          rw [f1.2.2, f2.2.2]; exact hN i j hij hj trivial
        by_cases bj : a.testBit j = true
        · obtain ⟨l1, l2⟩ := less2 hw ha hi hj hij bi bj
          obtain ⟨r, r', S2, T2, x1, x2, x3, x4, x5, x6⟩ := ih' (clr (clr a i) j) (k + 1) S1 T1 l1 (by omega) (by omega) g2 g1 f3 (fun i' j' h1 h2 h3 => by rw [f1.2.2, f2.2.2]; exact hN i' j' h1 h2 h3)
          have e2 : S2.2 28 (i * 6 + j) = T1.2 8 (6 * i + j) := by rw [x3.2.2]; exact hNe
          have fC : f01 (S2.1 27 1) := by rw [x5.1]; exact x5.2
          have p1 := f01_or x5.2 (ov (T1.2 8 (6 * i + j)) r')
          have o1 : S2.1 27 1 ||| bz (ov (T1.2 8 (6 * i + j)) r) = T2.1 0 11 ||| bz (ov (T1.2 8 (6 * i + j)) r') := by
            rw [x5.1]; exact or_one x5.2 (fun z => by rw [(x6 z).2])
          have ev : T2.1 0 11 ||| bz (ov (T1.2 8 (6 * i + j)) r') = 0 → x = y ∧ r = r' := fun z => by
            have z1 := x6 (p1.2.2.mp z).1
            exact ⟨f4 z1.1, z1.2⟩
          by_cases hb : b = 0
          · have p2 := f01_or p1.1 (mov y (T1.2 8 (6 * i + j) * r'))
            have o2 : (T2.1 0 11 ||| bz (ov (T1.2 8 (6 * i + j)) r')) ||| bz (mov x (T1.2 8 (6 * i + j) * r)) = (T2.1 0 11 ||| bz (ov (T1.2 8 (6 * i + j)) r')) ||| bz (mov y (T1.2 8 (6 * i + j) * r')) := or_one p1.1 (fun z => by rw [(ev z).1, (ev z).2])
            refine ⟨x - T1.2 8 (6 * i + j) * r, y - T1.2 8 (6 * i + j) * r', 1, si (si S2 27 1 (T2.1 0 11 ||| bz (ov (T1.2 8 (6 * i + j)) r'))) 27 1 ((T2.1 0 11 ||| bz (ov (T1.2 8 (6 * i + j)) r')) ||| bz (mov y (T1.2 8 (6 * i + j) * r'))), si (si T2 0 11 (T2.1 0 11 ||| bz (ov (T1.2 8 (6 * i + j)) r'))) 0 11 ((T2.1 0 11 ||| bz (ov (T1.2 8 (6 * i + j)) r')) ||| bz (mov y (T1.2 8 (6 * i + j) * r'))), ⟨by omega, FcT_f (FcT_f (f1.tr x3) _) _, FmT_f (FmT_f (f2.tr x4) _) _, ⟨by rw [fl_S, fl_T], by rw [fl_T]; exact p2.1⟩, fun z => ?_⟩, fun self => ?_, fun self => ?_⟩
            · rw [fl_T] at z
              have z1 := ev (p2.2.2.mp z).1
              rw [z1.1, z1.2]
            · rw [stepC g2 hw ha6 hi hj, if_pos bj, x1, cl_s, e2, productC fC, cl_s, if_pos hb, o1, minusC (by rw [fl_S]; exact p1.1), cl_s, fl_S, o2]
            · rw [stepM g1 hw ha6 hi hj, if_pos bj, x2, cl_s, timesM x5.2, cl_s, if_pos hb, lessM (by rw [fl_T]; exact p1.1), cl_s, fl_T]
          · have p2 := f01_or p1.1 (pov y (T1.2 8 (6 * i + j) * r'))
            have o2 : (T2.1 0 11 ||| bz (ov (T1.2 8 (6 * i + j)) r')) ||| bz (pov x (T1.2 8 (6 * i + j) * r)) = (T2.1 0 11 ||| bz (ov (T1.2 8 (6 * i + j)) r')) ||| bz (pov y (T1.2 8 (6 * i + j) * r')) := or_one p1.1 (fun z => by rw [(ev z).1, (ev z).2])
            refine ⟨x + T1.2 8 (6 * i + j) * r, y + T1.2 8 (6 * i + j) * r', 0, si (si S2 27 1 (T2.1 0 11 ||| bz (ov (T1.2 8 (6 * i + j)) r'))) 27 1 ((T2.1 0 11 ||| bz (ov (T1.2 8 (6 * i + j)) r')) ||| bz (pov y (T1.2 8 (6 * i + j) * r'))), si (si T2 0 11 (T2.1 0 11 ||| bz (ov (T1.2 8 (6 * i + j)) r'))) 0 11 ((T2.1 0 11 ||| bz (ov (T1.2 8 (6 * i + j)) r')) ||| bz (pov y (T1.2 8 (6 * i + j) * r'))), ⟨by omega, FcT_f (FcT_f (f1.tr x3) _) _, FmT_f (FmT_f (f2.tr x4) _) _, ⟨by rw [fl_S, fl_T], by rw [fl_T]; exact p2.1⟩, fun z => ?_⟩, fun self => ?_, fun self => ?_⟩
            · rw [fl_T] at z
              have z1 := ev (p2.2.2.mp z).1
              rw [z1.1, z1.2]
            · rw [stepC g2 hw ha6 hi hj, if_pos bj, x1, cl_s, e2, productC fC, cl_s, if_neg hb, o1, plusC (by rw [fl_S]; exact p1.1), cl_s, fl_S, o2]
            · rw [stepM g1 hw ha6 hi hj, if_pos bj, x2, cl_s, timesM x5.2, cl_s, if_neg hb, plusM (by rw [fl_T]; exact p1.1), cl_s, fl_T]
        · exact ⟨x, y, b, S1, T1, ⟨by omega, f1, f2, f3, f4⟩, fun self => by rw [stepC g2 hw ha6 hi hj, if_neg bj], fun self => by rw [stepM g1 hw ha6 hi hj, if_neg bj]⟩) (by
        rintro x y b S1 T1 ⟨-, f1, f2, -⟩
        refine ⟨fun self => ?_, fun self => ?_⟩
        · unfold X4_ofPlaces_L53
          rw [f1.2.1, s1, le_p (Nat.le_refl _) (by omega)]
        · unfold X10_rootOf_L42
          rw [f2.2.1 1 (by decide), t1, le_p (Nat.le_refl _) (by omega)]) (w - (i + 1)) (i + 1) 0 0 1 S T FU (by omega) ⟨by omega, FcT.rf S, FmT.rf T, hf, fun _ => rfl⟩ (FU_n (by omega))
      exact ⟨x, y, S', T', h5, h6, f1, f2, f3, fun z => ⟨hz, f4 z⟩⟩
    · obtain ⟨r', T', x1, x2, x3, x4⟩ := rootM hw (c + 1) a T m ha hc hm t1 hf.2
      obtain ⟨m', rfl⟩ : ∃ m', m = m' + 1 := ⟨m - 1, by omega⟩
      have hT' : T'.1 0 11 = T.1 0 11 := by
        rcases x3 with z | z
        · exact absurd (x4 z) hz
        · rcases hf.2 with z2 | z2
          · exact absurd z2 hz
          · rw [z, z2]
      refine ⟨1, r', S, T', ?_, x1, FcT.rf S, x2, ⟨by rw [hT']; exact hf.1, x3⟩, fun z => absurd (x4 z) hz⟩
      rw [wp3s]
      unfold g_X4_ofPlaces
      rw [if_neg (fun z => h0 ((nI_0p (by omega)).mp z)), if_neg (by rw [hf.1]; exact hz)]
theorem pcn_w2 : ∀ w, w < 7 → pcn (2 ^ w - 1) = w := by decide +kernel
theorem e_root {S T : Sg} (h : Rel S T) (a0 : Int32) : ∃ (r : Int64) (S' : Sg) (T' : Sg), f_X9_root a0 S = some (r, S') ∧ f_X10_root a0 T = some (r, T') ∧ Rel S' T' := by
  obtain ⟨q, w, n, hqp, hw1, hw, hn, s0, t0, s1, t1, s2, t2⟩ := h.nums
  have hq := primes_b hqp
  obtain ⟨m1, m2, m3, m4, m5, m6, m7, m8⟩ := h.1
  unfold f_X9_root f_X10_root
  rw [sheetC, cl1_s]
  by_cases h1 : 0 ≤ a0.toInt ∧ a0.toInt < 4
  · rw [b01_t h1, if_neg n10]
    obtain ⟨s, hs, rfl⟩ := nI_from (a := a0) (n := 4) ⟨h1.1, by omega⟩
    obtain ⟨k1, k2, k3, b, hb, k4, k5⟩ := h.2.2.2.1 s hs
    rw [inb_p hs (by decide), ix_nI (by omega), missC, cl1_s, k1]
    rcases sk_t k3 with hm | hm
    · rw [b01_t hm, if_neg n10, tellsN hs (by rw [hm]; decide), cl_s, if_neg (by decide)]
      exact ⟨_, _, _, rfl, rfl, h⟩
    · rw [b01_f (fun z => by rw [z] at hm; exact absurd hm (by decide)), if_pos z00]
      obtain ⟨T1, c1, c2, c3, c4⟩ := tellsM hs hb k4 hm
      have cA : AgrM T T1 := ⟨fun k hk => ⟨by rw [c2], c3 k (by omega)⟩, fun j _ => by rw [c2]⟩
      rw [c1, cl_s, if_pos z00, c2, s1, t1, show (2 : Int32) = nI 2 from rfl, irm_nI (by omega) (by decide) (by decide)]
      by_cases hev : w % 2 = 0
      · rw [hev, if_pos nI_0, if_neg (by decide)]
        obtain ⟨S1, a1, a2, a3, a4⟩ := fill_eq (S := S) (by omega) (by omega) hw hn s0 s1 s2
        rw [m4, m7] at a2
        rw [a1, cl1_s, inb_p hs (by decide)]
        unfold f_X4_made
        rw [bv_e, bv_e, bv_e, a2.2.1]
        generalize hS2 : si (si S1 27 0 (nI w)) 27 1 0 = S2
        generalize hT2 : si T1 0 11 0 = T2
        have z1 : ∀ k, k ≠ 27 → S2.1 k = S1.1 k := fun k hk => by rw [← hS2, si_ne _ _ _ hk, si_ne _ _ _ hk]
        have z2 : S2.2 = S1.2 := by rw [← hS2]; rfl
        have z3 : S2.1 27 0 = nI w := by rw [← hS2, si_same, upd_n _ _ (by decide), si_same, upd_s]
        have z4 : S2.1 27 1 = 0 := by rw [← hS2, fl_S]
        have y1 : FmR T1 T2 := by rw [← hT2]; exact FmR_f (FmR.rf T1) _
        have y2 : T2.1 0 11 = 0 := by rw [← hT2, fl_T]
        have hSA : AgrC S S2 := fun k hk => ⟨by rw [z1 k (by omega), a3 k (by omega) (by omega)], by rw [z2, a4]⟩
        obtain ⟨S3, T3, ⟨f1, f2, f3, f4⟩, f5, f6⟩ := laysJ (S := S2) (T := T2) (q := q) (w := w) (n := n) (ks := 32 + 2 * s) (X := shx T s b) (by omega) (by omega) hw hn (a2.fr (z1 13 (by decide)) (z1 14 (by decide))) z3 (fun S' hS' p hp => by
          have e1 : S'.1 (32 + 2 * s) 1 = nI b := by rw [hS'.1 _ (by omega), z1 _ (by omega), a3 _ (by omega) (by omega), k2, k4]
          rw [numberForC hb e1 (by omega)]
          congr 1
          unfold shx
          by_cases hpb : p < b
          · rw [if_pos hpb, if_pos hpb, hS'.2.2 _ (by omega), z2, a4, ← k5 p hpb, show 33 + 2 * s = 32 + 2 * s + 1 by omega]
          · rw [if_neg hpb, if_neg hpb]) (by rw [y1.2.1 0 (by decide), c2, t0]) (by rw [y1.2.1 1 (by decide), c2, t1]) (by rw [y1.2.1 2 (by decide), c2, t2]) (by rw [y1.1 1 (by decide), c2]) (by rw [y1.1 4 (by decide), c2]) (fun p hp => by rw [y1.2.2 7 (by decide)]; exact c4 p (by omega)) ⟨by rw [z4, y2], Or.inl y2⟩
        rw [show (0 : Int32) = nI 0 from rfl, f5, f6, cl1_s]
        have g1 : S3.1 27 0 = nI w := by rw [f1.2.1, z3]
        have g2 : T3.1 0 1 = nI w := by rw [f2.2.1 1 (by decide), y1.2.1 1 (by decide), c2, t1]
        have hpos : 1 ≤ 2 ^ w := Nat.pow_pos (by decide)
        have hpc := pcn_w2 w (by omega)
        obtain ⟨r, r', S4, T4, x1, x2, x3, x4, x5, x6⟩ := rootJ hw (w / 2) (2 ^ w - 1) 0 S3 T3 8 (by omega) (by omega) (by omega) (by omega) g1 g2 f3 f4
        have hRS : AgrC S S3 := hSA.tr f1.agr
        have hRT : AgrM T T3 := cA.tr (y1.agr.tr f2.agr)
        have em : nI (2 ^ w) - 1 = nI (2 ^ w - 1) := pk_sub (a := 2 ^ w) (b := 1) hpos
        rw [g1, g2, shl1 (by omega), em]
        unfold f_X4_ofPlaces f_X10_rootOf
        rw [x1, cl_s, jn_e]
        by_cases hz : T3.1 0 11 = 0
        · rw [if_pos (show T3.1 0 11 = nI 0 from hz), x2, cl_s]
          by_cases hz4 : T4.1 0 11 = 0
          · rw [if_pos (show S4.1 27 1 = nI 0 by rw [x5.1]; exact hz4), cl_s]
            show ∃ r_1 S' T', some (r, S4) = some (r_1, S') ∧ (if T4.1 0 11 = nI 0 then some (r', T4) else some (-5, T4)) = some (r_1, T') ∧ Rel S' T'
            rw [if_pos (show T4.1 0 11 = nI 0 from hz4), (x6 hz4).2]
            exact ⟨_, _, _, rfl, rfl, h.agr (hRS.tr x3.w.agr) (hRT.tr x4.w.agr)⟩
          · rw [if_neg (show ¬ S4.1 27 1 = nI 0 by rw [x5.1]; exact hz4), cl_s]
            show ∃ r_1 S' T', some (-5, S4) = some (r_1, S') ∧ (if T4.1 0 11 = nI 0 then some (r', T4) else some (-5, T4)) = some (r_1, T') ∧ Rel S' T'
            rw [if_neg (show ¬ T4.1 0 11 = nI 0 from hz4)]
            exact ⟨_, _, _, rfl, rfl, h.agr (hRS.tr x3.w.agr) (hRT.tr x4.w.agr)⟩
        · have hz4 : ¬ T4.1 0 11 = 0 := fun z => hz (x6 z).1
          rw [if_neg (show ¬ T3.1 0 11 = nI 0 from hz), if_neg (show ¬ S4.1 27 1 = nI 0 by rw [x5.1]; exact hz4), cl_s]
          show ∃ r_1 S' T', some (-5, S4) = some (r_1, S') ∧ (if T3.1 0 11 = nI 0 then some (0, T3) else some (-5, T3)) = some (r_1, T') ∧ Rel S' T'
          rw [if_neg (show ¬ T3.1 0 11 = nI 0 from hz)]
          exact ⟨_, _, _, rfl, rfl, h.agr (hRS.tr x3.w.agr) hRT⟩
      · have hod : w % 2 = 1 := by omega
        rw [hod, if_neg (by decide), if_pos (show nI 1 = 1 from rfl)]
        exact ⟨_, _, _, rfl, rfl, h.agr (AgrC.rf S) cA⟩
  · rw [b01_f h1, if_pos z00, tellsB h1, cl_s, if_neg (by decide)]
    exact ⟨_, _, _, rfl, rfl, h⟩
