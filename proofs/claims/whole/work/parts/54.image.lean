/-! image, back -/
def pfx {α : Type} (m : Nat) (f g : Nat → α) : Nat → α := fun j => if j < m then f j else g j
theorem pfx_in {α : Type} {m j : Nat} {f g : Nat → α} (h : j < m) : pfx m f g j = f j := if_pos h
theorem pfx_out {α : Type} {m j : Nat} {f g : Nat → α} (h : ¬ j < m) : pfx m f g j = g j := if_neg h
theorem pfx_0 {α : Type} (f g : Nat → α) : pfx 0 f g = g := funext fun j => pfx_out (by omega)
theorem cpy_pfx {α : Type} (f g : Nat → α) (m : Nat) : va_cpy f g 0 0 m = pfx m f g := funext fun j => by
  by_cases h : j < m
  · rw [pfx_in h, pk_cpy_in (by omega) (by omega)]; simp
  · rw [pfx_out h, pk_cpy_out (by omega)]
theorem pfx_u {f g : Nat → Int32} {i : Nat} : upd (pfx i f g) i (f i) = pfx (i + 1) f g := funext fun j => by
  by_cases h : j = i
  · rw [h, upd_s, pfx_in (by omega)]
  · rw [upd_n _ _ h]
    by_cases h2 : j < i
    · rw [pfx_in h2, pfx_in (by omega)]
    · rw [pfx_out h2, pfx_out (by omega)]
theorem pfx_ul {f g : Nat → Int64} {i : Nat} : vp_updL (pfx i f g) i (f i) = pfx (i + 1) f g := funext fun j => by
  by_cases h : j = i
  · rw [h, updL_s, pfx_in (by omega)]
  · rw [updL_n _ _ h]
    by_cases h2 : j < i
    · rw [pfx_in h2, pfx_in (by omega)]
    · rw [pfx_out h2, pfx_out (by omega)]
theorem Dat.cg {q w n : Int32} {ki we en li ki' we' en' li' : Nat → Int32} (h : Dat q w n ki we en li) (h1 : ∀ j, j < 10 → ki' j = ki j) (h2 : ∀ j, j < 10 → we' j = we j) (h3 : ∀ j, j < 120 → en' j = en j) (h4 : ∀ j, j < 8 → li' j = li j) : Dat q w n ki' we' en' li' := by
  obtain ⟨d1, d2, d3, d4, d5, d6, g, d7, d8, d9⟩ := h
  refine ⟨d1, d2, d3, fun j hj => ?_, fun j hj => ?_, fun j hj => ?_, g, fun j hj => ?_, d8, d9⟩
  · rw [h1 j hj]; exact d4 j hj
  · rw [h2 j hj]; exact d5 j hj
  · rw [h3 j hj]; exact d6 j hj
  · rw [h4 j hj]; exact d7 j hj
theorem ix10 : ix (10 : Int32) = 10 := by decide
theorem ix120 : ix (120 : Int32) = 120 := by decide
theorem ix8 : ix (8 : Int32) = 8 := by decide
theorem cpI_same (S : Sg) (k0 k1 N : Nat) : (cpI S k0 k1 N).1 k1 = pfx N (S.1 k0) (S.1 k1) := by rw [← cpy_pfx]; simp [cpI]
theorem cpI_ne (S : Sg) {k0 k1 N a : Nat} (h : a ≠ k1) : (cpI S k0 k1 N).1 a = S.1 a := by simp [cpI, h]
theorem cpI_2 (S : Sg) (k0 k1 N : Nat) : (cpI S k0 k1 N).2 = S.2 := rfl
theorem cpL_same (S : Sg) (k0 k1 N : Nat) : (cpL S k0 k1 N).2 k1 = pfx N (S.2 k0) (S.2 k1) := by rw [← cpy_pfx]; simp [cpL]
theorem cpL_ne (S : Sg) {k0 k1 N a : Nat} (h : a ≠ k1) : (cpL S k0 k1 N).2 a = S.2 a := by simp [cpL, h]
theorem cpL_1 (S : Sg) (k0 k1 N : Nat) : (cpL S k0 k1 N).1 = S.1 := rfl
theorem becomeK {S : Sg} {k k2 : Nat} (hd : k2 + 5 < k ∨ k + 5 < k2) : ∃ S', f_X2_become k k2 S = some S' ∧ S'.1 k 0 = S.1 k2 0 ∧ S'.1 k 1 = S.1 k2 1 ∧ S'.1 k 2 = S.1 k2 2 ∧ S'.1 (k + 1) = pfx 10 (S.1 (k2 + 1)) (S.1 (k + 1)) ∧ S'.1 (k + 2) = pfx 10 (S.1 (k2 + 2)) (S.1 (k + 2)) ∧ S'.2 (k + 3) = pfx 10 (S.2 (k2 + 3)) (S.2 (k + 3)) ∧ S'.1 (k + 4) = pfx 120 (S.1 (k2 + 4)) (S.1 (k + 4)) ∧ S'.1 (k + 5) = pfx 8 (S.1 (k2 + 5)) (S.1 (k + 5)) ∧ (∀ a, ¬ (k ≤ a ∧ a ≤ k + 5) → S'.1 a = S.1 a ∧ S'.2 a = S.2 a) := by
  unfold f_X2_become
  simp only [bv_e, ix10, ix120, ix8]
  refine ⟨_, rfl, ?_, ?_, ?_, ?_, ?_, ?_, ?_, ?_, fun a ha => ⟨?_, ?_⟩⟩
  · rw [cpI_ne _ (by omega), cpI_ne _ (by omega), cpL_1, cpI_ne _ (by omega), cpI_ne _ (by omega), si_same, upd_n _ _ (by decide), si_same, upd_n _ _ (by decide), si_same, upd_s]
  · rw [cpI_ne _ (by omega), cpI_ne _ (by omega), cpL_1, cpI_ne _ (by omega), cpI_ne _ (by omega), si_same, upd_n _ _ (by decide), si_same, upd_s, si_ne _ _ _ (by omega)]
  · rw [cpI_ne _ (by omega), cpI_ne _ (by omega), cpL_1, cpI_ne _ (by omega), cpI_ne _ (by omega), si_same, upd_s, si_ne _ _ _ (by omega), si_ne _ _ _ (by omega)]
  · rw [cpI_ne _ (by omega), cpI_ne _ (by omega), cpL_1, cpI_ne _ (by omega), cpI_same]
    simp only [si_ne _ _ _ (show k2 + 1 ≠ k by omega), si_ne _ _ _ (show k + 1 ≠ k by omega)]
  · rw [cpI_ne _ (by omega), cpI_ne _ (by omega), cpL_1, cpI_same, cpI_ne _ (by omega), cpI_ne _ (by omega)]
    simp only [si_ne _ _ _ (show k2 + 2 ≠ k by omega), si_ne _ _ _ (show k + 2 ≠ k by omega)]
  · rw [cpI_2, cpI_2, cpL_same, cpI_2, cpI_2, si_2, si_2, si_2]
  · rw [cpI_ne _ (by omega), cpI_same, cpL_1, cpI_ne _ (by omega), cpI_ne _ (by omega), cpI_ne _ (by omega), cpI_ne _ (by omega)]
    simp only [si_ne _ _ _ (show k2 + 4 ≠ k by omega), si_ne _ _ _ (show k + 4 ≠ k by omega)]
  · rw [cpI_same, cpI_ne _ (by omega), cpI_ne _ (by omega), cpL_1, cpI_ne _ (by omega), cpI_ne _ (by omega), cpI_ne _ (by omega), cpI_ne _ (by omega)]
    simp only [si_ne _ _ _ (show k2 + 5 ≠ k by omega), si_ne _ _ _ (show k + 5 ≠ k by omega)]
  · rw [cpI_ne _ (by omega), cpI_ne _ (by omega), cpL_1, cpI_ne _ (by omega), cpI_ne _ (by omega), si_ne _ _ _ (by omega), si_ne _ _ _ (by omega), si_ne _ _ _ (by omega)]
  · rw [cpI_2, cpI_2, cpL_ne _ (by omega), cpI_2, cpI_2, si_2, si_2, si_2]
theorem p3 (i : Nat) : 3 + nI i = nI (3 + i) := by rw [show (3 : Int32) = nI 3 from rfl, nI_add]
theorem p13 (i : Nat) : 13 + nI i = nI (13 + i) := by rw [show (13 : Int32) = nI 13 from rfl, nI_add]
theorem p23 (i : Nat) : 23 + nI i = nI (23 + i) := by rw [show (23 : Int32) = nI 23 from rfl, nI_add]
theorem p143 (i : Nat) : 143 + nI i = nI (143 + i) := by rw [show (143 : Int32) = nI 143 from rfl, nI_add]
/-- all but the kept -/
def FrI (T T' : Sg) : Prop := (∀ k, k ≠ 18 → T'.1 k = T.1 k) ∧ ∀ k, k ≠ 19 → T'.2 k = T.2 k
theorem image1 (T : Sg) : ∃ T', (FrI T T' ∧ (∀ j, j < 10 → T'.1 18 (3 + j) = T.1 1 j) ∧ (∀ j, j < 10 → T'.1 18 (13 + j) = T.1 2 j) ∧ (∀ j, j < 10 → T'.2 19 j = T.2 3 j) ∧ ∀ j, j < 3 → T'.1 18 j = T.1 18 j) ∧ ∀ K, wp2 (X10_image_L37 K) FU (nI 0) T = K T' := by
  refine for2k (F := fun K => X10_image_L37 K) (fun K S => K S) 10 (fun i T1 => FrI T T1 ∧ (∀ j, j < i → T1.1 18 (3 + j) = T.1 1 j) ∧ (∀ j, j < i → T1.1 18 (13 + j) = T.1 2 j) ∧ (∀ j, j < i → T1.2 19 j = T.2 3 j) ∧ ∀ j, j < 3 → T1.1 18 j = T.1 18 j) ?_ ?_ (i0 := 0) (S0 := T) ⟨⟨fun _ _ => rfl, fun _ _ => rfl⟩, fun _ h => by omega, fun _ h => by omega, fun _ h => by omega, fun _ _ => rfl⟩ (by omega) (fuel := FU) (FU_n (by omega))
  · rintro i T1 hi ⟨f1, f2, f3, f4, f5⟩
    refine ⟨sl (si (si T1 18 (3 + i) (T.1 1 i)) 18 (13 + i) (T.1 2 i)) 19 i (T.2 3 i), ⟨⟨fun k hk => ?_, fun k hk => ?_⟩, fun j hj => ?_, fun j hj => ?_, fun j hj => ?_, fun j hj => ?_⟩, fun K self => ?_⟩
    · rw [sl_1, si_ne _ _ _ hk, si_ne _ _ _ hk]; exact f1.1 k hk
    · rw [sl_ne _ _ _ hk, si_2, si_2]; exact f1.2 k hk
    · rw [sl_1, si_same, upd_n _ _ (by omega), si_same]
      by_cases he : j = i
      · rw [he, upd_s]
      · rw [upd_n _ _ (by omega)]; exact f2 j (by omega)
    · rw [sl_1, si_same]
      by_cases he : j = i
      · rw [he, upd_s]
      · rw [upd_n _ _ (by omega), si_same, upd_n _ _ (by omega)]; exact f3 j (by omega)
    · rw [sl_same]
      by_cases he : j = i
      · rw [he, updL_s]
      · rw [updL_n _ _ he, si_2, si_2]; exact f4 j (by omega)
    · rw [sl_1, si_same, upd_n _ _ (by omega), si_same, upd_n _ _ (by omega)]; exact f5 j hj
    · unfold X10_image_L37
      rw [p3, p13, show (10 : Int32) = nI 10 from rfl, le_n hi (by omega), inb_p (by omega) (by decide), inb_p (by omega) (by decide), bv_e, inb_p (by omega) (by decide), inb_p (by omega) (by decide), bv_e, inb_p (by omega) (by decide), inb_p (by omega) (by decide), bv_e, bv_e, ix_nI (by omega), ix_nI (by omega), ix_nI (by omega), f1.1 1 (by decide), si_ne _ _ _ (show (2 : Nat) ≠ 18 by decide), f1.1 2 (by decide), si_2, si_2, f1.2 3 (by decide), nI_1]
  · rintro T1 hJ K self
    unfold X10_image_L37
    rw [show (10 : Int32) = nI 10 from rfl, le_p (Nat.le_refl _) (by omega)]
theorem image2 (T : Sg) : ∃ T', (FrI T T' ∧ T'.2 = T.2 ∧ (∀ j, j < 120 → T'.1 18 (23 + j) = T.1 4 j) ∧ ∀ j, j < 23 → T'.1 18 j = T.1 18 j) ∧ ∀ K, wp2 (X10_image_L92 K) FU (nI 0) T = K T' := by
  refine for2k (F := fun K => X10_image_L92 K) (fun K S => K S) 120 (fun i T1 => FrI T T1 ∧ T1.2 = T.2 ∧ (∀ j, j < i → T1.1 18 (23 + j) = T.1 4 j) ∧ ∀ j, j < 23 → T1.1 18 j = T.1 18 j) ?_ ?_ (i0 := 0) (S0 := T) ⟨⟨fun _ _ => rfl, fun _ _ => rfl⟩, rfl, fun _ h => by omega, fun _ _ => rfl⟩ (by omega) (fuel := FU) (FU_n (by omega))
  · rintro i T1 hi ⟨f1, f2, f3, f4⟩
    refine ⟨si T1 18 (23 + i) (T.1 4 i), ⟨⟨fun k hk => ?_, fun k hk => ?_⟩, f2, fun j hj => ?_, fun j hj => ?_⟩, fun K self => ?_⟩
    · rw [si_ne _ _ _ hk]; exact f1.1 k hk
    · rw [si_2]; exact f1.2 k hk
    · rw [si_same]
      by_cases he : j = i
      · rw [he, upd_s]
      · rw [upd_n _ _ (by omega)]; exact f3 j (by omega)
    · rw [si_same, upd_n _ _ (by omega)]; exact f4 j hj
    · unfold X10_image_L92
      rw [p23, show (120 : Int32) = nI 120 from rfl, le_n hi (by omega), inb_p (by omega) (by decide), inb_p (by omega) (by decide), bv_e, bv_e, ix_nI (by omega), ix_nI (by omega), f1.1 4 (by decide), nI_1]
  · rintro T1 hJ K self
    unfold X10_image_L92
    rw [show (120 : Int32) = nI 120 from rfl, le_p (Nat.le_refl _) (by omega)]
theorem image3 (T : Sg) : ∃ T', (FrI T T' ∧ T'.2 = T.2 ∧ (∀ j, j < 8 → T'.1 18 (143 + j) = T.1 5 j) ∧ ∀ j, j < 143 → T'.1 18 j = T.1 18 j) ∧ wp2 X10_image_L121 FU (nI 0) T = some (T'.1 0 2, T') := by
  refine for2 (F := X10_image_L121) 8 (fun i T1 => FrI T T1 ∧ T1.2 = T.2 ∧ (∀ j, j < i → T1.1 18 (143 + j) = T.1 5 j) ∧ ∀ j, j < 143 → T1.1 18 j = T.1 18 j) (fun T' => some (T'.1 0 2, T')) ?_ ?_ (i0 := 0) (S0 := T) ⟨⟨fun _ _ => rfl, fun _ _ => rfl⟩, rfl, fun _ h => by omega, fun _ _ => rfl⟩ (by omega) (fuel := FU) (FU_n (by omega))
  · rintro i T1 hi ⟨f1, f2, f3, f4⟩
    refine ⟨si T1 18 (143 + i) (T.1 5 i), ⟨⟨fun k hk => ?_, fun k hk => ?_⟩, f2, fun j hj => ?_, fun j hj => ?_⟩, fun self => ?_⟩
    · rw [si_ne _ _ _ hk]; exact f1.1 k hk
    · rw [si_2]; exact f1.2 k hk
    · rw [si_same]
      by_cases he : j = i
      · rw [he, upd_s]
      · rw [upd_n _ _ (by omega)]; exact f3 j (by omega)
    · rw [si_same, upd_n _ _ (by omega)]; exact f4 j hj
    · unfold X10_image_L121
      rw [p143, show (8 : Int32) = nI 8 from rfl, le_n hi (by omega), inb_p (by omega) (by decide), inb_p (by omega) (by decide), bv_e, bv_e, ix_nI (by omega), ix_nI (by omega), f1.1 5 (by decide), nI_1]
  · rintro T1 hJ self
    unfold X10_image_L121
    rw [show (8 : Int32) = nI 8 from rfl, le_p (Nat.le_refl _) (by omega)]
theorem ix0 : ix (0 : Int32) = 0 := by decide
theorem ix1 : ix (1 : Int32) = 1 := by decide
theorem ix2 : ix (2 : Int32) = 2 := by decide
theorem imageM (T : Sg) : ∃ T', f_X10_image T = some (T.1 0 2, T') ∧ T'.1 0 24 = 1 ∧ (∀ j, j ≠ 24 → T'.1 0 j = T.1 0 j) ∧ (∀ k, k ≠ 0 → k ≠ 18 → T'.1 k = T.1 k) ∧ (∀ k, k ≠ 19 → T'.2 k = T.2 k) ∧ (∀ j, j < 3 → T'.1 18 j = T.1 0 j) ∧ (∀ j, j < 10 → T'.1 18 (3 + j) = T.1 1 j) ∧ (∀ j, j < 10 → T'.1 18 (13 + j) = T.1 2 j) ∧ (∀ j, j < 10 → T'.2 19 j = T.2 3 j) ∧ (∀ j, j < 120 → T'.1 18 (23 + j) = T.1 4 j) ∧ ∀ j, j < 8 → T'.1 18 (143 + j) = T.1 5 j := by
  unfold f_X10_image
  rw [bv_e, gd_p (show inb (0 : Int32) 151 = true by decide), bv_e, gd_p (show inb (1 : Int32) 151 = true by decide), bv_e, gd_p (show inb (2 : Int32) 151 = true by decide), bv_e, ix0, ix1, ix2]
  generalize hT7 : si (si (si (si T 0 24 1) 18 0 _) 18 1 _) 18 2 _ = T7
  have z0 : ∀ j, j ≠ 24 → T7.1 0 j = T.1 0 j := fun j hj => by
    rw [← hT7, si_ne _ _ _ (by decide), si_ne _ _ _ (by decide), si_ne _ _ _ (by decide), si_same, upd_n _ _ hj]
  have z24 : T7.1 0 24 = 1 := by
    rw [← hT7, si_ne _ _ _ (by decide), si_ne _ _ _ (by decide), si_ne _ _ _ (by decide), si_same, upd_s]
  have zk : ∀ k, k ≠ 0 → k ≠ 18 → T7.1 k = T.1 k := fun k h0 h1 => by
    rw [← hT7, si_ne _ _ _ h1, si_ne _ _ _ h1, si_ne _ _ _ h1, si_ne _ _ _ h0]
  have z2 : T7.2 = T.2 := by rw [← hT7]; rfl
  have y : ∀ j, j < 3 → T7.1 18 j = T.1 0 j := fun j hj => by
    rw [← hT7, si_same]
    rcases (show j = 0 ∨ j = 1 ∨ j = 2 by omega) with rfl | rfl | rfl
    · rw [upd_n _ _ (by decide), si_same, upd_n _ _ (by decide), si_same, upd_s, si_same, upd_n _ _ (by decide)]
    · rw [upd_n _ _ (by decide), si_same, upd_s, si_ne _ _ _ (by decide), si_same, upd_n _ _ (by decide)]
    · rw [upd_s, si_ne _ _ _ (by decide), si_ne _ _ _ (by decide), si_same, upd_n _ _ (by decide)]
  obtain ⟨T8, ⟨a1, a2, a3, a4, a5⟩, a6⟩ := image1 T7
  obtain ⟨T9, ⟨b1, b2, b3, b4⟩, b5⟩ := image2 T8
  obtain ⟨T', ⟨c1, c2, c3, c4⟩, c5⟩ := image3 T9
  rw [show (0 : Int32) = nI 0 from rfl, a6, b5, c5]
  have w0 : T'.1 0 = T7.1 0 := by rw [c1.1 0 (by decide), b1.1 0 (by decide), a1.1 0 (by decide)]
  refine ⟨T', by rw [w0, z0 2 (by decide)], by rw [w0, z24], fun j hj => by rw [w0, z0 j hj], fun k h0 h1 => by rw [c1.1 k h1, b1.1 k h1, a1.1 k h1, zk k h0 h1], fun k hk => by rw [c1.2 k hk, b1.2 k hk, a1.2 k hk, z2], fun j hj => ?_, fun j hj => ?_, fun j hj => ?_, fun j hj => ?_, fun j hj => ?_, fun j hj => ?_⟩
  · rw [c4 j (by omega), b4 j (by omega), a5 j hj, y j hj]
  · rw [c4 _ (by omega), b4 _ (by omega), a2 j hj, zk 1 (by decide) (by decide)]
  · rw [c4 _ (by omega), b4 _ (by omega), a3 j hj, zk 2 (by decide) (by decide)]
  · rw [c2, b2, a4 j hj, z2]
  · rw [c4 _ (by omega), b3 j hj, a1.1 4 (by decide), zk 4 (by decide) (by decide)]
  · rw [c3 j hj, b1.1 5 (by decide), a1.1 5 (by decide), zk 5 (by decide) (by decide)]
theorem e_image {S T : Sg} (h : Rel S T)  : ∃ (r : Int32) (S' : Sg) (T' : Sg), f_X9_image S = some (r, S') ∧ f_X10_image T = some (r, T') ∧ Rel S' T' := by
  obtain ⟨m1, m2, m3, m4, m5, m6, m7, m8⟩ := h.1
  unfold f_X9_image
  obtain ⟨S1, c0, c1, c2, c3, c4, c5, c6, c7, c8, c9⟩ := becomeK (S := S) (k := 7) (k2 := 1) (by decide)
  obtain ⟨T1, d0, d1, d2, d3, d4, d5, d6, d7, d8, d9, d10⟩ := imageM T
  rw [c0, cl1_s, d0, bv_e, si_ne _ _ _ (by decide), (c9 1 (by decide)).1, m3]
  refine ⟨_, _, _, rfl, rfl, ?_⟩
  have hd := h.2.1
  obtain ⟨x1, x2⟩ := MD.agr (S' := si S1 0 2 1) (T' := T1) h (fun k h1 h2 => ⟨by rw [si_ne _ _ _ (by omega)]; exact (c9 k (by omega)).1, by rw [si_2]; exact (c9 k (by omega)).2⟩) (fun k h1 h2 => ⟨d3 k (by omega) (by omega), d4 k (by omega)⟩) (fun j hj => d2 j (by omega))
  refine ⟨x1, x2, ⟨by rw [si_same, upd_s, d1], Or.inr ⟨d1, ?_, ?_, ?_, ?_, ?_, ?_, ?_, ?_, ?_⟩⟩, ?_, ?_⟩
  · rw [si_ne _ _ _ (by decide), c1, d5 0 (by decide), m1]
  · rw [si_ne _ _ _ (by decide), c2, d5 1 (by decide), m2]
  · rw [si_ne _ _ _ (by decide), c3, d5 2 (by decide), m3]
  · intro j hj
    rw [si_ne _ _ _ (by decide), c4, pfx_in hj, d6 j hj, ← m4]
  · intro j hj
    rw [si_ne _ _ _ (by decide), c5, pfx_in hj, d7 j hj, ← m5]
  · intro j hj
    rw [si_2, c6, pfx_in hj, d8 j hj, ← m6]
  · intro j hj
    rw [si_ne _ _ _ (by decide), c7, pfx_in hj, d9 j hj, ← m7]
  · intro j hj
    rw [si_ne _ _ _ (by decide), c8, pfx_in hj, d10 j hj, ← m8]
  · rw [d5 0 (by decide), d5 1 (by decide), d5 2 (by decide)]
    exact hd.cg d6 d7 d9 d10
  · exact h.2.2.2.1.agr (fun k h1 h2 => ⟨by rw [si_ne _ _ _ (by omega)]; exact (c9 k (by omega)).1, by rw [si_2]; exact (c9 k (by omega)).2⟩) (fun k h1 h2 => ⟨d3 k (by omega) (by omega), d4 k (by omega)⟩)
  · exact h.2.2.2.2.agr (fun k h1 h2 => by rw [si_ne _ _ _ (by omega)]; exact (c9 k (by omega)).1) (fun k h1 h2 => d3 k (by omega) (by omega))
