/-! TABLES by rests -/
def dfn (q : Nat) (ki en : Nat → Int32) (p i j : Nat) : Int32 := nI (rv q ki en p 0 i * rv q ki en p 1 j) - nI (rv q ki en p 1 i * rv q ki en p 0 j)
theorem dfn_b {q : Nat} (hq : 0 < q) (hq2 : q ≤ 97) (ki en : Nat → Int32) (p i j : Nat) : -9216 ≤ (dfn q ki en p i j).toInt ∧ (dfn q ki en p i j).toInt ≤ 9216 := by
  have h1 := rv_lt hq ki en p 0 i
  have h2 := rv_lt hq ki en p 1 j
  have h3 := rv_lt hq ki en p 1 i
  have h4 := rv_lt hq ki en p 0 j
  have b1 : rv q ki en p 0 i * rv q ki en p 1 j ≤ 96 * 96 := Nat.mul_le_mul (by omega) (by omega)
  have b2 : rv q ki en p 1 i * rv q ki en p 0 j ≤ 96 * 96 := Nat.mul_le_mul (by omega) (by omega)
  unfold dfn
  rw [pk_sub_toInt (by omega) (by omega)]
  omega
theorem differenceC {S : Sg} {q w n : Nat} {ki en : Nat → Int32} (hF : Filled S q w n ki en) (hw : w ≤ 6) (hn : n ≤ 10) {p i j : Nat} (hp : p < n) (hi : i < w) (hj : j < w) : f_X5_difference (nI p) (nI i) (nI j) S = some (dfn q ki en p i j) := by
  unfold f_X5_difference
  obtain ⟨e0, e1, e2, e3⟩ := hF
  have a1 := e3 p 0 i hp (by decide) hi
  have a2 := e3 p 1 j hp (by decide) hj
  have a3 := e3 p 1 i hp (by decide) hi
  have a4 := e3 p 0 j hp (by decide) hj
  rw [show p * 12 + 0 * 6 + i = p * 12 + i by omega] at a1
  rw [show p * 12 + 1 * 6 + j = p * 12 + 6 + j by omega] at a2
  rw [show p * 12 + 1 * 6 + i = p * 12 + 6 + i by omega] at a3
  rw [show p * 12 + 0 * 6 + j = p * 12 + j by omega] at a4
  simp only [bv_e, ma126, ma12, inb_nI (show p * 12 + i < 120 by omega) (show 120 < 2 ^ 31 by decide), inb_nI (show p * 12 + j < 120 by omega) (show 120 < 2 ^ 31 by decide), inb_nI (show p * 12 + 6 + i < 120 by omega) (show 120 < 2 ^ 31 by decide), inb_nI (show p * 12 + 6 + j < 120 by omega) (show 120 < 2 ^ 31 by decide), gd_t, ix_nI (show p * 12 + i < 2 ^ 31 by omega), ix_nI (show p * 12 + j < 2 ^ 31 by omega), ix_nI (show p * 12 + 6 + i < 2 ^ 31 by omega), ix_nI (show p * 12 + 6 + j < 2 ^ 31 by omega)]
  rw [a1, a2, a3, a4, pk_mul, pk_mul]
  rfl
theorem differenceM {T : Sg} {q : Nat} (hq : 0 < q) (hq2 : q ≤ 97) (e0 : T.1 0 0 = nI q) {p i j : Nat} (hp : p < 10) (hi : i < 6) (hj : j < 6) : f_X10_difference (nI p) (nI i) (nI j) T = some (dfn q (T.1 1) (T.1 4) p i j) := by
  unfold f_X10_difference
  have a1 := numberOf_eq (T := T) hq hq2 e0 hp (show 0 < 2 by decide) hi
  have a2 := numberOf_eq (T := T) hq hq2 e0 hp (show 1 < 2 by decide) hj
  have a3 := numberOf_eq (T := T) hq hq2 e0 hp (show 0 < 2 by decide) hj
  have a4 := numberOf_eq (T := T) hq hq2 e0 hp (show 1 < 2 by decide) hi
  rw [show f_X10_numberOf (nI p) 0 (nI i) T = _ from a1, cl1_s, show f_X10_numberOf (nI p) 1 (nI j) T = _ from a2, cl1_s, show f_X10_numberOf (nI p) 0 (nI j) T = _ from a3, cl1_s, show f_X10_numberOf (nI p) 1 (nI i) T = _ from a4, cl1_s, pk_mul, pk_mul]
  unfold dfn
  rw [Nat.mul_comm (rv q (T.1 1) (T.1 4) p 0 j)]
theorem td_b {t : Nat} {d : Int} (ht : t < 97) (hd : -9216 ≤ d ∧ d ≤ 9216) : -884736 ≤ (t : Int) * d ∧ (t : Int) * d ≤ 884736 := by
  have h : ((t : Int) * d).natAbs ≤ 96 * 9216 := by
    rw [Int.natAbs_mul]; exact Nat.mul_le_mul (by omega) (by omega)
  omega
/-- the sum for one place of a TABLE -/
def tsm (q : Nat) (ki en : Nat → Int32) (t : Nat → Nat) (i j : Nat) : Nat → Int := fb_si (fun p => (t p : Int) * (dfn q ki en p i j).toInt)
def tac (q : Nat) (ki en : Nat → Int32) (t : Nat → Nat) (i j : Nat) : Nat → Int32
  | 0 => 0
  | p + 1 => tac q ki en t i j p + nI (t p) * dfn q ki en p i j
theorem tac_T {q : Nat} (hq : 0 < q) (hq2 : q ≤ 97) (ki en : Nat → Int32) (t : Nat → Nat) (i j : Nat) : ∀ k, k ≤ 10 → (∀ p, p < k → t p < 97) → (tac q ki en t i j k).toInt = tsm q ki en t i j k ∧ -(k * 884736) ≤ tsm q ki en t i j k ∧ tsm q ki en t i j k ≤ k * 884736
  | 0, _, _ => by simp [tac, tsm, fb_si]
  | k + 1, hk, ht => by
    obtain ⟨h1, h2, h3⟩ := tac_T hq hq2 ki en t i j k (by omega) (fun p hp => ht p (by omega))
    have htk := ht k (by omega)
    have hd := dfn_b hq hq2 ki en k i j
    have td := td_b htk hd
    have e1 : (nI (t k) * dfn q ki en k i j).toInt = (t k : Int) * (dfn q ki en k i j).toInt := by
      rw [fb_mulI (by rw [nI_T (by omega)]; omega) (by rw [nI_T (by omega)]; omega), nI_T (by omega)]
    have es : tsm q ki en t i j (k + 1) = tsm q ki en t i j k + (t k : Int) * (dfn q ki en k i j).toInt := rfl
    have e2 : (tac q ki en t i j (k + 1)).toInt = tsm q ki en t i j (k + 1) := by
      show (tac q ki en t i j k + nI (t k) * dfn q ki en k i j).toInt = _
      rw [fb_addI (by omega) (by omega), h1, e1, es]
    refine ⟨e2, ?_, ?_⟩
    · rw [es]; omega
    · rw [es]; omega
def tv (q n : Nat) (t : Nat → Nat) (ki en : Nat → Int32) (i j : Nat) : Nat := rst (tsm q ki en t i j n) q
theorem tv_lt {q : Nat} (hq : 0 < q) (n : Nat) (t : Nat → Nat) (ki en : Nat → Int32) (i j : Nat) : tv q n t ki en i j < q := rst_lt _ hq
theorem numberAtC {S : Sg} {q w n : Nat} {ki en : Nat → Int32} {t : Nat → Nat} (hF : Filled S q w n ki en) (hq : 0 < q) (hq2 : q ≤ 97) (hw : w ≤ 6) (hn : n ≤ 10) (ht : ∀ p, p < n → t p < q ∧ S.1 50 p = nI (t p)) {i j : Nat} (hi : i < w) (hj : j < w) : f_X7_numberAt (nI i) (nI j) S = some (nI (tv q n t ki en i j)) := by
  unfold f_X7_numberAt
  refine wp2E (F := X7_numberAt_L6 (nI i) (nI j) S (fun (v1 : Int32) => cl1 (f_X9_restOf v1.toInt64 (S.1 13 0)) fun r2 => some r2)) n (fun k => tac q ki en t i j k) (fun k => nI k) (fun k hk self => ?_) (fun self => ?_) (FU_n (by omega))
  · unfold X7_numberAt_L6
    rw [hF.2.2.1, le_n hk (by omega), inb_p (by omega) (by decide), differenceC hF hw hn hk hi hj, cl1_s, bv_e, bv_e, ix_nI (by omega), (ht k hk).2, nI_1]
    rfl
  · unfold X7_numberAt_L6
    rw [hF.2.2.1, le_p (Nat.le_refl _) (by omega), hF.1]
    show cl1 (f_X9_restOf (tac q ki en t i j n).toInt64 (nI q)) (fun r2 => some r2) = _
    rw [restOf_eq _ hq (by omega), cl1_s, Int32.toInt_toInt64, (tac_T hq hq2 ki en t i j n hn (fun p hp => by have := (ht p hp).1; omega)).1]
    rfl
theorem rst_add {q : Nat} (hq : 0 < q) (s d : Int) : rst (((rst s q : Nat) : Int) + d) q = rst (s + d) q := by
  rw [rst_cast s hq]
  unfold rst
  rw [Int.emod_add_emod]
def tam (q : Nat) (ki en : Nat → Int32) (t : Nat → Nat) (i j : Nat) : Nat → Nat
  | 0 => 0
  | p + 1 => rst ((tam q ki en t i j p : Nat) + (t p : Int) * (dfn q ki en p i j).toInt) q
theorem tam_e {q : Nat} (hq : 0 < q) (ki en : Nat → Int32) (t : Nat → Nat) (i j : Nat) : ∀ k, tam q ki en t i j k = rst (tsm q ki en t i j k) q
  | 0 => by simp [tam, tsm, fb_si, rst]
  | k + 1 => by
    show rst ((tam q ki en t i j k : Nat) + (t k : Int) * (dfn q ki en k i j).toInt) q = rst (tsm q ki en t i j k + (t k : Int) * (dfn q ki en k i j).toInt) q
    rw [tam_e hq ki en t i j k, rst_add hq]
theorem tableAtM {T : Sg} {q w n : Nat} {t : Nat → Nat} (hq : 0 < q) (hq2 : q ≤ 97) (hw : w ≤ 6) (hn : n ≤ 10) (t0 : T.1 0 0 = nI q) (t2 : T.1 0 2 = nI n) (ht : ∀ p, p < n → rst (T.2 7 p).toInt q = t p) {i j : Nat} (hi : i < w) (hj : j < w) : f_X10_tableAt (nI i) (nI j) T = some (nI (tv q n t (T.1 1) (T.1 4) i j)) := by
  unfold f_X10_tableAt
  refine wp2E (F := X10_tableAt_L5 (nI i) (nI j) T) n (fun k => nI (tam q (T.1 1) (T.1 4) t i j k)) (fun k => nI k) (fun k hk self => ?_) (fun self => ?_) (FU_n (by omega))
  · have htk : t k < q := by rw [← ht k hk]; exact rst_lt _ hq
    have hm : tam q (T.1 1) (T.1 4) t i j k < q := by rw [tam_e hq]; exact rst_lt _ hq
    have hd := dfn_b hq hq2 (T.1 1) (T.1 4) k i j
    have td := td_b (show t k < 97 by omega) hd
    have e1 : ((nI (t k)).toInt64 * (dfn q (T.1 1) (T.1 4) k i j).toInt64).toInt = (t k : Int) * (dfn q (T.1 1) (T.1 4) k i j).toInt := by
      have z1 : (nI (t k)).toInt64.toInt = (t k : Int) := by rw [Int32.toInt_toInt64, nI_T (by omega)]
      have z2 := Int32.toInt_toInt64 (dfn q (T.1 1) (T.1 4) k i j)
      rw [fb_mulL (by rw [z1, z2]; omega) (by rw [z1, z2]; omega), z1, z2]
    have z3 : (nI (tam q (T.1 1) (T.1 4) t i j k)).toInt64.toInt = (tam q (T.1 1) (T.1 4) t i j k : Int) := by rw [Int32.toInt_toInt64, nI_T (by omega)]
    unfold X10_tableAt_L5
    rw [t2, le_n hk (by omega), inb_p (by omega) (by decide), ix_nI (by omega), m_rest, t0, restOf_eq _ hq (by omega), cl1_s, ht k hk, differenceM hq hq2 t0 (by omega) (by omega) (by omega), cl1_s, m_rest, t0, restOf_eq _ hq (by omega), cl1_s, bv_e, nI_1, fb_addL (by rw [z3, e1]; omega) (by rw [z3, e1]; omega), z3, e1]
    rfl
  · unfold X10_tableAt_L5
    rw [t2, le_p (Nat.le_refl _) (by omega), tam_e hq]
    rfl
theorem numberForC {S : Sg} {k b p : Nat} (hb : b ≤ 30) (e : S.1 k 1 = nI b) (hp : p < 10) : f_X6_numberFor k (nI p) S = some (if p < b then S.2 (k + 1) p else 0) := by
  unfold f_X6_numberFor
  rw [has6C hb e, cl1_s, nI_T (by omega)]
  by_cases h : p < b
  · rw [b01_t (by omega), if_neg n10, inb_p (by omega) (by decide), ix_nI (by omega), if_pos h]
  · rw [b01_f (by omega), if_pos z00, if_neg h]
theorem fillTimesC {S : Sg} {k b q n : Nat} {X : Nat → Int64} (hq : 0 < q) (hq2 : q ≤ 97) (hn : n ≤ 10) (hb : b ≤ 30) (hk : k ≠ 50) (e0 : S.1 1 0 = nI q) (e2 : S.1 1 2 = nI n) (e : S.1 k 1 = nI b) (hX : ∀ p, p < n → (if p < b then S.2 (k + 1) p else 0) = X p) : ∃ S', f_X9_fillTimes k S = some S' ∧ Fr 50 S S' ∧ ∀ p, p < n → S'.1 50 p = nI (rst (X p).toInt q) := by
  unfold f_X9_fillTimes
  obtain ⟨S', ⟨f1, f2⟩, h4⟩ := for2 (F := X9_fillTimes_L2 k) n (fun j S1 => Fr 50 S S1 ∧ ∀ p, p < j → S1.1 50 p = nI (rst (X p).toInt q)) (fun S => some S) (by
    rintro p S1 hp ⟨f1, f2⟩
    refine ⟨si S1 50 p (nI (rst (X p).toInt q)), ⟨Fr_w f1 _ _, fun a ha => ?_⟩, fun self => ?_⟩
    · by_cases he : a = p
      · rw [he, si_same, upd_s]
      · rw [si_same, upd_n _ _ he]; exact f2 a (by omega)
    · have ef : S1.1 k 1 = nI b := by rw [f1.1 k hk, e]
      have ex : (if p < b then S1.2 (k + 1) p else 0) = X p := by rw [f1.2]; exact hX p hp
      unfold X9_fillTimes_L2
      rw [f1.1 1 (by decide), e2, le_n hp (by omega), numberForC hb ef (by omega), cl1_s, ex, e0, restOf_eq _ hq (by omega), cl1_s, inb_p (by omega) (by decide), bv_e, bv_e, ix_nI (by omega), nI_1]) (by
    rintro S1 ⟨f1, -⟩ self
    unfold X9_fillTimes_L2
    rw [f1.1 1 (by decide), e2, le_p (Nat.le_refl _) (by omega)]) (i0 := 0) (S0 := S) ⟨Fr.rf _ _, fun _ h => by omega⟩ (by omega) (FU_n (by omega))
  exact ⟨S', h4, f1, f2⟩
/-- the number that a SHEET tells for a PAIR -/
def shx (T : Sg) (s b p : Nat) : Int64 := if p < b then T.2 17 (30 * s + p) else 0
theorem tellsM {T : Sg} {s b : Nat} (hs : s < 4) (hb : b ≤ 30) (e : T.1 16 s = nI b) (h15 : 0 ≤ T.1 15 s) : ∃ T', f_X10_tells (nI s) T = some (0, T') ∧ T'.1 = T.1 ∧ (∀ k, k ≠ 7 → T'.2 k = T.2 k) ∧ ∀ p, p < 10 → T'.2 7 p = shx T s b p := by
  unfold f_X10_tells
  rw [sheetM, cl1_s, b01_t (by rw [nI_T (by omega)]; omega), if_neg n10, inb_p hs (by decide), ix_nI (by omega), if_pos h15]
  obtain ⟨T', ⟨f1, f2, f3⟩, h4⟩ := for2 (F := X10_tells_L24 (nI s)) 10 (fun j T1 => T1.1 = T.1 ∧ (∀ k, k ≠ 7 → T1.2 k = T.2 k) ∧ ∀ p, p < j → T1.2 7 p = shx T s b p) (fun T => some (0, T)) (by
    rintro p T1 hp ⟨f1, f2, f3⟩
    refine ⟨sl T1 7 p (shx T s b p), ⟨f1, fun a ha => by rw [sl_ne _ _ _ ha]; exact f2 a ha, fun a ha => ?_⟩, fun self => ?_⟩
    · by_cases he : a = p
      · rw [he, sl_same, updL_s]
      · rw [sl_same, updL_n _ _ he]; exact f3 a (by omega)
    · unfold X10_tells_L24 shx
      rw [show (10 : Int32) = nI 10 from rfl, le_n hp (by decide), inb_p hs (by decide), f1, ix_nI (show s < 2 ^ 31 by omega), e, m30]
      simp only [jn_e, bv_e]
      by_cases h : p < b
      · rw [le_n h (by omega), inb_p (by omega) (by decide), inb_p hp (by decide), ix_nI (by omega), ix_nI (by omega), f2 17 (by decide), nI_1, if_pos h]
      · rw [le_p (by omega) (by omega), inb_p hp (by decide), ix_nI (by omega), nI_1, if_neg h]) (by
    rintro T1 - self
    unfold X10_tells_L24
    rw [show (10 : Int32) = nI 10 from rfl, le_p (Nat.le_refl _) (by decide)]) (i0 := 0) (S0 := T) ⟨rfl, fun _ _ => rfl, fun _ h => by omega⟩ (by omega) (FU_n (by omega))
  exact ⟨T', h4, f1, f2, f3⟩
theorem tellsN {T : Sg} {s : Nat} (hs : s < 4) (h15 : ¬ 0 ≤ T.1 15 s) : f_X10_tells (nI s) T = some (-11, T) := by
  unfold f_X10_tells
  rw [sheetM, cl1_s, b01_t (by rw [nI_T (by omega)]; omega), if_neg n10, inb_p hs (by decide), ix_nI (by omega), if_neg h15]
theorem tellsB {T : Sg} {a : Int32} (h : ¬ (0 ≤ a.toInt ∧ a.toInt < 4)) : f_X10_tells a T = some (-2, T) := by
  unfold f_X10_tells
  rw [sheetM, cl1_s, b01_f h, if_pos z00]
theorem missC {S : Sg} {k : Nat} : f_X6_isMissing k S = some (b01 (S.1 k 0 = -1)) := by
  unfold f_X6_isMissing
  by_cases h : S.1 k 0 = -1
  · rw [if_pos h, b01_t h]
  · rw [if_neg h, b01_f h]
/-- what both have ready for a TABLE by a SHEET -/
theorem ready {S T : Sg} (h : Rel S T) {q w n s : Nat} (hqp : q ∈ primes) (hw : w ≤ 6) (hn : n ≤ 10) (s0 : S.1 1 0 = nI q) (s1 : S.1 1 1 = nI w) (s2 : S.1 1 2 = nI n) (hs : s < 4) (h15 : 0 ≤ T.1 15 s) :
    ∃ S1 S2 T1 b, f_X5_fill S = some S1 ∧ f_X9_fillTimes (32 + 2 * s) S1 = some S2 ∧ f_X10_tells (nI s) T = some (0, T1) ∧ AgrC S S2 ∧ AgrM T T1 ∧ T1.1 = T.1 ∧ Filled S2 q w n (T.1 1) (T.1 4) ∧ b ≤ 30 ∧ (∀ p, p < n → S2.1 50 p = nI (rst (shx T s b p).toInt q)) ∧ ∀ p, p < 10 → T1.2 7 p = shx T s b p := by
  have hq := primes_b hqp
  obtain ⟨m1, m2, m3, m4, m5, m6, m7, m8⟩ := h.1
  obtain ⟨k1, k2, k3, b, hb, k4, k5⟩ := h.2.2.2.1 s hs
  obtain ⟨S1, a1, a2, a3, a4⟩ := fill_eq (S := S) (by omega) (by omega) hw hn s0 s1 s2
  obtain ⟨S2, b1, b2, b3⟩ := fillTimesC (S := S1) (k := 32 + 2 * s) (b := b) (q := q) (n := n) (X := shx T s b) (by omega) (by omega) hn hb (by omega) (by rw [a3 1 (by decide) (by decide), s0]) (by rw [a3 1 (by decide) (by decide), s2]) (by rw [a3 (32 + 2 * s) (by omega) (by omega), k2, k4]) (fun p hp => by
    unfold shx
    by_cases hpb : p < b
    · have := k5 p hpb
      rw [if_pos hpb, if_pos hpb, a4, ← this]
      rw [show 33 + 2 * s = 32 + 2 * s + 1 by omega]
    · rw [if_neg hpb, if_neg hpb])
  obtain ⟨T1, c1, c2, c3, c4⟩ := tellsM hs hb k4 h15
  refine ⟨S1, S2, T1, b, a1, b1, c1, fun k hk => ⟨by rw [b2.1 k (by omega), a3 k (by omega) (by omega)], by rw [b2.2, a4]⟩, ⟨fun k hk => ⟨by rw [c2], c3 k (by omega)⟩, fun j _ => by rw [c2]⟩, c2, ?_, hb, b3, c4⟩
  rw [← m4, ← m7]
  exact a2.fr (b2.1 13 (by decide)) (b2.1 14 (by decide))
theorem e_table {S T : Sg} (h : Rel S T) (a0 : Int32) (a1 : Int32) (a2 : Int32) : ∃ (r : Int32) (S' : Sg) (T' : Sg), f_X9_table a0 a1 a2 S = some (r, S') ∧ f_X10_table a0 a1 a2 T = some (r, T') ∧ Rel S' T' := by
  obtain ⟨q, w, n, hqp, hw1, hw, hn, s0, t0, s1, t1, s2, t2⟩ := h.nums
  have hq := primes_b hqp
  have ew : ((nI w - 1 : Int32).toInt64).toInt = (w : Int) - 1 := by
    rw [Int32.toInt_toInt64]; exact pk_sub_toInt (a := w) (b := 1) (by omega) (by decide)
  have ewi : (nI w).toInt = (w : Int) := nI_toInt (by omega)
  unfold f_X9_table f_X10_table
  rw [sheetC, cl1_s, sheetM, cl1_s, s1, t1, in32 a1 0 ((w : Int) - 1) (by decide) ew, cl1_s, in32 a2 0 ((w : Int) - 1) (by decide) ew, cl1_s]
  by_cases h1 : 0 ≤ a0.toInt ∧ a0.toInt < 4
  · rw [b01_t h1, if_neg n10, if_neg n10]
    obtain ⟨s, hs, rfl⟩ := nI_from (a := a0) (n := 4) ⟨h1.1, by omega⟩
    by_cases h2 : 0 ≤ a1.toInt ∧ a1.toInt < w
    · obtain ⟨i, hi, rfl⟩ := nI_from h2
      rw [b01_t (show 0 ≤ (nI i).toInt ∧ (nI i).toInt ≤ (w : Int) - 1 by omega), if_neg n10, if_neg (nI_pos (show i < 2 ^ 31 by omega)), le_n hi (by omega)]
      by_cases h3 : 0 ≤ a2.toInt ∧ a2.toInt < w
      · obtain ⟨j, hj, rfl⟩ := nI_from h3
        rw [b01_t (show 0 ≤ (nI j).toInt ∧ (nI j).toInt ≤ (w : Int) - 1 by omega), if_neg n10, if_neg (nI_pos (show j < 2 ^ 31 by omega)), if_pos (nI_lt hj (by omega)), inb_p hs (by decide), ix_nI (by omega), missC, cl1_s]
        obtain ⟨k1, k2, k3, -⟩ := h.2.2.2.1 s hs
        rw [k1]
        rcases sk_t k3 with hm | hm
        · rw [b01_t hm, if_neg n10, tellsN hs (by rw [hm]; decide), cl_s, if_neg (by decide)]
          exact ⟨_, _, _, rfl, rfl, h⟩
        · rw [b01_f (fun z => by rw [z] at hm; exact absurd hm (by decide)), if_pos z00]
          obtain ⟨S1, S2, T1, b, c1, c2, c3, c4, c5, c6, c7, c8, c9, c10⟩ := ready h hqp hw hn s0 s1 s2 hs hm
          have hc := numberAtC (t := fun p => rst (shx T s b p).toInt q) c7 (by omega) (by omega) hw hn (fun p hp => ⟨rst_lt _ (by omega), c9 p hp⟩) hi hj
          have hM := tableAtM (T := T1) (q := q) (n := n) (t := fun p => rst (shx T s b p).toInt q) (by omega) (by omega) hw hn (by rw [c6, t0]) (by rw [c6, t2]) (fun p hp => by rw [c10 p (by omega)]) hi hj
          rw [c1, cl1_s, inb_p hs (by decide), c2, cl1_s, hc, cl1_s, c3, cl_s, if_pos z00, hM, cl1_s, c6]
          exact ⟨_, _, _, rfl, rfl, h.agr c4 c5⟩
      · rw [b01_f (show ¬ (0 ≤ a2.toInt ∧ a2.toInt ≤ (w : Int) - 1) by omega), if_pos z00]
        by_cases z : a2 < 0
        · rw [if_pos z]; exact ⟨_, _, _, rfl, rfl, h⟩
        · have z1 : ¬ a2.toInt < 0 := fun y => z ((i_lt 0 (by decide)).mpr y)
          rw [if_neg z, if_neg (fun y => by have := (i_lt (w : Int) ewi).mp y; omega)]
          exact ⟨_, _, _, rfl, rfl, h⟩
    · rw [b01_f (show ¬ (0 ≤ a1.toInt ∧ a1.toInt ≤ (w : Int) - 1) by omega), if_pos z00]
      by_cases z : a1 < 0
      · rw [if_pos z]; exact ⟨_, _, _, rfl, rfl, h⟩
      · have z1 : ¬ a1.toInt < 0 := fun y => z ((i_lt 0 (by decide)).mpr y)
        rw [if_neg z, if_pos ((i_ge (w : Int) ewi).mpr (by omega))]
        exact ⟨_, _, _, rfl, rfl, h⟩
  · rw [b01_f h1, if_pos z00, if_pos z00]
    exact ⟨_, _, _, rfl, rfl, h⟩
