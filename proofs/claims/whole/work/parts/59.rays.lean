/-! RAYS, in their order -/
def posf (a : Nat → Nat) (x : Int) : Nat → Nat → Nat
  | 0, k => k
  | c + 1, k => if x ≤ (a k : Int) then k else posf a x c (k + 1)
theorem posf_le (a : Nat → Nat) (x : Int) : ∀ c k, k ≤ posf a x c k ∧ posf a x c k ≤ k + c
  | 0, k => ⟨Nat.le_refl _, Nat.le_refl _⟩
  | c + 1, k => by
    have := posf_le a x c (k + 1)
    unfold posf
    split
    · exact ⟨Nat.le_refl _, by omega⟩
    · omega
theorem posf_lo (a : Nat → Nat) (x : Int) : ∀ c k j, k ≤ j → j < posf a x c k → (a j : Int) < x
  | 0, k, j, h1, h2 => by
    have : posf a x 0 k = k := rfl
    omega
  | c + 1, k, j, h1, h2 => by
    unfold posf at h2
    split at h2
    · omega
    · rename_i h
      by_cases e : j = k
      · rw [e]; omega
      · exact posf_lo a x c (k + 1) j (by omega) h2
theorem posf_hi (a : Nat → Nat) (x : Int) : ∀ c k, posf a x c k < k + c → x ≤ (a (posf a x c k) : Int)
  | 0, k, h => by
    have : posf a x 0 k = k := rfl
    omega
  | c + 1, k, h => by
    unfold posf at h ⊢
    split
    · assumption
    · rename_i h1
      rw [if_neg h1] at h
      exact posf_hi a x c (k + 1) (by omega)
theorem lT {a : Nat} (h : a < 97 ^ 6) : (lN a).toInt = (a : Int) := pk_lT (Nat.lt_trans h (by decide))
theorem belowC {S : Sg} {m : Nat} {a : Nat → Nat} (hm : m ≤ 20) (e : S.1 29 0 = nI m) (ha : ∀ j, j < m → S.2 30 j = lN (a j)) (hb : ∀ j, j < m → a j < 97 ^ 6) (x : Int64) : f_X3_raysBelow x S = some (nI (posf a x.toInt m 0)) := by
  unfold f_X3_raysBelow
  have key : ∀ c k fuel, k + c = m → c < fuel → wp1 (X3_raysBelow_L2 x S) fuel (nI k) = some (nI (posf a x.toInt c k)) := by
    intro c
    induction c with
    | zero =>
      intro k fuel hk hf
      obtain ⟨f, rfl⟩ : ∃ f, fuel = f + 1 := ⟨fuel - 1, by omega⟩
      rw [wp1s]
      unfold X3_raysBelow_L2
      rw [e, le_p (by omega) (by omega)]
      rfl
    | succ c ih =>
      intro k fuel hk hf
      obtain ⟨f, rfl⟩ : ∃ f, fuel = f + 1 := ⟨fuel - 1, by omega⟩
      have IH := ih (k + 1) f (by omega) (by omega)
      rw [wp1s]
      generalize wp1 (X3_raysBelow_L2 x S) f = W at IH ⊢
      unfold X3_raysBelow_L2 posf
      rw [e, le_n (by omega) (by omega), inb_p (by omega) (by decide), ix_nI (by omega), ha k (by omega), bv_e, nI_1, IH]
      by_cases h : x.toInt ≤ (a k : Int)
      · rw [if_pos h, if_pos ((cmp_ge _ _).mpr (by rw [lT (hb k (by omega))]; exact h))]
      · rw [if_neg h, if_neg (fun z => h (by have := (cmp_ge _ _).mp z; rw [lT (hb k (by omega))] at this; exact this))]
  exact key m 0 FU (by omega) (FU_n (by omega))
theorem belowM {T : Sg} {m : Nat} {a : Nat → Nat} (hm : m ≤ 20) (e : T.1 0 15 = nI m) (ha : ∀ j, j < m → T.2 9 j = lN (a j)) (hb : ∀ j, j < m → a j < 97 ^ 6) (x : Int64) (K : Int32 → Option Sg) : wp1 (X10_findsRays_L31 T x K) FU (nI 0) = K (nI (posf a x.toInt m 0)) := by
  have key : ∀ c k fuel, k + c = m → c < fuel → wp1 (X10_findsRays_L31 T x K) fuel (nI k) = K (nI (posf a x.toInt c k)) := by
    intro c
    induction c with
    | zero =>
      intro k fuel hk hf
      obtain ⟨f, rfl⟩ : ∃ f, fuel = f + 1 := ⟨fuel - 1, by omega⟩
      rw [wp1s]
      unfold X10_findsRays_L31
      rw [e, le_p (by omega) (by omega)]
      rfl
    | succ c ih =>
      intro k fuel hk hf
      obtain ⟨f, rfl⟩ : ∃ f, fuel = f + 1 := ⟨fuel - 1, by omega⟩
      have IH := ih (k + 1) f (by omega) (by omega)
      rw [wp1s]
      generalize wp1 (X10_findsRays_L31 T x K) f = W at IH ⊢
      unfold X10_findsRays_L31 posf
      rw [e, le_n (by omega) (by omega), inb_p (by omega) (by decide), ix_nI (by omega), ha k (by omega), bv_e, nI_1, IH]
      by_cases h : x.toInt ≤ (a k : Int)
      · rw [if_pos h, if_pos ((cmp_ge _ _).mpr (by rw [lT (hb k (by omega))]; exact h))]
      · rw [if_neg h, if_neg (fun z => h (by have := (cmp_ge _ _).mp z; rw [lT (hb k (by omega))] at this; exact this))]
  exact key m 0 FU (by omega) (FU_n (by omega))
theorem nI_dn (v : Nat) : nI (v + 1) + (-1) = nI v := by
  rw [← nI_1, Int32.add_assoc, show (1 : Int32) + (-1) = 0 by decide, Int32.add_zero]
theorem nI_s1 (v : Nat) : nI (v + 1) - 1 = nI v := pk_sub (a := v + 1) (b := 1) (by omega)
theorem shiftC {r : Nat} : ∀ d v (S1 : Sg) fuel, v = r + d → v ≤ 19 → d < fuel → ∃ S2, S2.1 = S1.1 ∧ (∀ k, k ≠ 30 → S2.2 k = S1.2 k) ∧ (∀ j, S2.2 30 j = if r < j ∧ j ≤ v then S1.2 30 (j - 1) else S1.2 30 j) ∧ ∀ K, wp2 (X3_insert_L62 (nI r) K) fuel (nI v) S1 = K S2 := by
  intro d
  induction d with
  | zero =>
    intro v S1 fuel hv hv2 hf
    obtain ⟨f, rfl⟩ : ∃ f, fuel = f + 1 := ⟨fuel - 1, by omega⟩
    refine ⟨S1, rfl, fun _ _ => rfl, fun j => by rw [if_neg (by omega)], fun K => ?_⟩
    rw [wp2s]
    unfold X3_insert_L62
    rw [le_p (by omega) (by omega)]
  | succ d ih =>
    intro v S1 fuel hv hv2 hf
    obtain ⟨f, rfl⟩ : ∃ f, fuel = f + 1 := ⟨fuel - 1, by omega⟩
    obtain ⟨u, rfl⟩ : ∃ u, v = u + 1 := ⟨v - 1, by omega⟩
    obtain ⟨S2, h1, h2, h3, h4⟩ := ih u (sl S1 30 (u + 1) (S1.2 30 u)) f (by omega) (by omega) (by omega)
    refine ⟨S2, h1, fun k hk => by rw [h2 k hk, sl_ne _ _ _ hk], fun j => ?_, fun K => ?_⟩
    · rw [h3, sl_same]
      by_cases e1 : r < j ∧ j ≤ u
      · rw [if_pos e1, if_pos (by omega), updL_n _ _ (by omega)]
      · rw [if_neg e1]
        by_cases e2 : j = u + 1
        · rw [e2, updL_s, if_pos (by omega), Nat.add_sub_cancel]
        · rw [updL_n _ _ e2, if_neg (by omega)]
    · rw [wp2s]
      have hst : ∀ self, X3_insert_L62 (nI r) K self (nI (u + 1)) S1 = self (nI u) (sl S1 30 (u + 1) (S1.2 30 u)) := fun self => by
        unfold X3_insert_L62
        rw [le_n (by omega) (by omega), nI_s1, inb_p (by omega) (by decide), inb_p (by omega) (by decide), bv_e, bv_e, ix_nI (by omega), ix_nI (by omega), nI_dn]
      rw [hst, h4]
theorem shiftM {r : Nat} : ∀ d v (S1 : Sg) fuel, v = r + d → v ≤ 19 → d < fuel → ∃ S2, S2.1 = S1.1 ∧ (∀ k, k ≠ 9 → S2.2 k = S1.2 k) ∧ (∀ j, S2.2 9 j = if r < j ∧ j ≤ v then S1.2 9 (j - 1) else S1.2 9 j) ∧ ∀ K, wp2 (X10_findsRays_L94 (nI r) K) fuel (nI v) S1 = K S2 := by
  intro d
  induction d with
  | zero =>
    intro v S1 fuel hv hv2 hf
    obtain ⟨f, rfl⟩ : ∃ f, fuel = f + 1 := ⟨fuel - 1, by omega⟩
    refine ⟨S1, rfl, fun _ _ => rfl, fun j => by rw [if_neg (by omega)], fun K => ?_⟩
    rw [wp2s]
    unfold X10_findsRays_L94
    rw [le_p (by omega) (by omega)]
  | succ d ih =>
    intro v S1 fuel hv hv2 hf
    obtain ⟨f, rfl⟩ : ∃ f, fuel = f + 1 := ⟨fuel - 1, by omega⟩
    obtain ⟨u, rfl⟩ : ∃ u, v = u + 1 := ⟨v - 1, by omega⟩
    obtain ⟨S2, h1, h2, h3, h4⟩ := ih u (sl S1 9 (u + 1) (S1.2 9 u)) f (by omega) (by omega) (by omega)
    refine ⟨S2, h1, fun k hk => by rw [h2 k hk, sl_ne _ _ _ hk], fun j => ?_, fun K => ?_⟩
    · rw [h3, sl_same]
      by_cases e1 : r < j ∧ j ≤ u
      · rw [if_pos e1, if_pos (by omega), updL_n _ _ (by omega)]
      · rw [if_neg e1]
        by_cases e2 : j = u + 1
        · rw [e2, updL_s, if_pos (by omega), Nat.add_sub_cancel]
        · rw [updL_n _ _ e2, if_neg (by omega)]
    · rw [wp2s]
      have hst : ∀ self, X10_findsRays_L94 (nI r) K self (nI (u + 1)) S1 = self (nI u) (sl S1 9 (u + 1) (S1.2 9 u)) := fun self => by
        unfold X10_findsRays_L94
        rw [le_n (by omega) (by omega), nI_s1, inb_p (by omega) (by decide), inb_p (by omega) (by decide), bv_e, bv_e, ix_nI (by omega), ix_nI (by omega), nI_dn]
      rw [hst, h4]
/-- what the two keep of the RAYS -/
def RyL (S T : Sg) (m : Nat) (a : Nat → Nat) : Prop := S.1 29 0 = nI m ∧ T.1 0 15 = nI m ∧ (∀ j, j < m → S.2 30 j = lN (a j)) ∧ (∀ j, j < m → T.2 9 j = lN (a j)) ∧ (∀ j, j < m → 1 ≤ a j ∧ a j < 97 ^ 6) ∧ ∀ j k, j < k → k < m → a j < a k
def FrR (S S' : Sg) : Prop := (∀ k, k ≠ 29 → S'.1 k = S.1 k) ∧ ∀ k, k ≠ 30 → S'.2 k = S.2 k
def FrT (T T' : Sg) : Prop := (∀ k, k ≠ 0 → T'.1 k = T.1 k) ∧ (∀ j, j ≠ 15 → T'.1 0 j = T.1 0 j) ∧ ∀ k, k ≠ 9 → T'.2 k = T.2 k
theorem FrR.tr {S S1 S2 : Sg} (h1 : FrR S S1) (h2 : FrR S1 S2) : FrR S S2 := ⟨fun k hk => (h2.1 k hk).trans (h1.1 k hk), fun k hk => (h2.2 k hk).trans (h1.2 k hk)⟩
theorem FrT.tr {S S1 S2 : Sg} (h1 : FrT S S1) (h2 : FrT S1 S2) : FrT S S2 := ⟨fun k hk => (h2.1 k hk).trans (h1.1 k hk), fun k hk => (h2.2.1 k hk).trans (h1.2.1 k hk), fun k hk => (h2.2.2 k hk).trans (h1.2.2 k hk)⟩
def insA (a : Nat → Nat) (r c : Nat) : Nat → Nat := fun j => if j < r then a j else if j = r then c else a (j - 1)
theorem insertC {S T : Sg} {m c : Nat} {a : Nat → Nat} (hm : m ≤ 19) (hR : RyL S T m a) (hc : c < 97 ^ 6) : ∃ S', f_X3_insert (lN c) S = some S' ∧ FrR S S' ∧ ((S' = S ∧ (c = 0 ∨ (posf a c m 0 < m ∧ a (posf a c m 0) = c))) ∨ (1 ≤ c ∧ ¬ (posf a c m 0 < m ∧ a (posf a c m 0) = c) ∧ S'.1 29 0 = nI (m + 1) ∧ ∀ j, j < m + 1 → S'.2 30 j = lN (insA a (posf a c m 0) c j))) := by
  obtain ⟨r1, r2, r3, r4, r5, r6⟩ := hR
  have hbel := belowC (show m ≤ 20 by omega) r1 r3 (fun j hj => (r5 j hj).2) (lN c)
  rw [lT hc] at hbel
  have hle := (posf_le a c m 0).2
  generalize hr : posf a (c : Int) m 0 = r at hbel hle
  obtain ⟨S2, h1, h2, h3, h4⟩ := shiftC (r := r) (m - r) m S FU (by omega) (by omega) (FU_n (by omega))
  have hS : f_X3_insert (lN c) S = if c = 0 then some S else if r < m ∧ a r = c then some S else some (si (sl S2 30 r (lN c)) 29 0 (nI (m + 1))) := by
    unfold f_X3_insert
    rw [hbel, cl1_s, jn_e, jn_e, r1, bv_e, h4]
    simp only [bv_e, inb_nI (show r < 20 by omega) (show 20 < 2 ^ 31 by decide), gd_t, ix_nI (show r < 2 ^ 31 by omega)]
    rw [show (sl S2 30 r (lN c)).1 29 0 = nI m by rw [sl_1, h1, r1], nI_1]
    rw [if_pos (show nI m < 20 by rw [i_lt 20 (by decide), nI_toInt (by omega)]; omega)]
    by_cases h0 : c = 0
    · have hz : lg_cmp (lN c) 0 = 0 := (cmp_0 _).mpr (by rw [h0]; rfl)
      rw [if_pos h0]
      simp only [if_pos hz]
      split
      · rfl
      · split <;> rfl
    · have h0' : ¬ lg_cmp (lN c) 0 = 0 := fun z => h0 (by
        have := i64_eq.mp ((cmp_0 _).mp z)
        rw [lT hc] at this
        simp at this
        exact this)
      rw [if_neg h0]
      simp only [if_neg h0', n10, if_true, if_false]
      by_cases h5 : r < m
      · rw [le_n h5 (by omega), r3 r h5]
        by_cases h6 : a r = c
        · rw [if_pos ((cmp_eq _ _).mpr (by rw [h6])), if_pos (show r < m ∧ a r = c from ⟨h5, h6⟩)]
        · rw [if_neg (fun z => h6 ((pk_lEQ (Nat.lt_trans (r5 r h5).2 (by decide)) (Nat.lt_trans hc (by decide))).mp ((cmp_eq _ _).mp z))), if_neg (show ¬ (r < m ∧ a r = c) from fun z => h6 z.2)]
      · rw [le_p (by omega) (by omega), if_neg (show ¬ (r < m ∧ a r = c) from fun z => h5 z.1)]
  rw [hS]
  by_cases h0 : c = 0
  · rw [if_pos h0]
    exact ⟨S, rfl, ⟨fun _ _ => rfl, fun _ _ => rfl⟩, Or.inl ⟨rfl, Or.inl h0⟩⟩
  · rw [if_neg h0]
    by_cases h5 : r < m ∧ a r = c
    · rw [if_pos h5]
      exact ⟨S, rfl, ⟨fun _ _ => rfl, fun _ _ => rfl⟩, Or.inl ⟨rfl, Or.inr h5⟩⟩
    · rw [if_neg h5]
      refine ⟨_, rfl, ⟨fun k hk => by rw [si_ne _ _ _ hk, sl_1, h1], fun k hk => by rw [si_2, sl_ne _ _ _ hk, h2 k hk]⟩, Or.inr ⟨by omega, h5, by rw [si_same, upd_s], fun j hj => ?_⟩⟩
      rw [si_2, sl_same]
      unfold insA
      by_cases e1 : j = r
      · rw [e1, updL_s, if_neg (by omega), if_pos rfl]
      · rw [updL_n _ _ e1, h3]
        by_cases e2 : j < r
        · rw [if_neg (by omega), if_pos e2, r3 j (by omega)]
        · rw [if_pos (by omega), if_neg e2, if_neg e1, r3 (j - 1) (by omega)]
