/-! the relation: what it gives, what keeps it -/
def AgrK (S S' : Sg) : Prop := ∀ k, (k = 0 ∨ (7 ≤ k ∧ k ≤ 12) ∨ (31 ≤ k ∧ k ≤ 48)) → S'.1 k = S.1 k ∧ S'.2 k = S.2 k
def AgrN (T T' : Sg) : Prop := (∀ k, 10 ≤ k → T'.1 k = T.1 k ∧ T'.2 k = T.2 k) ∧ T'.1 0 24 = T.1 0 24
def AgrC (S S' : Sg) : Prop := ∀ k, (k ≤ 12 ∨ (31 ≤ k ∧ k ≤ 48)) → S'.1 k = S.1 k ∧ S'.2 k = S.2 k
def AgrM (T T' : Sg) : Prop := (∀ k, ((1 ≤ k ∧ k ≤ 5) ∨ 10 ≤ k) → T'.1 k = T.1 k ∧ T'.2 k = T.2 k) ∧ (∀ j, (j = 0 ∨ j = 1 ∨ j = 2 ∨ j = 24) → T'.1 0 j = T.1 0 j)
theorem AgrC.rf (S : Sg) : AgrC S S := fun _ _ => ⟨rfl, rfl⟩
theorem AgrM.rf (T : Sg) : AgrM T T := ⟨fun _ _ => ⟨rfl, rfl⟩, fun _ _ => rfl⟩
theorem AgrC.tr {S S1 S2 : Sg} (h1 : AgrC S S1) (h2 : AgrC S1 S2) : AgrC S S2 := fun k hk => ⟨(h2 k hk).1.trans (h1 k hk).1, (h2 k hk).2.trans (h1 k hk).2⟩
theorem AgrM.tr {S S1 S2 : Sg} (h1 : AgrM S S1) (h2 : AgrM S1 S2) : AgrM S S2 := ⟨fun k hk => ⟨(h2.1 k hk).1.trans (h1.1 k hk).1, (h2.1 k hk).2.trans (h1.1 k hk).2⟩, fun j hj => (h2.2 j hj).trans (h1.2 j hj)⟩
theorem AgrC_i {S S1 : Sg} (h : AgrC S S1) {k : Nat} (j : Nat) (v : Int32) (hk : (13 ≤ k ∧ k ≤ 30) ∨ 49 ≤ k) : AgrC S (si S1 k j v) := fun a ha => by
  have hne : a ≠ k := by omega
  exact ⟨by rw [si_ne _ _ _ hne]; exact (h a ha).1, by rw [si_2]; exact (h a ha).2⟩
theorem AgrC_l {S S1 : Sg} (h : AgrC S S1) {k : Nat} (j : Nat) (v : Int64) (hk : (13 ≤ k ∧ k ≤ 30) ∨ 49 ≤ k) : AgrC S (sl S1 k j v) := fun a ha => by
  have hne : a ≠ k := by omega
  exact ⟨by rw [sl_1]; exact (h a ha).1, by rw [sl_ne _ _ _ hne]; exact (h a ha).2⟩
theorem AgrM_i {S S1 : Sg} (h : AgrM S S1) {k : Nat} (j : Nat) (v : Int32) (hk : 6 ≤ k ∧ k ≤ 9) : AgrM S (si S1 k j v) :=
  ⟨fun a ha => by
    have hne : a ≠ k := by omega
    exact ⟨by rw [si_ne _ _ _ hne]; exact (h.1 a ha).1, by rw [si_2]; exact (h.1 a ha).2⟩, fun a ha => by rw [si_ne _ _ _ (by omega)]; exact h.2 a ha⟩
theorem AgrM_0 {S S1 : Sg} (h : AgrM S S1) (j : Nat) (v : Int32) (hj : j ≠ 0 ∧ j ≠ 1 ∧ j ≠ 2 ∧ j ≠ 24) : AgrM S (si S1 0 j v) :=
  ⟨fun a ha => by
    have hne : a ≠ 0 := by omega
    exact ⟨by rw [si_ne _ _ _ hne]; exact (h.1 a ha).1, by rw [si_2]; exact (h.1 a ha).2⟩, fun a ha => by rw [si_same, upd_n _ _ (by omega)]; exact h.2 a ha⟩
theorem AgrM_l {S S1 : Sg} (h : AgrM S S1) {k : Nat} (j : Nat) (v : Int64) (hk : 6 ≤ k ∧ k ≤ 9) : AgrM S (sl S1 k j v) :=
  ⟨fun a ha => by
    have hne : a ≠ k := by omega
    exact ⟨by rw [sl_1]; exact (h.1 a ha).1, by rw [sl_ne _ _ _ hne]; exact (h.1 a ha).2⟩, fun a ha => by rw [sl_1]; exact h.2 a ha⟩
theorem Rel_main {S T S' T' : Sg} (h : Rel S T) (hS : AgrK S S') (hT : AgrN T T') (hm : MainRel S' T') (hd : Dat (T'.1 0 0) (T'.1 0 1) (T'.1 0 2) (T'.1 1) (T'.1 2) (T'.1 4) (T'.1 5)) : Rel S' T' := by
  obtain ⟨-, -, hk, hs, hh⟩ := h
  obtain ⟨t1, t2⟩ := hT
  refine ⟨hm, hd, ?_, ?_, ?_⟩
  · unfold KeptRel at hk ⊢
    rw [(hS 0 (by omega)).1, (hS 7 (by omega)).1, (hS 8 (by omega)).1, (hS 9 (by omega)).1, (hS 10 (by omega)).2, (hS 11 (by omega)).1, (hS 12 (by omega)).1, t2, (t1 18 (by omega)).1, (t1 19 (by omega)).2]
    exact hk
  · intro s hs4
    have := hs s hs4
    rw [(hS (32 + 2 * s) (by omega)).1, (hS (33 + 2 * s) (by omega)).2, (t1 15 (by omega)).1, (t1 16 (by omega)).1, (t1 17 (by omega)).2]
    exact this
  · intro s hs4
    have := hh s hs4
    rw [(hS (41 + 2 * s) (by omega)).1, (hS (42 + 2 * s) (by omega)).1, (t1 10 (by omega)).1, (t1 11 (by omega)).1, (t1 12 (by omega)).1, (t1 13 (by omega)).1, (t1 14 (by omega)).1]
    exact this
theorem MainRel.agr {S T S' T' : Sg} (h : MainRel S T) (hS : AgrC S S') (hT : AgrM T T') : MainRel S' T' := by
  obtain ⟨t1, t2⟩ := hT
  unfold MainRel at h ⊢
  rw [(hS 1 (by omega)).1, (hS 2 (by omega)).1, (hS 3 (by omega)).1, (hS 4 (by omega)).2, (hS 5 (by omega)).1, (hS 6 (by omega)).1, t2 0 (by omega), t2 1 (by omega), t2 2 (by omega), (t1 1 (by omega)).1, (t1 2 (by omega)).1, (t1 3 (by omega)).2, (t1 4 (by omega)).1, (t1 5 (by omega)).1]
  exact h
theorem Rel.agr {S T S' T' : Sg} (h : Rel S T) (hS : AgrC S S') (hT : AgrM T T') : Rel S' T' := by
  refine Rel_main h (fun k hk => hS k (by omega)) ⟨fun k hk => hT.1 k (by omega), hT.2 24 (by omega)⟩ (h.1.agr hS hT) ?_
  obtain ⟨t1, t2⟩ := hT
  rw [t2 0 (by omega), t2 1 (by omega), t2 2 (by omega), (t1 1 (by omega)).1, (t1 2 (by omega)).1, (t1 4 (by omega)).1, (t1 5 (by omega)).1]
  exact h.2.1
/-- the three numbers -/
theorem Rel.nums {S T : Sg} (h : Rel S T) : ∃ q w n : Nat, q ∈ primes ∧ 1 ≤ w ∧ w ≤ 6 ∧ n ≤ 10 ∧ S.1 1 0 = nI q ∧ T.1 0 0 = nI q ∧ S.1 1 1 = nI w ∧ T.1 0 1 = nI w ∧ S.1 1 2 = nI n ∧ T.1 0 2 = nI n := by
  obtain ⟨⟨m1, m2, m3, -⟩, ⟨⟨q, hq, e1⟩, ⟨w, hw1, hw2, e2⟩, ⟨n, hn, e3⟩, -⟩, -⟩ := h
  exact ⟨q, w, n, hq, hw1, hw2, hn, m1.trans e1, e1, m2.trans e2, e2, m3.trans e3, e3⟩
theorem primes_b {q : Nat} (h : q ∈ primes) : 2 ≤ q ∧ q ≤ 97 := (by decide +kernel : ∀ q ∈ primes, 2 ≤ q ∧ q ≤ 97) q h
theorem nI_from {a : Int32} {n : Nat} (h : 0 ≤ a.toInt ∧ a.toInt < n) : ∃ j : Nat, j < n ∧ a = nI j := by
  refine ⟨a.toInt.toNat, by omega, i32_eq.mpr ?_⟩
  have := a.toInt_lt
  rw [nI_toInt (by omega)]
  omega
set_option maxRecDepth 100000 in
theorem primeC_tab : ∀ v, v < 98 → 2 ≤ v → f_X9_isPrime (nI v) = some (b01 (v ∈ primes)) := by decide +kernel
set_option maxRecDepth 100000 in
theorem primeM_tab : ∀ v, v < 98 → 2 ≤ v → f_X10_isPrime (nI v) = some (b01 (v ∈ primes)) := by decide +kernel
