/-! rays, ray, rayOf -/
theorem p_lt {c : Nat} (hc : c < 97 ^ 6) : c < 2 ^ 63 := Nat.lt_trans hc (by decide)
theorem insertM {S T : Sg} {m c i n : Nat} {a : Nat → Nat} (hm : m ≤ 19) (hR : RyL S T m a) (hc : c < 97 ^ 6) (t2 : T.1 0 2 = nI n) (hn : n ≤ 10) (hi : i < 2 * n) (hcode : f_X10_rayBy (nI (i / 2)) (nI (i % 2)) T = some (if c = 0 then -1 else lN c)) : ∃ T', (∀ self, X10_findsRays_L7 self (nI i) T = self (nI (i + 1)) T') ∧ FrT T T' ∧ ((T' = T ∧ (c = 0 ∨ (posf a c m 0 < m ∧ a (posf a c m 0) = c))) ∨ (1 ≤ c ∧ ¬ (posf a c m 0 < m ∧ a (posf a c m 0) = c) ∧ T'.1 0 15 = nI (m + 1) ∧ ∀ j, j < m + 1 → T'.2 9 j = lN (insA a (posf a c m 0) c j))) := by
  obtain ⟨r1, r2, r3, r4, r5, r6⟩ := hR
  have hd2 : nI i / 2 = nI (i / 2) := pk_div (a := i) (d := 2) (by omega) (by decide) (by decide)
  have hr2 : irm (nI i) 2 = nI (i % 2) := irm_nI (a := i) (d := 2) (by omega) (by decide) (by decide)
  have h2n : (2 : Int32) * nI n = nI (2 * n) := by rw [show (2 : Int32) = nI 2 from rfl, pk_mul]
  have hbel : ∀ x K, wp1 (X10_findsRays_L31 T x K) FU 0 = K (nI (posf a x.toInt m 0)) := fun x K => belowM (show m ≤ 20 by omega) r2 r4 (fun j hj => (r5 j hj).2) x K
  by_cases h0 : c = 0
  · refine ⟨T, fun self => ?_, ⟨fun _ _ => rfl, fun _ _ => rfl, fun _ _ => rfl⟩, Or.inl ⟨rfl, Or.inl h0⟩⟩
    unfold X10_findsRays_L7
    rw [t2, h2n, le_n hi (by omega), hd2, hr2, hcode, cl1_s, if_pos h0, hbel, jn_e, if_pos (show lg_cmp (-1 : Int64) (0 : Int64) < 0 by decide)]
    show bv (nI i + 1) _ = _
    rw [bv_e, nI_1]
  · have hle := (posf_le a c m 0).2
    generalize hr : posf a (c : Int) m 0 = r at hle ⊢
    obtain ⟨T2, h1, h2, h3, h4⟩ := shiftM (r := r) (m - r) m T FU (by omega) (by omega) (FU_n (by omega))
    have hpos : ¬ lg_cmp (lN c) 0 < 0 := fun z => by
      have := (cmp_lt _ _).mp z
      rw [lT hc] at this
      simp at this
      omega
    have hS : ∀ self, X10_findsRays_L7 self (nI i) T = self (nI (i + 1)) (if r < m ∧ a r = c then T else si (sl T2 9 r (lN c)) 0 15 (nI (m + 1))) := fun self => by
      unfold X10_findsRays_L7
      rw [t2, h2n, le_n hi (by omega), hd2, hr2, hcode, cl1_s, if_neg h0, hbel, lT hc, hr, jn_e, if_neg hpos, jn_e, r2, bv_e, h4]
      simp only [bv_e, inb_nI (show r < 20 by omega) (show 20 < 2 ^ 31 by decide), gd_t, ix_nI (show r < 2 ^ 31 by omega)]
      rw [show (sl T2 9 r (lN c)).1 0 15 = nI m by rw [sl_1, h1, r2], nI_1, nI_1]
      by_cases h5 : r < m
      · rw [le_n h5 (by omega), r4 r h5]
        by_cases h6 : a r = c
        · rw [if_pos ((cmp_eq _ _).mpr (by rw [h6])), if_pos (show r < m ∧ a r = c from ⟨h5, h6⟩)]
        · rw [if_neg (fun z => h6 ((pk_lEQ (p_lt (r5 r h5).2) (p_lt hc)).mp ((cmp_eq _ _).mp z))), if_neg (show ¬ (r < m ∧ a r = c) from fun z => h6 z.2)]
      · rw [le_p (by omega) (by omega), if_neg (show ¬ (r < m ∧ a r = c) from fun z => h5 z.1)]
    by_cases h5 : r < m ∧ a r = c
    · refine ⟨T, fun self => by rw [hS, if_pos h5], ⟨fun _ _ => rfl, fun _ _ => rfl, fun _ _ => rfl⟩, Or.inl ⟨rfl, Or.inr h5⟩⟩
    · refine ⟨si (sl T2 9 r (lN c)) 0 15 (nI (m + 1)), fun self => by rw [hS, if_neg h5], ⟨fun k hk => by rw [si_ne _ _ _ hk, sl_1, h1], fun j hj => by rw [si_same, upd_n _ _ hj, sl_1, h1], fun k hk => by rw [si_2, sl_ne _ _ _ hk, h2 k hk]⟩, Or.inr ⟨by omega, h5, by rw [si_same, upd_s], fun j hj => ?_⟩⟩
      rw [si_2, sl_same]
      unfold insA
      by_cases e1 : j = r
      · rw [e1, updL_s, if_neg (by omega), if_pos rfl]
      · rw [updL_n _ _ e1, h3]
        by_cases e2 : j < r
        · rw [if_neg (by omega), if_pos e2, r4 j (by omega)]
        · rw [if_pos (by omega), if_neg e2, if_neg e1, r4 (j - 1) (by omega)]
theorem insA_mono {a : Nat → Nat} {m c : Nat} (hs : ∀ j k, j < k → k < m → a j < a k) (hne : ¬ (posf a c m 0 < m ∧ a (posf a c m 0) = c)) : ∀ j k, j < k → k < m + 1 → insA a (posf a c m 0) c j < insA a (posf a c m 0) c k := by
  have hle := (posf_le a c m 0).2
  have hlo := posf_lo a c m 0
  have hhi := posf_hi a c m 0
  generalize posf a (c : Int) m 0 = r at hne hle hlo hhi ⊢
  have hup : ∀ k, r ≤ k → k < m → c < a k := fun k hk hkm => by
    have h1 := hhi (by omega)
    have h2 : c < a r := by
      have : a r ≠ c := fun z => hne ⟨by omega, z⟩
      omega
    by_cases e : k = r
    · rw [e]; exact h2
    · have := hs r k (by omega) hkm; omega
  intro j k hjk hk
  unfold insA
  by_cases e1 : k < r
  · rw [if_pos (show j < r by omega), if_pos e1]; exact hs j k hjk (by omega)
  · rw [if_neg e1]
    by_cases e2 : k = r
    · rw [if_pos e2, if_pos (show j < r by omega)]
      have := hlo j (by omega) (by omega)
      omega
    · rw [if_neg e2]
      by_cases e3 : j < r
      · rw [if_pos e3]
        have h1 := hlo j (by omega) e3
        have h2 := hup (k - 1) (by omega) (by omega)
        omega
      · rw [if_neg e3]
        by_cases e4 : j = r
        · rw [if_pos e4]; exact hup (k - 1) (by omega) (by omega)
        · rw [if_neg e4]; exact hs (j - 1) (k - 1) (by omega) (by omega)
theorem raysFill {S T : Sg} (h : Rel S T) {q w n : Nat} (hqp : q ∈ primes) (hw : w ≤ 6) (hn : n ≤ 10) (s0 : S.1 1 0 = nI q) (t0 : T.1 0 0 = nI q) (s1 : S.1 1 1 = nI w) (t1 : T.1 0 1 = nI w) (s2 : S.1 1 2 = nI n) (t2 : T.1 0 2 = nI n) :
    ∃ S' T' m a, f_X9_fillRays S = some S' ∧ f_X10_findsRays T = some T' ∧ AgrC S S' ∧ FrT T T' ∧ Filled S' q w n (T.1 1) (T.1 4) ∧ RyL S' T' m a ∧ m ≤ 20 ∧ ∀ p row, p < n → row < 2 → cdf q w n (T.1 1) (T.1 4) p row ≠ 0 → ∃ j, j < m ∧ a j = cdf q w n (T.1 1) (T.1 4) p row := by
  have hq := primes_b hqp
  obtain ⟨m1, m2, m3, m4, m5, m6, m7, m8⟩ := h.1
  obtain ⟨S1, c1, c2, c3, c4⟩ := fill_eq (S := S) (by omega) (by omega) hw hn s0 s1 s2
  rw [m4, m7] at c2
  unfold f_X9_fillRays f_X3_fill f_X10_findsRays
  rw [c1, cl1_s, bv_e, bv_e]
  have h2n : (2 : Int32) * nI n = nI (2 * n) := by rw [show (2 : Int32) = nI 2 from rfl, pk_mul]
  have key : ∀ cnt i (S1 T1 : Sg) m a fuel, i + cnt = 2 * n → cnt < fuel → Filled S1 q w n (T.1 1) (T.1 4) → FrT T T1 → RyL S1 T1 m a → m ≤ i → (∀ i', i' < i → cdf q w n (T.1 1) (T.1 4) (i' / 2) (i' % 2) ≠ 0 → ∃ j, j < m ∧ a j = cdf q w n (T.1 1) (T.1 4) (i' / 2) (i' % 2)) → ∃ S2 T2 m2 a2, wp2 X3_fill_L7 fuel (nI i) S1 = some S2 ∧ wp2 X10_findsRays_L7 fuel (nI i) T1 = some T2 ∧ FrR S1 S2 ∧ FrT T T2 ∧ RyL S2 T2 m2 a2 ∧ m2 ≤ 2 * n ∧ ∀ i', i' < 2 * n → cdf q w n (T.1 1) (T.1 4) (i' / 2) (i' % 2) ≠ 0 → ∃ j, j < m2 ∧ a2 j = cdf q w n (T.1 1) (T.1 4) (i' / 2) (i' % 2) := by
    intro cnt
    induction cnt with
    | zero =>
      intro i S1 T1 m a fuel hi hf hF hM hR hm hcv
      obtain ⟨f, rfl⟩ : ∃ f, fuel = f + 1 := ⟨fuel - 1, by omega⟩
      refine ⟨S1, T1, m, a, ?_, ?_, ⟨fun _ _ => rfl, fun _ _ => rfl⟩, hM, hR, by omega, fun i' hi' => hcv i' (by omega)⟩
      · rw [wp2s]
        unfold X3_fill_L7
        rw [hF.2.2.1, h2n, le_p (by omega) (by omega)]
      · rw [wp2s]
        unfold X10_findsRays_L7
        rw [hM.2.1 2 (by decide), t2, h2n, le_p (by omega) (by omega)]
    | succ cnt ih =>
      intro i S1 T1 m a fuel hi hf hF hM hR hm hcv
      obtain ⟨f, rfl⟩ : ∃ f, fuel = f + 1 := ⟨fuel - 1, by omega⟩
      obtain ⟨k1, k2, k3⟩ := cdf_is (ki := T.1 1) (en := T.1 4) hqp hw hn (show i / 2 < n by omega) (show i % 2 < 2 by omega)
      generalize hc : cdf q w n (T.1 1) (T.1 4) (i / 2) (i % 2) = c at k1 k2 k3
      obtain ⟨S2, a1, a2, a3⟩ := insertC (show m ≤ 19 by omega) hR k1
      obtain ⟨T2, b1, b2, b3⟩ := insertM (n := n) (i := i) (show m ≤ 19 by omega) hR k1 (by rw [hM.2.1 2 (by decide), t2]) hn (by omega) (k3 T1 (by rw [hM.2.1 0 (by decide), t0]) (by rw [hM.2.1 1 (by decide), t1]) (hM.1 1 (by decide)) (hM.1 4 (by decide)))
      have hF2 : Filled S2 q w n (T.1 1) (T.1 4) := hF.fr (a2.1 13 (by decide)) (a2.1 14 (by decide))
      have hst : ∀ self, X3_fill_L7 self (nI i) S1 = self (nI (i + 1)) S2 := fun self => by
        unfold X3_fill_L7
        rw [hF.2.2.1, h2n, le_n (by omega) (by omega), show nI i * 6 = nI (i / 2 * 12 + i % 2 * 6) by rw [show (6 : Int32) = nI 6 from rfl, pk_mul]; congr 1; omega, k2 S1 hF, cl1_s, a1, cl1_s, bv_e, nI_1]
      have hnew : ∃ m2 a2, RyL S2 T2 m2 a2 ∧ m2 ≤ i + 1 ∧ (∀ j, j < m → ∃ j', j' < m2 ∧ a2 j' = a j) ∧ (c ≠ 0 → ∃ j, j < m2 ∧ a2 j = c) := by
        obtain ⟨r1, r2, r3, r4, r5, r6⟩ := hR
        rcases a3 with ⟨e1, e2⟩ | ⟨e1, e2, e3, e4⟩
        · rcases b3 with ⟨g1, g2⟩ | ⟨g1, g2, -⟩
          · refine ⟨m, a, by rw [e1, g1]; exact ⟨r1, r2, r3, r4, r5, r6⟩, by omega, fun j hj => ⟨j, hj, rfl⟩, fun z => ?_⟩
            rcases e2 with e2 | e2
            · exact absurd e2 z
            · exact ⟨_, e2.1, e2.2⟩
          · rcases e2 with e2 | e2
            · omega
            · exact absurd e2 g2
        · rcases b3 with ⟨g1, g2⟩ | ⟨g1, g2, g3, g4⟩
          · rcases g2 with g2 | g2
            · omega
            · exact absurd g2 e2
          · have hle := (posf_le a c m 0).2
            refine ⟨m + 1, insA a (posf a c m 0) c, ⟨e3, g3, e4, g4, fun j hj => ?_, insA_mono r6 e2⟩, by omega, fun j hj => ?_, fun _ => ⟨posf a c m 0, by omega, by unfold insA; rw [if_neg (by omega), if_pos rfl]⟩⟩
            · unfold insA
              by_cases z1 : j < posf a c m 0
              · rw [if_pos z1]; exact r5 j (by omega)
              · rw [if_neg z1]
                by_cases z2 : j = posf a c m 0
                · rw [if_pos z2]; exact ⟨e1, k1⟩
                · rw [if_neg z2]; exact r5 (j - 1) (by omega)
            · by_cases z1 : j < posf a c m 0
              · exact ⟨j, by omega, by unfold insA; rw [if_pos z1]⟩
              · exact ⟨j + 1, by omega, by unfold insA; rw [if_neg (by omega), if_neg (by omega), Nat.add_sub_cancel]⟩
      obtain ⟨m2, a2', n1, n2, n3, n4⟩ := hnew
      obtain ⟨S3, T3, m3, a3', x1, x2, x3, x4, x5, x6, x7⟩ := ih (i + 1) S2 T2 m2 a2' f (by omega) (by omega) hF2 (hM.tr b2) n1 n2 (fun i' hi' hz => by
        by_cases e : i' = i
        · subst e
          rw [hc] at hz ⊢
          exact n4 hz
        · obtain ⟨j, hj, ej⟩ := hcv i' (by omega) hz
          obtain ⟨j', hj', ej'⟩ := n3 j hj
          exact ⟨j', hj', by rw [ej', ej]⟩)
      exact ⟨S3, T3, m3, a3', by rw [wp2s, hst]; exact x1, by rw [wp2s, b1]; exact x2, a2.tr x3, x4, x5, x6, x7⟩
  obtain ⟨S2, T2, m, a, x1, x2, x3, x4, x5, x6, x7⟩ := key (2 * n) 0 (si S1 29 0 0) (si T 0 15 0) 0 (fun _ => 0) FU (by omega) (FU_n (by omega)) (c2.fr (by rw [si_ne _ _ _ (by decide)]) (by rw [si_ne _ _ _ (by decide)])) ⟨fun k hk => by rw [si_ne _ _ _ hk], fun j hj => by rw [si_same, upd_n _ _ hj], fun k _ => by rw [si_2]⟩ ⟨by rw [si_same, upd_s]; rfl, by rw [si_same, upd_s]; rfl, fun _ h => by omega, fun _ h => by omega, fun _ h => by omega, fun _ _ _ h => by omega⟩ (Nat.le_refl _) (fun _ h => by omega)
  rw [show wp2 X3_fill_L7 FU (0 : Int32) (si S1 29 0 0) = _ from x1, cl1_s, show wp2 X10_findsRays_L7 FU (0 : Int32) (si T 0 15 0) = _ from x2]
  refine ⟨S2, T2, m, a, rfl, rfl, fun k hk => ⟨?_, ?_⟩, x4, ?_, x5, by omega, fun p row hp hr hz => ?_⟩
  · rw [x3.1 k (by omega), si_ne _ _ _ (by omega), c3 k (by omega) (by omega)]
  · rw [x3.2 k (by omega), si_2, c4]
  · exact c2.fr (by rw [x3.1 13 (by decide), si_ne _ _ _ (by decide)]) (by rw [x3.1 14 (by decide), si_ne _ _ _ (by decide)])
  · have e1 : (2 * p + row) / 2 = p := by omega
    have e2 : (2 * p + row) % 2 = row := by omega
    have := x7 (2 * p + row) (by omega)
    rw [e1, e2] at this
    exact this hz
