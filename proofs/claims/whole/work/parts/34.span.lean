/-! what is made of rows, by rests; the places at which such rows begin -/
abbrev Vc : Type := Nat → Int
def Sub (w q : Nat) (P : Vc → Prop) : Prop :=
  P (fun _ => 0) ∧ (∀ u v, P u → P v → P (fun i => u i + v i)) ∧ (∀ (c : Int) u, P u → P (fun i => c * u i)) ∧ ∀ u v : Vc, (∀ i, i < w → (q : Int) ∣ u i - v i) → P u → P v
/-- all that is made of the rows of G -/
def Sp (w q : Nat) (G : Vc → Prop) (v : Vc) : Prop := ∀ P : Vc → Prop, Sub w q P → (∀ g, G g → P g) → P v
/-- a row of V begins at c -/
def Lset (q : Nat) (V : Vc → Prop) (c : Nat) : Prop := ∃ v, V v ∧ (∀ i, i < c → (q : Int) ∣ v i) ∧ ¬ (q : Int) ∣ v c
theorem Sp_gen {w q : Nat} {G : Vc → Prop} {v : Vc} (h : G v) : Sp w q G v := fun _ _ hg => hg v h
theorem Sp_Sub (w q : Nat) (G : Vc → Prop) : Sub w q (Sp w q G) :=
  ⟨fun P hP _ => hP.1, fun u v hu hv P hP hg => hP.2.1 u v (hu P hP hg) (hv P hP hg), fun c u hu P hP hg => hP.2.2.1 c u (hu P hP hg), fun u v e hu P hP hg => hP.2.2.2 u v e (hu P hP hg)⟩
theorem Sp_mono {w q : Nat} {G G' : Vc → Prop} (h : ∀ g, G g → Sp w q G' g) {v : Vc} (hv : Sp w q G v) : Sp w q G' v := hv _ (Sp_Sub w q G') h
theorem Sp_iff {w q : Nat} {G G' : Vc → Prop} (h1 : ∀ g, G g → Sp w q G' g) (h2 : ∀ g, G' g → Sp w q G g) (v : Vc) : Sp w q G v ↔ Sp w q G' v := ⟨Sp_mono h1, Sp_mono h2⟩
theorem Lset_c {q : Nat} {V V' : Vc → Prop} (h : ∀ v, V v ↔ V' v) (c : Nat) : Lset q V c ↔ Lset q V' c :=
  ⟨fun ⟨v, h1, h2⟩ => ⟨v, (h v).mp h1, h2⟩, fun ⟨v, h1, h2⟩ => ⟨v, (h v).mpr h1, h2⟩⟩
theorem Sp_sub2 {w q : Nat} {G : Vc → Prop} {u v : Vc} (hu : Sp w q G u) (hv : Sp w q G v) (a b : Int) : Sp w q G (fun i => a * u i + b * v i) :=
  (Sp_Sub w q G).2.1 _ _ ((Sp_Sub w q G).2.2.1 a u hu) ((Sp_Sub w q G).2.2.1 b v hv)
theorem Sp_cg {w q : Nat} {G : Vc → Prop} {u v : Vc} (hu : Sp w q G u) (e : ∀ i, i < w → (q : Int) ∣ u i - v i) : Sp w q G v := (Sp_Sub w q G).2.2.2 u v e hu
theorem Sp_0 {w q : Nat} {G : Vc → Prop} : Sp w q G (fun _ => 0) := (Sp_Sub w q G).1
/-- a sum all of whose terms but one have rest 0 -/
theorem si_dvd {q : Int} {f : Nat → Int} : ∀ {n : Nat}, (∀ t, t < n → q ∣ f t) → q ∣ fb_si f n
  | 0, _ => Int.dvd_zero q
  | n + 1, h => by rw [fb_si_succ]; exact Int.dvd_add (si_dvd (fun t ht => h t (by omega))) (h n (by omega))
theorem si_one {q : Int} {f : Nat → Int} {c : Nat} : ∀ {n : Nat}, (∀ t, t < n → t ≠ c → q ∣ f t) → c < n → q ∣ fb_si f n - f c
  | 0, _, h => absurd h (Nat.not_lt_zero c)
  | n + 1, h, hc => by
    rw [fb_si_succ]
    rcases Nat.lt_or_ge c n with h1 | h1
    · have h2 := si_one (n := n) (fun t ht hne => h t (by omega) hne) h1
      have h3 := h n (by omega) (by omega)
      have e : fb_si f n + f n - f c = (fb_si f n - f c) + f n := by omega
      rw [e]; exact Int.dvd_add h2 h3
    · have e : n = c := by omega
      subst e
      have h2 : q ∣ fb_si f n := si_dvd (fun t ht => h t (by omega) (by omega))
      have e : fb_si f n + f n - f n = fb_si f n := by omega
      rw [e]; exact h2
/-- rows that begin each at its own place: what is made of them begins at these places alone -/
theorem ech {w q : Nat} (hq : ∀ a b : Int, (q : Int) ∣ a * b → (q : Int) ∣ a ∨ (q : Int) ∣ b) (B : Nat → Bool) (K : Nat → Vc) (hK : ∀ c, c < w → B c = true → (∀ i, i < c → (q : Int) ∣ K c i) ∧ ¬ (q : Int) ∣ K c c) (c : Nat) (hc : c < w) : Lset q (Sp w q (fun v => ∃ c, c < w ∧ B c = true ∧ v = K c)) c ↔ B c = true := by
  constructor
  · rintro ⟨v, hv, h0, h1⟩
    have hsum : ∃ a : Nat → Int, ∀ i, i < w → (q : Int) ∣ v i - fb_si (fun c => if B c = true then a c * K c i else 0) w := by
      refine hv (fun v => ∃ a : Nat → Int, ∀ i, i < w → (q : Int) ∣ v i - fb_si (fun c => if B c = true then a c * K c i else 0) w) ⟨?_, ?_, ?_, ?_⟩ ?_
      · refine ⟨fun _ => 0, fun i _ => ?_⟩
        have e : fb_si (fun c => if B c = true then 0 * K c i else 0) w = 0 := by
          have : (fun c => if B c = true then 0 * K c i else 0) = fun _ : Nat => (0 : Int) := by funext c; simp
          rw [this]
          have h := fb_si_mul 0 (fun _ : Nat => (0 : Int)) w
          simpa using h
        rw [e]; simp
      · rintro u v ⟨a, ha⟩ ⟨b, hb⟩
        refine ⟨fun c => a c + b c, fun i hi => ?_⟩
        have e : (fun c => if B c = true then (a c + b c) * K c i else 0) = fun c => (if B c = true then a c * K c i else 0) + (if B c = true then b c * K c i else 0) := by
          funext c
          by_cases h : B c = true
          · simp [h, Int.add_mul]
          · simp [h]
        rw [e, fb_si_add]
        have e2 : u i + v i - (fb_si (fun c => if B c = true then a c * K c i else 0) w + fb_si (fun c => if B c = true then b c * K c i else 0) w) = (u i - fb_si (fun c => if B c = true then a c * K c i else 0) w) + (v i - fb_si (fun c => if B c = true then b c * K c i else 0) w) := by omega
        rw [e2]; exact Int.dvd_add (ha i hi) (hb i hi)
      · rintro d u ⟨a, ha⟩
        refine ⟨fun c => d * a c, fun i hi => ?_⟩
        have e : (fun c => if B c = true then d * a c * K c i else 0) = fun c => d * (if B c = true then a c * K c i else 0) := by
          funext c
          by_cases h : B c = true
          · simp [h, Int.mul_assoc]
          · simp [h]
        rw [e, fb_si_mul, ← Int.mul_sub]
        exact Int.dvd_trans (ha i hi) (Int.dvd_mul_left _ _)
      · rintro u v e ⟨a, ha⟩
        refine ⟨a, fun i hi => ?_⟩
        have e2 : v i - fb_si (fun c => if B c = true then a c * K c i else 0) w = (u i - fb_si (fun c => if B c = true then a c * K c i else 0) w) - (u i - v i) := by omega
        rw [e2]; exact Int.dvd_sub (ha i hi) (e i hi)
      · rintro g ⟨c, hc, hB, rfl⟩
        refine ⟨fun d => if d = c then 1 else 0, fun i hi => ?_⟩
        have h := si_one (q := (q : Int)) (f := fun d => if B d = true then (if d = c then 1 else 0) * K d i else 0) (c := c) (n := w) (fun t _ hne => by simp [hne]) hc
        simp [hB] at h
        have e2 : K c i - fb_si (fun d => if B d = true then (if d = c then 1 else 0) * K d i else 0) w = -(fb_si (fun d => if B d = true then (if d = c then 1 else 0) * K d i else 0) w - K c i) := by omega
        rw [e2]
        exact (Int.dvd_neg).mpr (by simpa using h)
    obtain ⟨a, ha⟩ := hsum
    -- the first place whose row is taken
    by_cases hex : ∃ d, d < w ∧ B d = true ∧ ¬ (q : Int) ∣ a d
    · obtain ⟨d, ⟨hd1, hd2, hd3⟩, hmin⟩ := pk_least (fun d => d < w ∧ B d = true ∧ ¬ (q : Int) ∣ a d) hex
      have term : ∀ i, i ≤ d → ∀ t, t < w → t ≠ d → (q : Int) ∣ (if B t = true then a t * K t i else 0) := by
        intro i hi t ht hne
        by_cases hB : B t = true
        · rw [if_pos hB]
          rcases Nat.lt_or_ge t d with h | h
          · have h2 := hmin t h
            have h3 : (q : Int) ∣ a t := by
              by_cases hz : (q : Int) ∣ a t
              · exact hz
              · exact absurd ⟨ht, hB, hz⟩ h2
            exact Int.dvd_trans h3 (Int.dvd_mul_right _ _)
          · exact Int.dvd_trans ((hK t ht hB).1 i (by omega)) (Int.dvd_mul_left _ _)
        · rw [if_neg hB]; exact Int.dvd_zero _
      have at' : ∀ i, i ≤ d → (q : Int) ∣ v i - a d * K d i := by
        intro i hi
        have h2 := si_one (term i hi) hd1
        rw [if_pos hd2] at h2
        have e : v i - a d * K d i = (v i - fb_si (fun c => if B c = true then a c * K c i else 0) w) + (fb_si (fun c => if B c = true then a c * K c i else 0) w - a d * K d i) := by omega
        rw [e]; exact Int.dvd_add (ha i (by omega)) h2
      have hvd : ¬ (q : Int) ∣ v d := by
        intro hz
        have h2 := at' d (Nat.le_refl d)
        have h3 : (q : Int) ∣ a d * K d d := by
          have e : a d * K d d = v d - (v d - a d * K d d) := by omega
          rw [e]; exact Int.dvd_sub hz h2
        rcases hq _ _ h3 with h4 | h4
        · exact hd3 h4
        · exact (hK d hd1 hd2).2 h4
      have hvl : ∀ i, i < d → (q : Int) ∣ v i := by
        intro i hi
        have h2 := at' i (by omega)
        have h3 : (q : Int) ∣ a d * K d i := Int.dvd_trans ((hK d hd1 hd2).1 i hi) (Int.dvd_mul_left _ _)
        have e : v i = (v i - a d * K d i) + a d * K d i := by omega
        rw [e]; exact Int.dvd_add h2 h3
      have hcd : c = d := by
        rcases Nat.lt_trichotomy c d with h | h | h
        · exact absurd (hvl c h) h1
        · exact h
        · exact absurd (h0 d h) hvd
      rw [hcd]; exact hd2
    · exfalso
      have hall : ∀ t, t < w → (q : Int) ∣ (if B t = true then a t * K t c else 0) := by
        intro t ht
        by_cases hB : B t = true
        · rw [if_pos hB]
          by_cases hz : (q : Int) ∣ a t
          · exact Int.dvd_trans hz (Int.dvd_mul_right _ _)
          · exact absurd ⟨t, ht, hB, hz⟩ hex
        · rw [if_neg hB]; exact Int.dvd_zero _
      have h2 := si_dvd hall
      have h3 := ha c hc
      apply h1
      have e : v c = (v c - fb_si (fun c_1 => if B c_1 = true then a c_1 * K c_1 c else 0) w) + fb_si (fun t => if B t = true then a t * K t c else 0) w := by omega
      rw [e]; exact Int.dvd_add h3 h2
  · intro hB
    exact ⟨K c, Sp_gen ⟨c, hc, hB, rfl⟩, (hK c hc hB).1, (hK c hc hB).2⟩
