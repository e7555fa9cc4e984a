/-! the store: what the data of a world's cells is; a world by its descriptors; rows over it -/
abbrev Sg : Type := (Nat → Nat → Int32) × (Nat → Nat → Int64)
def si (S : Sg) (k j : Nat) (v : Int32) : Sg := (fun a => if a = k then upd (S.1 k) j v else S.1 a, S.2)
def sl (S : Sg) (k j : Nat) (v : Int64) : Sg := (S.1, fun a => if a = k then vp_updL (S.2 k) j v else S.2 a)
abbrev Dsc : Type := (Nat × List (Option Nat)) ⊕ ((Nat × Nat) ⊕ (Nat × Nat × Nat))
def mkF (L : Nat → Nat) (f : Nat → Int32) : Nat → List (Option Nat) → List Value
  | _, [] => []
  | j, some k :: r => .ref (L k) :: mkF L f (j + 1) r
  | j, none :: r => .int (f j) :: mkF L f (j + 1) r
def mkE (cy : Nat → ClassId) (L : Nat → Nat) (S : Sg) (k : Nat) : Dsc → va_E
  | .inl (ci, fds) => .inr (ci, mkF L (S.1 k) 0 fds)
  | .inr (.inl (t, n)) => if t = 1 then .inl (cy 1, n, .inr (.inl (S.2 k))) else .inl (cy t, n, .inl (S.1 k))
  | .inr (.inr (t, n, b)) => .inl (cy t, n, .inr (.inr (.inr (.inr (fun i => some (L (b + 2 * i)))))))
def wl (cy : Nat → ClassId) (L : Nat → Nat) (sh : Nat → Dsc) (n : Nat) (S : Sg) : va_W := (List.range n).map (fun k => (L k, mkE cy L S k (sh k)))
def tyl (cy : Nat → ClassId) : List (ClassId × FieldType) := [(cy 0, .int), (cy 1, .long), (cy 2, .boolean), (cy 3, .object RX6), (cy 4, .object RX1)]
abbrev vwCl : List vw_C := [(RX0, TX0, 7), (RX1, TX1, 5), (RX2, TX2, 8), (RX3, TX3, 2), (RX4, TX4, 3), (RX5, TX5, 5), (RX6, TX6, 3), (RX7, TX7, 2), (RX8, TX8, 3), (RX9, TX9, 13), (RX10, TX10, 27)]
def AL (L : Nat → Nat) (n : Nat) : Nat → Prop := fun q => ∃ k, k < n ∧ q = L k
def tb : List Cond := lw_tbl.filter goodWord
theorem tb_good {w : Cond} (h : w ∈ lw_tbl) (g : goodWord w = true) : w ∈ tb := List.mem_filter.mpr ⟨h, g⟩
theorem tb_in {w : Cond} (h : w ∈ tb) : w ∈ lw_tbl := (List.mem_filter.mp h).1
theorem tb_goodIn : GoodIn tb tb := fun w h => ⟨h, good_of_word (List.mem_filter.mp h).2⟩
def fAb : Nat → Value := fun j => .int (([-1, 0, 0, 1, 2, 0] : List Int32).getD j 0)
def nests : List (String × Nat × MethodName) := [(RX9, 11, yX2_init), (RX9, 25, yX5_init), (RX5, 27, yX0_init), (RX9, 32, yX8_init), (RX9, 39, yX7_init), (RX7, 17, yX0_init), (RX9, 46, yX4_init), (RX9, 53, yX3_init), (RX9, 80, yX6_init), (RX9, 81, yX1_init), (RX2, 52, yX9_restOf), (RX7, 35, yX9_restOf), (RX4, 56, yX9_isInt), (RX3, 42, yX9_quotient)]
def Nst (s : State) : Prop := ∀ q ∈ nests, va_Nw (.methodLinkNest q.1 q.2.1 q.2.2 "PairsStand") s
theorem Nst.warm {s U : State} (hW : s.WarmedH U.vm) (h : Nst s) : Nst U := fun q hq => va_Nw.warmM hW (h q hq)
theorem mkF_get {L : Nat → Nat} {f : Nat → Int32} : ∀ (fds : List (Option Nat)) (i j : Nat), (mkF L f i fds)[j]? = (fds[j]?).map (fun o => match o with | some k => Value.ref (L k) | none => .int (f (i + j)))
  | [], i, j => by simp [mkF]
  | some k :: r, i, 0 => by simp [mkF]
  | none :: r, i, 0 => by simp [mkF]
  | some k :: r, i, j + 1 => by simp [mkF, mkF_get r (i + 1) j, Nat.add_assoc, Nat.add_comm 1 j]
  | none :: r, i, j + 1 => by simp [mkF, mkF_get r (i + 1) j, Nat.add_assoc, Nat.add_comm 1 j]
theorem mkF_len {L : Nat → Nat} {f : Nat → Int32} : ∀ (fds : List (Option Nat)) (i : Nat), (mkF L f i fds).length = fds.length
  | [], i => rfl
  | some k :: r, i => by simp [mkF, mkF_len r]
  | none :: r, i => by simp [mkF, mkF_len r]
theorem mkF_set {L : Nat → Nat} {f : Nat → Int32} {v : Int32} (fds : List (Option Nat)) (j : Nat) (h : fds[j]? = some none) : (mkF L f 0 fds).set j (.int v) = mkF L (upd f j v) 0 fds := by
  apply List.ext_getElem?
  intro a
  rw [mkF_get, List.getElem?_set, mkF_len]
  have hj : j < fds.length := (List.getElem?_eq_some_iff.mp h).1
  by_cases e : j = a
  · subst e
    rw [if_pos rfl, if_pos hj, h]
    simp [upd]
  · rw [if_neg e, mkF_get]
    have e2 : ¬ a = j := fun q => e q.symm
    cases hq : fds[a]? with
    | none => rfl
    | some o => cases o <;> simp [upd, e2]
theorem wl_get {cy : Nat → ClassId} {L : Nat → Nat} {sh : Nat → Dsc} {n : Nat} {S : Sg} {k : Nat} (hk : k < n) : (wl cy L sh n S)[k]? = some (L k, mkE cy L S k (sh k)) := by
  simp [wl, hk]
theorem wl_at {cy : Nat → ClassId} {L : Nat → Nat} {sh : Nat → Dsc} {n : Nat} {S : Sg} {k : Nat} {q : Nat × va_E} (h : (wl cy L sh n S)[k]? = some q) : k < n ∧ q = (L k, mkE cy L S k (sh k)) := by
  simp only [wl, List.getElem?_map, List.getElem?_range, Option.map_eq_some_iff] at h
  obtain ⟨a, h1, h2⟩ := h
  have h3 := List.getElem?_eq_some_iff.mp h1
  obtain ⟨h4, h5⟩ := h3
  simp at h4 h5
  subst h5
  exact ⟨h4, h2.symm⟩
theorem wl_set {cy : Nat → ClassId} {L : Nat → Nat} {sh : Nat → Dsc} {n : Nat} {S S' : Sg} {k : Nat} {e : va_E} (hk : k < n) (he : mkE cy L S' k (sh k) = e) (ho : ∀ a, a ≠ k → S'.1 a = S.1 a ∧ S'.2 a = S.2 a) : (wl cy L sh n S).set k (L k, e) = wl cy L sh n S' := by
  apply List.ext_getElem?
  intro a
  rw [List.getElem?_set]
  by_cases h : k = a
  · subst h
    rw [if_pos rfl, if_pos (by simp [wl, hk]), wl_get hk, he]
  · rw [if_neg h]
    simp only [wl, List.getElem?_map]
    cases hq : (List.range n)[a]? with
    | none => rfl
    | some b =>
      have hb : b = a := by
        have := List.getElem?_eq_some_iff.mp hq
        obtain ⟨h4, h5⟩ := this
        simp at h5
        exact h5.symm
      subst hb
      obtain ⟨e1, e2⟩ := ho b (fun q => h q.symm)
      have : mkE cy L S' b (sh b) = mkE cy L S b (sh b) := by
        rcases hs : sh b with ⟨ci, fds⟩ | ⟨t, n⟩ | ⟨t, n, bb⟩ <;> simp [mkE, e1, e2]
      simp [this]
theorem wl_D {cy : Nat → ClassId} {L : Nat → Nat} {sh : Nat → Dsc} {n : Nat} {S : Sg} (hi : ∀ i j, i < n → j < n → L i = L j → i = j) : va_D (AL L n) (wl cy L sh n S) := by
  refine ⟨fun i j p q hp hq e => ?_, fun k q hq => ?_⟩
  · obtain ⟨h1, rfl⟩ := wl_at hp
    obtain ⟨h2, rfl⟩ := wl_at hq
    exact hi i j h1 h2 e
  · obtain ⟨h1, rfl⟩ := wl_at hq
    exact ⟨k, h1, rfl⟩
