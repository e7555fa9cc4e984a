/-! rows over a world by descriptors -/
def Cst (D : va_G) (cy : Nat → ClassId) (L : Nat → Nat) (n bA : Nat) (s : State) (H : Heap) : Prop :=
  va_K D vwCl (tyl cy) s ∧ (∀ i j, i < n → j < n → L i = L j → i = j) ∧ Nst s ∧ va_Z "PairsStand" "ABOVE" "[I" (.ref bA) (AL L n) s H ∧ va_T .int bA 6 fAb (AL L n) s H
def Wd (D : va_G) (cy : Nat → ClassId) (L : Nat → Nat) (sh : Nat → Dsc) (n : Nat) (S : Sg) (s : State) (H : Heap) (locs : List Loc) : Prop :=
  va_P D vwCl (wl cy L sh n S) H ∧ va_S (AL L n) s.heap H locs
def Wc (D : va_G) (cy : Nat → ClassId) (L : Nat → Nat) (sh : Nat → Dsc) (n bA : Nat) (S : Sg) (U : State) : Prop :=
  va_P D vwCl (wl cy L sh n S) U.heap ∧ Cst D cy L n bA U U.heap
/-- a method's end: its answer, and the world behind it -/
def xQ (D : va_G) (cy : Nat → ClassId) (L : Nat → Nat) (sh : Nat → Dsc) (n bA : Nat) (v : Option Value) (S' : Sg) : Array Value → State → Outcome → State → Prop :=
  fun _ st oc t => oc = .returned v ∧ Wc D cy L sh n bA S' t ∧ va_F (AL L n) st t
def WS (y : MethodName) (bytes : ByteArray) (maxL : Nat) (ret : Option FieldType) : List Cond := Cond.code y bytes maxL ret :: tb
def rmk (f n : Nat) : Room := { frames := f, cells := 0, slots := 0, locals := n }
def MetX (l : Launch) (D : va_G) (cy : Nat → ClassId) (L : Nat → Nat) (sh : Nat → Dsc) (n bA : Nat) (y : MethodName) (bytes : ByteArray) (maxL : Nat) (ret : Option FieldType) (fr lo : Nat) (cargs : List Value) (v : Option Value) (S S' : Sg) : Prop :=
  Met l y (WS y bytes maxL ret) (rmk fr lo) (va_Pc cargs (Wc D cy L sh n bA S)) (xQ D cy L sh n bA v S') 0 0 (AL L n)
theorem Cst.go {D : va_G} {cy : Nat → ClassId} {L : Nat → Nat} {n bA : Nat} {s U : State} {H0 H : Heap} {locs : List Loc} (h : Cst D cy L n bA s H0) (hW : s.WarmedH U.vm) (hS : va_S (AL L n) H0 H locs) : Cst D cy L n bA U H := by
  obtain ⟨h1, h2, h3, h4, h5⟩ := h
  exact ⟨va_K.moved hW.alike h1, h2, h3.warm hW, (h4.moved hW.alike).kept (fun a ha hn => hS.2.1 a ha hn), (h5.moved hW.alike).kept (fun a ha hn => hS.2.1 a ha hn)⟩
section XR
variable {p : Program} {l : Launch} {e : Env} {R : Room} {s : State} {m : MethodId} {args : Array Value} {below : List Frame} {meth : Method} {c : Code} {H : Heap} {locs : List Loc} {cells slots : Nat} {Q : State → Prop}
variable {cc : ByteArray} {pc : Nat} {ls : Array Slot} {rest : List Value} {own : String} {D : va_G} {cy : Nat → ClassId} {L : Nat → Nat} {sh : Nat → Dsc} {n bA : Nat} {S : Sg}
/-- where a method stands: the machine, its code, its class, the words -/
def En (p : Program) (m : MethodId) (c : Code) (cc : ByteArray) (nL : Nat) (s : State) (args : Array Value) (own : String) : Prop := CallFix p m c cc nL s args tb own
/-- a field's words -/
def FL (own : String) (index ci j : Nat) (C : String) (T : u_T) (N : Nat) : Prop := vwCl[ci]? = some (C, T, N) ∧ (∀ w ∈ u_ws C T N, w ∈ tb) ∧ j < N ∧ Cond.fieldLink own index (T j).1 (T j).2.1 (T j).2.2.1 ∈ tb
def PL (T : u_T) (N j : Nat) (ty : FieldType) : Prop := (∃ ty0 : Nat → FieldType, ∀ k, k < N → parseFieldDescriptor (T k).2.2.1 = some (ty0 k)) ∧ (∀ a, a < N → ∀ b, b < N → a ≠ b → (T a).2.1 ≠ (T b).2.1) ∧ (T j).2.2.2 = false ∧ parseFieldDescriptor (T j).2.2.1 = some ty
theorem x_geti {nL index ci j k N : Nat} {C : String} {T : u_T} {fds : List (Option Nat)} (E : En p m c cc nL s args own) (hC : Cst D cy L n bA s s.heap) (hW : Wd D cy L sh n S s H locs) (F : FL own index ci j C T N) (hk : k < n) (hs : sh k = .inl (ci, fds)) (hf : fds[j]? = some none) (hdg : decode cc pc = .ok (.getfield index, 3))
    (kk : W p l e R s m args below meth c H locs cells slots Q (F0 m (pc + 3) ls (.int (S.1 k j) :: rest))) : W p l e R s m args below meth c H locs cells slots Q (F0 m pc ls (.ref (L k) :: rest)) := by
  obtain ⟨hx, hb, -, hown, hts⟩ := E
  obtain ⟨f1, f2, f3, f4⟩ := F
  have he := wl_get (cy := cy) (L := L) (sh := sh) (S := S) hk
  rw [hs] at he
  refine va_get (v := .int (S.1 k j)) hx hb hts f2 hown hC.1 hW.1 k he f1 j f3 (hts _ f4) (fun _ h => h) ?_ hdg kk
  show (mkF L (S.1 k) 0 fds)[j]? = _
  rw [mkF_get, hf]
  simp
theorem x_getr {nL index ci j k N k' : Nat} {C : String} {T : u_T} {fds : List (Option Nat)} (E : En p m c cc nL s args own) (hC : Cst D cy L n bA s s.heap) (hW : Wd D cy L sh n S s H locs) (F : FL own index ci j C T N) (hk : k < n) (hs : sh k = .inl (ci, fds)) (hf : fds[j]? = some (some k')) (hdg : decode cc pc = .ok (.getfield index, 3))
    (kk : W p l e R s m args below meth c H locs cells slots Q (F0 m (pc + 3) ls (.ref (L k') :: rest))) : W p l e R s m args below meth c H locs cells slots Q (F0 m pc ls (.ref (L k) :: rest)) := by
  obtain ⟨hx, hb, -, hown, hts⟩ := E
  obtain ⟨f1, f2, f3, f4⟩ := F
  have he := wl_get (cy := cy) (L := L) (sh := sh) (S := S) hk
  rw [hs] at he
  refine va_get (v := .ref (L k')) hx hb hts f2 hown hC.1 hW.1 k he f1 j f3 (hts _ f4) (fun _ h => h) ?_ hdg kk
  show (mkF L (S.1 k) 0 fds)[j]? = _
  rw [mkF_get, hf]
  simp
theorem x_put {nL index ci j k N : Nat} {C : String} {T : u_T} {fds : List (Option Nat)} {v : Int32} {ty : FieldType} (E : En p m c cc nL s args own) (hC : Cst D cy L n bA s s.heap) (hW : Wd D cy L sh n S s H locs) (F : FL own index ci j C T N) (G : PL T N j ty) (hk : k < n) (hs : sh k = .inl (ci, fds)) (hf : fds[j]? = some none) (hn : narrow ty (.int v) = .int v) (hfit : fits ty (.int v) = true) (hdg : decode cc pc = .ok (.putfield index, 3))
    (kk : ∀ (H1 : Heap) (locs1 : List Loc), Wd D cy L sh n (si S k j v) s H1 locs1 → W p l e R s m args below meth c H1 locs1 cells slots Q (F0 m (pc + 3) ls rest)) : W p l e R s m args below meth c H locs cells slots Q (F0 m pc ls (.int v :: .ref (L k) :: rest)) := by
  obtain ⟨hx, hb, -, hown, hts⟩ := E
  obtain ⟨f1, f2, f3, f4⟩ := F
  obtain ⟨⟨ty0, g1⟩, g2, g3, g4⟩ := G
  have he := wl_get (cy := cy) (L := L) (sh := sh) (S := S) hk
  rw [hs] at he
  have hj : j < fds.length := (List.getElem?_eq_some_iff.mp hf).1
  refine va_put (v := .int v) (ty := ty) hx hb hts f2 ty0 g1 g2 hown hC.1 hW.1 (wl_D hC.2.1) hW.2 k he f1 j f3 (hts _ f4) (fun _ h => h) g3 g4 hn hfit (by rw [mkF_len]; exact hj) hdg (fun H1 locs1 hP hD hS => kk H1 locs1 ⟨?_, hS⟩)
  rw [mkF_set fds j hf, wl_set (S' := si S k j v) hk (by rw [hs]; simp [mkE, si]) (fun a ha => by simp [si, ha])] at hP
  exact hP
theorem x_iald {nL k len : Nat} {i : Int32} (E : En p m c cc nL s args own) (hC : Cst D cy L n bA s s.heap) (hW : Wd D cy L sh n S s H locs) (hk : k < n) (hs : sh k = .inr (.inl (0, len))) (hi : vp_in i len) (hdg : decode cc pc = .ok (.iaload, 1))
    (kk : W p l e R s m args below meth c H locs cells slots Q (F0 m (pc + 1) ls (.int (S.1 k i.toNatClampNeg) :: rest))) : W p l e R s m args below meth c H locs cells slots Q (F0 m pc ls (.int i :: .ref (L k) :: rest)) := by
  have he := wl_get (cy := cy) (L := L) (sh := sh) (S := S) hk
  rw [hs] at he
  exact va_iald (f := S.1 k) E.1 E.2.1 hC.1 hW.1 k 0 he rfl hi hdg kk
theorem x_zald {nL k len : Nat} {i : Int32} (E : En p m c cc nL s args own) (hC : Cst D cy L n bA s s.heap) (hW : Wd D cy L sh n S s H locs) (hk : k < n) (hs : sh k = .inr (.inl (2, len))) (hi : vp_in i len) (hdg : decode cc pc = .ok (.baload, 1))
    (kk : W p l e R s m args below meth c H locs cells slots Q (F0 m (pc + 1) ls (.int (S.1 k i.toNatClampNeg) :: rest))) : W p l e R s m args below meth c H locs cells slots Q (F0 m pc ls (.int i :: .ref (L k) :: rest)) := by
  have he := wl_get (cy := cy) (L := L) (sh := sh) (S := S) hk
  rw [hs] at he
  exact va_zald (f := S.1 k) E.1 E.2.1 hC.1 hW.1 k 2 he rfl hi hdg kk
theorem x_lald {nL k len : Nat} {i : Int32} (E : En p m c cc nL s args own) (hC : Cst D cy L n bA s s.heap) (hW : Wd D cy L sh n S s H locs) (hk : k < n) (hs : sh k = .inr (.inl (1, len))) (hi : vp_in i len) (hdg : decode cc pc = .ok (.laload, 1))
    (kk : W p l e R s m args below meth c H locs cells slots Q (F0 m (pc + 1) ls (.long (S.2 k i.toNatClampNeg) :: rest))) : W p l e R s m args below meth c H locs cells slots Q (F0 m pc ls (.int i :: .ref (L k) :: rest)) := by
  have he := wl_get (cy := cy) (L := L) (sh := sh) (S := S) hk
  rw [hs] at he
  exact va_lald (f := S.2 k) E.1 E.2.1 hC.1 hW.1 k 1 he rfl hi hdg kk
theorem x_iast {nL k len : Nat} {i x : Int32} (E : En p m c cc nL s args own) (hC : Cst D cy L n bA s s.heap) (hW : Wd D cy L sh n S s H locs) (hk : k < n) (hs : sh k = .inr (.inl (0, len))) (hi : vp_in i len) (hdg : decode cc pc = .ok (.iastore, 1))
    (kk : ∀ (H1 : Heap) (locs1 : List Loc), Wd D cy L sh n (si S k i.toNatClampNeg x) s H1 locs1 → W p l e R s m args below meth c H1 locs1 cells slots Q (F0 m (pc + 1) ls rest)) : W p l e R s m args below meth c H locs cells slots Q (F0 m pc ls (.int x :: .int i :: .ref (L k) :: rest)) := by
  have he := wl_get (cy := cy) (L := L) (sh := sh) (S := S) hk
  rw [hs] at he
  refine va_iast (f := S.1 k) E.1 E.2.1 hC.1 hW.1 (wl_D hC.2.1) hW.2 k 0 he rfl hi hdg (fun H1 locs1 hP hD hS => kk H1 locs1 ⟨?_, hS⟩)
  rw [wl_set (S' := si S k i.toNatClampNeg x) hk (by rw [hs]; simp [mkE, si]) (fun a ha => by simp [si, ha])] at hP
  exact hP
def zb (x : Int32) : Int32 := vp_nar .boolean x
theorem x_zast {nL k len : Nat} {i x : Int32} (E : En p m c cc nL s args own) (hC : Cst D cy L n bA s s.heap) (hW : Wd D cy L sh n S s H locs) (hk : k < n) (hs : sh k = .inr (.inl (2, len))) (hi : vp_in i len) (hdg : decode cc pc = .ok (.bastore, 1))
    (kk : ∀ (H1 : Heap) (locs1 : List Loc), Wd D cy L sh n (si S k i.toNatClampNeg (zb x)) s H1 locs1 → W p l e R s m args below meth c H1 locs1 cells slots Q (F0 m (pc + 1) ls rest)) : W p l e R s m args below meth c H locs cells slots Q (F0 m pc ls (.int x :: .int i :: .ref (L k) :: rest)) := by
  have he := wl_get (cy := cy) (L := L) (sh := sh) (S := S) hk
  rw [hs] at he
  refine va_zast (f := S.1 k) E.1 E.2.1 hC.1 hW.1 (wl_D hC.2.1) hW.2 k 2 he rfl hi hdg (fun H1 locs1 hP hD hS => kk H1 locs1 ⟨?_, hS⟩)
  rw [wl_set (S' := si S k i.toNatClampNeg (zb x)) hk (by rw [hs]; simp [mkE, si, zb]) (fun a ha => by simp [si, ha])] at hP
  exact hP
theorem x_last {nL k len : Nat} {i : Int32} {x : Int64} (E : En p m c cc nL s args own) (hC : Cst D cy L n bA s s.heap) (hW : Wd D cy L sh n S s H locs) (hk : k < n) (hs : sh k = .inr (.inl (1, len))) (hi : vp_in i len) (hdg : decode cc pc = .ok (.lastore, 1))
    (kk : ∀ (H1 : Heap) (locs1 : List Loc), Wd D cy L sh n (sl S k i.toNatClampNeg x) s H1 locs1 → W p l e R s m args below meth c H1 locs1 cells slots Q (F0 m (pc + 1) ls rest)) : W p l e R s m args below meth c H locs cells slots Q (F0 m pc ls (.long x :: .int i :: .ref (L k) :: rest)) := by
  have he := wl_get (cy := cy) (L := L) (sh := sh) (S := S) hk
  rw [hs] at he
  refine va_last (f := S.2 k) E.1 E.2.1 hC.1 hW.1 (wl_D hC.2.1) hW.2 k 1 he rfl hi hdg (fun H1 locs1 hP hD hS => kk H1 locs1 ⟨?_, hS⟩)
  rw [wl_set (S' := sl S k i.toNatClampNeg x) hk (by rw [hs]; simp [mkE, sl]) (fun a ha => by simp [sl, ha])] at hP
  exact hP
theorem x_aald {nL k len t b : Nat} {i : Int32} {C : String} (E : En p m c cc nL s args own) (hC : Cst D cy L n bA s s.heap) (hW : Wd D cy L sh n S s H locs) (hk : k < n) (hs : sh k = .inr (.inr (t, len, b))) (ht : (tyl cy)[t]? = some (cy t, .object C)) (hi : vp_in i len) (hdg : decode cc pc = .ok (.aaload, 1))
    (kk : W p l e R s m args below meth c H locs cells slots Q (F0 m (pc + 1) ls (.ref (L (b + 2 * i.toNatClampNeg)) :: rest))) : W p l e R s m args below meth c H locs cells slots Q (F0 m pc ls (.int i :: .ref (L k) :: rest)) := by
  have he := wl_get (cy := cy) (L := L) (sh := sh) (S := S) hk
  rw [hs] at he
  exact va_aldq (f := fun i => some (L (b + 2 * i))) E.1 E.2.1 hC.1 hW.1 k t he ht hi hdg kk
theorem x_alen {nL k t len : Nat} {v : Int32} (E : En p m c cc nL s args own) (hC : Cst D cy L n bA s s.heap) (hW : Wd D cy L sh n S s H locs) (hk : k < n) (hs : sh k = .inr (.inl (t, len))) (ht : t < 3) (hv : Int32.ofNat len = v) (hdg : decode cc pc = .ok (.arraylength, 1))
    (kk : W p l e R s m args below meth c H locs cells slots Q (F0 m (pc + 1) ls (.int v :: rest))) : W p l e R s m args below meth c H locs cells slots Q (F0 m pc ls (.ref (L k) :: rest)) := by
  have he := wl_get (cy := cy) (L := L) (sh := sh) (S := S) hk
  rw [hs] at he
  rcases (show t = 0 ∨ t = 1 ∨ t = 2 by omega) with rfl | rfl | rfl
  · exact va_alen E.1 E.2.1 hC.1 hW.1 k 0 he rfl hv hdg kk
  · exact va_alen E.1 E.2.1 hC.1 hW.1 k 1 he rfl hv hdg kk
  · exact va_alen E.1 E.2.1 hC.1 hW.1 k 2 he rfl hv hdg kk
end XR
