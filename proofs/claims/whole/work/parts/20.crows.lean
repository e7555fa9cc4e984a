/-! constructors: worlds that grow -/
def CPre (D : va_G) (cy : Nat → ClassId) (h0 sz : Nat) (w0 : va_E) (U : State) : Prop :=
  U.heap.size = sz ∧ va_P D vwCl [(h0, w0)] U.heap ∧ va_K D vwCl (tyl cy) U ∧ Nst U ∧ va_AO RX6 U ∧ va_AO RX1 U
def cQ (B : Heap → Prop) (A : Nat → Prop) : Array Value → State → Outcome → State → Prop := fun _ st oc t => oc = .returned none ∧ B t.heap ∧ va_F A st t
def rmc (fr mc ms lo : Nat) : Room := { frames := fr, cells := mc, slots := ms, locals := lo }
def MetC (l : Launch) (D : va_G) (cy : Nat → ClassId) (y : MethodName) (bytes : ByteArray) (maxL fr mc ms lo h0 sz : Nat) (w0 : va_E) (B : Nat → Heap → Prop) : Prop :=
  Met l y (WS y bytes maxL none) (rmc fr mc ms lo) (va_Pc [.ref h0] (CPre D cy h0 sz w0)) (cQ (B sz) (va_A [(h0, w0)] sz)) mc ms (va_A [(h0, w0)] sz)
section XI
variable {p : Program} {l : Launch} {e : Env} {R : Room} {s : State} {m : MethodId} {args : Array Value} {below : List Frame} {meth : Method} {c : Code} {H : Heap} {locs : List Loc} {cells slots : Nat} {Q : State → Prop}
variable {cc : ByteArray} {pc : Nat} {ls : Array Slot} {rest st0 : List Value} {own : String} {D : va_G} {cy : Nat → ClassId} {A : Nat → Prop} {ws : va_W} {H0 : Heap}
theorem c_blind {cargs : List Value} {h0 sz : Nat} {w0 : va_E} : FrameBlind (va_Pc cargs (CPre D cy h0 sz w0)) := by
  intro a U g mk h
  obtain ⟨h1, h2, h3, h4, h5, h6, h7⟩ := h
  have hA : U.vm.Alike (U.calling g mk a).vm := Vm.Alike.refl U.vm
  exact ⟨h1, h2, h3, va_K.moved hA h4, fun q hq => va_Nw.same rfl rfl (h5 q hq), h6.moved hA, h7.moved hA⟩
theorem c_met {y : MethodName} {maxL fr mc ms lo h0 sz : Nat} {w0 : va_E} {B : Nat → Heap → Prop} (hy : plainName y.cls = true) (hown : y.cls = own) (hini : y.name = "<init>") (hlen : (lg_sl [Value.ref h0]).length ≤ maxL)
    (body : ∀ (p : Program) (e : Env) (s : State) (m : MethodId) (below : List Frame) (meth : Method) (c : Code) (ls : Array Slot) (A : Nat → Prop), En p m c cc maxL s [Value.ref h0].toArray own → meth.name = "<init>" → meth.sig.returnType = none → meth.locks = false → lv_has ls maxL [(0, .ref h0)] → s.heap.size = sz → va_A [(h0, w0)] sz = A → (∀ q, s.heap.size ≤ q → A q) → va_K D vwCl (tyl cy) s → Nst s → va_AO RX6 s → va_AO RX1 s → va_P D vwCl [(h0, w0)] s.heap → va_D A [(h0, w0)] → va_S A s.heap s.heap [] →
      W p l e (rmc fr mc ms lo) s m [Value.ref h0].toArray below meth c s.heap [] 0 0 (MQ below (cQ (B sz) A) [Value.ref h0].toArray s mc ms A) (F0 m 0 ls [])) : MetC l D cy y cc maxL fr mc ms lo h0 sz w0 B := by
  refine Met.ofW (cc := cc) (maxL := maxL) (ret := none) hy rfl ?_
  intro p e s m args below meth c s₁ B0 hml hv
  obtain ⟨rfl, hsz, hP, hK, hN, hO6, hO1⟩ := hv
  have hts := atoms_spec (ws := WS y cc maxL none) B0.pre
  have ho : s.vm.findClass own = some m.cls := by rw [← hown]; exact findClass_of_methodNamed B0.named
  have hin : meth.name = "<init>" := by rw [← hini]; exact (name_of_methodNamed B0.named B0.method).1
  rw [lg_entry_eq]
  have hD : va_D (va_A [(h0, w0)] sz) [(h0, w0)] := by
    refine ⟨fun i j p q hi hj _ => ?_, fun k q hk => ?_⟩
    · have h1 : i < 1 := (List.getElem?_eq_some_iff.mp hi).1
      have h2 : j < 1 := (List.getElem?_eq_some_iff.mp hj).1
      omega
    · exact va_A.in hk
  exact body p e s m below meth c _ _ ⟨B0.exec, B0.bytes, hml, ho, fun w hw => hts w (List.mem_cons_of_mem _ hw)⟩ hin B0.returns B0.notSynchronized (lv_entry [Value.ref h0] hlen) hsz rfl (fun q h => Or.inr (by omega)) hK hN hO6 hO1 hP hD va_S.rf
theorem c_newA {nL t N : Nat} {atype : ArrayType} {ty : FieldType} {n : Int32} {a0 : vp_A} (E : En p m c cc nL s args own) (ht : (tyl cy)[t]? = some (cy t, ty)) (hp : ∀ C, ty ≠ .object C) (hw : Cond.arrayClass (newarray.typeOf atype) ∈ tb) (hty : newarray.typeOf atype = ty) (hK : va_K D vwCl (tyl cy) s) (hP : va_P D vwCl ws H) (hD : va_D A ws) (hS : va_S A H0 H locs) (hA : ∀ q, H0.size ≤ q → A q)
    (ha : ∀ cA : ClassId, vp_cell cA a0 = arrV cA N (fun _ => defaultValue ty)) (hn : ¬ n < 0) (hN : n.toNatClampNeg = N) (hbytes : N * componentBytes ty ≤ 536870912) (hcells : cells + 1 ≤ R.cells) (hslots : slots + N ≤ R.slots) (hdg : decode cc pc = .ok (.newarray atype, 2))
    (kk : ∀ (q : Nat) (H1 : Heap), va_P D vwCl (ws ++ [(q, .inl (cy t, a0))]) H1 → va_D A (ws ++ [(q, .inl (cy t, a0))]) → va_S A H0 H1 locs → W p l e R s m args below meth c H1 locs (cells + 1) (slots + N) Q (F0 m (pc + 2) ls (.ref q :: rest))) : W p l e R s m args below meth c H locs cells slots Q (F0 m pc ls (.int n :: rest)) := by
  refine va_newa E.1 E.2.1 (E.2.2.2.2 _ hw) hty hK hP hD hS hA ha hn hN hbytes hcells hslots hdg (fun q cA H1 hK1 hP1 hD1 hS1 => ?_)
  have h1 := (hK1.2 5 (cA, ty) (by simp [tyl])).2
  have h2 := (hK.2 t _ ht).2
  have e1 : cA = cy t := by
    cases ty with
    | object C => exact absurd rfl (hp C)
    | _ => exact Option.some.inj (h1.symm.trans h2)
  subst e1
  exact kk q H1 hP1 hD1 hS1
theorem c_newQ {nL t N index : Nat} {C : String} {n : Int32} (E : En p m c cc nL s args own) (ht : (tyl cy)[t]? = some (cy t, .object C)) (hw : Cond.classLink own index C ∈ tb) (hO : va_AO C s) (hK : va_K D vwCl (tyl cy) s) (hP : va_P D vwCl ws H) (hD : va_D A ws) (hS : va_S A H0 H locs) (hA : ∀ q, H0.size ≤ q → A q)
    (hn : ¬ n < 0) (hN : n.toNatClampNeg = N) (hbytes : N * 4 ≤ 536870912) (hcells : cells + 1 ≤ R.cells) (hslots : slots + N ≤ R.slots) (hdg : decode cc pc = .ok (.anewarray index, 3))
    (kk : ∀ (q : Nat) (H1 : Heap), va_P D vwCl (ws ++ [(q, .inl (cy t, N, .inr (.inr (.inr (.inr (fun _ => none))))))]) H1 → va_D A (ws ++ [(q, .inl (cy t, N, .inr (.inr (.inr (.inr (fun _ => none))))))]) → va_S A H0 H1 locs → W p l e R s m args below meth c H1 locs (cells + 1) (slots + N) Q (F0 m (pc + 3) ls (.ref q :: rest))) : W p l e R s m args below meth c H locs cells slots Q (F0 m pc ls (.int n :: rest)) := by
  refine va_newq E.1 E.2.1 E.2.2.2.1 (E.2.2.2.2 _ hw) hO hK hP hD hS hA hn hN hbytes hcells hslots hdg (fun q cA H1 hK1 hP1 hD1 hS1 => ?_)
  obtain ⟨_, _, _, _, _, h1⟩ := (hK1.2 5 (cA, .object C) (by simp [tyl])).2
  obtain ⟨_, _, _, _, _, h2⟩ := (hK.2 t _ ht).2
  have e1 : cA = cy t := Option.some.inj (h1.symm.trans h2)
  subst e1
  exact kk q H1 hP1 hD1 hS1
/-- a final field of an object that its constructor makes -/
def PF (own : String) (T : u_T) (N j : Nat) (ty : FieldType) : Prop := (∃ ty0 : Nat → FieldType, ∀ k, k < N → parseFieldDescriptor (T k).2.2.1 = some (ty0 k)) ∧ (∀ a, a < N → ∀ b, b < N → a ≠ b → (T a).2.1 ≠ (T b).2.1) ∧ (T j).2.2.2 = true ∧ (T j).1 = own ∧ parseFieldDescriptor (T j).2.2.1 = some ty
theorem c_putF {nL index ci j q0 N : Nat} {C : String} {T : u_T} {a : Nat} {fs : List Value} {v : Value} {ty : FieldType} (E : En p m c cc nL s args own) (hin : meth.name = "<init>") (hK : va_K D vwCl (tyl cy) s) (hP : va_P D vwCl ws H) (hD : va_D A ws) (hS : va_S A H0 H locs) (F : FL own index ci j C T N) (G : PF own T N j ty) (he : ws[q0]? = some (a, .inr (ci, fs))) (hn : narrow ty v = v) (hfit : fits ty v = true) (hl : j < fs.length) (hdg : decode cc pc = .ok (.putfield index, 3))
    (kk : ∀ (H1 : Heap) (locs1 : List Loc), va_P D vwCl (ws.set q0 (a, .inr (ci, fs.set j v))) H1 → va_D A (ws.set q0 (a, .inr (ci, fs.set j v))) → va_S A H0 H1 locs1 → W p l e R s m args below meth c H1 locs1 cells slots Q (F0 m (pc + 3) ls rest)) : W p l e R s m args below meth c H locs cells slots Q (F0 m pc ls (v :: .ref a :: rest)) := by
  obtain ⟨hx, hb, -, hown, hts⟩ := E
  obtain ⟨f1, f2, f3, f4⟩ := F
  obtain ⟨⟨ty0, g1⟩, g2, g3, g4, g5⟩ := G
  exact va_putF (v := v) (ty := ty) hx hb hts f2 ty0 g1 g2 hown hK hP hD hS q0 he f1 j f3 (hts _ f4) (fun _ h => h) g3 hin g4 g5 hn hfit hl hdg kk
theorem c_putI {nL index ci j q0 N : Nat} {C : String} {T : u_T} {a : Nat} {fs : List Value} {v : Value} {ty : FieldType} (E : En p m c cc nL s args own) (hK : va_K D vwCl (tyl cy) s) (hP : va_P D vwCl ws H) (hD : va_D A ws) (hS : va_S A H0 H locs) (F : FL own index ci j C T N) (G : PL T N j ty) (he : ws[q0]? = some (a, .inr (ci, fs))) (hn : narrow ty v = v) (hfit : fits ty v = true) (hl : j < fs.length) (hdg : decode cc pc = .ok (.putfield index, 3))
    (kk : ∀ (H1 : Heap) (locs1 : List Loc), va_P D vwCl (ws.set q0 (a, .inr (ci, fs.set j v))) H1 → va_D A (ws.set q0 (a, .inr (ci, fs.set j v))) → va_S A H0 H1 locs1 → W p l e R s m args below meth c H1 locs1 cells slots Q (F0 m (pc + 3) ls rest)) : W p l e R s m args below meth c H locs cells slots Q (F0 m pc ls (v :: .ref a :: rest)) := by
  obtain ⟨hx, hb, -, hown, hts⟩ := E
  obtain ⟨f1, f2, f3, f4⟩ := F
  obtain ⟨⟨ty0, g1⟩, g2, g3, g4⟩ := G
  exact va_put (v := v) (ty := ty) hx hb hts f2 ty0 g1 g2 hown hK hP hD hS q0 he f1 j f3 (hts _ f4) (fun _ h => h) g3 g4 hn hfit hl hdg kk
theorem c_get {nL index ci j q0 N : Nat} {C : String} {T : u_T} {a : Nat} {fs : List Value} {v : Value} (E : En p m c cc nL s args own) (hK : va_K D vwCl (tyl cy) s) (hP : va_P D vwCl ws H) (F : FL own index ci j C T N) (he : ws[q0]? = some (a, .inr (ci, fs))) (hv : fs[j]? = some v) (hdg : decode cc pc = .ok (.getfield index, 3))
    (kk : W p l e R s m args below meth c H locs cells slots Q (F0 m (pc + 3) ls (v :: rest))) : W p l e R s m args below meth c H locs cells slots Q (F0 m pc ls (.ref a :: rest)) := by
  obtain ⟨hx, hb, -, hown, hts⟩ := E
  obtain ⟨f1, f2, f3, f4⟩ := F
  exact va_get (v := v) hx hb hts f2 hown hK hP q0 he f1 j f3 (hts _ f4) (fun _ h => h) hv hdg kk
/-- a new object's words -/
def NW (own : String) (index : Nat) (C : String) (T : u_T) (N ci : Nat) : Prop := vwCl[ci]? = some (C, T, N) ∧ (∀ w ∈ u_ws C T N, w ∈ tb) ∧ Cond.classLink own index C ∈ tb ∧ Cond.instantiable C N ∈ tb ∧ Cond.initialized C ∈ tb
theorem c_new {nL index ci N : Nat} {C : String} {T : u_T} {fs : List Value} (E : En p m c cc nL s args own) (hK : va_K D vwCl (tyl cy) s) (hP : va_P D vwCl ws H) (hD : va_D A ws) (hS : va_S A H0 H locs) (hA : ∀ q, H0.size ≤ q → A q) (F : NW own index C T N ci) (ty : Nat → FieldType) (hty : ∀ k, k < N → parseFieldDescriptor (T k).2.2.1 = some (ty k)) (hfs : ∀ j, j < N → defaultValue (ty j) = vp_V fs j) (hcells : cells + 1 ≤ R.cells) (hslots : slots + N ≤ R.slots) (hdg : decode cc pc = .ok (.new index, 3))
    (kk : ∀ (q : Nat) (H1 : Heap), va_P D vwCl (ws ++ [(q, .inr (ci, fs))]) H1 → va_D A (ws ++ [(q, .inr (ci, fs))]) → va_S A H0 H1 locs → W p l e R s m args below meth c H1 locs (cells + 1) (slots + N) Q (F0 m (pc + 3) ls (.ref q :: rest))) : W p l e R s m args below meth c H locs cells slots Q (F0 m pc ls rest) := by
  obtain ⟨hx, hb, -, hown, hts⟩ := E
  obtain ⟨f1, f2, f3, f4, f5⟩ := F
  exact va_new hx hb hts f2 ty hty hown (hts _ f3) (hts _ f4) (hts _ f5) hK hP hD hS hA f1 hfs hcells hslots hdg kk
/-- Object.<init> -/
def OB (own : String) (index : Nat) : Prop := Cond.methodLink own index objectInit ∈ tb ∧ Cond.instanceMethod objectInit ∈ tb ∧ Cond.code objectInit ⟨#[0xb1]⟩ 1 none ∈ tb
theorem c_obj {nL index a : Nat} (E : En p m c cc nL s args own) (hl : ls.size = nL) (V : OB own index) (hfr : 1 ≤ R.frames) (hlo : (rest.map fun v => v.category).sum + 12 ≤ R.locals) (hdg : decode cc pc = .ok (.invokespecial index, 3))
    (kk : W p l e R s m args below meth c H locs cells slots Q (F0 m (pc + 3) ls rest)) : W p l e R s m args below meth c H locs cells slots Q (F0 m pc ls (.ref a :: rest)) := by
  obtain ⟨hx, hb, hml, hown, hts⟩ := E
  exact W.objInit (g := F0 m pc ls (.ref a :: rest)) hx hb hown (hts _ V.1) (hts _ V.2.1) (hts _ V.2.2) rfl (by rw [hml]; exact hl) rfl hdg hfr (by show 2 * 0 + _ + 12 ≤ _; omega) kk
/-- a constructor that is called: by a nest mate, or from outside -/
def CIN (own : String) (index : Nat) (y : MethodName) (bytes : ByteArray) (maxL : Nat) : Prop := (own, index, y) ∈ nests ∧ GoodIn tb (WS y bytes maxL none) ∧ y.name = "<init>" ∧ Cond.instanceMethod y ∈ tb ∧ Cond.initialized y.cls ∈ tb ∧ (y.cls ≠ "java/lang/invoke/MethodHandle" ∧ y.cls ≠ "java/lang/invoke/VarHandle" ∧ (parseMethodDescriptor y.desc).map (fun d => d.parameters.length) = some 0)
def CIM (own : String) (index : Nat) (y : MethodName) (bytes : ByteArray) (maxL : Nat) : Prop := Cond.methodLink own index y ∈ tb ∧ GoodIn tb (WS y bytes maxL none) ∧ y.name = "<init>" ∧ Cond.instanceMethod y ∈ tb ∧ Cond.initialized y.cls ∈ tb ∧ (y.cls ≠ "java/lang/invoke/MethodHandle" ∧ y.cls ≠ "java/lang/invoke/VarHandle" ∧ (parseMethodDescriptor y.desc).map (fun d => d.parameters.length) = some 0)
theorem c_back {mc ms b : Nat} {w0 : va_E} {B : Heap → Prop} {a : Array Value} (hr : va_Run p l e R s m args below meth c H locs cells slots mc ms (F0 m pc ls st0) rest (cQ B (va_A [(b, w0)] H.size) a) (va_A [(b, w0)] H.size)) (hS : va_S A s.heap H locs) (hF : ∀ q, va_A [(b, w0)] H.size q → A q)
    (kk : ∀ (H1 : Heap) (locs1 : List Loc), B H1 → (∀ q : Nat, q < H.size → ¬ va_A [(b, w0)] H.size q → H1[q]? = H[q]?) → va_S A s.heap H1 locs1 → W p l e R s m args below meth c H1 locs1 (cells + mc) (slots + ms) Q (F0 m (pc + 3) ls rest)) : W p l e R s m args below meth c H locs cells slots Q (F0 m pc ls st0) := by
  intro T hT X
  obtain ⟨v', st₀, t, T', L', h0, X', hL, e1, e2, ⟨hv, hB, hz, hk⟩, st⟩ := hr T hT X
  cases hv
  rw [h0] at hz hk
  obtain ⟨t2, a1, b1⟩ := kk T'.heap (locs ++ L') (by rw [e1]; exact hB) (fun q h1 h2 => by rw [e1]; exact hk q h1 h2) ⟨Nat.le_trans hS.1 (by rw [e1]; exact hz), fun q h1 h2 => by rw [e1, hk q (Nat.lt_of_lt_of_le h1 hS.1) (fun z => h2 (hF q z))]; exact hS.2.1 q h1 h2, fun q hq => by
      rcases List.mem_append.mp hq with h | h
      · exact hS.2.2 q h
      · exact hF _ (hL q h)⟩ T' rfl X'
  exact ⟨t2, st t2 a1, b1⟩
theorem c_callN {nL index fr mc ms lo maxL b i0 : Nat} {w0 : va_E} {y : MethodName} {bytes : ByteArray} {B : Nat → Heap → Prop} (E : En p m c cc nL s args own) (hK : va_K D vwCl (tyl cy) s) (hN : Nst s) (hO6 : va_AO RX6 s) (hO1 : va_AO RX1 s) (hP : va_P D vwCl ws H) (hD : va_D A ws) (hS : va_S A s.heap H locs) (hA : ∀ q, s.heap.size ≤ q → A q) (hl : ls.size = nL)
    (hM : ∀ sz, MetC l D cy y bytes maxL fr mc ms lo b sz w0 B) (V : CIN own index y bytes maxL) (he : ws[i0]? = some (b, w0)) (hR : fr + 1 ≤ R.frames ∧ 8 + (maxL + 11) + lo ≤ R.locals) (hcs : cells + mc ≤ R.cells ∧ slots + ms ≤ R.slots) (hrm : (rest.map fun v => v.category).sum ≤ 8) (hdg : decode cc pc = .ok (.invokespecial index, 3))
    (kk : ∀ (H1 : Heap) (locs1 : List Loc), B H.size H1 → (∀ q : Nat, q < H.size → ¬ va_A [(b, w0)] H.size q → H1[q]? = H[q]?) → (∀ q, va_A [(b, w0)] H.size q → A q) → va_S A s.heap H1 locs1 → W p l e R s m args below meth c H1 locs1 (cells + mc) (slots + ms) Q (F0 m (pc + 3) ls rest)) : W p l e R s m args below meth c H locs cells slots Q (F0 m pc ls (.ref b :: rest)) := by
  obtain ⟨v1, v2, v3, v4, v5, v6⟩ := V
  have hts := E.2.2.2.2
  have hF : ∀ q, va_A [(b, w0)] H.size q → A q := va_free (wc := [(b, w0)]) hD hS hA [i0] (by simp [he])
  refine c_back (va_runIN (host := "PairsStand") (g := F0 m pc ls (.ref b :: rest)) (As := []) (rest := rest) (b := b) E (hM H.size) ⟨va_cnB 0 hts v2 rfl rfl rfl (hN _ v1) (hts _ v5) v6 hR, v3, hts _ v4⟩ ⟨c_blind, fun U hU hWm => ⟨rfl, by rw [hU], ?_, va_K.moved hWm.alike hK, hN.warm hWm, hO6.moved hWm.alike, hO1.moved hWm.alike⟩⟩ rfl rfl hl rfl (lv_room hrm) hdg hcs) hS hF (fun H1 locs1 hB hk hS1 => kk H1 locs1 hB hk hF hS1)
  rw [hU]
  exact hP.sub (ws' := [(b, w0)]) [i0] (by simp [he])
theorem c_callM {nL index fr mc ms lo maxL b i0 : Nat} {w0 : va_E} {y : MethodName} {bytes : ByteArray} {B : Nat → Heap → Prop} (E : En p m c cc nL s args own) (hK : va_K D vwCl (tyl cy) s) (hN : Nst s) (hO6 : va_AO RX6 s) (hO1 : va_AO RX1 s) (hP : va_P D vwCl ws H) (hD : va_D A ws) (hS : va_S A s.heap H locs) (hA : ∀ q, s.heap.size ≤ q → A q) (hl : ls.size = nL)
    (hM : ∀ sz, MetC l D cy y bytes maxL fr mc ms lo b sz w0 B) (V : CIM own index y bytes maxL) (he : ws[i0]? = some (b, w0)) (hR : fr + 1 ≤ R.frames ∧ 8 + (maxL + 11) + lo ≤ R.locals) (hcs : cells + mc ≤ R.cells ∧ slots + ms ≤ R.slots) (hrm : (rest.map fun v => v.category).sum ≤ 8) (hdg : decode cc pc = .ok (.invokespecial index, 3))
    (kk : ∀ (H1 : Heap) (locs1 : List Loc), B H.size H1 → (∀ q : Nat, q < H.size → ¬ va_A [(b, w0)] H.size q → H1[q]? = H[q]?) → (∀ q, va_A [(b, w0)] H.size q → A q) → va_S A s.heap H1 locs1 → W p l e R s m args below meth c H1 locs1 (cells + mc) (slots + ms) Q (F0 m (pc + 3) ls rest)) : W p l e R s m args below meth c H locs cells slots Q (F0 m pc ls (.ref b :: rest)) := by
  obtain ⟨v1, v2, v3, v4, v5, v6⟩ := V
  have hts := E.2.2.2.2
  have hF : ∀ q, va_A [(b, w0)] H.size q → A q := va_free (wc := [(b, w0)]) hD hS hA [i0] (by simp [he])
  refine c_back (va_runI (g := F0 m pc ls (.ref b :: rest)) (As := []) (rest := rest) (b := b) E (hM H.size) (cwI 0 hts v2 rfl rfl rfl (hts _ v5) (hts _ v1) (hts _ v4) v3 v6 hR) ⟨c_blind, fun U hU hWm => ⟨rfl, by rw [hU], ?_, va_K.moved hWm.alike hK, hN.warm hWm, hO6.moved hWm.alike, hO1.moved hWm.alike⟩⟩ rfl rfl hl rfl (lv_room hrm) hdg hcs) hS hF (fun H1 locs1 hB hk hS1 => kk H1 locs1 hB hk hF hS1)
  rw [hU]
  exact hP.sub (ws' := [(b, w0)]) [i0] (by simp [he])
theorem c_ret {nL mc ms : Nat} {B : Heap → Prop} (E : En p m c cc nL s args own) (hS : va_S A s.heap H locs) (hB : B H) (hr : meth.sig.returnType = none) (hk : meth.locks = false) (hdg : decode cc pc = .ok (.return_, 1)) : W p l e R s m args below meth c H locs mc ms (MQ below (cQ B A) args s mc ms A) (F0 m pc ls []) :=
  W.vret E.1 E.2.1 hr (fun t ht _ => ⟨rfl, by rw [ht]; exact hB, hS.F ht⟩) hS.2.2 hdg hk
end XI
/-- addresses apart, by their list -/
theorem d_inj {A : Nat → Prop} {ws : va_W} (Qs : List Nat) (hD : va_D A ws) (e : ws.map Prod.fst = Qs) : (∀ i j, i < Qs.length → j < Qs.length → Qs.getD i 0 = Qs.getD j 0 → i = j) ∧ ∀ k, k < Qs.length → A (Qs.getD k 0) := by
  subst e
  have key : ∀ k, k < (ws.map Prod.fst).length → ∃ q, ws[k]? = some q ∧ (ws.map Prod.fst).getD k 0 = q.1 := by
    intro k hk
    rw [List.length_map] at hk
    refine ⟨ws[k], List.getElem?_eq_getElem hk, ?_⟩
    simp [List.getD, hk]
  refine ⟨fun i j hi hj h => ?_, fun k hk => ?_⟩
  · obtain ⟨p, h1, h2⟩ := key i hi
    obtain ⟨q, h3, h4⟩ := key j hj
    exact hD.1 i j p q h1 h3 (by rw [← h2, ← h4]; exact h)
  · obtain ⟨p, h1, h2⟩ := key k hk
    rw [h2]
    exact hD.2 k p h1
