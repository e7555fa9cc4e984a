/-! a method's entry and end, calls, the static table, copies -/
/-- an instance call's words: (own, index) names y; its code stands in the words -/
def CV (own : String) (index : Nat) (C : String) (y : MethodName) (bytes : ByteArray) (maxL : Nat) (ret : Option FieldType) (nn : Nat) : Prop :=
  GoodIn tb (wsV own index C y (WS y bytes maxL ret)) ∧ (y.cls = C ∧ y.cls ≠ "java/lang/invoke/MethodHandle" ∧ y.cls ≠ "java/lang/invoke/VarHandle" ∧ (parseMethodDescriptor y.desc).map (fun d => d.parameters.length) = some nn)
def CS (own : String) (index : Nat) (y : MethodName) (bytes : ByteArray) (maxL : Nat) (ret : Option FieldType) (nn : Nat) : Prop :=
  GoodIn tb (va_wsS own index y (WS y bytes maxL ret)) ∧ (y.cls ≠ "java/lang/invoke/MethodHandle" ∧ y.cls ≠ "java/lang/invoke/VarHandle" ∧ (parseMethodDescriptor y.desc).map (fun d => d.parameters.length) = some nn)
def CN (own : String) (index : Nat) (y : MethodName) (bytes : ByteArray) (maxL : Nat) (ret : Option FieldType) (nn : Nat) : Prop :=
  (own, index, y) ∈ nests ∧ GoodIn tb (WS y bytes maxL ret) ∧ Cond.static y ∈ tb ∧ Cond.initialized y.cls ∈ tb ∧ (y.cls ≠ "java/lang/invoke/MethodHandle" ∧ y.cls ≠ "java/lang/invoke/VarHandle" ∧ (parseMethodDescriptor y.desc).map (fun d => d.parameters.length) = some nn)
theorem ws_good {y : MethodName} {bytes : ByteArray} {maxL : Nat} {ret : Option FieldType} (h : Cond.code y bytes maxL ret ∈ tb) : GoodIn tb (WS y bytes maxL ret) := by
  intro w hw
  rcases List.mem_cons.mp hw with rfl | hw
  · exact tb_goodIn _ h
  · exact tb_goodIn w hw
theorem cv_good {own : String} {index : Nat} {C : String} {y : MethodName} {bytes : ByteArray} {maxL : Nat} {ret : Option FieldType} (h1 : Cond.methodLink own index y ∈ tb) (h2 : Cond.instanceMethod y ∈ tb) (h3 : Cond.selects C y y ∈ tb) (h4 : Cond.initialized C ∈ tb) (h5 : Cond.code y bytes maxL ret ∈ tb) : GoodIn tb (wsV own index C y (WS y bytes maxL ret)) := by
  intro w hw
  rcases List.mem_append.mp hw with hw | hw
  · simp only [List.mem_cons, List.not_mem_nil, or_false] at hw
    rcases hw with rfl | rfl | rfl | rfl
    · exact tb_goodIn _ h1
    · exact tb_goodIn _ h2
    · exact tb_goodIn _ h3
    · exact tb_goodIn _ h4
  · exact ws_good h5 w hw
theorem cs_good {own : String} {index : Nat} {y : MethodName} {bytes : ByteArray} {maxL : Nat} {ret : Option FieldType} (h1 : Cond.methodLink own index y ∈ tb) (h2 : Cond.static y ∈ tb) (h4 : Cond.initialized y.cls ∈ tb) (h5 : Cond.code y bytes maxL ret ∈ tb) : GoodIn tb (va_wsS own index y (WS y bytes maxL ret)) := by
  intro w hw
  rcases List.mem_append.mp hw with hw | hw
  · simp only [List.mem_cons, List.not_mem_nil, or_false] at hw
    rcases hw with rfl | rfl | rfl
    · exact tb_goodIn _ h1
    · exact tb_goodIn _ h2
    · exact tb_goodIn _ h4
  · exact ws_good h5 w hw
section XC
variable {p : Program} {l : Launch} {e : Env} {R : Room} {s : State} {m : MethodId} {args : Array Value} {below : List Frame} {meth : Method} {c : Code} {H : Heap} {locs : List Loc} {cells slots : Nat} {Q : State → Prop}
variable {cc : ByteArray} {pc : Nat} {ls : Array Slot} {rest st0 : List Value} {own : String} {D : va_G} {cy : Nat → ClassId} {L : Nat → Nat} {sh : Nat → Dsc} {n bA : Nat} {S S' : Sg}
theorem x_blind {cargs : List Value} : FrameBlind (va_Pc cargs (Wc D cy L sh n bA S)) := by
  intro a U g mk h
  obtain ⟨h1, h2, h3, h4, h5, h6, h7⟩ := h
  have hA : U.vm.Alike (U.calling g mk a).vm := Vm.Alike.refl U.vm
  exact ⟨h1, h2, va_K.moved hA h3, h4, fun q hq => va_Nw.same rfl rfl (h5 q hq), h6.moved hA, h7.moved hA⟩
theorem x_back {v : Option Value} {a : Array Value} (hr : va_Run p l e R s m args below meth c H locs cells slots 0 0 (F0 m pc ls st0) rest (xQ D cy L sh n bA v S' a) (AL L n)) (hW : Wd D cy L sh n S s H locs)
    (kk : ∀ (H1 : Heap) (locs1 : List Loc), Wd D cy L sh n S' s H1 locs1 → W p l e R s m args below meth c H1 locs1 cells slots Q (F0 m (pc + 3) ls (v.toList ++ rest))) : W p l e R s m args below meth c H locs cells slots Q (F0 m pc ls st0) := by
  intro T hT X
  obtain ⟨v', st₀, t, T', L', h0, X', hL, e1, e2, ⟨hv, ⟨hP, hC⟩, hz, hk⟩, st⟩ := hr T hT X
  cases hv
  rw [h0] at hz hk
  have hS := hW.2
  obtain ⟨t2, a1, b1⟩ := kk T'.heap (locs ++ L') ⟨by rw [e1]; exact hP, Nat.le_trans hS.1 (by rw [e1]; exact hz), fun q h1 h2 => by rw [e1, hk q (Nat.lt_of_lt_of_le h1 hS.1) h2]; exact hS.2.1 q h1 h2, fun q hq => by
      rcases List.mem_append.mp hq with h | h
      · exact hS.2.2 q h
      · exact hL q h⟩ T' rfl X'
  exact ⟨t2, st t2 a1, b1⟩
theorem x_V {nL index ci k nn fr lo maxL N : Nat} {C : String} {T : u_T} {fds : List (Option Nat)} {y : MethodName} {bytes : ByteArray} {ret : Option FieldType} {As : List Value} {v : Option Value} (E : En p m c cc nL s args own) (hC : Cst D cy L n bA s s.heap) (hW : Wd D cy L sh n S s H locs) (hl : ls.size = nL)
    (hM : MetX l D cy L sh n bA y bytes maxL ret fr lo (.ref (L k) :: As) v S S') (V : CV own index C y bytes maxL ret nn) (hcl : vwCl[ci]? = some (C, T, N)) (hk : k < n) (hs : sh k = .inl (ci, fds)) (hn : As.length = nn) (hst : st0 = As.reverse ++ .ref (L k) :: rest) (hR : fr + 1 ≤ R.frames ∧ 8 + (maxL + 11) + lo ≤ R.locals) (hcs : cells ≤ R.cells ∧ slots ≤ R.slots)
    (hrm : (rest.map fun v => v.category).sum ≤ 8) (hdg : decode cc pc = .ok (.invokevirtual index, 3))
    (kk : ∀ (H1 : Heap) (locs1 : List Loc), Wd D cy L sh n S' s H1 locs1 → W p l e R s m args below meth c H1 locs1 cells slots Q (F0 m (pc + 3) ls (v.toList ++ rest))) : W p l e R s m args below meth c H locs cells slots Q (F0 m pc ls st0) := by
  have he := wl_get (cy := cy) (L := L) (sh := sh) (S := S) hk
  rw [hs] at he
  refine x_back (va_runV (g := F0 m pc ls st0) (As := As) (rest := rest) (b := L k) E hM (cwV nn E.2.2.2.2 V.1 rfl rfl rfl V.2 hR) ⟨x_blind, va_recv hC.1 hW.1 hcl he, fun U hU hWm => ⟨rfl, by rw [hU]; exact hW.1, ?_⟩⟩ rfl hn hl hst (lv_room hrm) hdg hcs) hW kk
  rw [hU]
  exact hC.go hWm hW.2
theorem x_S {nL index nn fr lo maxL : Nat} {y : MethodName} {bytes : ByteArray} {ret : Option FieldType} {As : List Value} {v : Option Value} (E : En p m c cc nL s args own) (hC : Cst D cy L n bA s s.heap) (hW : Wd D cy L sh n S s H locs) (hl : ls.size = nL)
    (hM : MetX l D cy L sh n bA y bytes maxL ret fr lo As v S S') (V : CS own index y bytes maxL ret nn) (hn : As.length = nn) (hst : st0 = As.reverse ++ rest) (hR : fr + 1 ≤ R.frames ∧ 8 + (maxL + 11) + lo ≤ R.locals) (hcs : cells ≤ R.cells ∧ slots ≤ R.slots)
    (hrm : (rest.map fun v => v.category).sum ≤ 8) (hdg : decode cc pc = .ok (.invokestatic index, 3))
    (kk : ∀ (H1 : Heap) (locs1 : List Loc), Wd D cy L sh n S' s H1 locs1 → W p l e R s m args below meth c H1 locs1 cells slots Q (F0 m (pc + 3) ls (v.toList ++ rest))) : W p l e R s m args below meth c H locs cells slots Q (F0 m pc ls st0) := by
  refine x_back (va_runS (g := F0 m pc ls st0) (As := As) (rest := rest) E hM (va_cwS nn E.2.2.2.2 V.1 rfl rfl rfl V.2 hR) ⟨x_blind, fun U hU hWm => ⟨rfl, by rw [hU]; exact hW.1, ?_⟩⟩ rfl hn hl hst (lv_room hrm) hdg hcs) hW kk
  rw [hU]
  exact hC.go hWm hW.2
theorem x_N {nL index nn fr lo maxL : Nat} {y : MethodName} {bytes : ByteArray} {ret : Option FieldType} {As : List Value} {v : Option Value} (E : En p m c cc nL s args own) (hC : Cst D cy L n bA s s.heap) (hW : Wd D cy L sh n S s H locs) (hl : ls.size = nL)
    (hM : MetX l D cy L sh n bA y bytes maxL ret fr lo As v S S') (V : CN own index y bytes maxL ret nn) (hn : As.length = nn) (hst : st0 = As.reverse ++ rest) (hR : fr + 1 ≤ R.frames ∧ 8 + (maxL + 11) + lo ≤ R.locals) (hcs : cells ≤ R.cells ∧ slots ≤ R.slots)
    (hrm : (rest.map fun v => v.category).sum ≤ 8) (hdg : decode cc pc = .ok (.invokestatic index, 3))
    (kk : ∀ (H1 : Heap) (locs1 : List Loc), Wd D cy L sh n S' s H1 locs1 → W p l e R s m args below meth c H1 locs1 cells slots Q (F0 m (pc + 3) ls (v.toList ++ rest))) : W p l e R s m args below meth c H locs cells slots Q (F0 m pc ls st0) := by
  obtain ⟨v1, v2, v3, v4, v5⟩ := V
  have hts := E.2.2.2.2
  refine x_back (va_runSN (host := "PairsStand") (g := F0 m pc ls st0) (As := As) (rest := rest) E hM ⟨va_cnB nn hts v2 rfl rfl rfl (hC.2.2.1 _ v1) (hts _ v4) v5 hR, hts _ v3, trivial⟩ ⟨x_blind, fun U hU hWm => ⟨rfl, by rw [hU]; exact hW.1, ?_⟩⟩ rfl hn hl hst (lv_room hrm) hdg hcs) hW kk
  rw [hU]
  exact hC.go hWm hW.2
theorem x_q {v : Option Value} (hC : Cst D cy L n bA s s.heap) (hW : Wd D cy L sh n S s H locs) : ∀ t : State, t.heap = H → s.WarmedH t.vm → xQ D cy L sh n bA v S args s (.returned v) t :=
  fun t ht hWm => ⟨rfl, ⟨by rw [ht]; exact hW.1, by rw [ht]; exact hC.go hWm hW.2⟩, hW.2.F ht⟩
/-- a method's body, from its entry; its end by 'ret' -/
theorem x_met {y : MethodName} {maxL fr lo : Nat} {ret : Option FieldType} {vs : List Value} {v : Option Value} (hy : plainName y.cls = true) (hown : y.cls = own) (hlen : (lg_sl vs).length ≤ maxL)
    (body : ∀ (p : Program) (e : Env) (s : State) (m : MethodId) (below : List Frame) (meth : Method) (c : Code) (ls : Array Slot), En p m c cc maxL s vs.toArray own → Cst D cy L n bA s s.heap → meth.sig.returnType = ret → meth.locks = false → lv_has ls maxL (lv_args 0 vs) → Wd D cy L sh n S s s.heap [] →
      W p l e (rmk fr lo) s m vs.toArray below meth c s.heap [] 0 0 (MQ below (xQ D cy L sh n bA v S') vs.toArray s 0 0 (AL L n)) (F0 m 0 ls [])) : MetX l D cy L sh n bA y cc maxL ret fr lo vs v S S' := by
  refine Met.ofW (cc := cc) (maxL := maxL) (ret := ret) hy rfl ?_
  intro p e s m args below meth c s₁ B hml hv
  obtain ⟨rfl, hP, hC⟩ := hv
  have hts := atoms_spec (ws := WS y cc maxL ret) B.pre
  have ho : s.vm.findClass own = some m.cls := by rw [← hown]; exact findClass_of_methodNamed B.named
  rw [lg_entry_eq]
  exact body p e s m below meth c _ ⟨B.exec, B.bytes, hml, ho, fun w hw => hts w (List.mem_cons_of_mem _ hw)⟩ hC B.returns B.notSynchronized (lv_entry vs hlen) ⟨hP, va_S.rf⟩
theorem x_iret {nL : Nat} {x : Int32} (E : En p m c cc nL s args own) (hC : Cst D cy L n bA s s.heap) (hW : Wd D cy L sh n S' s H locs) (hr : meth.sig.returnType = some .int) (hk : meth.locks = false) (hdg : decode cc pc = .ok (.ireturn, 1)) : W p l e R s m args below meth c H locs 0 0 (MQ below (xQ D cy L sh n bA (some (.int x)) S') args s 0 0 (AL L n)) (F0 m pc ls [.int x]) :=
  W.iret E.1 E.2.1 hr (x_q hC hW) hW.2.2.2 hdg hk
def isB (x : Int32) : Bool := x == 0 || x == 1
theorem isB_cases {x : Int32} (h : isB x = true) : x = 0 ∨ x = 1 := by
  simpa [isB] using h
theorem isB_narrow {x : Int32} (h : isB x = true) : narrow .boolean (.int x) = .int x := by
  rcases isB_cases h with rfl | rfl <;> decide +kernel
theorem isB_fits {x : Int32} (h : isB x = true) : fits .boolean (.int x) = true := by
  rcases isB_cases h with rfl | rfl <;> decide +kernel
theorem x_zret {nL : Nat} {x : Int32} (E : En p m c cc nL s args own) (hC : Cst D cy L n bA s s.heap) (hW : Wd D cy L sh n S' s H locs) (hr : meth.sig.returnType = some .boolean) (hk : meth.locks = false) (hx : isB x = true) (hdg : decode cc pc = .ok (.ireturn, 1)) : W p l e R s m args below meth c H locs 0 0 (MQ below (xQ D cy L sh n bA (some (.int x)) S') args s 0 0 (AL L n)) (F0 m pc ls [.int x]) :=
  W.zret E.1 E.2.1 hr (isB_narrow hx) (x_q hC hW) hW.2.2.2 hdg hk
theorem x_lret {nL : Nat} {x : Int64} (E : En p m c cc nL s args own) (hC : Cst D cy L n bA s s.heap) (hW : Wd D cy L sh n S' s H locs) (hr : meth.sig.returnType = some .long) (hk : meth.locks = false) (hdg : decode cc pc = .ok (.lreturn, 1)) : W p l e R s m args below meth c H locs 0 0 (MQ below (xQ D cy L sh n bA (some (.long x)) S') args s 0 0 (AL L n)) (F0 m pc ls [.long x]) :=
  W.lret E.1 E.2.1 hr (x_q hC hW) hW.2.2.2 hdg hk
theorem x_vret {nL : Nat} (E : En p m c cc nL s args own) (hC : Cst D cy L n bA s s.heap) (hW : Wd D cy L sh n S' s H locs) (hr : meth.sig.returnType = none) (hk : meth.locks = false) (hdg : decode cc pc = .ok (.return_, 1)) : W p l e R s m args below meth c H locs 0 0 (MQ below (xQ D cy L sh n bA none S') args s 0 0 (AL L n)) (F0 m pc ls []) :=
  W.vret E.1 E.2.1 hr (x_q hC hW) hW.2.2.2 hdg hk
theorem x_gets {nL index : Nat} (E : En p m c cc nL s args own) (hC : Cst D cy L n bA s s.heap) (hW : Wd D cy L sh n S s H locs) (hl : Cond.fieldLink own index "PairsStand" "ABOVE" "[I" ∈ tb) (hdg : decode cc pc = .ok (.getstatic index, 3))
    (kk : W p l e R s m args below meth c H locs cells slots Q (F0 m (pc + 3) ls (.ref bA :: rest))) : W p l e R s m args below meth c H locs cells slots Q (F0 m pc ls rest) :=
  va_gets E.1 E.2.1 hC.2.2.2.1 hW.2 E.2.2.2.1 (E.2.2.2.2 _ hl) (fun _ h => h) hdg kk
theorem x_tlen {nL : Nat} (E : En p m c cc nL s args own) (hC : Cst D cy L n bA s s.heap) (hW : Wd D cy L sh n S s H locs) (hdg : decode cc pc = .ok (.arraylength, 1))
    (kk : W p l e R s m args below meth c H locs cells slots Q (F0 m (pc + 1) ls (.int 6 :: rest))) : W p l e R s m args below meth c H locs cells slots Q (F0 m pc ls (.ref bA :: rest)) :=
  va_tlen E.1 E.2.1 hC.2.2.2.2 hW.2 (by decide +kernel) hdg kk
def aboveAt (j : Nat) : Int32 := ([-1, 0, 0, 1, 2, 0] : List Int32).getD j 0
theorem x_ti {nL : Nat} {i : Int32} (E : En p m c cc nL s args own) (hC : Cst D cy L n bA s s.heap) (hW : Wd D cy L sh n S s H locs) (hi : vp_in i 6) (hdg : decode cc pc = .ok (.iaload, 1))
    (kk : W p l e R s m args below meth c H locs cells slots Q (F0 m (pc + 1) ls (.int (aboveAt i.toNatClampNeg) :: rest))) : W p l e R s m args below meth c H locs cells slots Q (F0 m pc ls (.int i :: .ref bA :: rest)) :=
  va_ti E.1 E.2.1 hC.2.2.2.2 hW.2 hi rfl hdg kk
def cpI (S : Sg) (k0 k1 N : Nat) : Sg := (fun a => if a = k1 then va_cpy (S.1 k0) (S.1 k1) 0 0 N else S.1 a, S.2)
def cpL (S : Sg) (k0 k1 N : Nat) : Sg := (S.1, fun a => if a = k1 then va_cpy (S.2 k0) (S.2 k1) 0 0 N else S.2 a)
/-- the words of a copy -/
def CP (own : String) (index : Nat) : Prop := Cond.methodLink own index arraycopyName ∈ tb ∧ Cond.native arraycopyName ∈ tb ∧ Cond.static arraycopyName ∈ tb ∧ Cond.initialized "java/lang/System" ∈ tb
theorem x_copyi {nL index k0 k1 len : Nat} {N : Int32} (E : En p m c cc nL s args own) (hC : Cst D cy L n bA s s.heap) (hW : Wd D cy L sh n S s H locs) (hl : ls.size = nL) (V : CP own index) (hk0 : k0 < n) (hs0 : sh k0 = .inr (.inl (0, len))) (hk1 : k1 < n) (hs1 : sh k1 = .inr (.inl (0, len))) (hN : ¬ N < 0) (hN2 : N.toNatClampNeg ≤ len) (hfr : 1 ≤ R.frames) (hlo : (rest.map fun v => v.category).sum + (nativeFrameWords "java/lang/System" "arraycopy" 5 + 11) ≤ R.locals) (hdg : decode cc pc = .ok (.invokestatic index, 3))
    (kk : ∀ (H1 : Heap) (locs1 : List Loc), Wd D cy L sh n (cpI S k0 k1 N.toNatClampNeg) s H1 locs1 → W p l e R s m args below meth c H1 locs1 cells slots Q (F0 m (pc + 3) ls rest)) : W p l e R s m args below meth c H locs cells slots Q (F0 m pc ls (.int N :: .int 0 :: .ref (L k1) :: .int 0 :: .ref (L k0) :: rest)) := by
  obtain ⟨hx, hb, hml, hown, hts⟩ := E
  have he0 := wl_get (cy := cy) (L := L) (sh := sh) (S := S) hk0
  have he1 := wl_get (cy := cy) (L := L) (sh := sh) (S := S) hk1
  rw [hs0] at he0
  rw [hs1] at he1
  have z : (0 : Int32).toNatClampNeg = 0 := by decide +kernel
  refine va_copyi (f := S.1 k0) (g := S.1 k1) (ty := .int) hx hb (hml.trans hl.symm) hown (hts _ V.1) (hts _ V.2.1) (hts _ V.2.2.1) (hts _ V.2.2.2) hC.1 hW.1 (wl_D hC.2.1) hW.2 k0 k1 0 0 he0 he1 rfl rfl rfl (by decide) (by decide) hN (by rw [z, Nat.zero_add]; exact hN2) (by rw [z, Nat.zero_add]; exact hN2) (fun _ _ => rfl) hfr hlo hdg (fun H1 locs1 hP hD hS => kk H1 locs1 ⟨?_, hS⟩)
  rw [wl_set (S' := cpI S k0 k1 N.toNatClampNeg) hk1 (by rw [hs1]; simp [mkE, cpI, z]) (fun a ha => by simp [cpI, ha])] at hP
  exact hP
theorem x_copyl {nL index k0 k1 len : Nat} {N : Int32} (E : En p m c cc nL s args own) (hC : Cst D cy L n bA s s.heap) (hW : Wd D cy L sh n S s H locs) (hl : ls.size = nL) (V : CP own index) (hk0 : k0 < n) (hs0 : sh k0 = .inr (.inl (1, len))) (hk1 : k1 < n) (hs1 : sh k1 = .inr (.inl (1, len))) (hN : ¬ N < 0) (hN2 : N.toNatClampNeg ≤ len) (hfr : 1 ≤ R.frames) (hlo : (rest.map fun v => v.category).sum + (nativeFrameWords "java/lang/System" "arraycopy" 5 + 11) ≤ R.locals) (hdg : decode cc pc = .ok (.invokestatic index, 3))
    (kk : ∀ (H1 : Heap) (locs1 : List Loc), Wd D cy L sh n (cpL S k0 k1 N.toNatClampNeg) s H1 locs1 → W p l e R s m args below meth c H1 locs1 cells slots Q (F0 m (pc + 3) ls rest)) : W p l e R s m args below meth c H locs cells slots Q (F0 m pc ls (.int N :: .int 0 :: .ref (L k1) :: .int 0 :: .ref (L k0) :: rest)) := by
  obtain ⟨hx, hb, hml, hown, hts⟩ := E
  have he0 := wl_get (cy := cy) (L := L) (sh := sh) (S := S) hk0
  have he1 := wl_get (cy := cy) (L := L) (sh := sh) (S := S) hk1
  rw [hs0] at he0
  rw [hs1] at he1
  have z : (0 : Int32).toNatClampNeg = 0 := by decide +kernel
  refine va_copyl (f := S.2 k0) (g := S.2 k1) (ty := .long) hx hb (hml.trans hl.symm) hown (hts _ V.1) (hts _ V.2.1) (hts _ V.2.2.1) (hts _ V.2.2.2) hC.1 hW.1 (wl_D hC.2.1) hW.2 k0 k1 1 1 he0 he1 rfl rfl rfl (by decide) (by decide) hN (by rw [z, Nat.zero_add]; exact hN2) (by rw [z, Nat.zero_add]; exact hN2) (fun _ _ => rfl) hfr hlo hdg (fun H1 locs1 hP hD hS => kk H1 locs1 ⟨?_, hS⟩)
  rw [wl_set (S' := cpL S k0 k1 N.toNatClampNeg) hk1 (by rw [hs1]; simp [mkE, cpL, z]) (fun a ha => by simp [cpL, ha])] at hP
  exact hP
end XC
