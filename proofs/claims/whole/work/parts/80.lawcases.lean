/-! the law: two worlds side by side -/
def A0 (s : State) : Nat → Prop := fun q => s.heap.size ≤ q
def LW (D : va_G) (cy : Nat → ClassId) (LC LM : Nat → Nat) (S T : Sg) (s : State) (H : Heap) (locs : List Loc) : Prop :=
  va_P D vwCl (wl cy LC shC 52 S) H ∧ va_P D vwCl (wl cy LM shM 20 T) H ∧ va_S (A0 s) s.heap H locs
def LX (p : Program) (s : State) (m : MethodId) (c : Code) (b n : Nat) (xs : Nat → Int32) (D : va_G) (cy : Nat → ClassId) (LC LM : Nat → Nat) (bA : Nat) : Prop :=
  En p m c code 4 s #[Value.ref b] RL ∧ Cst D cy LC 52 bA s s.heap ∧ Cst D cy LM 20 bA s s.heap ∧ (∀ k, k < 52 → s.heap.size ≤ LC k) ∧ (∀ k, k < 20 → s.heap.size ≤ LM k) ∧ (∀ i j, i < 52 → j < 20 → LC i ≠ LM j) ∧ va_X b n xs s s.heap ∧ b < s.heap.size
section XL
variable {p : Program} {l : Launch} {e : Env} {R : Room} {s : State} {m : MethodId} {args : Array Value} {below : List Frame} {meth : Method} {c : Code} {H : Heap} {locs : List Loc} {cells slots : Nat} {Q : State → Prop}
variable {cc : ByteArray} {pc : Nat} {ls : Array Slot} {rest st0 : List Value} {own : String} {D : va_G} {cy : Nat → ClassId} {LA LB : Nat → Nat} {sA sB : Nat → Dsc} {nA nB bA : Nat} {SA SA' SB : Sg}
theorem l_call {nL index ci nn fr lo maxL N : Nat} {C : String} {T : u_T} {fds : List (Option Nat)} {w : Value} {y : MethodName} {bytes : ByteArray} {ret : Option FieldType} {As : List Value} (E : En p m c cc nL s args own) (hC : Cst D cy LA nA bA s s.heap) (hge : ∀ k, k < nA → s.heap.size ≤ LA k) (hdis : ∀ i j, i < nA → j < nB → LA i ≠ LB j) (hPA : va_P D vwCl (wl cy LA sA nA SA) H) (hPB : va_P D vwCl (wl cy LB sB nB SB) H) (hS : va_S (A0 s) s.heap H locs) (hl : ls.size = nL)
    (hM : MetX l D cy LA sA nA bA y bytes maxL ret fr lo (.ref (LA 0) :: As) (some w) SA SA') (V : CV own index C y bytes maxL ret nn) (hcl : vwCl[ci]? = some (C, T, N)) (hk : 0 < nA) (hs : sA 0 = .inl (ci, fds)) (hn : As.length = nn) (hst : st0 = As.reverse ++ .ref (LA 0) :: rest) (hR : fr + 1 ≤ R.frames ∧ 8 + (maxL + 11) + lo ≤ R.locals) (hcs : cells ≤ R.cells ∧ slots ≤ R.slots)
    (hrm : (rest.map fun v => v.category).sum ≤ 8) (hdg : decode cc pc = .ok (.invokevirtual index, 3))
    (kk : ∀ (H1 : Heap) (locs1 : List Loc), va_P D vwCl (wl cy LA sA nA SA') H1 → va_P D vwCl (wl cy LB sB nB SB) H1 → va_S (A0 s) s.heap H1 locs1 → W p l e R s m args below meth c H1 locs1 cells slots Q (F0 m (pc + 3) ls (w :: rest))) : W p l e R s m args below meth c H locs cells slots Q (F0 m pc ls st0) := by
  have he := wl_get (cy := cy) (L := LA) (sh := sA) (S := SA) hk
  rw [hs] at he
  have hS2 : va_S (AL LA nA) s.heap H [] := ⟨hS.1, fun q h1 _ => hS.2.1 q h1 (Nat.not_le.mpr h1), fun _ h => by cases h⟩
  have hr := va_runV (p := p) (l := l) (e := e) (R := R) (below := below) (meth := meth) (locs := locs) (cells := cells) (slots := slots) (g := F0 m pc ls st0) (As := As) (rest := rest) (b := LA 0) E hM (cwV nn E.2.2.2.2 V.1 rfl rfl rfl V.2 hR) ⟨x_blind, va_recv hC.1 hPA hcl he, fun U hU hWm => ⟨rfl, by rw [hU]; exact hPA, by rw [hU]; exact hC.go hWm hS2⟩⟩ rfl hn hl hst (lv_room hrm) hdg hcs
  intro T0 hT X
  obtain ⟨v', st₀, t, T', L', h0, X', hL, e1, e2, ⟨hv, ⟨hP, -⟩, hz, hk2⟩, st⟩ := hr T0 hT X
  cases hv
  rw [h0] at hz hk2
  have hb2 : ∀ q : Nat, AL LA nA q → s.heap.size ≤ q := fun q ⟨k, h1, h2⟩ => by rw [h2]; exact hge k h1
  obtain ⟨t2, a1, b1⟩ := kk T'.heap (locs ++ L') (by rw [e1]; exact hP) (hPB.kept (fun k q hq => by
      obtain ⟨h1, rfl⟩ := wl_at hq
      rw [e1]
      exact hk2 _ ((hPB k _ hq).lt) (fun ⟨i, h2, h3⟩ => hdis i k h2 h1 h3.symm))) ⟨Nat.le_trans hS.1 (by rw [e1]; exact hz), fun q h1 h2 => by rw [e1, hk2 q (Nat.lt_of_lt_of_le h1 hS.1) (fun z => h2 (hb2 q z))]; exact hS.2.1 q h1 h2, fun q hq => by
      rcases List.mem_append.mp hq with h | h
      · exact hS.2.2 q h
      · exact hb2 _ (hL q h)⟩ T' rfl X'
  exact ⟨t2, st t2 a1, b1⟩
end XL
theorem lg_cmp_self (x : Int64) : lg_cmp x x = 0 := by simp [lg_cmp, Int64.lt_irrefl]
set_option maxRecDepth 100000 in
set_option maxHeartbeats 4000000 in
theorem lcase_0 {p : Program} {l : Launch} {e : Env} {s : State} {m : MethodId} {below : List Frame} {meth : Method} {c : Code} {b n : Nat} {xs : Nat → Int32} {D : va_G} {cy : Nat → ClassId} {LC LM : Nat → Nat} {bA : Nat} {Q : State → Prop} (X : LX p s m c b n xs D cy LC LM bA) (v : Int32) (hi0 : vp_in v n) (hi1 : vp_in (v + 1) n) (hi2 : vp_in (v + 2) n) (hi3 : vp_in (v + 3) n) (hi4 : vp_in (v + 4) n) (next : ∀ (S T : Sg), Rel S T → ∀ (H : Heap) (locs : List Loc) (ls : Array Slot), LW D cy LC LM S T s H locs → lv_has ls 4 [(0, .ref b), (1, .ref (LC 0)), (2, .ref (LM 0)), (3, .int v)] → W p l e room_1 s m #[Value.ref b] below meth c H locs 600000 7302250 Q (F0 m 1610 ls [])) (S T : Sg) (hR : Rel S T) (H : Heap) (locs : List Loc) (ls : Array Slot) (hW : LW D cy LC LM S T s H locs) (hl : lv_has ls 4 [(0, .ref b), (1, .ref (LC 0)), (2, .ref (LM 0)), (3, .int v)]) : W p l e room_1 s m #[Value.ref b] below meth c H locs 600000 7302250 Q (F0 m 224 ls []) := by
  obtain ⟨E, hC, hM, hCC, hMM, hdis, hX, hbl⟩ := X
  obtain ⟨hP1, hP2, hS⟩ := hW
  have hx := E.1
  have hb := E.2.1
  have hts := E.2.2.2.2
  have hbA : ¬ A0 s b := Nat.not_le.mpr hbl
  refine lv_aload_n hx hb dL_law_224 rfl (lv_at hl 1 rfl) ?_
  refine lv_aload_n hx hb dL_law_225 rfl (lv_at hl 0 rfl) ?_
  refine lv_iload_n hx hb dL_law_226 rfl (lv_at hl 3 rfl) ?_
  refine lv_iconst (v := 1) hx hb dL_law_227 (by decide) ?_
  refine lv_iadd hx hb dL_law_228 ?_
  refine va_sld hx hb hX hbl hbA hS hi1 dL_law_229 ?_
  refine lv_aload_n hx hb dL_law_230 rfl (lv_at hl 0 rfl) ?_
  refine lv_iload_n hx hb dL_law_231 rfl (lv_at hl 3 rfl) ?_
  refine lv_iconst (v := 2) hx hb dL_law_232 (by decide) ?_
  refine lv_iadd hx hb dL_law_233 ?_
  refine va_sld hx hb hX hbl hbA hS hi2 dL_law_234 ?_
  obtain ⟨r, S', T', h1, h2, hR⟩ := e_field hR (xs (v + 1).toNatClampNeg) (xs (v + 2).toNatClampNeg)
  refine l_call (w := (.int r)) (LA := LC) (LB := LM) (As := [.int (xs (v + 1).toNatClampNeg), .int (xs (v + 2).toNatClampNeg)]) (rest := []) E hC hCC hdis hP1 hP2 hS hl.1 (c_X9_field (xs (v + 1).toNatClampNeg) (xs (v + 2).toNatClampNeg) r S S' h1) cv_L_13 rfl (by decide) rfl rfl rfl ⟨Nat.le_of_ble_eq_true rfl, Nat.le_of_ble_eq_true rfl⟩ ⟨Nat.le_refl _, Nat.le_refl _⟩ (Nat.le_of_ble_eq_true rfl) dL_law_235 (fun H locs hP1 hP2 hS => ?_)
  refine lv_aload_n hx hb dL_law_238 rfl (lv_at hl 2 rfl) ?_
  refine lv_aload_n hx hb dL_law_239 rfl (lv_at hl 0 rfl) ?_
  refine lv_iload_n hx hb dL_law_240 rfl (lv_at hl 3 rfl) ?_
  refine lv_iconst (v := 1) hx hb dL_law_241 (by decide) ?_
  refine lv_iadd hx hb dL_law_242 ?_
  refine va_sld hx hb hX hbl hbA hS hi1 dL_law_243 ?_
  refine lv_aload_n hx hb dL_law_244 rfl (lv_at hl 0 rfl) ?_
  refine lv_iload_n hx hb dL_law_245 rfl (lv_at hl 3 rfl) ?_
  refine lv_iconst (v := 2) hx hb dL_law_246 (by decide) ?_
  refine lv_iadd hx hb dL_law_247 ?_
  refine va_sld hx hb hX hbl hbA hS hi2 dL_law_248 ?_
  refine l_call (w := (.int r)) (LA := LM) (LB := LC) (As := [.int (xs (v + 1).toNatClampNeg), .int (xs (v + 2).toNatClampNeg)]) (rest := [.int r]) E hM hMM (fun i j h h2 q => hdis j i h2 h q.symm) hP2 hP1 hS hl.1 (c_X10_field (xs (v + 1).toNatClampNeg) (xs (v + 2).toNatClampNeg) r T T' h2) cv_L_17 rfl (by decide) rfl rfl rfl ⟨Nat.le_of_ble_eq_true rfl, Nat.le_of_ble_eq_true rfl⟩ ⟨Nat.le_refl _, Nat.le_refl _⟩ (Nat.le_of_ble_eq_true rfl) dL_law_249 (fun H locs hP2 hP1 hS => ?_)
  refine lv_icmp_eq (tgt := 1610) hx hb dL_law_252 (by decide) (fun _ => ?_) (fun c9 => absurd rfl c9)
  exact next _ _ hR _ _ _ ⟨hP1, hP2, hS⟩ hl
set_option maxRecDepth 100000 in
set_option maxHeartbeats 4000000 in
theorem lcase_1 {p : Program} {l : Launch} {e : Env} {s : State} {m : MethodId} {below : List Frame} {meth : Method} {c : Code} {b n : Nat} {xs : Nat → Int32} {D : va_G} {cy : Nat → ClassId} {LC LM : Nat → Nat} {bA : Nat} {Q : State → Prop} (X : LX p s m c b n xs D cy LC LM bA) (v : Int32) (hi0 : vp_in v n) (hi1 : vp_in (v + 1) n) (hi2 : vp_in (v + 2) n) (hi3 : vp_in (v + 3) n) (hi4 : vp_in (v + 4) n) (next : ∀ (S T : Sg), Rel S T → ∀ (H : Heap) (locs : List Loc) (ls : Array Slot), LW D cy LC LM S T s H locs → lv_has ls 4 [(0, .ref b), (1, .ref (LC 0)), (2, .ref (LM 0)), (3, .int v)] → W p l e room_1 s m #[Value.ref b] below meth c H locs 600000 7302250 Q (F0 m 1610 ls [])) (S T : Sg) (hR : Rel S T) (H : Heap) (locs : List Loc) (ls : Array Slot) (hW : LW D cy LC LM S T s H locs) (hl : lv_has ls 4 [(0, .ref b), (1, .ref (LC 0)), (2, .ref (LM 0)), (3, .int v)]) : W p l e room_1 s m #[Value.ref b] below meth c H locs 600000 7302250 Q (F0 m 257 ls []) := by
  obtain ⟨E, hC, hM, hCC, hMM, hdis, hX, hbl⟩ := X
  obtain ⟨hP1, hP2, hS⟩ := hW
  have hx := E.1
  have hb := E.2.1
  have hts := E.2.2.2.2
  have hbA : ¬ A0 s b := Nat.not_le.mpr hbl
  refine lv_aload_n hx hb dL_law_257 rfl (lv_at hl 1 rfl) ?_
  refine lv_aload_n hx hb dL_law_258 rfl (lv_at hl 0 rfl) ?_
  refine lv_iload_n hx hb dL_law_259 rfl (lv_at hl 3 rfl) ?_
  refine lv_iconst (v := 1) hx hb dL_law_260 (by decide) ?_
  refine lv_iadd hx hb dL_law_261 ?_
  refine va_sld hx hb hX hbl hbA hS hi1 dL_law_262 ?_
  refine lv_aload_n hx hb dL_law_263 rfl (lv_at hl 0 rfl) ?_
  refine lv_iload_n hx hb dL_law_264 rfl (lv_at hl 3 rfl) ?_
  refine lv_iconst (v := 2) hx hb dL_law_265 (by decide) ?_
  refine lv_iadd hx hb dL_law_266 ?_
  refine va_sld hx hb hX hbl hbA hS hi2 dL_law_267 ?_
  obtain ⟨r, h1, h2, hR⟩ := e_divided hR (xs (v + 1).toNatClampNeg) (xs (v + 2).toNatClampNeg)
  refine l_call (w := (.int r)) (LA := LC) (LB := LM) (As := [.int (xs (v + 1).toNatClampNeg), .int (xs (v + 2).toNatClampNeg)]) (rest := []) E hC hCC hdis hP1 hP2 hS hl.1 (c_X9_divided (xs (v + 1).toNatClampNeg) (xs (v + 2).toNatClampNeg) r S h1) cv_L_18 rfl (by decide) rfl rfl rfl ⟨Nat.le_of_ble_eq_true rfl, Nat.le_of_ble_eq_true rfl⟩ ⟨Nat.le_refl _, Nat.le_refl _⟩ (Nat.le_of_ble_eq_true rfl) dL_law_268 (fun H locs hP1 hP2 hS => ?_)
  refine lv_aload_n hx hb dL_law_271 rfl (lv_at hl 2 rfl) ?_
  refine lv_aload_n hx hb dL_law_272 rfl (lv_at hl 0 rfl) ?_
  refine lv_iload_n hx hb dL_law_273 rfl (lv_at hl 3 rfl) ?_
  refine lv_iconst (v := 1) hx hb dL_law_274 (by decide) ?_
  refine lv_iadd hx hb dL_law_275 ?_
  refine va_sld hx hb hX hbl hbA hS hi1 dL_law_276 ?_
  refine lv_aload_n hx hb dL_law_277 rfl (lv_at hl 0 rfl) ?_
  refine lv_iload_n hx hb dL_law_278 rfl (lv_at hl 3 rfl) ?_
  refine lv_iconst (v := 2) hx hb dL_law_279 (by decide) ?_
  refine lv_iadd hx hb dL_law_280 ?_
  refine va_sld hx hb hX hbl hbA hS hi2 dL_law_281 ?_
  refine l_call (w := (.int r)) (LA := LM) (LB := LC) (As := [.int (xs (v + 1).toNatClampNeg), .int (xs (v + 2).toNatClampNeg)]) (rest := [.int r]) E hM hMM (fun i j h h2 q => hdis j i h2 h q.symm) hP2 hP1 hS hl.1 (c_X10_divided (xs (v + 1).toNatClampNeg) (xs (v + 2).toNatClampNeg) r T h2) cv_L_21 rfl (by decide) rfl rfl rfl ⟨Nat.le_of_ble_eq_true rfl, Nat.le_of_ble_eq_true rfl⟩ ⟨Nat.le_refl _, Nat.le_refl _⟩ (Nat.le_of_ble_eq_true rfl) dL_law_282 (fun H locs hP2 hP1 hS => ?_)
  refine lv_icmp_eq (tgt := 1610) hx hb dL_law_285 (by decide) (fun _ => ?_) (fun c9 => absurd rfl c9)
  exact next _ _ hR _ _ _ ⟨hP1, hP2, hS⟩ hl
set_option maxRecDepth 100000 in
set_option maxHeartbeats 4000000 in
theorem lcase_2 {p : Program} {l : Launch} {e : Env} {s : State} {m : MethodId} {below : List Frame} {meth : Method} {c : Code} {b n : Nat} {xs : Nat → Int32} {D : va_G} {cy : Nat → ClassId} {LC LM : Nat → Nat} {bA : Nat} {Q : State → Prop} (X : LX p s m c b n xs D cy LC LM bA) (v : Int32) (hi0 : vp_in v n) (hi1 : vp_in (v + 1) n) (hi2 : vp_in (v + 2) n) (hi3 : vp_in (v + 3) n) (hi4 : vp_in (v + 4) n) (next : ∀ (S T : Sg), Rel S T → ∀ (H : Heap) (locs : List Loc) (ls : Array Slot), LW D cy LC LM S T s H locs → lv_has ls 4 [(0, .ref b), (1, .ref (LC 0)), (2, .ref (LM 0)), (3, .int v)] → W p l e room_1 s m #[Value.ref b] below meth c H locs 600000 7302250 Q (F0 m 1610 ls [])) (S T : Sg) (hR : Rel S T) (H : Heap) (locs : List Loc) (ls : Array Slot) (hW : LW D cy LC LM S T s H locs) (hl : lv_has ls 4 [(0, .ref b), (1, .ref (LC 0)), (2, .ref (LM 0)), (3, .int v)]) : W p l e room_1 s m #[Value.ref b] below meth c H locs 600000 7302250 Q (F0 m 290 ls []) := by
  obtain ⟨E, hC, hM, hCC, hMM, hdis, hX, hbl⟩ := X
  obtain ⟨hP1, hP2, hS⟩ := hW
  have hx := E.1
  have hb := E.2.1
  have hts := E.2.2.2.2
  have hbA : ¬ A0 s b := Nat.not_le.mpr hbl
  refine lv_aload_n hx hb dL_law_290 rfl (lv_at hl 1 rfl) ?_
  refine lv_aload_n hx hb dL_law_291 rfl (lv_at hl 0 rfl) ?_
  refine lv_iload_n hx hb dL_law_292 rfl (lv_at hl 3 rfl) ?_
  refine lv_iconst (v := 1) hx hb dL_law_293 (by decide) ?_
  refine lv_iadd hx hb dL_law_294 ?_
  refine va_sld hx hb hX hbl hbA hS hi1 dL_law_295 ?_
  refine lv_aload_n hx hb dL_law_296 rfl (lv_at hl 0 rfl) ?_
  refine lv_iload_n hx hb dL_law_297 rfl (lv_at hl 3 rfl) ?_
  refine lv_iconst (v := 2) hx hb dL_law_298 (by decide) ?_
  refine lv_iadd hx hb dL_law_299 ?_
  refine va_sld hx hb hX hbl hbA hS hi2 dL_law_300 ?_
  obtain ⟨r, S', T', h1, h2, hR⟩ := e_pair hR (xs (v + 1).toNatClampNeg) (xs (v + 2).toNatClampNeg)
  refine l_call (w := (.int r)) (LA := LC) (LB := LM) (As := [.int (xs (v + 1).toNatClampNeg), .int (xs (v + 2).toNatClampNeg)]) (rest := []) E hC hCC hdis hP1 hP2 hS hl.1 (c_X9_pair (xs (v + 1).toNatClampNeg) (xs (v + 2).toNatClampNeg) r S S' h1) cv_L_22 rfl (by decide) rfl rfl rfl ⟨Nat.le_of_ble_eq_true rfl, Nat.le_of_ble_eq_true rfl⟩ ⟨Nat.le_refl _, Nat.le_refl _⟩ (Nat.le_of_ble_eq_true rfl) dL_law_301 (fun H locs hP1 hP2 hS => ?_)
  refine lv_aload_n hx hb dL_law_304 rfl (lv_at hl 2 rfl) ?_
  refine lv_aload_n hx hb dL_law_305 rfl (lv_at hl 0 rfl) ?_
  refine lv_iload_n hx hb dL_law_306 rfl (lv_at hl 3 rfl) ?_
  refine lv_iconst (v := 1) hx hb dL_law_307 (by decide) ?_
  refine lv_iadd hx hb dL_law_308 ?_
  refine va_sld hx hb hX hbl hbA hS hi1 dL_law_309 ?_
  refine lv_aload_n hx hb dL_law_310 rfl (lv_at hl 0 rfl) ?_
  refine lv_iload_n hx hb dL_law_311 rfl (lv_at hl 3 rfl) ?_
  refine lv_iconst (v := 2) hx hb dL_law_312 (by decide) ?_
  refine lv_iadd hx hb dL_law_313 ?_
  refine va_sld hx hb hX hbl hbA hS hi2 dL_law_314 ?_
  refine l_call (w := (.int r)) (LA := LM) (LB := LC) (As := [.int (xs (v + 1).toNatClampNeg), .int (xs (v + 2).toNatClampNeg)]) (rest := [.int r]) E hM hMM (fun i j h h2 q => hdis j i h2 h q.symm) hP2 hP1 hS hl.1 (c_X10_pair (xs (v + 1).toNatClampNeg) (xs (v + 2).toNatClampNeg) r T T' h2) cv_L_25 rfl (by decide) rfl rfl rfl ⟨Nat.le_of_ble_eq_true rfl, Nat.le_of_ble_eq_true rfl⟩ ⟨Nat.le_refl _, Nat.le_refl _⟩ (Nat.le_of_ble_eq_true rfl) dL_law_315 (fun H locs hP2 hP1 hS => ?_)
  refine lv_icmp_eq (tgt := 1610) hx hb dL_law_318 (by decide) (fun _ => ?_) (fun c9 => absurd rfl c9)
  exact next _ _ hR _ _ _ ⟨hP1, hP2, hS⟩ hl
set_option maxRecDepth 100000 in
set_option maxHeartbeats 4000000 in
theorem lcase_3 {p : Program} {l : Launch} {e : Env} {s : State} {m : MethodId} {below : List Frame} {meth : Method} {c : Code} {b n : Nat} {xs : Nat → Int32} {D : va_G} {cy : Nat → ClassId} {LC LM : Nat → Nat} {bA : Nat} {Q : State → Prop} (X : LX p s m c b n xs D cy LC LM bA) (v : Int32) (hi0 : vp_in v n) (hi1 : vp_in (v + 1) n) (hi2 : vp_in (v + 2) n) (hi3 : vp_in (v + 3) n) (hi4 : vp_in (v + 4) n) (next : ∀ (S T : Sg), Rel S T → ∀ (H : Heap) (locs : List Loc) (ls : Array Slot), LW D cy LC LM S T s H locs → lv_has ls 4 [(0, .ref b), (1, .ref (LC 0)), (2, .ref (LM 0)), (3, .int v)] → W p l e room_1 s m #[Value.ref b] below meth c H locs 600000 7302250 Q (F0 m 1610 ls [])) (S T : Sg) (hR : Rel S T) (H : Heap) (locs : List Loc) (ls : Array Slot) (hW : LW D cy LC LM S T s H locs) (hl : lv_has ls 4 [(0, .ref b), (1, .ref (LC 0)), (2, .ref (LM 0)), (3, .int v)]) : W p l e room_1 s m #[Value.ref b] below meth c H locs 600000 7302250 Q (F0 m 323 ls []) := by
  obtain ⟨E, hC, hM, hCC, hMM, hdis, hX, hbl⟩ := X
  obtain ⟨hP1, hP2, hS⟩ := hW
  have hx := E.1
  have hb := E.2.1
  have hts := E.2.2.2.2
  have hbA : ¬ A0 s b := Nat.not_le.mpr hbl
  refine lv_aload_n hx hb dL_law_323 rfl (lv_at hl 1 rfl) ?_
  refine lv_aload_n hx hb dL_law_324 rfl (lv_at hl 0 rfl) ?_
  refine lv_iload_n hx hb dL_law_325 rfl (lv_at hl 3 rfl) ?_
  refine lv_iconst (v := 1) hx hb dL_law_326 (by decide) ?_
  refine lv_iadd hx hb dL_law_327 ?_
  refine va_sld hx hb hX hbl hbA hS hi1 dL_law_328 ?_
  refine lv_aload_n hx hb dL_law_329 rfl (lv_at hl 0 rfl) ?_
  refine lv_iload_n hx hb dL_law_330 rfl (lv_at hl 3 rfl) ?_
  refine lv_iconst (v := 2) hx hb dL_law_331 (by decide) ?_
  refine lv_iadd hx hb dL_law_332 ?_
  refine va_sld hx hb hX hbl hbA hS hi2 dL_law_333 ?_
  refine lv_aload_n hx hb dL_law_334 rfl (lv_at hl 0 rfl) ?_
  refine lv_iload_n hx hb dL_law_335 rfl (lv_at hl 3 rfl) ?_
  refine lv_iconst (v := 3) hx hb dL_law_336 (by decide) ?_
  refine lv_iadd hx hb dL_law_337 ?_
  refine va_sld hx hb hX hbl hbA hS hi3 dL_law_338 ?_
  refine lv_aload_n hx hb dL_law_339 rfl (lv_at hl 0 rfl) ?_
  refine lv_iload_n hx hb dL_law_340 rfl (lv_at hl 3 rfl) ?_
  refine lv_iconst (v := 4) hx hb dL_law_341 (by decide) ?_
  refine lv_iadd hx hb dL_law_342 ?_
  refine va_sld hx hb hX hbl hbA hS hi4 dL_law_343 ?_
  obtain ⟨r, S', T', h1, h2, hR⟩ := e_entry hR (xs (v + 1).toNatClampNeg) (xs (v + 2).toNatClampNeg) (xs (v + 3).toNatClampNeg) (xs (v + 4).toNatClampNeg)
  refine l_call (w := (.int r)) (LA := LC) (LB := LM) (As := [.int (xs (v + 1).toNatClampNeg), .int (xs (v + 2).toNatClampNeg), .int (xs (v + 3).toNatClampNeg), .int (xs (v + 4).toNatClampNeg)]) (rest := []) E hC hCC hdis hP1 hP2 hS hl.1 (c_X9_entry (xs (v + 1).toNatClampNeg) (xs (v + 2).toNatClampNeg) (xs (v + 3).toNatClampNeg) (xs (v + 4).toNatClampNeg) r S S' h1) cv_L_26 rfl (by decide) rfl rfl rfl ⟨Nat.le_of_ble_eq_true rfl, Nat.le_of_ble_eq_true rfl⟩ ⟨Nat.le_refl _, Nat.le_refl _⟩ (Nat.le_of_ble_eq_true rfl) dL_law_344 (fun H locs hP1 hP2 hS => ?_)
  refine lv_aload_n hx hb dL_law_347 rfl (lv_at hl 2 rfl) ?_
  refine lv_aload_n hx hb dL_law_348 rfl (lv_at hl 0 rfl) ?_
  refine lv_iload_n hx hb dL_law_349 rfl (lv_at hl 3 rfl) ?_
  refine lv_iconst (v := 1) hx hb dL_law_350 (by decide) ?_
  refine lv_iadd hx hb dL_law_351 ?_
  refine va_sld hx hb hX hbl hbA hS hi1 dL_law_352 ?_
  refine lv_aload_n hx hb dL_law_353 rfl (lv_at hl 0 rfl) ?_
  refine lv_iload_n hx hb dL_law_354 rfl (lv_at hl 3 rfl) ?_
  refine lv_iconst (v := 2) hx hb dL_law_355 (by decide) ?_
  refine lv_iadd hx hb dL_law_356 ?_
  refine va_sld hx hb hX hbl hbA hS hi2 dL_law_357 ?_
  refine lv_aload_n hx hb dL_law_358 rfl (lv_at hl 0 rfl) ?_
  refine lv_iload_n hx hb dL_law_359 rfl (lv_at hl 3 rfl) ?_
  refine lv_iconst (v := 3) hx hb dL_law_360 (by decide) ?_
  refine lv_iadd hx hb dL_law_361 ?_
  refine va_sld hx hb hX hbl hbA hS hi3 dL_law_362 ?_
  refine lv_aload_n hx hb dL_law_363 rfl (lv_at hl 0 rfl) ?_
  refine lv_iload_n hx hb dL_law_364 rfl (lv_at hl 3 rfl) ?_
  refine lv_iconst (v := 4) hx hb dL_law_365 (by decide) ?_
  refine lv_iadd hx hb dL_law_366 ?_
  refine va_sld hx hb hX hbl hbA hS hi4 dL_law_367 ?_
  refine l_call (w := (.int r)) (LA := LM) (LB := LC) (As := [.int (xs (v + 1).toNatClampNeg), .int (xs (v + 2).toNatClampNeg), .int (xs (v + 3).toNatClampNeg), .int (xs (v + 4).toNatClampNeg)]) (rest := [.int r]) E hM hMM (fun i j h h2 q => hdis j i h2 h q.symm) hP2 hP1 hS hl.1 (c_X10_entry (xs (v + 1).toNatClampNeg) (xs (v + 2).toNatClampNeg) (xs (v + 3).toNatClampNeg) (xs (v + 4).toNatClampNeg) r T T' h2) cv_L_30 rfl (by decide) rfl rfl rfl ⟨Nat.le_of_ble_eq_true rfl, Nat.le_of_ble_eq_true rfl⟩ ⟨Nat.le_refl _, Nat.le_refl _⟩ (Nat.le_of_ble_eq_true rfl) dL_law_368 (fun H locs hP2 hP1 hS => ?_)
  refine lv_icmp_eq (tgt := 1610) hx hb dL_law_371 (by decide) (fun _ => ?_) (fun c9 => absurd rfl c9)
  exact next _ _ hR _ _ _ ⟨hP1, hP2, hS⟩ hl
set_option maxRecDepth 100000 in
set_option maxHeartbeats 4000000 in
theorem lcase_4 {p : Program} {l : Launch} {e : Env} {s : State} {m : MethodId} {below : List Frame} {meth : Method} {c : Code} {b n : Nat} {xs : Nat → Int32} {D : va_G} {cy : Nat → ClassId} {LC LM : Nat → Nat} {bA : Nat} {Q : State → Prop} (X : LX p s m c b n xs D cy LC LM bA) (v : Int32) (hi0 : vp_in v n) (hi1 : vp_in (v + 1) n) (hi2 : vp_in (v + 2) n) (hi3 : vp_in (v + 3) n) (hi4 : vp_in (v + 4) n) (next : ∀ (S T : Sg), Rel S T → ∀ (H : Heap) (locs : List Loc) (ls : Array Slot), LW D cy LC LM S T s H locs → lv_has ls 4 [(0, .ref b), (1, .ref (LC 0)), (2, .ref (LM 0)), (3, .int v)] → W p l e room_1 s m #[Value.ref b] below meth c H locs 600000 7302250 Q (F0 m 1610 ls [])) (S T : Sg) (hR : Rel S T) (H : Heap) (locs : List Loc) (ls : Array Slot) (hW : LW D cy LC LM S T s H locs) (hl : lv_has ls 4 [(0, .ref b), (1, .ref (LC 0)), (2, .ref (LM 0)), (3, .int v)]) : W p l e room_1 s m #[Value.ref b] below meth c H locs 600000 7302250 Q (F0 m 376 ls []) := by
  obtain ⟨E, hC, hM, hCC, hMM, hdis, hX, hbl⟩ := X
  obtain ⟨hP1, hP2, hS⟩ := hW
  have hx := E.1
  have hb := E.2.1
  have hts := E.2.2.2.2
  have hbA : ¬ A0 s b := Nat.not_le.mpr hbl
  refine lv_aload_n hx hb dL_law_376 rfl (lv_at hl 1 rfl) ?_
  refine lv_aload_n hx hb dL_law_377 rfl (lv_at hl 0 rfl) ?_
  refine lv_iload_n hx hb dL_law_378 rfl (lv_at hl 3 rfl) ?_
  refine lv_iconst (v := 1) hx hb dL_law_379 (by decide) ?_
  refine lv_iadd hx hb dL_law_380 ?_
  refine va_sld hx hb hX hbl hbA hS hi1 dL_law_381 ?_
  refine lv_aload_n hx hb dL_law_382 rfl (lv_at hl 0 rfl) ?_
  refine lv_iload_n hx hb dL_law_383 rfl (lv_at hl 3 rfl) ?_
  refine lv_iconst (v := 2) hx hb dL_law_384 (by decide) ?_
  refine lv_iadd hx hb dL_law_385 ?_
  refine va_sld hx hb hX hbl hbA hS hi2 dL_law_386 ?_
  refine lv_aload_n hx hb dL_law_387 rfl (lv_at hl 0 rfl) ?_
  refine lv_iload_n hx hb dL_law_388 rfl (lv_at hl 3 rfl) ?_
  refine lv_iconst (v := 3) hx hb dL_law_389 (by decide) ?_
  refine lv_iadd hx hb dL_law_390 ?_
  refine va_sld hx hb hX hbl hbA hS hi3 dL_law_391 ?_
  obtain ⟨r, S', T', h1, h2, hR⟩ := e_set hR (xs (v + 1).toNatClampNeg) (xs (v + 2).toNatClampNeg) (xs (v + 3).toNatClampNeg)
  refine l_call (w := (.int r)) (LA := LC) (LB := LM) (As := [.int (xs (v + 1).toNatClampNeg), .int (xs (v + 2).toNatClampNeg), .int (xs (v + 3).toNatClampNeg)]) (rest := []) E hC hCC hdis hP1 hP2 hS hl.1 (c_X9_set (xs (v + 1).toNatClampNeg) (xs (v + 2).toNatClampNeg) (xs (v + 3).toNatClampNeg) r S S' h1) cv_L_31 rfl (by decide) rfl rfl rfl ⟨Nat.le_of_ble_eq_true rfl, Nat.le_of_ble_eq_true rfl⟩ ⟨Nat.le_refl _, Nat.le_refl _⟩ (Nat.le_of_ble_eq_true rfl) dL_law_392 (fun H locs hP1 hP2 hS => ?_)
  refine lv_aload_n hx hb dL_law_395 rfl (lv_at hl 2 rfl) ?_
  refine lv_aload_n hx hb dL_law_396 rfl (lv_at hl 0 rfl) ?_
  refine lv_iload_n hx hb dL_law_397 rfl (lv_at hl 3 rfl) ?_
  refine lv_iconst (v := 1) hx hb dL_law_398 (by decide) ?_
  refine lv_iadd hx hb dL_law_399 ?_
  refine va_sld hx hb hX hbl hbA hS hi1 dL_law_400 ?_
  refine lv_aload_n hx hb dL_law_401 rfl (lv_at hl 0 rfl) ?_
  refine lv_iload_n hx hb dL_law_402 rfl (lv_at hl 3 rfl) ?_
  refine lv_iconst (v := 2) hx hb dL_law_403 (by decide) ?_
  refine lv_iadd hx hb dL_law_404 ?_
  refine va_sld hx hb hX hbl hbA hS hi2 dL_law_405 ?_
  refine lv_aload_n hx hb dL_law_406 rfl (lv_at hl 0 rfl) ?_
  refine lv_iload_n hx hb dL_law_407 rfl (lv_at hl 3 rfl) ?_
  refine lv_iconst (v := 3) hx hb dL_law_408 (by decide) ?_
  refine lv_iadd hx hb dL_law_409 ?_
  refine va_sld hx hb hX hbl hbA hS hi3 dL_law_410 ?_
  refine l_call (w := (.int r)) (LA := LM) (LB := LC) (As := [.int (xs (v + 1).toNatClampNeg), .int (xs (v + 2).toNatClampNeg), .int (xs (v + 3).toNatClampNeg)]) (rest := [.int r]) E hM hMM (fun i j h h2 q => hdis j i h2 h q.symm) hP2 hP1 hS hl.1 (c_X10_set (xs (v + 1).toNatClampNeg) (xs (v + 2).toNatClampNeg) (xs (v + 3).toNatClampNeg) r T T' h2) cv_L_35 rfl (by decide) rfl rfl rfl ⟨Nat.le_of_ble_eq_true rfl, Nat.le_of_ble_eq_true rfl⟩ ⟨Nat.le_refl _, Nat.le_refl _⟩ (Nat.le_of_ble_eq_true rfl) dL_law_411 (fun H locs hP2 hP1 hS => ?_)
  refine lv_icmp_eq (tgt := 1610) hx hb dL_law_414 (by decide) (fun _ => ?_) (fun c9 => absurd rfl c9)
  exact next _ _ hR _ _ _ ⟨hP1, hP2, hS⟩ hl
set_option maxRecDepth 100000 in
set_option maxHeartbeats 4000000 in
theorem lcase_5 {p : Program} {l : Launch} {e : Env} {s : State} {m : MethodId} {below : List Frame} {meth : Method} {c : Code} {b n : Nat} {xs : Nat → Int32} {D : va_G} {cy : Nat → ClassId} {LC LM : Nat → Nat} {bA : Nat} {Q : State → Prop} (X : LX p s m c b n xs D cy LC LM bA) (v : Int32) (hi0 : vp_in v n) (hi1 : vp_in (v + 1) n) (hi2 : vp_in (v + 2) n) (hi3 : vp_in (v + 3) n) (hi4 : vp_in (v + 4) n) (next : ∀ (S T : Sg), Rel S T → ∀ (H : Heap) (locs : List Loc) (ls : Array Slot), LW D cy LC LM S T s H locs → lv_has ls 4 [(0, .ref b), (1, .ref (LC 0)), (2, .ref (LM 0)), (3, .int v)] → W p l e room_1 s m #[Value.ref b] below meth c H locs 600000 7302250 Q (F0 m 1610 ls [])) (S T : Sg) (hR : Rel S T) (H : Heap) (locs : List Loc) (ls : Array Slot) (hW : LW D cy LC LM S T s H locs) (hl : lv_has ls 4 [(0, .ref b), (1, .ref (LC 0)), (2, .ref (LM 0)), (3, .int v)]) : W p l e room_1 s m #[Value.ref b] below meth c H locs 600000 7302250 Q (F0 m 419 ls []) := by
  obtain ⟨E, hC, hM, hCC, hMM, hdis, hX, hbl⟩ := X
  obtain ⟨hP1, hP2, hS⟩ := hW
  have hx := E.1
  have hb := E.2.1
  have hts := E.2.2.2.2
  have hbA : ¬ A0 s b := Nat.not_le.mpr hbl
  refine lv_aload_n hx hb dL_law_419 rfl (lv_at hl 1 rfl) ?_
  refine lv_aload_n hx hb dL_law_420 rfl (lv_at hl 0 rfl) ?_
  refine lv_iload_n hx hb dL_law_421 rfl (lv_at hl 3 rfl) ?_
  refine lv_iconst (v := 1) hx hb dL_law_422 (by decide) ?_
  refine lv_iadd hx hb dL_law_423 ?_
  refine va_sld hx hb hX hbl hbA hS hi1 dL_law_424 ?_
  refine lv_aload_n hx hb dL_law_425 rfl (lv_at hl 0 rfl) ?_
  refine lv_iload_n hx hb dL_law_426 rfl (lv_at hl 3 rfl) ?_
  refine lv_iconst (v := 2) hx hb dL_law_427 (by decide) ?_
  refine lv_iadd hx hb dL_law_428 ?_
  refine va_sld hx hb hX hbl hbA hS hi2 dL_law_429 ?_
  obtain ⟨r, S', T', h1, h2, hR⟩ := e_told hR (xs (v + 1).toNatClampNeg) (xs (v + 2).toNatClampNeg)
  refine l_call (w := (.int r)) (LA := LC) (LB := LM) (As := [.int (xs (v + 1).toNatClampNeg), .int (xs (v + 2).toNatClampNeg)]) (rest := []) E hC hCC hdis hP1 hP2 hS hl.1 (c_X9_told (xs (v + 1).toNatClampNeg) (xs (v + 2).toNatClampNeg) r S S' h1) cv_L_36 rfl (by decide) rfl rfl rfl ⟨Nat.le_of_ble_eq_true rfl, Nat.le_of_ble_eq_true rfl⟩ ⟨Nat.le_refl _, Nat.le_refl _⟩ (Nat.le_of_ble_eq_true rfl) dL_law_430 (fun H locs hP1 hP2 hS => ?_)
  refine lv_aload_n hx hb dL_law_433 rfl (lv_at hl 2 rfl) ?_
  refine lv_aload_n hx hb dL_law_434 rfl (lv_at hl 0 rfl) ?_
  refine lv_iload_n hx hb dL_law_435 rfl (lv_at hl 3 rfl) ?_
  refine lv_iconst (v := 1) hx hb dL_law_436 (by decide) ?_
  refine lv_iadd hx hb dL_law_437 ?_
  refine va_sld hx hb hX hbl hbA hS hi1 dL_law_438 ?_
  refine lv_aload_n hx hb dL_law_439 rfl (lv_at hl 0 rfl) ?_
  refine lv_iload_n hx hb dL_law_440 rfl (lv_at hl 3 rfl) ?_
  refine lv_iconst (v := 2) hx hb dL_law_441 (by decide) ?_
  refine lv_iadd hx hb dL_law_442 ?_
  refine va_sld hx hb hX hbl hbA hS hi2 dL_law_443 ?_
  refine l_call (w := (.int r)) (LA := LM) (LB := LC) (As := [.int (xs (v + 1).toNatClampNeg), .int (xs (v + 2).toNatClampNeg)]) (rest := [.int r]) E hM hMM (fun i j h h2 q => hdis j i h2 h q.symm) hP2 hP1 hS hl.1 (c_X10_told (xs (v + 1).toNatClampNeg) (xs (v + 2).toNatClampNeg) r T T' h2) cv_L_39 rfl (by decide) rfl rfl rfl ⟨Nat.le_of_ble_eq_true rfl, Nat.le_of_ble_eq_true rfl⟩ ⟨Nat.le_refl _, Nat.le_refl _⟩ (Nat.le_of_ble_eq_true rfl) dL_law_444 (fun H locs hP2 hP1 hS => ?_)
  refine lv_icmp_eq (tgt := 1610) hx hb dL_law_447 (by decide) (fun _ => ?_) (fun c9 => absurd rfl c9)
  exact next _ _ hR _ _ _ ⟨hP1, hP2, hS⟩ hl
set_option maxRecDepth 100000 in
set_option maxHeartbeats 4000000 in
theorem lcase_6 {p : Program} {l : Launch} {e : Env} {s : State} {m : MethodId} {below : List Frame} {meth : Method} {c : Code} {b n : Nat} {xs : Nat → Int32} {D : va_G} {cy : Nat → ClassId} {LC LM : Nat → Nat} {bA : Nat} {Q : State → Prop} (X : LX p s m c b n xs D cy LC LM bA) (v : Int32) (hi0 : vp_in v n) (hi1 : vp_in (v + 1) n) (hi2 : vp_in (v + 2) n) (hi3 : vp_in (v + 3) n) (hi4 : vp_in (v + 4) n) (next : ∀ (S T : Sg), Rel S T → ∀ (H : Heap) (locs : List Loc) (ls : Array Slot), LW D cy LC LM S T s H locs → lv_has ls 4 [(0, .ref b), (1, .ref (LC 0)), (2, .ref (LM 0)), (3, .int v)] → W p l e room_1 s m #[Value.ref b] below meth c H locs 600000 7302250 Q (F0 m 1610 ls [])) (S T : Sg) (hR : Rel S T) (H : Heap) (locs : List Loc) (ls : Array Slot) (hW : LW D cy LC LM S T s H locs) (hl : lv_has ls 4 [(0, .ref b), (1, .ref (LC 0)), (2, .ref (LM 0)), (3, .int v)]) : W p l e room_1 s m #[Value.ref b] below meth c H locs 600000 7302250 Q (F0 m 452 ls []) := by
  obtain ⟨E, hC, hM, hCC, hMM, hdis, hX, hbl⟩ := X
  obtain ⟨hP1, hP2, hS⟩ := hW
  have hx := E.1
  have hb := E.2.1
  have hts := E.2.2.2.2
  have hbA : ¬ A0 s b := Nat.not_le.mpr hbl
  refine lv_aload_n hx hb dL_law_452 rfl (lv_at hl 1 rfl) ?_
  refine lv_aload_n hx hb dL_law_453 rfl (lv_at hl 0 rfl) ?_
  refine lv_iload_n hx hb dL_law_454 rfl (lv_at hl 3 rfl) ?_
  refine lv_iconst (v := 1) hx hb dL_law_455 (by decide) ?_
  refine lv_iadd hx hb dL_law_456 ?_
  refine va_sld hx hb hX hbl hbA hS hi1 dL_law_457 ?_
  refine lv_aload_n hx hb dL_law_458 rfl (lv_at hl 0 rfl) ?_
  refine lv_iload_n hx hb dL_law_459 rfl (lv_at hl 3 rfl) ?_
  refine lv_iconst (v := 2) hx hb dL_law_460 (by decide) ?_
  refine lv_iadd hx hb dL_law_461 ?_
  refine va_sld hx hb hX hbl hbA hS hi2 dL_law_462 ?_
  refine lv_aload_n hx hb dL_law_463 rfl (lv_at hl 0 rfl) ?_
  refine lv_iload_n hx hb dL_law_464 rfl (lv_at hl 3 rfl) ?_
  refine lv_iconst (v := 3) hx hb dL_law_465 (by decide) ?_
  refine lv_iadd hx hb dL_law_466 ?_
  refine va_sld hx hb hX hbl hbA hS hi3 dL_law_467 ?_
  obtain ⟨r, h1, h2, hR⟩ := e_number hR (xs (v + 1).toNatClampNeg) (xs (v + 2).toNatClampNeg) (xs (v + 3).toNatClampNeg)
  refine l_call (w := (.int r)) (LA := LC) (LB := LM) (As := [.int (xs (v + 1).toNatClampNeg), .int (xs (v + 2).toNatClampNeg), .int (xs (v + 3).toNatClampNeg)]) (rest := []) E hC hCC hdis hP1 hP2 hS hl.1 (c_X9_number (xs (v + 1).toNatClampNeg) (xs (v + 2).toNatClampNeg) (xs (v + 3).toNatClampNeg) r S h1) cv_L_40 rfl (by decide) rfl rfl rfl ⟨Nat.le_of_ble_eq_true rfl, Nat.le_of_ble_eq_true rfl⟩ ⟨Nat.le_refl _, Nat.le_refl _⟩ (Nat.le_of_ble_eq_true rfl) dL_law_468 (fun H locs hP1 hP2 hS => ?_)
  refine lv_aload_n hx hb dL_law_471 rfl (lv_at hl 2 rfl) ?_
  refine lv_aload_n hx hb dL_law_472 rfl (lv_at hl 0 rfl) ?_
  refine lv_iload_n hx hb dL_law_473 rfl (lv_at hl 3 rfl) ?_
  refine lv_iconst (v := 1) hx hb dL_law_474 (by decide) ?_
  refine lv_iadd hx hb dL_law_475 ?_
  refine va_sld hx hb hX hbl hbA hS hi1 dL_law_476 ?_
  refine lv_aload_n hx hb dL_law_477 rfl (lv_at hl 0 rfl) ?_
  refine lv_iload_n hx hb dL_law_478 rfl (lv_at hl 3 rfl) ?_
  refine lv_iconst (v := 2) hx hb dL_law_479 (by decide) ?_
  refine lv_iadd hx hb dL_law_480 ?_
  refine va_sld hx hb hX hbl hbA hS hi2 dL_law_481 ?_
  refine lv_aload_n hx hb dL_law_482 rfl (lv_at hl 0 rfl) ?_
  refine lv_iload_n hx hb dL_law_483 rfl (lv_at hl 3 rfl) ?_
  refine lv_iconst (v := 3) hx hb dL_law_484 (by decide) ?_
  refine lv_iadd hx hb dL_law_485 ?_
  refine va_sld hx hb hX hbl hbA hS hi3 dL_law_486 ?_
  refine l_call (w := (.int r)) (LA := LM) (LB := LC) (As := [.int (xs (v + 1).toNatClampNeg), .int (xs (v + 2).toNatClampNeg), .int (xs (v + 3).toNatClampNeg)]) (rest := [.int r]) E hM hMM (fun i j h h2 q => hdis j i h2 h q.symm) hP2 hP1 hS hl.1 (c_X10_number (xs (v + 1).toNatClampNeg) (xs (v + 2).toNatClampNeg) (xs (v + 3).toNatClampNeg) r T h2) cv_L_43 rfl (by decide) rfl rfl rfl ⟨Nat.le_of_ble_eq_true rfl, Nat.le_of_ble_eq_true rfl⟩ ⟨Nat.le_refl _, Nat.le_refl _⟩ (Nat.le_of_ble_eq_true rfl) dL_law_487 (fun H locs hP2 hP1 hS => ?_)
  refine lv_icmp_eq (tgt := 1610) hx hb dL_law_490 (by decide) (fun _ => ?_) (fun c9 => absurd rfl c9)
  exact next _ _ hR _ _ _ ⟨hP1, hP2, hS⟩ hl
set_option maxRecDepth 100000 in
set_option maxHeartbeats 4000000 in
theorem lcase_7 {p : Program} {l : Launch} {e : Env} {s : State} {m : MethodId} {below : List Frame} {meth : Method} {c : Code} {b n : Nat} {xs : Nat → Int32} {D : va_G} {cy : Nat → ClassId} {LC LM : Nat → Nat} {bA : Nat} {Q : State → Prop} (X : LX p s m c b n xs D cy LC LM bA) (v : Int32) (hi0 : vp_in v n) (hi1 : vp_in (v + 1) n) (hi2 : vp_in (v + 2) n) (hi3 : vp_in (v + 3) n) (hi4 : vp_in (v + 4) n) (next : ∀ (S T : Sg), Rel S T → ∀ (H : Heap) (locs : List Loc) (ls : Array Slot), LW D cy LC LM S T s H locs → lv_has ls 4 [(0, .ref b), (1, .ref (LC 0)), (2, .ref (LM 0)), (3, .int v)] → W p l e room_1 s m #[Value.ref b] below meth c H locs 600000 7302250 Q (F0 m 1610 ls [])) (S T : Sg) (hR : Rel S T) (H : Heap) (locs : List Loc) (ls : Array Slot) (hW : LW D cy LC LM S T s H locs) (hl : lv_has ls 4 [(0, .ref b), (1, .ref (LC 0)), (2, .ref (LM 0)), (3, .int v)]) : W p l e room_1 s m #[Value.ref b] below meth c H locs 600000 7302250 Q (F0 m 495 ls []) := by
  obtain ⟨E, hC, hM, hCC, hMM, hdis, hX, hbl⟩ := X
  obtain ⟨hP1, hP2, hS⟩ := hW
  have hx := E.1
  have hb := E.2.1
  have hts := E.2.2.2.2
  have hbA : ¬ A0 s b := Nat.not_le.mpr hbl
  refine lv_aload_n hx hb dL_law_495 rfl (lv_at hl 1 rfl) ?_
  obtain ⟨r, S', T', h1, h2, hR⟩ := e_drop hR
  refine l_call (w := (.int r)) (LA := LC) (LB := LM) (As := []) (rest := []) E hC hCC hdis hP1 hP2 hS hl.1 (c_X9_drop  r S S' h1) cv_L_44 rfl (by decide) rfl rfl rfl ⟨Nat.le_of_ble_eq_true rfl, Nat.le_of_ble_eq_true rfl⟩ ⟨Nat.le_refl _, Nat.le_refl _⟩ (Nat.le_of_ble_eq_true rfl) dL_law_496 (fun H locs hP1 hP2 hS => ?_)
  refine lv_aload_n hx hb dL_law_499 rfl (lv_at hl 2 rfl) ?_
  refine l_call (w := (.int r)) (LA := LM) (LB := LC) (As := []) (rest := [.int r]) E hM hMM (fun i j h h2 q => hdis j i h2 h q.symm) hP2 hP1 hS hl.1 (c_X10_drop  r T T' h2) cv_L_48 rfl (by decide) rfl rfl rfl ⟨Nat.le_of_ble_eq_true rfl, Nat.le_of_ble_eq_true rfl⟩ ⟨Nat.le_refl _, Nat.le_refl _⟩ (Nat.le_of_ble_eq_true rfl) dL_law_500 (fun H locs hP2 hP1 hS => ?_)
  refine lv_icmp_eq (tgt := 1610) hx hb dL_law_503 (by decide) (fun _ => ?_) (fun c9 => absurd rfl c9)
  exact next _ _ hR _ _ _ ⟨hP1, hP2, hS⟩ hl
set_option maxRecDepth 100000 in
set_option maxHeartbeats 4000000 in
theorem lcase_8 {p : Program} {l : Launch} {e : Env} {s : State} {m : MethodId} {below : List Frame} {meth : Method} {c : Code} {b n : Nat} {xs : Nat → Int32} {D : va_G} {cy : Nat → ClassId} {LC LM : Nat → Nat} {bA : Nat} {Q : State → Prop} (X : LX p s m c b n xs D cy LC LM bA) (v : Int32) (hi0 : vp_in v n) (hi1 : vp_in (v + 1) n) (hi2 : vp_in (v + 2) n) (hi3 : vp_in (v + 3) n) (hi4 : vp_in (v + 4) n) (next : ∀ (S T : Sg), Rel S T → ∀ (H : Heap) (locs : List Loc) (ls : Array Slot), LW D cy LC LM S T s H locs → lv_has ls 4 [(0, .ref b), (1, .ref (LC 0)), (2, .ref (LM 0)), (3, .int v)] → W p l e room_1 s m #[Value.ref b] below meth c H locs 600000 7302250 Q (F0 m 1610 ls [])) (S T : Sg) (hR : Rel S T) (H : Heap) (locs : List Loc) (ls : Array Slot) (hW : LW D cy LC LM S T s H locs) (hl : lv_has ls 4 [(0, .ref b), (1, .ref (LC 0)), (2, .ref (LM 0)), (3, .int v)]) : W p l e room_1 s m #[Value.ref b] below meth c H locs 600000 7302250 Q (F0 m 508 ls []) := by
  obtain ⟨E, hC, hM, hCC, hMM, hdis, hX, hbl⟩ := X
  obtain ⟨hP1, hP2, hS⟩ := hW
  have hx := E.1
  have hb := E.2.1
  have hts := E.2.2.2.2
  have hbA : ¬ A0 s b := Nat.not_le.mpr hbl
  refine lv_aload_n hx hb dL_law_508 rfl (lv_at hl 1 rfl) ?_
  refine lv_aload_n hx hb dL_law_509 rfl (lv_at hl 0 rfl) ?_
  refine lv_iload_n hx hb dL_law_510 rfl (lv_at hl 3 rfl) ?_
  refine lv_iconst (v := 1) hx hb dL_law_511 (by decide) ?_
  refine lv_iadd hx hb dL_law_512 ?_
  refine va_sld hx hb hX hbl hbA hS hi1 dL_law_513 ?_
  refine lv_aload_n hx hb dL_law_514 rfl (lv_at hl 0 rfl) ?_
  refine lv_iload_n hx hb dL_law_515 rfl (lv_at hl 3 rfl) ?_
  refine lv_iconst (v := 2) hx hb dL_law_516 (by decide) ?_
  refine lv_iadd hx hb dL_law_517 ?_
  refine va_sld hx hb hX hbl hbA hS hi2 dL_law_518 ?_
  refine lv_i2l hx hb dL_law_519 rfl ?_
  refine lv_bipush (v := 32) hx hb dL_law_520 (by decide) ?_
  refine lv_lshl (v := lsh ((xs (v + 2).toNatClampNeg).toInt64) 32) hx hb dL_law_522 rfl ?_
  refine lv_aload_n hx hb dL_law_523 rfl (lv_at hl 0 rfl) ?_
  refine lv_iload_n hx hb dL_law_524 rfl (lv_at hl 3 rfl) ?_
  refine lv_iconst (v := 3) hx hb dL_law_525 (by decide) ?_
  refine lv_iadd hx hb dL_law_526 ?_
  refine va_sld hx hb hX hbl hbA hS hi3 dL_law_527 ?_
  refine lv_i2l hx hb dL_law_528 rfl ?_
  refine lv_ldc2 hx hb E.2.2.2.1 (hts _ ww_1287) dL_law_529 ?_
  refine lv_land hx hb dL_law_532 ?_
  refine lv_lor hx hb dL_law_533 ?_
  obtain ⟨r, S', T', h1, h2, hR⟩ := e_name hR (xs (v + 1).toNatClampNeg) ((lsh ((xs (v + 2).toNatClampNeg).toInt64) 32) ||| ((xs (v + 3).toNatClampNeg).toInt64 &&& (4294967295 : Int64)))
  refine l_call (w := (.int r)) (LA := LC) (LB := LM) (As := [.int (xs (v + 1).toNatClampNeg), .long ((lsh ((xs (v + 2).toNatClampNeg).toInt64) 32) ||| ((xs (v + 3).toNatClampNeg).toInt64 &&& (4294967295 : Int64)))]) (rest := []) E hC hCC hdis hP1 hP2 hS hl.1 (c_X9_name (xs (v + 1).toNatClampNeg) ((lsh ((xs (v + 2).toNatClampNeg).toInt64) 32) ||| ((xs (v + 3).toNatClampNeg).toInt64 &&& (4294967295 : Int64))) r S S' h1) cv_L_51 rfl (by decide) rfl rfl rfl ⟨Nat.le_of_ble_eq_true rfl, Nat.le_of_ble_eq_true rfl⟩ ⟨Nat.le_refl _, Nat.le_refl _⟩ (Nat.le_of_ble_eq_true rfl) dL_law_534 (fun H locs hP1 hP2 hS => ?_)
  refine lv_aload_n hx hb dL_law_537 rfl (lv_at hl 2 rfl) ?_
  refine lv_aload_n hx hb dL_law_538 rfl (lv_at hl 0 rfl) ?_
  refine lv_iload_n hx hb dL_law_539 rfl (lv_at hl 3 rfl) ?_
  refine lv_iconst (v := 1) hx hb dL_law_540 (by decide) ?_
  refine lv_iadd hx hb dL_law_541 ?_
  refine va_sld hx hb hX hbl hbA hS hi1 dL_law_542 ?_
  refine lv_aload_n hx hb dL_law_543 rfl (lv_at hl 0 rfl) ?_
  refine lv_iload_n hx hb dL_law_544 rfl (lv_at hl 3 rfl) ?_
  refine lv_iconst (v := 2) hx hb dL_law_545 (by decide) ?_
  refine lv_iadd hx hb dL_law_546 ?_
  refine va_sld hx hb hX hbl hbA hS hi2 dL_law_547 ?_
  refine lv_i2l hx hb dL_law_548 rfl ?_
  refine lv_bipush (v := 32) hx hb dL_law_549 (by decide) ?_
  refine lv_lshl (v := lsh ((xs (v + 2).toNatClampNeg).toInt64) 32) hx hb dL_law_551 rfl ?_
  refine lv_aload_n hx hb dL_law_552 rfl (lv_at hl 0 rfl) ?_
  refine lv_iload_n hx hb dL_law_553 rfl (lv_at hl 3 rfl) ?_
  refine lv_iconst (v := 3) hx hb dL_law_554 (by decide) ?_
  refine lv_iadd hx hb dL_law_555 ?_
  refine va_sld hx hb hX hbl hbA hS hi3 dL_law_556 ?_
  refine lv_i2l hx hb dL_law_557 rfl ?_
  refine lv_ldc2 hx hb E.2.2.2.1 (hts _ ww_1287) dL_law_558 ?_
  refine lv_land hx hb dL_law_561 ?_
  refine lv_lor hx hb dL_law_562 ?_
  refine l_call (w := (.int r)) (LA := LM) (LB := LC) (As := [.int (xs (v + 1).toNatClampNeg), .long ((lsh ((xs (v + 2).toNatClampNeg).toInt64) 32) ||| ((xs (v + 3).toNatClampNeg).toInt64 &&& (4294967295 : Int64)))]) (rest := [.int r]) E hM hMM (fun i j h h2 q => hdis j i h2 h q.symm) hP2 hP1 hS hl.1 (c_X10_name (xs (v + 1).toNatClampNeg) ((lsh ((xs (v + 2).toNatClampNeg).toInt64) 32) ||| ((xs (v + 3).toNatClampNeg).toInt64 &&& (4294967295 : Int64))) r T T' h2) cv_L_55 rfl (by decide) rfl rfl rfl ⟨Nat.le_of_ble_eq_true rfl, Nat.le_of_ble_eq_true rfl⟩ ⟨Nat.le_refl _, Nat.le_refl _⟩ (Nat.le_of_ble_eq_true rfl) dL_law_563 (fun H locs hP2 hP1 hS => ?_)
  refine lv_icmp_eq (tgt := 1610) hx hb dL_law_566 (by decide) (fun _ => ?_) (fun c9 => absurd rfl c9)
  exact next _ _ hR _ _ _ ⟨hP1, hP2, hS⟩ hl
set_option maxRecDepth 100000 in
set_option maxHeartbeats 4000000 in
theorem lcase_9 {p : Program} {l : Launch} {e : Env} {s : State} {m : MethodId} {below : List Frame} {meth : Method} {c : Code} {b n : Nat} {xs : Nat → Int32} {D : va_G} {cy : Nat → ClassId} {LC LM : Nat → Nat} {bA : Nat} {Q : State → Prop} (X : LX p s m c b n xs D cy LC LM bA) (v : Int32) (hi0 : vp_in v n) (hi1 : vp_in (v + 1) n) (hi2 : vp_in (v + 2) n) (hi3 : vp_in (v + 3) n) (hi4 : vp_in (v + 4) n) (next : ∀ (S T : Sg), Rel S T → ∀ (H : Heap) (locs : List Loc) (ls : Array Slot), LW D cy LC LM S T s H locs → lv_has ls 4 [(0, .ref b), (1, .ref (LC 0)), (2, .ref (LM 0)), (3, .int v)] → W p l e room_1 s m #[Value.ref b] below meth c H locs 600000 7302250 Q (F0 m 1610 ls [])) (S T : Sg) (hR : Rel S T) (H : Heap) (locs : List Loc) (ls : Array Slot) (hW : LW D cy LC LM S T s H locs) (hl : lv_has ls 4 [(0, .ref b), (1, .ref (LC 0)), (2, .ref (LM 0)), (3, .int v)]) : W p l e room_1 s m #[Value.ref b] below meth c H locs 600000 7302250 Q (F0 m 571 ls []) := by
  obtain ⟨E, hC, hM, hCC, hMM, hdis, hX, hbl⟩ := X
  obtain ⟨hP1, hP2, hS⟩ := hW
  have hx := E.1
  have hb := E.2.1
  have hts := E.2.2.2.2
  have hbA : ¬ A0 s b := Nat.not_le.mpr hbl
  refine lv_aload_n hx hb dL_law_571 rfl (lv_at hl 1 rfl) ?_
  refine lv_aload_n hx hb dL_law_572 rfl (lv_at hl 0 rfl) ?_
  refine lv_iload_n hx hb dL_law_573 rfl (lv_at hl 3 rfl) ?_
  refine lv_iconst (v := 1) hx hb dL_law_574 (by decide) ?_
  refine lv_iadd hx hb dL_law_575 ?_
  refine va_sld hx hb hX hbl hbA hS hi1 dL_law_576 ?_
  refine lv_i2l hx hb dL_law_577 rfl ?_
  refine lv_bipush (v := 32) hx hb dL_law_578 (by decide) ?_
  refine lv_lshl (v := lsh ((xs (v + 1).toNatClampNeg).toInt64) 32) hx hb dL_law_580 rfl ?_
  refine lv_aload_n hx hb dL_law_581 rfl (lv_at hl 0 rfl) ?_
  refine lv_iload_n hx hb dL_law_582 rfl (lv_at hl 3 rfl) ?_
  refine lv_iconst (v := 2) hx hb dL_law_583 (by decide) ?_
  refine lv_iadd hx hb dL_law_584 ?_
  refine va_sld hx hb hX hbl hbA hS hi2 dL_law_585 ?_
  refine lv_i2l hx hb dL_law_586 rfl ?_
  refine lv_ldc2 hx hb E.2.2.2.1 (hts _ ww_1287) dL_law_587 ?_
  refine lv_land hx hb dL_law_590 ?_
  refine lv_lor hx hb dL_law_591 ?_
  obtain ⟨r, h1, h2, hR⟩ := e_named hR ((lsh ((xs (v + 1).toNatClampNeg).toInt64) 32) ||| ((xs (v + 2).toNatClampNeg).toInt64 &&& (4294967295 : Int64)))
  refine l_call (w := (.int r)) (LA := LC) (LB := LM) (As := [.long ((lsh ((xs (v + 1).toNatClampNeg).toInt64) 32) ||| ((xs (v + 2).toNatClampNeg).toInt64 &&& (4294967295 : Int64)))]) (rest := []) E hC hCC hdis hP1 hP2 hS hl.1 (c_X9_named ((lsh ((xs (v + 1).toNatClampNeg).toInt64) 32) ||| ((xs (v + 2).toNatClampNeg).toInt64 &&& (4294967295 : Int64))) r S h1) cv_L_56 rfl (by decide) rfl rfl rfl ⟨Nat.le_of_ble_eq_true rfl, Nat.le_of_ble_eq_true rfl⟩ ⟨Nat.le_refl _, Nat.le_refl _⟩ (Nat.le_of_ble_eq_true rfl) dL_law_592 (fun H locs hP1 hP2 hS => ?_)
  refine lv_aload_n hx hb dL_law_595 rfl (lv_at hl 2 rfl) ?_
  refine lv_aload_n hx hb dL_law_596 rfl (lv_at hl 0 rfl) ?_
  refine lv_iload_n hx hb dL_law_597 rfl (lv_at hl 3 rfl) ?_
  refine lv_iconst (v := 1) hx hb dL_law_598 (by decide) ?_
  refine lv_iadd hx hb dL_law_599 ?_
  refine va_sld hx hb hX hbl hbA hS hi1 dL_law_600 ?_
  refine lv_i2l hx hb dL_law_601 rfl ?_
  refine lv_bipush (v := 32) hx hb dL_law_602 (by decide) ?_
  refine lv_lshl (v := lsh ((xs (v + 1).toNatClampNeg).toInt64) 32) hx hb dL_law_604 rfl ?_
  refine lv_aload_n hx hb dL_law_605 rfl (lv_at hl 0 rfl) ?_
  refine lv_iload_n hx hb dL_law_606 rfl (lv_at hl 3 rfl) ?_
  refine lv_iconst (v := 2) hx hb dL_law_607 (by decide) ?_
  refine lv_iadd hx hb dL_law_608 ?_
  refine va_sld hx hb hX hbl hbA hS hi2 dL_law_609 ?_
  refine lv_i2l hx hb dL_law_610 rfl ?_
  refine lv_ldc2 hx hb E.2.2.2.1 (hts _ ww_1287) dL_law_611 ?_
  refine lv_land hx hb dL_law_614 ?_
  refine lv_lor hx hb dL_law_615 ?_
  refine l_call (w := (.int r)) (LA := LM) (LB := LC) (As := [.long ((lsh ((xs (v + 1).toNatClampNeg).toInt64) 32) ||| ((xs (v + 2).toNatClampNeg).toInt64 &&& (4294967295 : Int64)))]) (rest := [.int r]) E hM hMM (fun i j h h2 q => hdis j i h2 h q.symm) hP2 hP1 hS hl.1 (c_X10_named ((lsh ((xs (v + 1).toNatClampNeg).toInt64) 32) ||| ((xs (v + 2).toNatClampNeg).toInt64 &&& (4294967295 : Int64))) r T h2) cv_L_60 rfl (by decide) rfl rfl rfl ⟨Nat.le_of_ble_eq_true rfl, Nat.le_of_ble_eq_true rfl⟩ ⟨Nat.le_refl _, Nat.le_refl _⟩ (Nat.le_of_ble_eq_true rfl) dL_law_616 (fun H locs hP2 hP1 hS => ?_)
  refine lv_icmp_eq (tgt := 1610) hx hb dL_law_619 (by decide) (fun _ => ?_) (fun c9 => absurd rfl c9)
  exact next _ _ hR _ _ _ ⟨hP1, hP2, hS⟩ hl
set_option maxRecDepth 100000 in
set_option maxHeartbeats 4000000 in
theorem lcase_10 {p : Program} {l : Launch} {e : Env} {s : State} {m : MethodId} {below : List Frame} {meth : Method} {c : Code} {b n : Nat} {xs : Nat → Int32} {D : va_G} {cy : Nat → ClassId} {LC LM : Nat → Nat} {bA : Nat} {Q : State → Prop} (X : LX p s m c b n xs D cy LC LM bA) (v : Int32) (hi0 : vp_in v n) (hi1 : vp_in (v + 1) n) (hi2 : vp_in (v + 2) n) (hi3 : vp_in (v + 3) n) (hi4 : vp_in (v + 4) n) (next : ∀ (S T : Sg), Rel S T → ∀ (H : Heap) (locs : List Loc) (ls : Array Slot), LW D cy LC LM S T s H locs → lv_has ls 4 [(0, .ref b), (1, .ref (LC 0)), (2, .ref (LM 0)), (3, .int v)] → W p l e room_1 s m #[Value.ref b] below meth c H locs 600000 7302250 Q (F0 m 1610 ls [])) (S T : Sg) (hR : Rel S T) (H : Heap) (locs : List Loc) (ls : Array Slot) (hW : LW D cy LC LM S T s H locs) (hl : lv_has ls 4 [(0, .ref b), (1, .ref (LC 0)), (2, .ref (LM 0)), (3, .int v)]) : W p l e room_1 s m #[Value.ref b] below meth c H locs 600000 7302250 Q (F0 m 624 ls []) := by
  obtain ⟨E, hC, hM, hCC, hMM, hdis, hX, hbl⟩ := X
  obtain ⟨hP1, hP2, hS⟩ := hW
  have hx := E.1
  have hb := E.2.1
  have hts := E.2.2.2.2
  have hbA : ¬ A0 s b := Nat.not_le.mpr hbl
  refine lv_aload_n hx hb dL_law_624 rfl (lv_at hl 1 rfl) ?_
  refine lv_aload_n hx hb dL_law_625 rfl (lv_at hl 0 rfl) ?_
  refine lv_iload_n hx hb dL_law_626 rfl (lv_at hl 3 rfl) ?_
  refine lv_iconst (v := 1) hx hb dL_law_627 (by decide) ?_
  refine lv_iadd hx hb dL_law_628 ?_
  refine va_sld hx hb hX hbl hbA hS hi1 dL_law_629 ?_
  obtain ⟨r, S', T', h1, h2, hR⟩ := e_unname hR (xs (v + 1).toNatClampNeg)
  refine l_call (w := (.int r)) (LA := LC) (LB := LM) (As := [.int (xs (v + 1).toNatClampNeg)]) (rest := []) E hC hCC hdis hP1 hP2 hS hl.1 (c_X9_unname (xs (v + 1).toNatClampNeg) r S S' h1) cv_L_61 rfl (by decide) rfl rfl rfl ⟨Nat.le_of_ble_eq_true rfl, Nat.le_of_ble_eq_true rfl⟩ ⟨Nat.le_refl _, Nat.le_refl _⟩ (Nat.le_of_ble_eq_true rfl) dL_law_630 (fun H locs hP1 hP2 hS => ?_)
  refine lv_aload_n hx hb dL_law_633 rfl (lv_at hl 2 rfl) ?_
  refine lv_aload_n hx hb dL_law_634 rfl (lv_at hl 0 rfl) ?_
  refine lv_iload_n hx hb dL_law_635 rfl (lv_at hl 3 rfl) ?_
  refine lv_iconst (v := 1) hx hb dL_law_636 (by decide) ?_
  refine lv_iadd hx hb dL_law_637 ?_
  refine va_sld hx hb hX hbl hbA hS hi1 dL_law_638 ?_
  refine l_call (w := (.int r)) (LA := LM) (LB := LC) (As := [.int (xs (v + 1).toNatClampNeg)]) (rest := [.int r]) E hM hMM (fun i j h h2 q => hdis j i h2 h q.symm) hP2 hP1 hS hl.1 (c_X10_unname (xs (v + 1).toNatClampNeg) r T T' h2) cv_L_65 rfl (by decide) rfl rfl rfl ⟨Nat.le_of_ble_eq_true rfl, Nat.le_of_ble_eq_true rfl⟩ ⟨Nat.le_refl _, Nat.le_refl _⟩ (Nat.le_of_ble_eq_true rfl) dL_law_639 (fun H locs hP2 hP1 hS => ?_)
  refine lv_icmp_eq (tgt := 1610) hx hb dL_law_642 (by decide) (fun _ => ?_) (fun c9 => absurd rfl c9)
  exact next _ _ hR _ _ _ ⟨hP1, hP2, hS⟩ hl
set_option maxRecDepth 100000 in
set_option maxHeartbeats 4000000 in
theorem lcase_11 {p : Program} {l : Launch} {e : Env} {s : State} {m : MethodId} {below : List Frame} {meth : Method} {c : Code} {b n : Nat} {xs : Nat → Int32} {D : va_G} {cy : Nat → ClassId} {LC LM : Nat → Nat} {bA : Nat} {Q : State → Prop} (X : LX p s m c b n xs D cy LC LM bA) (v : Int32) (hi0 : vp_in v n) (hi1 : vp_in (v + 1) n) (hi2 : vp_in (v + 2) n) (hi3 : vp_in (v + 3) n) (hi4 : vp_in (v + 4) n) (next : ∀ (S T : Sg), Rel S T → ∀ (H : Heap) (locs : List Loc) (ls : Array Slot), LW D cy LC LM S T s H locs → lv_has ls 4 [(0, .ref b), (1, .ref (LC 0)), (2, .ref (LM 0)), (3, .int v)] → W p l e room_1 s m #[Value.ref b] below meth c H locs 600000 7302250 Q (F0 m 1610 ls [])) (S T : Sg) (hR : Rel S T) (H : Heap) (locs : List Loc) (ls : Array Slot) (hW : LW D cy LC LM S T s H locs) (hl : lv_has ls 4 [(0, .ref b), (1, .ref (LC 0)), (2, .ref (LM 0)), (3, .int v)]) : W p l e room_1 s m #[Value.ref b] below meth c H locs 600000 7302250 Q (F0 m 647 ls []) := by
  obtain ⟨E, hC, hM, hCC, hMM, hdis, hX, hbl⟩ := X
  obtain ⟨hP1, hP2, hS⟩ := hW
  have hx := E.1
  have hb := E.2.1
  have hts := E.2.2.2.2
  have hbA : ¬ A0 s b := Nat.not_le.mpr hbl
  refine lv_aload_n hx hb dL_law_647 rfl (lv_at hl 1 rfl) ?_
  refine lv_aload_n hx hb dL_law_648 rfl (lv_at hl 0 rfl) ?_
  refine lv_iload_n hx hb dL_law_649 rfl (lv_at hl 3 rfl) ?_
  refine lv_iconst (v := 1) hx hb dL_law_650 (by decide) ?_
  refine lv_iadd hx hb dL_law_651 ?_
  refine va_sld hx hb hX hbl hbA hS hi1 dL_law_652 ?_
  obtain ⟨r, h1, h2, hR⟩ := e_nameAt hR (xs (v + 1).toNatClampNeg)
  refine l_call (w := (.long r)) (LA := LC) (LB := LM) (As := [.int (xs (v + 1).toNatClampNeg)]) (rest := []) E hC hCC hdis hP1 hP2 hS hl.1 (c_X9_nameAt (xs (v + 1).toNatClampNeg) r S h1) cv_L_66 rfl (by decide) rfl rfl rfl ⟨Nat.le_of_ble_eq_true rfl, Nat.le_of_ble_eq_true rfl⟩ ⟨Nat.le_refl _, Nat.le_refl _⟩ (Nat.le_of_ble_eq_true rfl) dL_law_653 (fun H locs hP1 hP2 hS => ?_)
  refine lv_aload_n hx hb dL_law_656 rfl (lv_at hl 2 rfl) ?_
  refine lv_aload_n hx hb dL_law_657 rfl (lv_at hl 0 rfl) ?_
  refine lv_iload_n hx hb dL_law_658 rfl (lv_at hl 3 rfl) ?_
  refine lv_iconst (v := 1) hx hb dL_law_659 (by decide) ?_
  refine lv_iadd hx hb dL_law_660 ?_
  refine va_sld hx hb hX hbl hbA hS hi1 dL_law_661 ?_
  refine l_call (w := (.long r)) (LA := LM) (LB := LC) (As := [.int (xs (v + 1).toNatClampNeg)]) (rest := [.long r]) E hM hMM (fun i j h h2 q => hdis j i h2 h q.symm) hP2 hP1 hS hl.1 (c_X10_nameAt (xs (v + 1).toNatClampNeg) r T h2) cv_L_70 rfl (by decide) rfl rfl rfl ⟨Nat.le_of_ble_eq_true rfl, Nat.le_of_ble_eq_true rfl⟩ ⟨Nat.le_refl _, Nat.le_refl _⟩ (Nat.le_of_ble_eq_true rfl) dL_law_662 (fun H locs hP2 hP1 hS => ?_)
  refine W.lcmp hx hb dL_law_665 ?_
  rw [lg_cmp_self]
  refine lv_if_eq (tgt := 1610) hx hb dL_law_666 (by decide) (fun _ => ?_) (fun c9 => absurd rfl c9)
  exact next _ _ hR _ _ _ ⟨hP1, hP2, hS⟩ hl
set_option maxRecDepth 100000 in
set_option maxHeartbeats 4000000 in
theorem lcase_12 {p : Program} {l : Launch} {e : Env} {s : State} {m : MethodId} {below : List Frame} {meth : Method} {c : Code} {b n : Nat} {xs : Nat → Int32} {D : va_G} {cy : Nat → ClassId} {LC LM : Nat → Nat} {bA : Nat} {Q : State → Prop} (X : LX p s m c b n xs D cy LC LM bA) (v : Int32) (hi0 : vp_in v n) (hi1 : vp_in (v + 1) n) (hi2 : vp_in (v + 2) n) (hi3 : vp_in (v + 3) n) (hi4 : vp_in (v + 4) n) (next : ∀ (S T : Sg), Rel S T → ∀ (H : Heap) (locs : List Loc) (ls : Array Slot), LW D cy LC LM S T s H locs → lv_has ls 4 [(0, .ref b), (1, .ref (LC 0)), (2, .ref (LM 0)), (3, .int v)] → W p l e room_1 s m #[Value.ref b] below meth c H locs 600000 7302250 Q (F0 m 1610 ls [])) (S T : Sg) (hR : Rel S T) (H : Heap) (locs : List Loc) (ls : Array Slot) (hW : LW D cy LC LM S T s H locs) (hl : lv_has ls 4 [(0, .ref b), (1, .ref (LC 0)), (2, .ref (LM 0)), (3, .int v)]) : W p l e room_1 s m #[Value.ref b] below meth c H locs 600000 7302250 Q (F0 m 671 ls []) := by
  obtain ⟨E, hC, hM, hCC, hMM, hdis, hX, hbl⟩ := X
  obtain ⟨hP1, hP2, hS⟩ := hW
  have hx := E.1
  have hb := E.2.1
  have hts := E.2.2.2.2
  have hbA : ¬ A0 s b := Nat.not_le.mpr hbl
  refine lv_aload_n hx hb dL_law_671 rfl (lv_at hl 1 rfl) ?_
  refine lv_aload_n hx hb dL_law_672 rfl (lv_at hl 0 rfl) ?_
  refine lv_iload_n hx hb dL_law_673 rfl (lv_at hl 3 rfl) ?_
  refine lv_iconst (v := 1) hx hb dL_law_674 (by decide) ?_
  refine lv_iadd hx hb dL_law_675 ?_
  refine va_sld hx hb hX hbl hbA hS hi1 dL_law_676 ?_
  obtain ⟨r, S', T', h1, h2, hR⟩ := e_rank hR (xs (v + 1).toNatClampNeg)
  refine l_call (w := (.int r)) (LA := LC) (LB := LM) (As := [.int (xs (v + 1).toNatClampNeg)]) (rest := []) E hC hCC hdis hP1 hP2 hS hl.1 (c_X9_rank (xs (v + 1).toNatClampNeg) r S S' h1) cv_L_71 rfl (by decide) rfl rfl rfl ⟨Nat.le_of_ble_eq_true rfl, Nat.le_of_ble_eq_true rfl⟩ ⟨Nat.le_refl _, Nat.le_refl _⟩ (Nat.le_of_ble_eq_true rfl) dL_law_677 (fun H locs hP1 hP2 hS => ?_)
  refine lv_aload_n hx hb dL_law_680 rfl (lv_at hl 2 rfl) ?_
  refine lv_aload_n hx hb dL_law_681 rfl (lv_at hl 0 rfl) ?_
  refine lv_iload_n hx hb dL_law_682 rfl (lv_at hl 3 rfl) ?_
  refine lv_iconst (v := 1) hx hb dL_law_683 (by decide) ?_
  refine lv_iadd hx hb dL_law_684 ?_
  refine va_sld hx hb hX hbl hbA hS hi1 dL_law_685 ?_
  refine l_call (w := (.int r)) (LA := LM) (LB := LC) (As := [.int (xs (v + 1).toNatClampNeg)]) (rest := [.int r]) E hM hMM (fun i j h h2 q => hdis j i h2 h q.symm) hP2 hP1 hS hl.1 (c_X10_rank (xs (v + 1).toNatClampNeg) r T T' h2) cv_L_74 rfl (by decide) rfl rfl rfl ⟨Nat.le_of_ble_eq_true rfl, Nat.le_of_ble_eq_true rfl⟩ ⟨Nat.le_refl _, Nat.le_refl _⟩ (Nat.le_of_ble_eq_true rfl) dL_law_686 (fun H locs hP2 hP1 hS => ?_)
  refine lv_icmp_eq (tgt := 1610) hx hb dL_law_689 (by decide) (fun _ => ?_) (fun c9 => absurd rfl c9)
  exact next _ _ hR _ _ _ ⟨hP1, hP2, hS⟩ hl
set_option maxRecDepth 100000 in
set_option maxHeartbeats 4000000 in
theorem lcase_13 {p : Program} {l : Launch} {e : Env} {s : State} {m : MethodId} {below : List Frame} {meth : Method} {c : Code} {b n : Nat} {xs : Nat → Int32} {D : va_G} {cy : Nat → ClassId} {LC LM : Nat → Nat} {bA : Nat} {Q : State → Prop} (X : LX p s m c b n xs D cy LC LM bA) (v : Int32) (hi0 : vp_in v n) (hi1 : vp_in (v + 1) n) (hi2 : vp_in (v + 2) n) (hi3 : vp_in (v + 3) n) (hi4 : vp_in (v + 4) n) (next : ∀ (S T : Sg), Rel S T → ∀ (H : Heap) (locs : List Loc) (ls : Array Slot), LW D cy LC LM S T s H locs → lv_has ls 4 [(0, .ref b), (1, .ref (LC 0)), (2, .ref (LM 0)), (3, .int v)] → W p l e room_1 s m #[Value.ref b] below meth c H locs 600000 7302250 Q (F0 m 1610 ls [])) (S T : Sg) (hR : Rel S T) (H : Heap) (locs : List Loc) (ls : Array Slot) (hW : LW D cy LC LM S T s H locs) (hl : lv_has ls 4 [(0, .ref b), (1, .ref (LC 0)), (2, .ref (LM 0)), (3, .int v)]) : W p l e room_1 s m #[Value.ref b] below meth c H locs 600000 7302250 Q (F0 m 694 ls []) := by
  obtain ⟨E, hC, hM, hCC, hMM, hdis, hX, hbl⟩ := X
  obtain ⟨hP1, hP2, hS⟩ := hW
  have hx := E.1
  have hb := E.2.1
  have hts := E.2.2.2.2
  have hbA : ¬ A0 s b := Nat.not_le.mpr hbl
  refine lv_aload_n hx hb dL_law_694 rfl (lv_at hl 1 rfl) ?_
  refine lv_aload_n hx hb dL_law_695 rfl (lv_at hl 0 rfl) ?_
  refine lv_iload_n hx hb dL_law_696 rfl (lv_at hl 3 rfl) ?_
  refine lv_iconst (v := 1) hx hb dL_law_697 (by decide) ?_
  refine lv_iadd hx hb dL_law_698 ?_
  refine va_sld hx hb hX hbl hbA hS hi1 dL_law_699 ?_
  obtain ⟨r, S', T', h1, h2, hR⟩ := e_stands hR (xs (v + 1).toNatClampNeg)
  refine l_call (w := (.int r)) (LA := LC) (LB := LM) (As := [.int (xs (v + 1).toNatClampNeg)]) (rest := []) E hC hCC hdis hP1 hP2 hS hl.1 (c_X9_stands (xs (v + 1).toNatClampNeg) r S S' h1) cv_L_75 rfl (by decide) rfl rfl rfl ⟨Nat.le_of_ble_eq_true rfl, Nat.le_of_ble_eq_true rfl⟩ ⟨Nat.le_refl _, Nat.le_refl _⟩ (Nat.le_of_ble_eq_true rfl) dL_law_700 (fun H locs hP1 hP2 hS => ?_)
  refine lv_aload_n hx hb dL_law_703 rfl (lv_at hl 2 rfl) ?_
  refine lv_aload_n hx hb dL_law_704 rfl (lv_at hl 0 rfl) ?_
  refine lv_iload_n hx hb dL_law_705 rfl (lv_at hl 3 rfl) ?_
  refine lv_iconst (v := 1) hx hb dL_law_706 (by decide) ?_
  refine lv_iadd hx hb dL_law_707 ?_
  refine va_sld hx hb hX hbl hbA hS hi1 dL_law_708 ?_
  refine l_call (w := (.int r)) (LA := LM) (LB := LC) (As := [.int (xs (v + 1).toNatClampNeg)]) (rest := [.int r]) E hM hMM (fun i j h h2 q => hdis j i h2 h q.symm) hP2 hP1 hS hl.1 (c_X10_stands (xs (v + 1).toNatClampNeg) r T T' h2) cv_L_78 rfl (by decide) rfl rfl rfl ⟨Nat.le_of_ble_eq_true rfl, Nat.le_of_ble_eq_true rfl⟩ ⟨Nat.le_refl _, Nat.le_refl _⟩ (Nat.le_of_ble_eq_true rfl) dL_law_709 (fun H locs hP2 hP1 hS => ?_)
  refine lv_icmp_eq (tgt := 1610) hx hb dL_law_712 (by decide) (fun _ => ?_) (fun c9 => absurd rfl c9)
  exact next _ _ hR _ _ _ ⟨hP1, hP2, hS⟩ hl
set_option maxRecDepth 100000 in
set_option maxHeartbeats 4000000 in
theorem lcase_14 {p : Program} {l : Launch} {e : Env} {s : State} {m : MethodId} {below : List Frame} {meth : Method} {c : Code} {b n : Nat} {xs : Nat → Int32} {D : va_G} {cy : Nat → ClassId} {LC LM : Nat → Nat} {bA : Nat} {Q : State → Prop} (X : LX p s m c b n xs D cy LC LM bA) (v : Int32) (hi0 : vp_in v n) (hi1 : vp_in (v + 1) n) (hi2 : vp_in (v + 2) n) (hi3 : vp_in (v + 3) n) (hi4 : vp_in (v + 4) n) (next : ∀ (S T : Sg), Rel S T → ∀ (H : Heap) (locs : List Loc) (ls : Array Slot), LW D cy LC LM S T s H locs → lv_has ls 4 [(0, .ref b), (1, .ref (LC 0)), (2, .ref (LM 0)), (3, .int v)] → W p l e room_1 s m #[Value.ref b] below meth c H locs 600000 7302250 Q (F0 m 1610 ls [])) (S T : Sg) (hR : Rel S T) (H : Heap) (locs : List Loc) (ls : Array Slot) (hW : LW D cy LC LM S T s H locs) (hl : lv_has ls 4 [(0, .ref b), (1, .ref (LC 0)), (2, .ref (LM 0)), (3, .int v)]) : W p l e room_1 s m #[Value.ref b] below meth c H locs 600000 7302250 Q (F0 m 717 ls []) := by
  obtain ⟨E, hC, hM, hCC, hMM, hdis, hX, hbl⟩ := X
  obtain ⟨hP1, hP2, hS⟩ := hW
  have hx := E.1
  have hb := E.2.1
  have hts := E.2.2.2.2
  have hbA : ¬ A0 s b := Nat.not_le.mpr hbl
  refine lv_aload_n hx hb dL_law_717 rfl (lv_at hl 1 rfl) ?_
  obtain ⟨r, S', T', h1, h2, hR⟩ := e_most hR
  refine l_call (w := (.int r)) (LA := LC) (LB := LM) (As := []) (rest := []) E hC hCC hdis hP1 hP2 hS hl.1 (c_X9_most  r S S' h1) cv_L_79 rfl (by decide) rfl rfl rfl ⟨Nat.le_of_ble_eq_true rfl, Nat.le_of_ble_eq_true rfl⟩ ⟨Nat.le_refl _, Nat.le_refl _⟩ (Nat.le_of_ble_eq_true rfl) dL_law_718 (fun H locs hP1 hP2 hS => ?_)
  refine lv_aload_n hx hb dL_law_721 rfl (lv_at hl 2 rfl) ?_
  refine l_call (w := (.int r)) (LA := LM) (LB := LC) (As := []) (rest := [.int r]) E hM hMM (fun i j h h2 q => hdis j i h2 h q.symm) hP2 hP1 hS hl.1 (c_X10_most  r T T' h2) cv_L_82 rfl (by decide) rfl rfl rfl ⟨Nat.le_of_ble_eq_true rfl, Nat.le_of_ble_eq_true rfl⟩ ⟨Nat.le_refl _, Nat.le_refl _⟩ (Nat.le_of_ble_eq_true rfl) dL_law_722 (fun H locs hP2 hP1 hS => ?_)
  refine lv_icmp_eq (tgt := 1610) hx hb dL_law_725 (by decide) (fun _ => ?_) (fun c9 => absurd rfl c9)
  exact next _ _ hR _ _ _ ⟨hP1, hP2, hS⟩ hl
set_option maxRecDepth 100000 in
set_option maxHeartbeats 4000000 in
theorem lcase_15 {p : Program} {l : Launch} {e : Env} {s : State} {m : MethodId} {below : List Frame} {meth : Method} {c : Code} {b n : Nat} {xs : Nat → Int32} {D : va_G} {cy : Nat → ClassId} {LC LM : Nat → Nat} {bA : Nat} {Q : State → Prop} (X : LX p s m c b n xs D cy LC LM bA) (v : Int32) (hi0 : vp_in v n) (hi1 : vp_in (v + 1) n) (hi2 : vp_in (v + 2) n) (hi3 : vp_in (v + 3) n) (hi4 : vp_in (v + 4) n) (next : ∀ (S T : Sg), Rel S T → ∀ (H : Heap) (locs : List Loc) (ls : Array Slot), LW D cy LC LM S T s H locs → lv_has ls 4 [(0, .ref b), (1, .ref (LC 0)), (2, .ref (LM 0)), (3, .int v)] → W p l e room_1 s m #[Value.ref b] below meth c H locs 600000 7302250 Q (F0 m 1610 ls [])) (S T : Sg) (hR : Rel S T) (H : Heap) (locs : List Loc) (ls : Array Slot) (hW : LW D cy LC LM S T s H locs) (hl : lv_has ls 4 [(0, .ref b), (1, .ref (LC 0)), (2, .ref (LM 0)), (3, .int v)]) : W p l e room_1 s m #[Value.ref b] below meth c H locs 600000 7302250 Q (F0 m 730 ls []) := by
  obtain ⟨E, hC, hM, hCC, hMM, hdis, hX, hbl⟩ := X
  obtain ⟨hP1, hP2, hS⟩ := hW
  have hx := E.1
  have hb := E.2.1
  have hts := E.2.2.2.2
  have hbA : ¬ A0 s b := Nat.not_le.mpr hbl
  refine lv_aload_n hx hb dL_law_730 rfl (lv_at hl 1 rfl) ?_
  refine lv_aload_n hx hb dL_law_731 rfl (lv_at hl 0 rfl) ?_
  refine lv_iload_n hx hb dL_law_732 rfl (lv_at hl 3 rfl) ?_
  refine lv_iconst (v := 1) hx hb dL_law_733 (by decide) ?_
  refine lv_iadd hx hb dL_law_734 ?_
  refine va_sld hx hb hX hbl hbA hS hi1 dL_law_735 ?_
  obtain ⟨r, S', T', h1, h2, hR⟩ := e_best hR (xs (v + 1).toNatClampNeg)
  refine l_call (w := (.int r)) (LA := LC) (LB := LM) (As := [.int (xs (v + 1).toNatClampNeg)]) (rest := []) E hC hCC hdis hP1 hP2 hS hl.1 (c_X9_best (xs (v + 1).toNatClampNeg) r S S' h1) cv_L_83 rfl (by decide) rfl rfl rfl ⟨Nat.le_of_ble_eq_true rfl, Nat.le_of_ble_eq_true rfl⟩ ⟨Nat.le_refl _, Nat.le_refl _⟩ (Nat.le_of_ble_eq_true rfl) dL_law_736 (fun H locs hP1 hP2 hS => ?_)
  refine lv_aload_n hx hb dL_law_739 rfl (lv_at hl 2 rfl) ?_
  refine lv_aload_n hx hb dL_law_740 rfl (lv_at hl 0 rfl) ?_
  refine lv_iload_n hx hb dL_law_741 rfl (lv_at hl 3 rfl) ?_
  refine lv_iconst (v := 1) hx hb dL_law_742 (by decide) ?_
  refine lv_iadd hx hb dL_law_743 ?_
  refine va_sld hx hb hX hbl hbA hS hi1 dL_law_744 ?_
  refine l_call (w := (.int r)) (LA := LM) (LB := LC) (As := [.int (xs (v + 1).toNatClampNeg)]) (rest := [.int r]) E hM hMM (fun i j h h2 q => hdis j i h2 h q.symm) hP2 hP1 hS hl.1 (c_X10_best (xs (v + 1).toNatClampNeg) r T T' h2) cv_L_86 rfl (by decide) rfl rfl rfl ⟨Nat.le_of_ble_eq_true rfl, Nat.le_of_ble_eq_true rfl⟩ ⟨Nat.le_refl _, Nat.le_refl _⟩ (Nat.le_of_ble_eq_true rfl) dL_law_745 (fun H locs hP2 hP1 hS => ?_)
  refine lv_icmp_eq (tgt := 1610) hx hb dL_law_748 (by decide) (fun _ => ?_) (fun c9 => absurd rfl c9)
  exact next _ _ hR _ _ _ ⟨hP1, hP2, hS⟩ hl
set_option maxRecDepth 100000 in
set_option maxHeartbeats 4000000 in
theorem lcase_16 {p : Program} {l : Launch} {e : Env} {s : State} {m : MethodId} {below : List Frame} {meth : Method} {c : Code} {b n : Nat} {xs : Nat → Int32} {D : va_G} {cy : Nat → ClassId} {LC LM : Nat → Nat} {bA : Nat} {Q : State → Prop} (X : LX p s m c b n xs D cy LC LM bA) (v : Int32) (hi0 : vp_in v n) (hi1 : vp_in (v + 1) n) (hi2 : vp_in (v + 2) n) (hi3 : vp_in (v + 3) n) (hi4 : vp_in (v + 4) n) (next : ∀ (S T : Sg), Rel S T → ∀ (H : Heap) (locs : List Loc) (ls : Array Slot), LW D cy LC LM S T s H locs → lv_has ls 4 [(0, .ref b), (1, .ref (LC 0)), (2, .ref (LM 0)), (3, .int v)] → W p l e room_1 s m #[Value.ref b] below meth c H locs 600000 7302250 Q (F0 m 1610 ls [])) (S T : Sg) (hR : Rel S T) (H : Heap) (locs : List Loc) (ls : Array Slot) (hW : LW D cy LC LM S T s H locs) (hl : lv_has ls 4 [(0, .ref b), (1, .ref (LC 0)), (2, .ref (LM 0)), (3, .int v)]) : W p l e room_1 s m #[Value.ref b] below meth c H locs 600000 7302250 Q (F0 m 753 ls []) := by
  obtain ⟨E, hC, hM, hCC, hMM, hdis, hX, hbl⟩ := X
  obtain ⟨hP1, hP2, hS⟩ := hW
  have hx := E.1
  have hb := E.2.1
  have hts := E.2.2.2.2
  have hbA : ¬ A0 s b := Nat.not_le.mpr hbl
  refine lv_aload_n hx hb dL_law_753 rfl (lv_at hl 1 rfl) ?_
  refine lv_aload_n hx hb dL_law_754 rfl (lv_at hl 0 rfl) ?_
  refine lv_iload_n hx hb dL_law_755 rfl (lv_at hl 3 rfl) ?_
  refine lv_iconst (v := 1) hx hb dL_law_756 (by decide) ?_
  refine lv_iadd hx hb dL_law_757 ?_
  refine va_sld hx hb hX hbl hbA hS hi1 dL_law_758 ?_
  obtain ⟨r, S', T', h1, h2, hR⟩ := e_heavy hR (xs (v + 1).toNatClampNeg)
  refine l_call (w := (.int r)) (LA := LC) (LB := LM) (As := [.int (xs (v + 1).toNatClampNeg)]) (rest := []) E hC hCC hdis hP1 hP2 hS hl.1 (c_X9_heavy (xs (v + 1).toNatClampNeg) r S S' h1) cv_L_87 rfl (by decide) rfl rfl rfl ⟨Nat.le_of_ble_eq_true rfl, Nat.le_of_ble_eq_true rfl⟩ ⟨Nat.le_refl _, Nat.le_refl _⟩ (Nat.le_of_ble_eq_true rfl) dL_law_759 (fun H locs hP1 hP2 hS => ?_)
  refine lv_aload_n hx hb dL_law_762 rfl (lv_at hl 2 rfl) ?_
  refine lv_aload_n hx hb dL_law_763 rfl (lv_at hl 0 rfl) ?_
  refine lv_iload_n hx hb dL_law_764 rfl (lv_at hl 3 rfl) ?_
  refine lv_iconst (v := 1) hx hb dL_law_765 (by decide) ?_
  refine lv_iadd hx hb dL_law_766 ?_
  refine va_sld hx hb hX hbl hbA hS hi1 dL_law_767 ?_
  refine l_call (w := (.int r)) (LA := LM) (LB := LC) (As := [.int (xs (v + 1).toNatClampNeg)]) (rest := [.int r]) E hM hMM (fun i j h h2 q => hdis j i h2 h q.symm) hP2 hP1 hS hl.1 (c_X10_heavy (xs (v + 1).toNatClampNeg) r T T' h2) cv_L_90 rfl (by decide) rfl rfl rfl ⟨Nat.le_of_ble_eq_true rfl, Nat.le_of_ble_eq_true rfl⟩ ⟨Nat.le_refl _, Nat.le_refl _⟩ (Nat.le_of_ble_eq_true rfl) dL_law_768 (fun H locs hP2 hP1 hS => ?_)
  refine lv_icmp_eq (tgt := 1610) hx hb dL_law_771 (by decide) (fun _ => ?_) (fun c9 => absurd rfl c9)
  exact next _ _ hR _ _ _ ⟨hP1, hP2, hS⟩ hl
set_option maxRecDepth 100000 in
set_option maxHeartbeats 4000000 in
theorem lcase_17 {p : Program} {l : Launch} {e : Env} {s : State} {m : MethodId} {below : List Frame} {meth : Method} {c : Code} {b n : Nat} {xs : Nat → Int32} {D : va_G} {cy : Nat → ClassId} {LC LM : Nat → Nat} {bA : Nat} {Q : State → Prop} (X : LX p s m c b n xs D cy LC LM bA) (v : Int32) (hi0 : vp_in v n) (hi1 : vp_in (v + 1) n) (hi2 : vp_in (v + 2) n) (hi3 : vp_in (v + 3) n) (hi4 : vp_in (v + 4) n) (next : ∀ (S T : Sg), Rel S T → ∀ (H : Heap) (locs : List Loc) (ls : Array Slot), LW D cy LC LM S T s H locs → lv_has ls 4 [(0, .ref b), (1, .ref (LC 0)), (2, .ref (LM 0)), (3, .int v)] → W p l e room_1 s m #[Value.ref b] below meth c H locs 600000 7302250 Q (F0 m 1610 ls [])) (S T : Sg) (hR : Rel S T) (H : Heap) (locs : List Loc) (ls : Array Slot) (hW : LW D cy LC LM S T s H locs) (hl : lv_has ls 4 [(0, .ref b), (1, .ref (LC 0)), (2, .ref (LM 0)), (3, .int v)]) : W p l e room_1 s m #[Value.ref b] below meth c H locs 600000 7302250 Q (F0 m 776 ls []) := by
  obtain ⟨E, hC, hM, hCC, hMM, hdis, hX, hbl⟩ := X
  obtain ⟨hP1, hP2, hS⟩ := hW
  have hx := E.1
  have hb := E.2.1
  have hts := E.2.2.2.2
  have hbA : ¬ A0 s b := Nat.not_le.mpr hbl
  refine lv_aload_n hx hb dL_law_776 rfl (lv_at hl 1 rfl) ?_
  refine lv_aload_n hx hb dL_law_777 rfl (lv_at hl 0 rfl) ?_
  refine lv_iload_n hx hb dL_law_778 rfl (lv_at hl 3 rfl) ?_
  refine lv_iconst (v := 1) hx hb dL_law_779 (by decide) ?_
  refine lv_iadd hx hb dL_law_780 ?_
  refine va_sld hx hb hX hbl hbA hS hi1 dL_law_781 ?_
  obtain ⟨r, S', h1, h2, hR⟩ := e_queue hR (xs (v + 1).toNatClampNeg)
  refine l_call (w := (.int r)) (LA := LC) (LB := LM) (As := [.int (xs (v + 1).toNatClampNeg)]) (rest := []) E hC hCC hdis hP1 hP2 hS hl.1 (c_X9_queue (xs (v + 1).toNatClampNeg) r S S' h1) cv_L_91 rfl (by decide) rfl rfl rfl ⟨Nat.le_of_ble_eq_true rfl, Nat.le_of_ble_eq_true rfl⟩ ⟨Nat.le_refl _, Nat.le_refl _⟩ (Nat.le_of_ble_eq_true rfl) dL_law_782 (fun H locs hP1 hP2 hS => ?_)
  refine lv_aload_n hx hb dL_law_785 rfl (lv_at hl 2 rfl) ?_
  refine lv_aload_n hx hb dL_law_786 rfl (lv_at hl 0 rfl) ?_
  refine lv_iload_n hx hb dL_law_787 rfl (lv_at hl 3 rfl) ?_
  refine lv_iconst (v := 1) hx hb dL_law_788 (by decide) ?_
  refine lv_iadd hx hb dL_law_789 ?_
  refine va_sld hx hb hX hbl hbA hS hi1 dL_law_790 ?_
  refine l_call (w := (.int r)) (LA := LM) (LB := LC) (As := [.int (xs (v + 1).toNatClampNeg)]) (rest := [.int r]) E hM hMM (fun i j h h2 q => hdis j i h2 h q.symm) hP2 hP1 hS hl.1 (c_X10_queue (xs (v + 1).toNatClampNeg) r T h2) cv_L_94 rfl (by decide) rfl rfl rfl ⟨Nat.le_of_ble_eq_true rfl, Nat.le_of_ble_eq_true rfl⟩ ⟨Nat.le_refl _, Nat.le_refl _⟩ (Nat.le_of_ble_eq_true rfl) dL_law_791 (fun H locs hP2 hP1 hS => ?_)
  refine lv_icmp_eq (tgt := 1610) hx hb dL_law_794 (by decide) (fun _ => ?_) (fun c9 => absurd rfl c9)
  exact next _ _ hR _ _ _ ⟨hP1, hP2, hS⟩ hl
set_option maxRecDepth 100000 in
set_option maxHeartbeats 4000000 in
theorem lcase_18 {p : Program} {l : Launch} {e : Env} {s : State} {m : MethodId} {below : List Frame} {meth : Method} {c : Code} {b n : Nat} {xs : Nat → Int32} {D : va_G} {cy : Nat → ClassId} {LC LM : Nat → Nat} {bA : Nat} {Q : State → Prop} (X : LX p s m c b n xs D cy LC LM bA) (v : Int32) (hi0 : vp_in v n) (hi1 : vp_in (v + 1) n) (hi2 : vp_in (v + 2) n) (hi3 : vp_in (v + 3) n) (hi4 : vp_in (v + 4) n) (next : ∀ (S T : Sg), Rel S T → ∀ (H : Heap) (locs : List Loc) (ls : Array Slot), LW D cy LC LM S T s H locs → lv_has ls 4 [(0, .ref b), (1, .ref (LC 0)), (2, .ref (LM 0)), (3, .int v)] → W p l e room_1 s m #[Value.ref b] below meth c H locs 600000 7302250 Q (F0 m 1610 ls [])) (S T : Sg) (hR : Rel S T) (H : Heap) (locs : List Loc) (ls : Array Slot) (hW : LW D cy LC LM S T s H locs) (hl : lv_has ls 4 [(0, .ref b), (1, .ref (LC 0)), (2, .ref (LM 0)), (3, .int v)]) : W p l e room_1 s m #[Value.ref b] below meth c H locs 600000 7302250 Q (F0 m 799 ls []) := by
  obtain ⟨E, hC, hM, hCC, hMM, hdis, hX, hbl⟩ := X
  obtain ⟨hP1, hP2, hS⟩ := hW
  have hx := E.1
  have hb := E.2.1
  have hts := E.2.2.2.2
  have hbA : ¬ A0 s b := Nat.not_le.mpr hbl
  refine lv_aload_n hx hb dL_law_799 rfl (lv_at hl 1 rfl) ?_
  refine lv_aload_n hx hb dL_law_800 rfl (lv_at hl 0 rfl) ?_
  refine lv_iload_n hx hb dL_law_801 rfl (lv_at hl 3 rfl) ?_
  refine lv_iconst (v := 1) hx hb dL_law_802 (by decide) ?_
  refine lv_iadd hx hb dL_law_803 ?_
  refine va_sld hx hb hX hbl hbA hS hi1 dL_law_804 ?_
  obtain ⟨r, S', T', h1, h2, hR⟩ := e_greedy hR (xs (v + 1).toNatClampNeg)
  refine l_call (w := (.int r)) (LA := LC) (LB := LM) (As := [.int (xs (v + 1).toNatClampNeg)]) (rest := []) E hC hCC hdis hP1 hP2 hS hl.1 (c_X9_greedy (xs (v + 1).toNatClampNeg) r S S' h1) cv_L_95 rfl (by decide) rfl rfl rfl ⟨Nat.le_of_ble_eq_true rfl, Nat.le_of_ble_eq_true rfl⟩ ⟨Nat.le_refl _, Nat.le_refl _⟩ (Nat.le_of_ble_eq_true rfl) dL_law_805 (fun H locs hP1 hP2 hS => ?_)
  refine lv_aload_n hx hb dL_law_808 rfl (lv_at hl 2 rfl) ?_
  refine lv_aload_n hx hb dL_law_809 rfl (lv_at hl 0 rfl) ?_
  refine lv_iload_n hx hb dL_law_810 rfl (lv_at hl 3 rfl) ?_
  refine lv_iconst (v := 1) hx hb dL_law_811 (by decide) ?_
  refine lv_iadd hx hb dL_law_812 ?_
  refine va_sld hx hb hX hbl hbA hS hi1 dL_law_813 ?_
  refine l_call (w := (.int r)) (LA := LM) (LB := LC) (As := [.int (xs (v + 1).toNatClampNeg)]) (rest := [.int r]) E hM hMM (fun i j h h2 q => hdis j i h2 h q.symm) hP2 hP1 hS hl.1 (c_X10_greedy (xs (v + 1).toNatClampNeg) r T T' h2) cv_L_98 rfl (by decide) rfl rfl rfl ⟨Nat.le_of_ble_eq_true rfl, Nat.le_of_ble_eq_true rfl⟩ ⟨Nat.le_refl _, Nat.le_refl _⟩ (Nat.le_of_ble_eq_true rfl) dL_law_814 (fun H locs hP2 hP1 hS => ?_)
  refine lv_icmp_eq (tgt := 1610) hx hb dL_law_817 (by decide) (fun _ => ?_) (fun c9 => absurd rfl c9)
  exact next _ _ hR _ _ _ ⟨hP1, hP2, hS⟩ hl
set_option maxRecDepth 100000 in
set_option maxHeartbeats 4000000 in
theorem lcase_19 {p : Program} {l : Launch} {e : Env} {s : State} {m : MethodId} {below : List Frame} {meth : Method} {c : Code} {b n : Nat} {xs : Nat → Int32} {D : va_G} {cy : Nat → ClassId} {LC LM : Nat → Nat} {bA : Nat} {Q : State → Prop} (X : LX p s m c b n xs D cy LC LM bA) (v : Int32) (hi0 : vp_in v n) (hi1 : vp_in (v + 1) n) (hi2 : vp_in (v + 2) n) (hi3 : vp_in (v + 3) n) (hi4 : vp_in (v + 4) n) (next : ∀ (S T : Sg), Rel S T → ∀ (H : Heap) (locs : List Loc) (ls : Array Slot), LW D cy LC LM S T s H locs → lv_has ls 4 [(0, .ref b), (1, .ref (LC 0)), (2, .ref (LM 0)), (3, .int v)] → W p l e room_1 s m #[Value.ref b] below meth c H locs 600000 7302250 Q (F0 m 1610 ls [])) (S T : Sg) (hR : Rel S T) (H : Heap) (locs : List Loc) (ls : Array Slot) (hW : LW D cy LC LM S T s H locs) (hl : lv_has ls 4 [(0, .ref b), (1, .ref (LC 0)), (2, .ref (LM 0)), (3, .int v)]) : W p l e room_1 s m #[Value.ref b] below meth c H locs 600000 7302250 Q (F0 m 822 ls []) := by
  obtain ⟨E, hC, hM, hCC, hMM, hdis, hX, hbl⟩ := X
  obtain ⟨hP1, hP2, hS⟩ := hW
  have hx := E.1
  have hb := E.2.1
  have hts := E.2.2.2.2
  have hbA : ¬ A0 s b := Nat.not_le.mpr hbl
  refine lv_aload_n hx hb dL_law_822 rfl (lv_at hl 1 rfl) ?_
  refine lv_aload_n hx hb dL_law_823 rfl (lv_at hl 0 rfl) ?_
  refine lv_iload_n hx hb dL_law_824 rfl (lv_at hl 3 rfl) ?_
  refine lv_iconst (v := 1) hx hb dL_law_825 (by decide) ?_
  refine lv_iadd hx hb dL_law_826 ?_
  refine va_sld hx hb hX hbl hbA hS hi1 dL_law_827 ?_
  obtain ⟨r, S', T', h1, h2, hR⟩ := e_better hR (xs (v + 1).toNatClampNeg)
  refine l_call (w := (.int r)) (LA := LC) (LB := LM) (As := [.int (xs (v + 1).toNatClampNeg)]) (rest := []) E hC hCC hdis hP1 hP2 hS hl.1 (c_X9_better (xs (v + 1).toNatClampNeg) r S S' h1) cv_L_99 rfl (by decide) rfl rfl rfl ⟨Nat.le_of_ble_eq_true rfl, Nat.le_of_ble_eq_true rfl⟩ ⟨Nat.le_refl _, Nat.le_refl _⟩ (Nat.le_of_ble_eq_true rfl) dL_law_828 (fun H locs hP1 hP2 hS => ?_)
  refine lv_aload_n hx hb dL_law_831 rfl (lv_at hl 2 rfl) ?_
  refine lv_aload_n hx hb dL_law_832 rfl (lv_at hl 0 rfl) ?_
  refine lv_iload_n hx hb dL_law_833 rfl (lv_at hl 3 rfl) ?_
  refine lv_iconst (v := 1) hx hb dL_law_834 (by decide) ?_
  refine lv_iadd hx hb dL_law_835 ?_
  refine va_sld hx hb hX hbl hbA hS hi1 dL_law_836 ?_
  refine l_call (w := (.int r)) (LA := LM) (LB := LC) (As := [.int (xs (v + 1).toNatClampNeg)]) (rest := [.int r]) E hM hMM (fun i j h h2 q => hdis j i h2 h q.symm) hP2 hP1 hS hl.1 (c_X10_better (xs (v + 1).toNatClampNeg) r T T' h2) cv_L_102 rfl (by decide) rfl rfl rfl ⟨Nat.le_of_ble_eq_true rfl, Nat.le_of_ble_eq_true rfl⟩ ⟨Nat.le_refl _, Nat.le_refl _⟩ (Nat.le_of_ble_eq_true rfl) dL_law_837 (fun H locs hP2 hP1 hS => ?_)
  refine lv_icmp_eq (tgt := 1610) hx hb dL_law_840 (by decide) (fun _ => ?_) (fun c9 => absurd rfl c9)
  exact next _ _ hR _ _ _ ⟨hP1, hP2, hS⟩ hl
set_option maxRecDepth 100000 in
set_option maxHeartbeats 4000000 in
theorem lcase_20 {p : Program} {l : Launch} {e : Env} {s : State} {m : MethodId} {below : List Frame} {meth : Method} {c : Code} {b n : Nat} {xs : Nat → Int32} {D : va_G} {cy : Nat → ClassId} {LC LM : Nat → Nat} {bA : Nat} {Q : State → Prop} (X : LX p s m c b n xs D cy LC LM bA) (v : Int32) (hi0 : vp_in v n) (hi1 : vp_in (v + 1) n) (hi2 : vp_in (v + 2) n) (hi3 : vp_in (v + 3) n) (hi4 : vp_in (v + 4) n) (next : ∀ (S T : Sg), Rel S T → ∀ (H : Heap) (locs : List Loc) (ls : Array Slot), LW D cy LC LM S T s H locs → lv_has ls 4 [(0, .ref b), (1, .ref (LC 0)), (2, .ref (LM 0)), (3, .int v)] → W p l e room_1 s m #[Value.ref b] below meth c H locs 600000 7302250 Q (F0 m 1610 ls [])) (S T : Sg) (hR : Rel S T) (H : Heap) (locs : List Loc) (ls : Array Slot) (hW : LW D cy LC LM S T s H locs) (hl : lv_has ls 4 [(0, .ref b), (1, .ref (LC 0)), (2, .ref (LM 0)), (3, .int v)]) : W p l e room_1 s m #[Value.ref b] below meth c H locs 600000 7302250 Q (F0 m 845 ls []) := by
  obtain ⟨E, hC, hM, hCC, hMM, hdis, hX, hbl⟩ := X
  obtain ⟨hP1, hP2, hS⟩ := hW
  have hx := E.1
  have hb := E.2.1
  have hts := E.2.2.2.2
  have hbA : ¬ A0 s b := Nat.not_le.mpr hbl
  refine lv_aload_n hx hb dL_law_845 rfl (lv_at hl 1 rfl) ?_
  refine lv_aload_n hx hb dL_law_846 rfl (lv_at hl 0 rfl) ?_
  refine lv_iload_n hx hb dL_law_847 rfl (lv_at hl 3 rfl) ?_
  refine lv_iconst (v := 1) hx hb dL_law_848 (by decide) ?_
  refine lv_iadd hx hb dL_law_849 ?_
  refine va_sld hx hb hX hbl hbA hS hi1 dL_law_850 ?_
  refine lv_aload_n hx hb dL_law_851 rfl (lv_at hl 0 rfl) ?_
  refine lv_iload_n hx hb dL_law_852 rfl (lv_at hl 3 rfl) ?_
  refine lv_iconst (v := 2) hx hb dL_law_853 (by decide) ?_
  refine lv_iadd hx hb dL_law_854 ?_
  refine va_sld hx hb hX hbl hbA hS hi2 dL_law_855 ?_
  refine lv_aload_n hx hb dL_law_856 rfl (lv_at hl 0 rfl) ?_
  refine lv_iload_n hx hb dL_law_857 rfl (lv_at hl 3 rfl) ?_
  refine lv_iconst (v := 3) hx hb dL_law_858 (by decide) ?_
  refine lv_iadd hx hb dL_law_859 ?_
  refine va_sld hx hb hX hbl hbA hS hi3 dL_law_860 ?_
  obtain ⟨r, S', T', h1, h2, hR⟩ := e_table hR (xs (v + 1).toNatClampNeg) (xs (v + 2).toNatClampNeg) (xs (v + 3).toNatClampNeg)
  refine l_call (w := (.int r)) (LA := LC) (LB := LM) (As := [.int (xs (v + 1).toNatClampNeg), .int (xs (v + 2).toNatClampNeg), .int (xs (v + 3).toNatClampNeg)]) (rest := []) E hC hCC hdis hP1 hP2 hS hl.1 (c_X9_table (xs (v + 1).toNatClampNeg) (xs (v + 2).toNatClampNeg) (xs (v + 3).toNatClampNeg) r S S' h1) cv_L_103 rfl (by decide) rfl rfl rfl ⟨Nat.le_of_ble_eq_true rfl, Nat.le_of_ble_eq_true rfl⟩ ⟨Nat.le_refl _, Nat.le_refl _⟩ (Nat.le_of_ble_eq_true rfl) dL_law_861 (fun H locs hP1 hP2 hS => ?_)
  refine lv_aload_n hx hb dL_law_864 rfl (lv_at hl 2 rfl) ?_
  refine lv_aload_n hx hb dL_law_865 rfl (lv_at hl 0 rfl) ?_
  refine lv_iload_n hx hb dL_law_866 rfl (lv_at hl 3 rfl) ?_
  refine lv_iconst (v := 1) hx hb dL_law_867 (by decide) ?_
  refine lv_iadd hx hb dL_law_868 ?_
  refine va_sld hx hb hX hbl hbA hS hi1 dL_law_869 ?_
  refine lv_aload_n hx hb dL_law_870 rfl (lv_at hl 0 rfl) ?_
  refine lv_iload_n hx hb dL_law_871 rfl (lv_at hl 3 rfl) ?_
  refine lv_iconst (v := 2) hx hb dL_law_872 (by decide) ?_
  refine lv_iadd hx hb dL_law_873 ?_
  refine va_sld hx hb hX hbl hbA hS hi2 dL_law_874 ?_
  refine lv_aload_n hx hb dL_law_875 rfl (lv_at hl 0 rfl) ?_
  refine lv_iload_n hx hb dL_law_876 rfl (lv_at hl 3 rfl) ?_
  refine lv_iconst (v := 3) hx hb dL_law_877 (by decide) ?_
  refine lv_iadd hx hb dL_law_878 ?_
  refine va_sld hx hb hX hbl hbA hS hi3 dL_law_879 ?_
  refine l_call (w := (.int r)) (LA := LM) (LB := LC) (As := [.int (xs (v + 1).toNatClampNeg), .int (xs (v + 2).toNatClampNeg), .int (xs (v + 3).toNatClampNeg)]) (rest := [.int r]) E hM hMM (fun i j h h2 q => hdis j i h2 h q.symm) hP2 hP1 hS hl.1 (c_X10_table (xs (v + 1).toNatClampNeg) (xs (v + 2).toNatClampNeg) (xs (v + 3).toNatClampNeg) r T T' h2) cv_L_106 rfl (by decide) rfl rfl rfl ⟨Nat.le_of_ble_eq_true rfl, Nat.le_of_ble_eq_true rfl⟩ ⟨Nat.le_refl _, Nat.le_refl _⟩ (Nat.le_of_ble_eq_true rfl) dL_law_880 (fun H locs hP2 hP1 hS => ?_)
  refine lv_icmp_eq (tgt := 1610) hx hb dL_law_883 (by decide) (fun _ => ?_) (fun c9 => absurd rfl c9)
  exact next _ _ hR _ _ _ ⟨hP1, hP2, hS⟩ hl
set_option maxRecDepth 100000 in
set_option maxHeartbeats 4000000 in
theorem lcase_21 {p : Program} {l : Launch} {e : Env} {s : State} {m : MethodId} {below : List Frame} {meth : Method} {c : Code} {b n : Nat} {xs : Nat → Int32} {D : va_G} {cy : Nat → ClassId} {LC LM : Nat → Nat} {bA : Nat} {Q : State → Prop} (X : LX p s m c b n xs D cy LC LM bA) (v : Int32) (hi0 : vp_in v n) (hi1 : vp_in (v + 1) n) (hi2 : vp_in (v + 2) n) (hi3 : vp_in (v + 3) n) (hi4 : vp_in (v + 4) n) (next : ∀ (S T : Sg), Rel S T → ∀ (H : Heap) (locs : List Loc) (ls : Array Slot), LW D cy LC LM S T s H locs → lv_has ls 4 [(0, .ref b), (1, .ref (LC 0)), (2, .ref (LM 0)), (3, .int v)] → W p l e room_1 s m #[Value.ref b] below meth c H locs 600000 7302250 Q (F0 m 1610 ls [])) (S T : Sg) (hR : Rel S T) (H : Heap) (locs : List Loc) (ls : Array Slot) (hW : LW D cy LC LM S T s H locs) (hl : lv_has ls 4 [(0, .ref b), (1, .ref (LC 0)), (2, .ref (LM 0)), (3, .int v)]) : W p l e room_1 s m #[Value.ref b] below meth c H locs 600000 7302250 Q (F0 m 888 ls []) := by
  obtain ⟨E, hC, hM, hCC, hMM, hdis, hX, hbl⟩ := X
  obtain ⟨hP1, hP2, hS⟩ := hW
  have hx := E.1
  have hb := E.2.1
  have hts := E.2.2.2.2
  have hbA : ¬ A0 s b := Nat.not_le.mpr hbl
  refine lv_aload_n hx hb dL_law_888 rfl (lv_at hl 1 rfl) ?_
  refine lv_aload_n hx hb dL_law_889 rfl (lv_at hl 0 rfl) ?_
  refine lv_iload_n hx hb dL_law_890 rfl (lv_at hl 3 rfl) ?_
  refine lv_iconst (v := 1) hx hb dL_law_891 (by decide) ?_
  refine lv_iadd hx hb dL_law_892 ?_
  refine va_sld hx hb hX hbl hbA hS hi1 dL_law_893 ?_
  obtain ⟨r, S', T', h1, h2, hR⟩ := e_half hR (xs (v + 1).toNatClampNeg)
  refine l_call (w := (.int r)) (LA := LC) (LB := LM) (As := [.int (xs (v + 1).toNatClampNeg)]) (rest := []) E hC hCC hdis hP1 hP2 hS hl.1 (c_X9_half (xs (v + 1).toNatClampNeg) r S S' h1) cv_L_107 rfl (by decide) rfl rfl rfl ⟨Nat.le_of_ble_eq_true rfl, Nat.le_of_ble_eq_true rfl⟩ ⟨Nat.le_refl _, Nat.le_refl _⟩ (Nat.le_of_ble_eq_true rfl) dL_law_894 (fun H locs hP1 hP2 hS => ?_)
  refine lv_aload_n hx hb dL_law_897 rfl (lv_at hl 2 rfl) ?_
  refine lv_aload_n hx hb dL_law_898 rfl (lv_at hl 0 rfl) ?_
  refine lv_iload_n hx hb dL_law_899 rfl (lv_at hl 3 rfl) ?_
  refine lv_iconst (v := 1) hx hb dL_law_900 (by decide) ?_
  refine lv_iadd hx hb dL_law_901 ?_
  refine va_sld hx hb hX hbl hbA hS hi1 dL_law_902 ?_
  refine l_call (w := (.int r)) (LA := LM) (LB := LC) (As := [.int (xs (v + 1).toNatClampNeg)]) (rest := [.int r]) E hM hMM (fun i j h h2 q => hdis j i h2 h q.symm) hP2 hP1 hS hl.1 (c_X10_half (xs (v + 1).toNatClampNeg) r T T' h2) cv_L_110 rfl (by decide) rfl rfl rfl ⟨Nat.le_of_ble_eq_true rfl, Nat.le_of_ble_eq_true rfl⟩ ⟨Nat.le_refl _, Nat.le_refl _⟩ (Nat.le_of_ble_eq_true rfl) dL_law_903 (fun H locs hP2 hP1 hS => ?_)
  refine lv_icmp_eq (tgt := 1610) hx hb dL_law_906 (by decide) (fun _ => ?_) (fun c9 => absurd rfl c9)
  exact next _ _ hR _ _ _ ⟨hP1, hP2, hS⟩ hl
set_option maxRecDepth 100000 in
set_option maxHeartbeats 4000000 in
theorem lcase_22 {p : Program} {l : Launch} {e : Env} {s : State} {m : MethodId} {below : List Frame} {meth : Method} {c : Code} {b n : Nat} {xs : Nat → Int32} {D : va_G} {cy : Nat → ClassId} {LC LM : Nat → Nat} {bA : Nat} {Q : State → Prop} (X : LX p s m c b n xs D cy LC LM bA) (v : Int32) (hi0 : vp_in v n) (hi1 : vp_in (v + 1) n) (hi2 : vp_in (v + 2) n) (hi3 : vp_in (v + 3) n) (hi4 : vp_in (v + 4) n) (next : ∀ (S T : Sg), Rel S T → ∀ (H : Heap) (locs : List Loc) (ls : Array Slot), LW D cy LC LM S T s H locs → lv_has ls 4 [(0, .ref b), (1, .ref (LC 0)), (2, .ref (LM 0)), (3, .int v)] → W p l e room_1 s m #[Value.ref b] below meth c H locs 600000 7302250 Q (F0 m 1610 ls [])) (S T : Sg) (hR : Rel S T) (H : Heap) (locs : List Loc) (ls : Array Slot) (hW : LW D cy LC LM S T s H locs) (hl : lv_has ls 4 [(0, .ref b), (1, .ref (LC 0)), (2, .ref (LM 0)), (3, .int v)]) : W p l e room_1 s m #[Value.ref b] below meth c H locs 600000 7302250 Q (F0 m 911 ls []) := by
  obtain ⟨E, hC, hM, hCC, hMM, hdis, hX, hbl⟩ := X
  obtain ⟨hP1, hP2, hS⟩ := hW
  have hx := E.1
  have hb := E.2.1
  have hts := E.2.2.2.2
  have hbA : ¬ A0 s b := Nat.not_le.mpr hbl
  refine lv_aload_n hx hb dL_law_911 rfl (lv_at hl 1 rfl) ?_
  refine lv_aload_n hx hb dL_law_912 rfl (lv_at hl 0 rfl) ?_
  refine lv_iload_n hx hb dL_law_913 rfl (lv_at hl 3 rfl) ?_
  refine lv_iconst (v := 1) hx hb dL_law_914 (by decide) ?_
  refine lv_iadd hx hb dL_law_915 ?_
  refine va_sld hx hb hX hbl hbA hS hi1 dL_law_916 ?_
  obtain ⟨r, S', T', h1, h2, hR⟩ := e_root hR (xs (v + 1).toNatClampNeg)
  refine l_call (w := (.long r)) (LA := LC) (LB := LM) (As := [.int (xs (v + 1).toNatClampNeg)]) (rest := []) E hC hCC hdis hP1 hP2 hS hl.1 (c_X9_root (xs (v + 1).toNatClampNeg) r S S' h1) cv_L_111 rfl (by decide) rfl rfl rfl ⟨Nat.le_of_ble_eq_true rfl, Nat.le_of_ble_eq_true rfl⟩ ⟨Nat.le_refl _, Nat.le_refl _⟩ (Nat.le_of_ble_eq_true rfl) dL_law_917 (fun H locs hP1 hP2 hS => ?_)
  refine lv_aload_n hx hb dL_law_920 rfl (lv_at hl 2 rfl) ?_
  refine lv_aload_n hx hb dL_law_921 rfl (lv_at hl 0 rfl) ?_
  refine lv_iload_n hx hb dL_law_922 rfl (lv_at hl 3 rfl) ?_
  refine lv_iconst (v := 1) hx hb dL_law_923 (by decide) ?_
  refine lv_iadd hx hb dL_law_924 ?_
  refine va_sld hx hb hX hbl hbA hS hi1 dL_law_925 ?_
  refine l_call (w := (.long r)) (LA := LM) (LB := LC) (As := [.int (xs (v + 1).toNatClampNeg)]) (rest := [.long r]) E hM hMM (fun i j h h2 q => hdis j i h2 h q.symm) hP2 hP1 hS hl.1 (c_X10_root (xs (v + 1).toNatClampNeg) r T T' h2) cv_L_114 rfl (by decide) rfl rfl rfl ⟨Nat.le_of_ble_eq_true rfl, Nat.le_of_ble_eq_true rfl⟩ ⟨Nat.le_refl _, Nat.le_refl _⟩ (Nat.le_of_ble_eq_true rfl) dL_law_926 (fun H locs hP2 hP1 hS => ?_)
  refine W.lcmp hx hb dL_law_929 ?_
  rw [lg_cmp_self]
  refine lv_if_eq (tgt := 1610) hx hb dL_law_930 (by decide) (fun _ => ?_) (fun c9 => absurd rfl c9)
  exact next _ _ hR _ _ _ ⟨hP1, hP2, hS⟩ hl
set_option maxRecDepth 100000 in
set_option maxHeartbeats 4000000 in
theorem lcase_23 {p : Program} {l : Launch} {e : Env} {s : State} {m : MethodId} {below : List Frame} {meth : Method} {c : Code} {b n : Nat} {xs : Nat → Int32} {D : va_G} {cy : Nat → ClassId} {LC LM : Nat → Nat} {bA : Nat} {Q : State → Prop} (X : LX p s m c b n xs D cy LC LM bA) (v : Int32) (hi0 : vp_in v n) (hi1 : vp_in (v + 1) n) (hi2 : vp_in (v + 2) n) (hi3 : vp_in (v + 3) n) (hi4 : vp_in (v + 4) n) (next : ∀ (S T : Sg), Rel S T → ∀ (H : Heap) (locs : List Loc) (ls : Array Slot), LW D cy LC LM S T s H locs → lv_has ls 4 [(0, .ref b), (1, .ref (LC 0)), (2, .ref (LM 0)), (3, .int v)] → W p l e room_1 s m #[Value.ref b] below meth c H locs 600000 7302250 Q (F0 m 1610 ls [])) (S T : Sg) (hR : Rel S T) (H : Heap) (locs : List Loc) (ls : Array Slot) (hW : LW D cy LC LM S T s H locs) (hl : lv_has ls 4 [(0, .ref b), (1, .ref (LC 0)), (2, .ref (LM 0)), (3, .int v)]) : W p l e room_1 s m #[Value.ref b] below meth c H locs 600000 7302250 Q (F0 m 935 ls []) := by
  obtain ⟨E, hC, hM, hCC, hMM, hdis, hX, hbl⟩ := X
  obtain ⟨hP1, hP2, hS⟩ := hW
  have hx := E.1
  have hb := E.2.1
  have hts := E.2.2.2.2
  have hbA : ¬ A0 s b := Nat.not_le.mpr hbl
  refine lv_aload_n hx hb dL_law_935 rfl (lv_at hl 1 rfl) ?_
  refine lv_aload_n hx hb dL_law_936 rfl (lv_at hl 0 rfl) ?_
  refine lv_iload_n hx hb dL_law_937 rfl (lv_at hl 3 rfl) ?_
  refine lv_iconst (v := 1) hx hb dL_law_938 (by decide) ?_
  refine lv_iadd hx hb dL_law_939 ?_
  refine va_sld hx hb hX hbl hbA hS hi1 dL_law_940 ?_
  refine lv_aload_n hx hb dL_law_941 rfl (lv_at hl 0 rfl) ?_
  refine lv_iload_n hx hb dL_law_942 rfl (lv_at hl 3 rfl) ?_
  refine lv_iconst (v := 2) hx hb dL_law_943 (by decide) ?_
  refine lv_iadd hx hb dL_law_944 ?_
  refine va_sld hx hb hX hbl hbA hS hi2 dL_law_945 ?_
  obtain ⟨r, S', T', h1, h2, hR⟩ := e_claim hR (xs (v + 1).toNatClampNeg) (xs (v + 2).toNatClampNeg)
  refine l_call (w := (.int r)) (LA := LC) (LB := LM) (As := [.int (xs (v + 1).toNatClampNeg), .int (xs (v + 2).toNatClampNeg)]) (rest := []) E hC hCC hdis hP1 hP2 hS hl.1 (c_X9_claim (xs (v + 1).toNatClampNeg) (xs (v + 2).toNatClampNeg) r S S' h1) cv_L_115 rfl (by decide) rfl rfl rfl ⟨Nat.le_of_ble_eq_true rfl, Nat.le_of_ble_eq_true rfl⟩ ⟨Nat.le_refl _, Nat.le_refl _⟩ (Nat.le_of_ble_eq_true rfl) dL_law_946 (fun H locs hP1 hP2 hS => ?_)
  refine lv_aload_n hx hb dL_law_949 rfl (lv_at hl 2 rfl) ?_
  refine lv_aload_n hx hb dL_law_950 rfl (lv_at hl 0 rfl) ?_
  refine lv_iload_n hx hb dL_law_951 rfl (lv_at hl 3 rfl) ?_
  refine lv_iconst (v := 1) hx hb dL_law_952 (by decide) ?_
  refine lv_iadd hx hb dL_law_953 ?_
  refine va_sld hx hb hX hbl hbA hS hi1 dL_law_954 ?_
  refine lv_aload_n hx hb dL_law_955 rfl (lv_at hl 0 rfl) ?_
  refine lv_iload_n hx hb dL_law_956 rfl (lv_at hl 3 rfl) ?_
  refine lv_iconst (v := 2) hx hb dL_law_957 (by decide) ?_
  refine lv_iadd hx hb dL_law_958 ?_
  refine va_sld hx hb hX hbl hbA hS hi2 dL_law_959 ?_
  refine l_call (w := (.int r)) (LA := LM) (LB := LC) (As := [.int (xs (v + 1).toNatClampNeg), .int (xs (v + 2).toNatClampNeg)]) (rest := [.int r]) E hM hMM (fun i j h h2 q => hdis j i h2 h q.symm) hP2 hP1 hS hl.1 (c_X10_claim (xs (v + 1).toNatClampNeg) (xs (v + 2).toNatClampNeg) r T T' h2) cv_L_118 rfl (by decide) rfl rfl rfl ⟨Nat.le_of_ble_eq_true rfl, Nat.le_of_ble_eq_true rfl⟩ ⟨Nat.le_refl _, Nat.le_refl _⟩ (Nat.le_of_ble_eq_true rfl) dL_law_960 (fun H locs hP2 hP1 hS => ?_)
  refine lv_icmp_eq (tgt := 1610) hx hb dL_law_963 (by decide) (fun _ => ?_) (fun c9 => absurd rfl c9)
  exact next _ _ hR _ _ _ ⟨hP1, hP2, hS⟩ hl
set_option maxRecDepth 100000 in
set_option maxHeartbeats 4000000 in
theorem lcase_24 {p : Program} {l : Launch} {e : Env} {s : State} {m : MethodId} {below : List Frame} {meth : Method} {c : Code} {b n : Nat} {xs : Nat → Int32} {D : va_G} {cy : Nat → ClassId} {LC LM : Nat → Nat} {bA : Nat} {Q : State → Prop} (X : LX p s m c b n xs D cy LC LM bA) (v : Int32) (hi0 : vp_in v n) (hi1 : vp_in (v + 1) n) (hi2 : vp_in (v + 2) n) (hi3 : vp_in (v + 3) n) (hi4 : vp_in (v + 4) n) (next : ∀ (S T : Sg), Rel S T → ∀ (H : Heap) (locs : List Loc) (ls : Array Slot), LW D cy LC LM S T s H locs → lv_has ls 4 [(0, .ref b), (1, .ref (LC 0)), (2, .ref (LM 0)), (3, .int v)] → W p l e room_1 s m #[Value.ref b] below meth c H locs 600000 7302250 Q (F0 m 1610 ls [])) (S T : Sg) (hR : Rel S T) (H : Heap) (locs : List Loc) (ls : Array Slot) (hW : LW D cy LC LM S T s H locs) (hl : lv_has ls 4 [(0, .ref b), (1, .ref (LC 0)), (2, .ref (LM 0)), (3, .int v)]) : W p l e room_1 s m #[Value.ref b] below meth c H locs 600000 7302250 Q (F0 m 968 ls []) := by
  obtain ⟨E, hC, hM, hCC, hMM, hdis, hX, hbl⟩ := X
  obtain ⟨hP1, hP2, hS⟩ := hW
  have hx := E.1
  have hb := E.2.1
  have hts := E.2.2.2.2
  have hbA : ¬ A0 s b := Nat.not_le.mpr hbl
  refine lv_aload_n hx hb dL_law_968 rfl (lv_at hl 1 rfl) ?_
  refine lv_aload_n hx hb dL_law_969 rfl (lv_at hl 0 rfl) ?_
  refine lv_iload_n hx hb dL_law_970 rfl (lv_at hl 3 rfl) ?_
  refine lv_iconst (v := 1) hx hb dL_law_971 (by decide) ?_
  refine lv_iadd hx hb dL_law_972 ?_
  refine va_sld hx hb hX hbl hbA hS hi1 dL_law_973 ?_
  refine lv_aload_n hx hb dL_law_974 rfl (lv_at hl 0 rfl) ?_
  refine lv_iload_n hx hb dL_law_975 rfl (lv_at hl 3 rfl) ?_
  refine lv_iconst (v := 2) hx hb dL_law_976 (by decide) ?_
  refine lv_iadd hx hb dL_law_977 ?_
  refine va_sld hx hb hX hbl hbA hS hi2 dL_law_978 ?_
  obtain ⟨r, S', T', h1, h2, hR⟩ := e_sure hR (xs (v + 1).toNatClampNeg) (xs (v + 2).toNatClampNeg)
  refine l_call (w := (.int r)) (LA := LC) (LB := LM) (As := [.int (xs (v + 1).toNatClampNeg), .int (xs (v + 2).toNatClampNeg)]) (rest := []) E hC hCC hdis hP1 hP2 hS hl.1 (c_X9_sure (xs (v + 1).toNatClampNeg) (xs (v + 2).toNatClampNeg) r S S' h1) cv_L_119 rfl (by decide) rfl rfl rfl ⟨Nat.le_of_ble_eq_true rfl, Nat.le_of_ble_eq_true rfl⟩ ⟨Nat.le_refl _, Nat.le_refl _⟩ (Nat.le_of_ble_eq_true rfl) dL_law_979 (fun H locs hP1 hP2 hS => ?_)
  refine lv_aload_n hx hb dL_law_982 rfl (lv_at hl 2 rfl) ?_
  refine lv_aload_n hx hb dL_law_983 rfl (lv_at hl 0 rfl) ?_
  refine lv_iload_n hx hb dL_law_984 rfl (lv_at hl 3 rfl) ?_
  refine lv_iconst (v := 1) hx hb dL_law_985 (by decide) ?_
  refine lv_iadd hx hb dL_law_986 ?_
  refine va_sld hx hb hX hbl hbA hS hi1 dL_law_987 ?_
  refine lv_aload_n hx hb dL_law_988 rfl (lv_at hl 0 rfl) ?_
  refine lv_iload_n hx hb dL_law_989 rfl (lv_at hl 3 rfl) ?_
  refine lv_iconst (v := 2) hx hb dL_law_990 (by decide) ?_
  refine lv_iadd hx hb dL_law_991 ?_
  refine va_sld hx hb hX hbl hbA hS hi2 dL_law_992 ?_
  refine l_call (w := (.int r)) (LA := LM) (LB := LC) (As := [.int (xs (v + 1).toNatClampNeg), .int (xs (v + 2).toNatClampNeg)]) (rest := [.int r]) E hM hMM (fun i j h h2 q => hdis j i h2 h q.symm) hP2 hP1 hS hl.1 (c_X10_sure (xs (v + 1).toNatClampNeg) (xs (v + 2).toNatClampNeg) r T T' h2) cv_L_122 rfl (by decide) rfl rfl rfl ⟨Nat.le_of_ble_eq_true rfl, Nat.le_of_ble_eq_true rfl⟩ ⟨Nat.le_refl _, Nat.le_refl _⟩ (Nat.le_of_ble_eq_true rfl) dL_law_993 (fun H locs hP2 hP1 hS => ?_)
  refine lv_icmp_eq (tgt := 1610) hx hb dL_law_996 (by decide) (fun _ => ?_) (fun c9 => absurd rfl c9)
  exact next _ _ hR _ _ _ ⟨hP1, hP2, hS⟩ hl
set_option maxRecDepth 100000 in
set_option maxHeartbeats 4000000 in
theorem lcase_25 {p : Program} {l : Launch} {e : Env} {s : State} {m : MethodId} {below : List Frame} {meth : Method} {c : Code} {b n : Nat} {xs : Nat → Int32} {D : va_G} {cy : Nat → ClassId} {LC LM : Nat → Nat} {bA : Nat} {Q : State → Prop} (X : LX p s m c b n xs D cy LC LM bA) (v : Int32) (hi0 : vp_in v n) (hi1 : vp_in (v + 1) n) (hi2 : vp_in (v + 2) n) (hi3 : vp_in (v + 3) n) (hi4 : vp_in (v + 4) n) (next : ∀ (S T : Sg), Rel S T → ∀ (H : Heap) (locs : List Loc) (ls : Array Slot), LW D cy LC LM S T s H locs → lv_has ls 4 [(0, .ref b), (1, .ref (LC 0)), (2, .ref (LM 0)), (3, .int v)] → W p l e room_1 s m #[Value.ref b] below meth c H locs 600000 7302250 Q (F0 m 1610 ls [])) (S T : Sg) (hR : Rel S T) (H : Heap) (locs : List Loc) (ls : Array Slot) (hW : LW D cy LC LM S T s H locs) (hl : lv_has ls 4 [(0, .ref b), (1, .ref (LC 0)), (2, .ref (LM 0)), (3, .int v)]) : W p l e room_1 s m #[Value.ref b] below meth c H locs 600000 7302250 Q (F0 m 1001 ls []) := by
  obtain ⟨E, hC, hM, hCC, hMM, hdis, hX, hbl⟩ := X
  obtain ⟨hP1, hP2, hS⟩ := hW
  have hx := E.1
  have hb := E.2.1
  have hts := E.2.2.2.2
  have hbA : ¬ A0 s b := Nat.not_le.mpr hbl
  refine lv_aload_n hx hb dL_law_1001 rfl (lv_at hl 1 rfl) ?_
  refine lv_aload_n hx hb dL_law_1002 rfl (lv_at hl 0 rfl) ?_
  refine lv_iload_n hx hb dL_law_1003 rfl (lv_at hl 3 rfl) ?_
  refine lv_iconst (v := 1) hx hb dL_law_1004 (by decide) ?_
  refine lv_iadd hx hb dL_law_1005 ?_
  refine va_sld hx hb hX hbl hbA hS hi1 dL_law_1006 ?_
  refine lv_aload_n hx hb dL_law_1007 rfl (lv_at hl 0 rfl) ?_
  refine lv_iload_n hx hb dL_law_1008 rfl (lv_at hl 3 rfl) ?_
  refine lv_iconst (v := 2) hx hb dL_law_1009 (by decide) ?_
  refine lv_iadd hx hb dL_law_1010 ?_
  refine va_sld hx hb hX hbl hbA hS hi2 dL_law_1011 ?_
  obtain ⟨r, S', T', h1, h2, hR⟩ := e_cover hR (xs (v + 1).toNatClampNeg) (xs (v + 2).toNatClampNeg)
  refine l_call (w := (.int r)) (LA := LC) (LB := LM) (As := [.int (xs (v + 1).toNatClampNeg), .int (xs (v + 2).toNatClampNeg)]) (rest := []) E hC hCC hdis hP1 hP2 hS hl.1 (c_X9_cover (xs (v + 1).toNatClampNeg) (xs (v + 2).toNatClampNeg) r S S' h1) cv_L_123 rfl (by decide) rfl rfl rfl ⟨Nat.le_of_ble_eq_true rfl, Nat.le_of_ble_eq_true rfl⟩ ⟨Nat.le_refl _, Nat.le_refl _⟩ (Nat.le_of_ble_eq_true rfl) dL_law_1012 (fun H locs hP1 hP2 hS => ?_)
  refine lv_aload_n hx hb dL_law_1015 rfl (lv_at hl 2 rfl) ?_
  refine lv_aload_n hx hb dL_law_1016 rfl (lv_at hl 0 rfl) ?_
  refine lv_iload_n hx hb dL_law_1017 rfl (lv_at hl 3 rfl) ?_
  refine lv_iconst (v := 1) hx hb dL_law_1018 (by decide) ?_
  refine lv_iadd hx hb dL_law_1019 ?_
  refine va_sld hx hb hX hbl hbA hS hi1 dL_law_1020 ?_
  refine lv_aload_n hx hb dL_law_1021 rfl (lv_at hl 0 rfl) ?_
  refine lv_iload_n hx hb dL_law_1022 rfl (lv_at hl 3 rfl) ?_
  refine lv_iconst (v := 2) hx hb dL_law_1023 (by decide) ?_
  refine lv_iadd hx hb dL_law_1024 ?_
  refine va_sld hx hb hX hbl hbA hS hi2 dL_law_1025 ?_
  refine l_call (w := (.int r)) (LA := LM) (LB := LC) (As := [.int (xs (v + 1).toNatClampNeg), .int (xs (v + 2).toNatClampNeg)]) (rest := [.int r]) E hM hMM (fun i j h h2 q => hdis j i h2 h q.symm) hP2 hP1 hS hl.1 (c_X10_cover (xs (v + 1).toNatClampNeg) (xs (v + 2).toNatClampNeg) r T T' h2) cv_L_126 rfl (by decide) rfl rfl rfl ⟨Nat.le_of_ble_eq_true rfl, Nat.le_of_ble_eq_true rfl⟩ ⟨Nat.le_refl _, Nat.le_refl _⟩ (Nat.le_of_ble_eq_true rfl) dL_law_1026 (fun H locs hP2 hP1 hS => ?_)
  refine lv_icmp_eq (tgt := 1610) hx hb dL_law_1029 (by decide) (fun _ => ?_) (fun c9 => absurd rfl c9)
  exact next _ _ hR _ _ _ ⟨hP1, hP2, hS⟩ hl
set_option maxRecDepth 100000 in
set_option maxHeartbeats 4000000 in
theorem lcase_26 {p : Program} {l : Launch} {e : Env} {s : State} {m : MethodId} {below : List Frame} {meth : Method} {c : Code} {b n : Nat} {xs : Nat → Int32} {D : va_G} {cy : Nat → ClassId} {LC LM : Nat → Nat} {bA : Nat} {Q : State → Prop} (X : LX p s m c b n xs D cy LC LM bA) (v : Int32) (hi0 : vp_in v n) (hi1 : vp_in (v + 1) n) (hi2 : vp_in (v + 2) n) (hi3 : vp_in (v + 3) n) (hi4 : vp_in (v + 4) n) (next : ∀ (S T : Sg), Rel S T → ∀ (H : Heap) (locs : List Loc) (ls : Array Slot), LW D cy LC LM S T s H locs → lv_has ls 4 [(0, .ref b), (1, .ref (LC 0)), (2, .ref (LM 0)), (3, .int v)] → W p l e room_1 s m #[Value.ref b] below meth c H locs 600000 7302250 Q (F0 m 1610 ls [])) (S T : Sg) (hR : Rel S T) (H : Heap) (locs : List Loc) (ls : Array Slot) (hW : LW D cy LC LM S T s H locs) (hl : lv_has ls 4 [(0, .ref b), (1, .ref (LC 0)), (2, .ref (LM 0)), (3, .int v)]) : W p l e room_1 s m #[Value.ref b] below meth c H locs 600000 7302250 Q (F0 m 1034 ls []) := by
  obtain ⟨E, hC, hM, hCC, hMM, hdis, hX, hbl⟩ := X
  obtain ⟨hP1, hP2, hS⟩ := hW
  have hx := E.1
  have hb := E.2.1
  have hts := E.2.2.2.2
  have hbA : ¬ A0 s b := Nat.not_le.mpr hbl
  refine lv_aload_n hx hb dL_law_1034 rfl (lv_at hl 1 rfl) ?_
  refine lv_aload_n hx hb dL_law_1035 rfl (lv_at hl 0 rfl) ?_
  refine lv_iload_n hx hb dL_law_1036 rfl (lv_at hl 3 rfl) ?_
  refine lv_iconst (v := 1) hx hb dL_law_1037 (by decide) ?_
  refine lv_iadd hx hb dL_law_1038 ?_
  refine va_sld hx hb hX hbl hbA hS hi1 dL_law_1039 ?_
  refine lv_aload_n hx hb dL_law_1040 rfl (lv_at hl 0 rfl) ?_
  refine lv_iload_n hx hb dL_law_1041 rfl (lv_at hl 3 rfl) ?_
  refine lv_iconst (v := 2) hx hb dL_law_1042 (by decide) ?_
  refine lv_iadd hx hb dL_law_1043 ?_
  refine va_sld hx hb hX hbl hbA hS hi2 dL_law_1044 ?_
  obtain ⟨r, S', T', h1, h2, hR⟩ := e_cheap hR (xs (v + 1).toNatClampNeg) (xs (v + 2).toNatClampNeg)
  refine l_call (w := (.int r)) (LA := LC) (LB := LM) (As := [.int (xs (v + 1).toNatClampNeg), .int (xs (v + 2).toNatClampNeg)]) (rest := []) E hC hCC hdis hP1 hP2 hS hl.1 (c_X9_cheap (xs (v + 1).toNatClampNeg) (xs (v + 2).toNatClampNeg) r S S' h1) cv_L_127 rfl (by decide) rfl rfl rfl ⟨Nat.le_of_ble_eq_true rfl, Nat.le_of_ble_eq_true rfl⟩ ⟨Nat.le_refl _, Nat.le_refl _⟩ (Nat.le_of_ble_eq_true rfl) dL_law_1045 (fun H locs hP1 hP2 hS => ?_)
  refine lv_aload_n hx hb dL_law_1048 rfl (lv_at hl 2 rfl) ?_
  refine lv_aload_n hx hb dL_law_1049 rfl (lv_at hl 0 rfl) ?_
  refine lv_iload_n hx hb dL_law_1050 rfl (lv_at hl 3 rfl) ?_
  refine lv_iconst (v := 1) hx hb dL_law_1051 (by decide) ?_
  refine lv_iadd hx hb dL_law_1052 ?_
  refine va_sld hx hb hX hbl hbA hS hi1 dL_law_1053 ?_
  refine lv_aload_n hx hb dL_law_1054 rfl (lv_at hl 0 rfl) ?_
  refine lv_iload_n hx hb dL_law_1055 rfl (lv_at hl 3 rfl) ?_
  refine lv_iconst (v := 2) hx hb dL_law_1056 (by decide) ?_
  refine lv_iadd hx hb dL_law_1057 ?_
  refine va_sld hx hb hX hbl hbA hS hi2 dL_law_1058 ?_
  refine l_call (w := (.int r)) (LA := LM) (LB := LC) (As := [.int (xs (v + 1).toNatClampNeg), .int (xs (v + 2).toNatClampNeg)]) (rest := [.int r]) E hM hMM (fun i j h h2 q => hdis j i h2 h q.symm) hP2 hP1 hS hl.1 (c_X10_cheap (xs (v + 1).toNatClampNeg) (xs (v + 2).toNatClampNeg) r T T' h2) cv_L_130 rfl (by decide) rfl rfl rfl ⟨Nat.le_of_ble_eq_true rfl, Nat.le_of_ble_eq_true rfl⟩ ⟨Nat.le_refl _, Nat.le_refl _⟩ (Nat.le_of_ble_eq_true rfl) dL_law_1059 (fun H locs hP2 hP1 hS => ?_)
  refine lv_icmp_eq (tgt := 1610) hx hb dL_law_1062 (by decide) (fun _ => ?_) (fun c9 => absurd rfl c9)
  exact next _ _ hR _ _ _ ⟨hP1, hP2, hS⟩ hl
set_option maxRecDepth 100000 in
set_option maxHeartbeats 4000000 in
theorem lcase_27 {p : Program} {l : Launch} {e : Env} {s : State} {m : MethodId} {below : List Frame} {meth : Method} {c : Code} {b n : Nat} {xs : Nat → Int32} {D : va_G} {cy : Nat → ClassId} {LC LM : Nat → Nat} {bA : Nat} {Q : State → Prop} (X : LX p s m c b n xs D cy LC LM bA) (v : Int32) (hi0 : vp_in v n) (hi1 : vp_in (v + 1) n) (hi2 : vp_in (v + 2) n) (hi3 : vp_in (v + 3) n) (hi4 : vp_in (v + 4) n) (next : ∀ (S T : Sg), Rel S T → ∀ (H : Heap) (locs : List Loc) (ls : Array Slot), LW D cy LC LM S T s H locs → lv_has ls 4 [(0, .ref b), (1, .ref (LC 0)), (2, .ref (LM 0)), (3, .int v)] → W p l e room_1 s m #[Value.ref b] below meth c H locs 600000 7302250 Q (F0 m 1610 ls [])) (S T : Sg) (hR : Rel S T) (H : Heap) (locs : List Loc) (ls : Array Slot) (hW : LW D cy LC LM S T s H locs) (hl : lv_has ls 4 [(0, .ref b), (1, .ref (LC 0)), (2, .ref (LM 0)), (3, .int v)]) : W p l e room_1 s m #[Value.ref b] below meth c H locs 600000 7302250 Q (F0 m 1067 ls []) := by
  obtain ⟨E, hC, hM, hCC, hMM, hdis, hX, hbl⟩ := X
  obtain ⟨hP1, hP2, hS⟩ := hW
  have hx := E.1
  have hb := E.2.1
  have hts := E.2.2.2.2
  have hbA : ¬ A0 s b := Nat.not_le.mpr hbl
  refine lv_aload_n hx hb dL_law_1067 rfl (lv_at hl 1 rfl) ?_
  obtain ⟨r, S', T', h1, h2, hR⟩ := e_rays hR
  refine l_call (w := (.int r)) (LA := LC) (LB := LM) (As := []) (rest := []) E hC hCC hdis hP1 hP2 hS hl.1 (c_X9_rays  r S S' h1) cv_L_131 rfl (by decide) rfl rfl rfl ⟨Nat.le_of_ble_eq_true rfl, Nat.le_of_ble_eq_true rfl⟩ ⟨Nat.le_refl _, Nat.le_refl _⟩ (Nat.le_of_ble_eq_true rfl) dL_law_1068 (fun H locs hP1 hP2 hS => ?_)
  refine lv_aload_n hx hb dL_law_1071 rfl (lv_at hl 2 rfl) ?_
  refine l_call (w := (.int r)) (LA := LM) (LB := LC) (As := []) (rest := [.int r]) E hM hMM (fun i j h h2 q => hdis j i h2 h q.symm) hP2 hP1 hS hl.1 (c_X10_rays  r T T' h2) cv_L_134 rfl (by decide) rfl rfl rfl ⟨Nat.le_of_ble_eq_true rfl, Nat.le_of_ble_eq_true rfl⟩ ⟨Nat.le_refl _, Nat.le_refl _⟩ (Nat.le_of_ble_eq_true rfl) dL_law_1072 (fun H locs hP2 hP1 hS => ?_)
  refine lv_icmp_eq (tgt := 1610) hx hb dL_law_1075 (by decide) (fun _ => ?_) (fun c9 => absurd rfl c9)
  exact next _ _ hR _ _ _ ⟨hP1, hP2, hS⟩ hl
set_option maxRecDepth 100000 in
set_option maxHeartbeats 4000000 in
theorem lcase_28 {p : Program} {l : Launch} {e : Env} {s : State} {m : MethodId} {below : List Frame} {meth : Method} {c : Code} {b n : Nat} {xs : Nat → Int32} {D : va_G} {cy : Nat → ClassId} {LC LM : Nat → Nat} {bA : Nat} {Q : State → Prop} (X : LX p s m c b n xs D cy LC LM bA) (v : Int32) (hi0 : vp_in v n) (hi1 : vp_in (v + 1) n) (hi2 : vp_in (v + 2) n) (hi3 : vp_in (v + 3) n) (hi4 : vp_in (v + 4) n) (next : ∀ (S T : Sg), Rel S T → ∀ (H : Heap) (locs : List Loc) (ls : Array Slot), LW D cy LC LM S T s H locs → lv_has ls 4 [(0, .ref b), (1, .ref (LC 0)), (2, .ref (LM 0)), (3, .int v)] → W p l e room_1 s m #[Value.ref b] below meth c H locs 600000 7302250 Q (F0 m 1610 ls [])) (S T : Sg) (hR : Rel S T) (H : Heap) (locs : List Loc) (ls : Array Slot) (hW : LW D cy LC LM S T s H locs) (hl : lv_has ls 4 [(0, .ref b), (1, .ref (LC 0)), (2, .ref (LM 0)), (3, .int v)]) : W p l e room_1 s m #[Value.ref b] below meth c H locs 600000 7302250 Q (F0 m 1080 ls []) := by
  obtain ⟨E, hC, hM, hCC, hMM, hdis, hX, hbl⟩ := X
  obtain ⟨hP1, hP2, hS⟩ := hW
  have hx := E.1
  have hb := E.2.1
  have hts := E.2.2.2.2
  have hbA : ¬ A0 s b := Nat.not_le.mpr hbl
  refine lv_aload_n hx hb dL_law_1080 rfl (lv_at hl 1 rfl) ?_
  refine lv_aload_n hx hb dL_law_1081 rfl (lv_at hl 0 rfl) ?_
  refine lv_iload_n hx hb dL_law_1082 rfl (lv_at hl 3 rfl) ?_
  refine lv_iconst (v := 1) hx hb dL_law_1083 (by decide) ?_
  refine lv_iadd hx hb dL_law_1084 ?_
  refine va_sld hx hb hX hbl hbA hS hi1 dL_law_1085 ?_
  obtain ⟨r, S', T', h1, h2, hR⟩ := e_ray hR (xs (v + 1).toNatClampNeg)
  refine l_call (w := (.long r)) (LA := LC) (LB := LM) (As := [.int (xs (v + 1).toNatClampNeg)]) (rest := []) E hC hCC hdis hP1 hP2 hS hl.1 (c_X9_ray (xs (v + 1).toNatClampNeg) r S S' h1) cv_L_135 rfl (by decide) rfl rfl rfl ⟨Nat.le_of_ble_eq_true rfl, Nat.le_of_ble_eq_true rfl⟩ ⟨Nat.le_refl _, Nat.le_refl _⟩ (Nat.le_of_ble_eq_true rfl) dL_law_1086 (fun H locs hP1 hP2 hS => ?_)
  refine lv_aload_n hx hb dL_law_1089 rfl (lv_at hl 2 rfl) ?_
  refine lv_aload_n hx hb dL_law_1090 rfl (lv_at hl 0 rfl) ?_
  refine lv_iload_n hx hb dL_law_1091 rfl (lv_at hl 3 rfl) ?_
  refine lv_iconst (v := 1) hx hb dL_law_1092 (by decide) ?_
  refine lv_iadd hx hb dL_law_1093 ?_
  refine va_sld hx hb hX hbl hbA hS hi1 dL_law_1094 ?_
  refine l_call (w := (.long r)) (LA := LM) (LB := LC) (As := [.int (xs (v + 1).toNatClampNeg)]) (rest := [.long r]) E hM hMM (fun i j h h2 q => hdis j i h2 h q.symm) hP2 hP1 hS hl.1 (c_X10_ray (xs (v + 1).toNatClampNeg) r T T' h2) cv_L_138 rfl (by decide) rfl rfl rfl ⟨Nat.le_of_ble_eq_true rfl, Nat.le_of_ble_eq_true rfl⟩ ⟨Nat.le_refl _, Nat.le_refl _⟩ (Nat.le_of_ble_eq_true rfl) dL_law_1095 (fun H locs hP2 hP1 hS => ?_)
  refine W.lcmp hx hb dL_law_1098 ?_
  rw [lg_cmp_self]
  refine lv_if_eq (tgt := 1610) hx hb dL_law_1099 (by decide) (fun _ => ?_) (fun c9 => absurd rfl c9)
  exact next _ _ hR _ _ _ ⟨hP1, hP2, hS⟩ hl
set_option maxRecDepth 100000 in
set_option maxHeartbeats 4000000 in
theorem lcase_29 {p : Program} {l : Launch} {e : Env} {s : State} {m : MethodId} {below : List Frame} {meth : Method} {c : Code} {b n : Nat} {xs : Nat → Int32} {D : va_G} {cy : Nat → ClassId} {LC LM : Nat → Nat} {bA : Nat} {Q : State → Prop} (X : LX p s m c b n xs D cy LC LM bA) (v : Int32) (hi0 : vp_in v n) (hi1 : vp_in (v + 1) n) (hi2 : vp_in (v + 2) n) (hi3 : vp_in (v + 3) n) (hi4 : vp_in (v + 4) n) (next : ∀ (S T : Sg), Rel S T → ∀ (H : Heap) (locs : List Loc) (ls : Array Slot), LW D cy LC LM S T s H locs → lv_has ls 4 [(0, .ref b), (1, .ref (LC 0)), (2, .ref (LM 0)), (3, .int v)] → W p l e room_1 s m #[Value.ref b] below meth c H locs 600000 7302250 Q (F0 m 1610 ls [])) (S T : Sg) (hR : Rel S T) (H : Heap) (locs : List Loc) (ls : Array Slot) (hW : LW D cy LC LM S T s H locs) (hl : lv_has ls 4 [(0, .ref b), (1, .ref (LC 0)), (2, .ref (LM 0)), (3, .int v)]) : W p l e room_1 s m #[Value.ref b] below meth c H locs 600000 7302250 Q (F0 m 1104 ls []) := by
  obtain ⟨E, hC, hM, hCC, hMM, hdis, hX, hbl⟩ := X
  obtain ⟨hP1, hP2, hS⟩ := hW
  have hx := E.1
  have hb := E.2.1
  have hts := E.2.2.2.2
  have hbA : ¬ A0 s b := Nat.not_le.mpr hbl
  refine lv_aload_n hx hb dL_law_1104 rfl (lv_at hl 1 rfl) ?_
  refine lv_aload_n hx hb dL_law_1105 rfl (lv_at hl 0 rfl) ?_
  refine lv_iload_n hx hb dL_law_1106 rfl (lv_at hl 3 rfl) ?_
  refine lv_iconst (v := 1) hx hb dL_law_1107 (by decide) ?_
  refine lv_iadd hx hb dL_law_1108 ?_
  refine va_sld hx hb hX hbl hbA hS hi1 dL_law_1109 ?_
  refine lv_aload_n hx hb dL_law_1110 rfl (lv_at hl 0 rfl) ?_
  refine lv_iload_n hx hb dL_law_1111 rfl (lv_at hl 3 rfl) ?_
  refine lv_iconst (v := 2) hx hb dL_law_1112 (by decide) ?_
  refine lv_iadd hx hb dL_law_1113 ?_
  refine va_sld hx hb hX hbl hbA hS hi2 dL_law_1114 ?_
  obtain ⟨r, S', T', h1, h2, hR⟩ := e_rayOf hR (xs (v + 1).toNatClampNeg) (xs (v + 2).toNatClampNeg)
  refine l_call (w := (.int r)) (LA := LC) (LB := LM) (As := [.int (xs (v + 1).toNatClampNeg), .int (xs (v + 2).toNatClampNeg)]) (rest := []) E hC hCC hdis hP1 hP2 hS hl.1 (c_X9_rayOf (xs (v + 1).toNatClampNeg) (xs (v + 2).toNatClampNeg) r S S' h1) cv_L_139 rfl (by decide) rfl rfl rfl ⟨Nat.le_of_ble_eq_true rfl, Nat.le_of_ble_eq_true rfl⟩ ⟨Nat.le_refl _, Nat.le_refl _⟩ (Nat.le_of_ble_eq_true rfl) dL_law_1115 (fun H locs hP1 hP2 hS => ?_)
  refine lv_aload_n hx hb dL_law_1118 rfl (lv_at hl 2 rfl) ?_
  refine lv_aload_n hx hb dL_law_1119 rfl (lv_at hl 0 rfl) ?_
  refine lv_iload_n hx hb dL_law_1120 rfl (lv_at hl 3 rfl) ?_
  refine lv_iconst (v := 1) hx hb dL_law_1121 (by decide) ?_
  refine lv_iadd hx hb dL_law_1122 ?_
  refine va_sld hx hb hX hbl hbA hS hi1 dL_law_1123 ?_
  refine lv_aload_n hx hb dL_law_1124 rfl (lv_at hl 0 rfl) ?_
  refine lv_iload_n hx hb dL_law_1125 rfl (lv_at hl 3 rfl) ?_
  refine lv_iconst (v := 2) hx hb dL_law_1126 (by decide) ?_
  refine lv_iadd hx hb dL_law_1127 ?_
  refine va_sld hx hb hX hbl hbA hS hi2 dL_law_1128 ?_
  refine l_call (w := (.int r)) (LA := LM) (LB := LC) (As := [.int (xs (v + 1).toNatClampNeg), .int (xs (v + 2).toNatClampNeg)]) (rest := [.int r]) E hM hMM (fun i j h h2 q => hdis j i h2 h q.symm) hP2 hP1 hS hl.1 (c_X10_rayOf (xs (v + 1).toNatClampNeg) (xs (v + 2).toNatClampNeg) r T T' h2) cv_L_142 rfl (by decide) rfl rfl rfl ⟨Nat.le_of_ble_eq_true rfl, Nat.le_of_ble_eq_true rfl⟩ ⟨Nat.le_refl _, Nat.le_refl _⟩ (Nat.le_of_ble_eq_true rfl) dL_law_1129 (fun H locs hP2 hP1 hS => ?_)
  refine lv_icmp_eq (tgt := 1610) hx hb dL_law_1132 (by decide) (fun _ => ?_) (fun c9 => absurd rfl c9)
  exact next _ _ hR _ _ _ ⟨hP1, hP2, hS⟩ hl
set_option maxRecDepth 100000 in
set_option maxHeartbeats 4000000 in
theorem lcase_30 {p : Program} {l : Launch} {e : Env} {s : State} {m : MethodId} {below : List Frame} {meth : Method} {c : Code} {b n : Nat} {xs : Nat → Int32} {D : va_G} {cy : Nat → ClassId} {LC LM : Nat → Nat} {bA : Nat} {Q : State → Prop} (X : LX p s m c b n xs D cy LC LM bA) (v : Int32) (hi0 : vp_in v n) (hi1 : vp_in (v + 1) n) (hi2 : vp_in (v + 2) n) (hi3 : vp_in (v + 3) n) (hi4 : vp_in (v + 4) n) (next : ∀ (S T : Sg), Rel S T → ∀ (H : Heap) (locs : List Loc) (ls : Array Slot), LW D cy LC LM S T s H locs → lv_has ls 4 [(0, .ref b), (1, .ref (LC 0)), (2, .ref (LM 0)), (3, .int v)] → W p l e room_1 s m #[Value.ref b] below meth c H locs 600000 7302250 Q (F0 m 1610 ls [])) (S T : Sg) (hR : Rel S T) (H : Heap) (locs : List Loc) (ls : Array Slot) (hW : LW D cy LC LM S T s H locs) (hl : lv_has ls 4 [(0, .ref b), (1, .ref (LC 0)), (2, .ref (LM 0)), (3, .int v)]) : W p l e room_1 s m #[Value.ref b] below meth c H locs 600000 7302250 Q (F0 m 1137 ls []) := by
  obtain ⟨E, hC, hM, hCC, hMM, hdis, hX, hbl⟩ := X
  obtain ⟨hP1, hP2, hS⟩ := hW
  have hx := E.1
  have hb := E.2.1
  have hts := E.2.2.2.2
  have hbA : ¬ A0 s b := Nat.not_le.mpr hbl
  refine lv_aload_n hx hb dL_law_1137 rfl (lv_at hl 1 rfl) ?_
  refine lv_aload_n hx hb dL_law_1138 rfl (lv_at hl 0 rfl) ?_
  refine lv_iload_n hx hb dL_law_1139 rfl (lv_at hl 3 rfl) ?_
  refine lv_iconst (v := 1) hx hb dL_law_1140 (by decide) ?_
  refine lv_iadd hx hb dL_law_1141 ?_
  refine va_sld hx hb hX hbl hbA hS hi1 dL_law_1142 ?_
  refine lv_aload_n hx hb dL_law_1143 rfl (lv_at hl 0 rfl) ?_
  refine lv_iload_n hx hb dL_law_1144 rfl (lv_at hl 3 rfl) ?_
  refine lv_iconst (v := 2) hx hb dL_law_1145 (by decide) ?_
  refine lv_iadd hx hb dL_law_1146 ?_
  refine va_sld hx hb hX hbl hbA hS hi2 dL_law_1147 ?_
  refine lv_aload_n hx hb dL_law_1148 rfl (lv_at hl 0 rfl) ?_
  refine lv_iload_n hx hb dL_law_1149 rfl (lv_at hl 3 rfl) ?_
  refine lv_iconst (v := 3) hx hb dL_law_1150 (by decide) ?_
  refine lv_iadd hx hb dL_law_1151 ?_
  refine va_sld hx hb hX hbl hbA hS hi3 dL_law_1152 ?_
  obtain ⟨r, S', T', h1, h2, hR⟩ := e_link hR (xs (v + 1).toNatClampNeg) (xs (v + 2).toNatClampNeg) (xs (v + 3).toNatClampNeg)
  refine l_call (w := (.int r)) (LA := LC) (LB := LM) (As := [.int (xs (v + 1).toNatClampNeg), .int (xs (v + 2).toNatClampNeg), .int (xs (v + 3).toNatClampNeg)]) (rest := []) E hC hCC hdis hP1 hP2 hS hl.1 (c_X9_link (xs (v + 1).toNatClampNeg) (xs (v + 2).toNatClampNeg) (xs (v + 3).toNatClampNeg) r S S' h1) cv_L_143 rfl (by decide) rfl rfl rfl ⟨Nat.le_of_ble_eq_true rfl, Nat.le_of_ble_eq_true rfl⟩ ⟨Nat.le_refl _, Nat.le_refl _⟩ (Nat.le_of_ble_eq_true rfl) dL_law_1153 (fun H locs hP1 hP2 hS => ?_)
  refine lv_aload_n hx hb dL_law_1156 rfl (lv_at hl 2 rfl) ?_
  refine lv_aload_n hx hb dL_law_1157 rfl (lv_at hl 0 rfl) ?_
  refine lv_iload_n hx hb dL_law_1158 rfl (lv_at hl 3 rfl) ?_
  refine lv_iconst (v := 1) hx hb dL_law_1159 (by decide) ?_
  refine lv_iadd hx hb dL_law_1160 ?_
  refine va_sld hx hb hX hbl hbA hS hi1 dL_law_1161 ?_
  refine lv_aload_n hx hb dL_law_1162 rfl (lv_at hl 0 rfl) ?_
  refine lv_iload_n hx hb dL_law_1163 rfl (lv_at hl 3 rfl) ?_
  refine lv_iconst (v := 2) hx hb dL_law_1164 (by decide) ?_
  refine lv_iadd hx hb dL_law_1165 ?_
  refine va_sld hx hb hX hbl hbA hS hi2 dL_law_1166 ?_
  refine lv_aload_n hx hb dL_law_1167 rfl (lv_at hl 0 rfl) ?_
  refine lv_iload_n hx hb dL_law_1168 rfl (lv_at hl 3 rfl) ?_
  refine lv_iconst (v := 3) hx hb dL_law_1169 (by decide) ?_
  refine lv_iadd hx hb dL_law_1170 ?_
  refine va_sld hx hb hX hbl hbA hS hi3 dL_law_1171 ?_
  refine l_call (w := (.int r)) (LA := LM) (LB := LC) (As := [.int (xs (v + 1).toNatClampNeg), .int (xs (v + 2).toNatClampNeg), .int (xs (v + 3).toNatClampNeg)]) (rest := [.int r]) E hM hMM (fun i j h h2 q => hdis j i h2 h q.symm) hP2 hP1 hS hl.1 (c_X10_link (xs (v + 1).toNatClampNeg) (xs (v + 2).toNatClampNeg) (xs (v + 3).toNatClampNeg) r T T' h2) cv_L_146 rfl (by decide) rfl rfl rfl ⟨Nat.le_of_ble_eq_true rfl, Nat.le_of_ble_eq_true rfl⟩ ⟨Nat.le_refl _, Nat.le_refl _⟩ (Nat.le_of_ble_eq_true rfl) dL_law_1172 (fun H locs hP2 hP1 hS => ?_)
  refine lv_icmp_eq (tgt := 1610) hx hb dL_law_1175 (by decide) (fun _ => ?_) (fun c9 => absurd rfl c9)
  exact next _ _ hR _ _ _ ⟨hP1, hP2, hS⟩ hl
set_option maxRecDepth 100000 in
set_option maxHeartbeats 4000000 in
theorem lcase_31 {p : Program} {l : Launch} {e : Env} {s : State} {m : MethodId} {below : List Frame} {meth : Method} {c : Code} {b n : Nat} {xs : Nat → Int32} {D : va_G} {cy : Nat → ClassId} {LC LM : Nat → Nat} {bA : Nat} {Q : State → Prop} (X : LX p s m c b n xs D cy LC LM bA) (v : Int32) (hi0 : vp_in v n) (hi1 : vp_in (v + 1) n) (hi2 : vp_in (v + 2) n) (hi3 : vp_in (v + 3) n) (hi4 : vp_in (v + 4) n) (next : ∀ (S T : Sg), Rel S T → ∀ (H : Heap) (locs : List Loc) (ls : Array Slot), LW D cy LC LM S T s H locs → lv_has ls 4 [(0, .ref b), (1, .ref (LC 0)), (2, .ref (LM 0)), (3, .int v)] → W p l e room_1 s m #[Value.ref b] below meth c H locs 600000 7302250 Q (F0 m 1610 ls [])) (S T : Sg) (hR : Rel S T) (H : Heap) (locs : List Loc) (ls : Array Slot) (hW : LW D cy LC LM S T s H locs) (hl : lv_has ls 4 [(0, .ref b), (1, .ref (LC 0)), (2, .ref (LM 0)), (3, .int v)]) : W p l e room_1 s m #[Value.ref b] below meth c H locs 600000 7302250 Q (F0 m 1180 ls []) := by
  obtain ⟨E, hC, hM, hCC, hMM, hdis, hX, hbl⟩ := X
  obtain ⟨hP1, hP2, hS⟩ := hW
  have hx := E.1
  have hb := E.2.1
  have hts := E.2.2.2.2
  have hbA : ¬ A0 s b := Nat.not_le.mpr hbl
  refine lv_aload_n hx hb dL_law_1180 rfl (lv_at hl 1 rfl) ?_
  refine lv_aload_n hx hb dL_law_1181 rfl (lv_at hl 0 rfl) ?_
  refine lv_iload_n hx hb dL_law_1182 rfl (lv_at hl 3 rfl) ?_
  refine lv_iconst (v := 1) hx hb dL_law_1183 (by decide) ?_
  refine lv_iadd hx hb dL_law_1184 ?_
  refine va_sld hx hb hX hbl hbA hS hi1 dL_law_1185 ?_
  obtain ⟨r, h1, h2, hR⟩ := e_breaks hR (xs (v + 1).toNatClampNeg)
  refine l_call (w := (.int r)) (LA := LC) (LB := LM) (As := [.int (xs (v + 1).toNatClampNeg)]) (rest := []) E hC hCC hdis hP1 hP2 hS hl.1 (c_X9_breaks (xs (v + 1).toNatClampNeg) r S h1) cv_L_147 rfl (by decide) rfl rfl rfl ⟨Nat.le_of_ble_eq_true rfl, Nat.le_of_ble_eq_true rfl⟩ ⟨Nat.le_refl _, Nat.le_refl _⟩ (Nat.le_of_ble_eq_true rfl) dL_law_1186 (fun H locs hP1 hP2 hS => ?_)
  refine lv_aload_n hx hb dL_law_1189 rfl (lv_at hl 2 rfl) ?_
  refine lv_aload_n hx hb dL_law_1190 rfl (lv_at hl 0 rfl) ?_
  refine lv_iload_n hx hb dL_law_1191 rfl (lv_at hl 3 rfl) ?_
  refine lv_iconst (v := 1) hx hb dL_law_1192 (by decide) ?_
  refine lv_iadd hx hb dL_law_1193 ?_
  refine va_sld hx hb hX hbl hbA hS hi1 dL_law_1194 ?_
  refine l_call (w := (.int r)) (LA := LM) (LB := LC) (As := [.int (xs (v + 1).toNatClampNeg)]) (rest := [.int r]) E hM hMM (fun i j h h2 q => hdis j i h2 h q.symm) hP2 hP1 hS hl.1 (c_X10_breaks (xs (v + 1).toNatClampNeg) r T h2) cv_L_150 rfl (by decide) rfl rfl rfl ⟨Nat.le_of_ble_eq_true rfl, Nat.le_of_ble_eq_true rfl⟩ ⟨Nat.le_refl _, Nat.le_refl _⟩ (Nat.le_of_ble_eq_true rfl) dL_law_1195 (fun H locs hP2 hP1 hS => ?_)
  refine lv_icmp_eq (tgt := 1610) hx hb dL_law_1198 (by decide) (fun _ => ?_) (fun c9 => absurd rfl c9)
  exact next _ _ hR _ _ _ ⟨hP1, hP2, hS⟩ hl
set_option maxRecDepth 100000 in
set_option maxHeartbeats 4000000 in
theorem lcase_32 {p : Program} {l : Launch} {e : Env} {s : State} {m : MethodId} {below : List Frame} {meth : Method} {c : Code} {b n : Nat} {xs : Nat → Int32} {D : va_G} {cy : Nat → ClassId} {LC LM : Nat → Nat} {bA : Nat} {Q : State → Prop} (X : LX p s m c b n xs D cy LC LM bA) (v : Int32) (hi0 : vp_in v n) (hi1 : vp_in (v + 1) n) (hi2 : vp_in (v + 2) n) (hi3 : vp_in (v + 3) n) (hi4 : vp_in (v + 4) n) (next : ∀ (S T : Sg), Rel S T → ∀ (H : Heap) (locs : List Loc) (ls : Array Slot), LW D cy LC LM S T s H locs → lv_has ls 4 [(0, .ref b), (1, .ref (LC 0)), (2, .ref (LM 0)), (3, .int v)] → W p l e room_1 s m #[Value.ref b] below meth c H locs 600000 7302250 Q (F0 m 1610 ls [])) (S T : Sg) (hR : Rel S T) (H : Heap) (locs : List Loc) (ls : Array Slot) (hW : LW D cy LC LM S T s H locs) (hl : lv_has ls 4 [(0, .ref b), (1, .ref (LC 0)), (2, .ref (LM 0)), (3, .int v)]) : W p l e room_1 s m #[Value.ref b] below meth c H locs 600000 7302250 Q (F0 m 1203 ls []) := by
  obtain ⟨E, hC, hM, hCC, hMM, hdis, hX, hbl⟩ := X
  obtain ⟨hP1, hP2, hS⟩ := hW
  have hx := E.1
  have hb := E.2.1
  have hts := E.2.2.2.2
  have hbA : ¬ A0 s b := Nat.not_le.mpr hbl
  refine lv_aload_n hx hb dL_law_1203 rfl (lv_at hl 1 rfl) ?_
  refine lv_aload_n hx hb dL_law_1204 rfl (lv_at hl 0 rfl) ?_
  refine lv_iload_n hx hb dL_law_1205 rfl (lv_at hl 3 rfl) ?_
  refine lv_iconst (v := 1) hx hb dL_law_1206 (by decide) ?_
  refine lv_iadd hx hb dL_law_1207 ?_
  refine va_sld hx hb hX hbl hbA hS hi1 dL_law_1208 ?_
  obtain ⟨r, h1, h2, hR⟩ := e_feedback hR (xs (v + 1).toNatClampNeg)
  refine l_call (w := (.int r)) (LA := LC) (LB := LM) (As := [.int (xs (v + 1).toNatClampNeg)]) (rest := []) E hC hCC hdis hP1 hP2 hS hl.1 (c_X9_feedback (xs (v + 1).toNatClampNeg) r S h1) cv_L_151 rfl (by decide) rfl rfl rfl ⟨Nat.le_of_ble_eq_true rfl, Nat.le_of_ble_eq_true rfl⟩ ⟨Nat.le_refl _, Nat.le_refl _⟩ (Nat.le_of_ble_eq_true rfl) dL_law_1209 (fun H locs hP1 hP2 hS => ?_)
  refine lv_aload_n hx hb dL_law_1212 rfl (lv_at hl 2 rfl) ?_
  refine lv_aload_n hx hb dL_law_1213 rfl (lv_at hl 0 rfl) ?_
  refine lv_iload_n hx hb dL_law_1214 rfl (lv_at hl 3 rfl) ?_
  refine lv_iconst (v := 1) hx hb dL_law_1215 (by decide) ?_
  refine lv_iadd hx hb dL_law_1216 ?_
  refine va_sld hx hb hX hbl hbA hS hi1 dL_law_1217 ?_
  refine l_call (w := (.int r)) (LA := LM) (LB := LC) (As := [.int (xs (v + 1).toNatClampNeg)]) (rest := [.int r]) E hM hMM (fun i j h h2 q => hdis j i h2 h q.symm) hP2 hP1 hS hl.1 (c_X10_feedback (xs (v + 1).toNatClampNeg) r T h2) cv_L_154 rfl (by decide) rfl rfl rfl ⟨Nat.le_of_ble_eq_true rfl, Nat.le_of_ble_eq_true rfl⟩ ⟨Nat.le_refl _, Nat.le_refl _⟩ (Nat.le_of_ble_eq_true rfl) dL_law_1218 (fun H locs hP2 hP1 hS => ?_)
  refine lv_icmp_eq (tgt := 1610) hx hb dL_law_1221 (by decide) (fun _ => ?_) (fun c9 => absurd rfl c9)
  exact next _ _ hR _ _ _ ⟨hP1, hP2, hS⟩ hl
set_option maxRecDepth 100000 in
set_option maxHeartbeats 4000000 in
theorem lcase_33 {p : Program} {l : Launch} {e : Env} {s : State} {m : MethodId} {below : List Frame} {meth : Method} {c : Code} {b n : Nat} {xs : Nat → Int32} {D : va_G} {cy : Nat → ClassId} {LC LM : Nat → Nat} {bA : Nat} {Q : State → Prop} (X : LX p s m c b n xs D cy LC LM bA) (v : Int32) (hi0 : vp_in v n) (hi1 : vp_in (v + 1) n) (hi2 : vp_in (v + 2) n) (hi3 : vp_in (v + 3) n) (hi4 : vp_in (v + 4) n) (next : ∀ (S T : Sg), Rel S T → ∀ (H : Heap) (locs : List Loc) (ls : Array Slot), LW D cy LC LM S T s H locs → lv_has ls 4 [(0, .ref b), (1, .ref (LC 0)), (2, .ref (LM 0)), (3, .int v)] → W p l e room_1 s m #[Value.ref b] below meth c H locs 600000 7302250 Q (F0 m 1610 ls [])) (S T : Sg) (hR : Rel S T) (H : Heap) (locs : List Loc) (ls : Array Slot) (hW : LW D cy LC LM S T s H locs) (hl : lv_has ls 4 [(0, .ref b), (1, .ref (LC 0)), (2, .ref (LM 0)), (3, .int v)]) : W p l e room_1 s m #[Value.ref b] below meth c H locs 600000 7302250 Q (F0 m 1226 ls []) := by
  obtain ⟨E, hC, hM, hCC, hMM, hdis, hX, hbl⟩ := X
  obtain ⟨hP1, hP2, hS⟩ := hW
  have hx := E.1
  have hb := E.2.1
  have hts := E.2.2.2.2
  have hbA : ¬ A0 s b := Nat.not_le.mpr hbl
  refine lv_aload_n hx hb dL_law_1226 rfl (lv_at hl 1 rfl) ?_
  refine lv_aload_n hx hb dL_law_1227 rfl (lv_at hl 0 rfl) ?_
  refine lv_iload_n hx hb dL_law_1228 rfl (lv_at hl 3 rfl) ?_
  refine lv_iconst (v := 1) hx hb dL_law_1229 (by decide) ?_
  refine lv_iadd hx hb dL_law_1230 ?_
  refine va_sld hx hb hX hbl hbA hS hi1 dL_law_1231 ?_
  refine lv_aload_n hx hb dL_law_1232 rfl (lv_at hl 0 rfl) ?_
  refine lv_iload_n hx hb dL_law_1233 rfl (lv_at hl 3 rfl) ?_
  refine lv_iconst (v := 2) hx hb dL_law_1234 (by decide) ?_
  refine lv_iadd hx hb dL_law_1235 ?_
  refine va_sld hx hb hX hbl hbA hS hi2 dL_law_1236 ?_
  refine lv_aload_n hx hb dL_law_1237 rfl (lv_at hl 0 rfl) ?_
  refine lv_iload_n hx hb dL_law_1238 rfl (lv_at hl 3 rfl) ?_
  refine lv_iconst (v := 3) hx hb dL_law_1239 (by decide) ?_
  refine lv_iadd hx hb dL_law_1240 ?_
  refine va_sld hx hb hX hbl hbA hS hi3 dL_law_1241 ?_
  obtain ⟨r, S', T', h1, h2, hR⟩ := e_hold hR (xs (v + 1).toNatClampNeg) (xs (v + 2).toNatClampNeg) (xs (v + 3).toNatClampNeg)
  refine l_call (w := (.int r)) (LA := LC) (LB := LM) (As := [.int (xs (v + 1).toNatClampNeg), .int (xs (v + 2).toNatClampNeg), .int (xs (v + 3).toNatClampNeg)]) (rest := []) E hC hCC hdis hP1 hP2 hS hl.1 (c_X9_hold (xs (v + 1).toNatClampNeg) (xs (v + 2).toNatClampNeg) (xs (v + 3).toNatClampNeg) r S S' h1) cv_L_155 rfl (by decide) rfl rfl rfl ⟨Nat.le_of_ble_eq_true rfl, Nat.le_of_ble_eq_true rfl⟩ ⟨Nat.le_refl _, Nat.le_refl _⟩ (Nat.le_of_ble_eq_true rfl) dL_law_1242 (fun H locs hP1 hP2 hS => ?_)
  refine lv_aload_n hx hb dL_law_1245 rfl (lv_at hl 2 rfl) ?_
  refine lv_aload_n hx hb dL_law_1246 rfl (lv_at hl 0 rfl) ?_
  refine lv_iload_n hx hb dL_law_1247 rfl (lv_at hl 3 rfl) ?_
  refine lv_iconst (v := 1) hx hb dL_law_1248 (by decide) ?_
  refine lv_iadd hx hb dL_law_1249 ?_
  refine va_sld hx hb hX hbl hbA hS hi1 dL_law_1250 ?_
  refine lv_aload_n hx hb dL_law_1251 rfl (lv_at hl 0 rfl) ?_
  refine lv_iload_n hx hb dL_law_1252 rfl (lv_at hl 3 rfl) ?_
  refine lv_iconst (v := 2) hx hb dL_law_1253 (by decide) ?_
  refine lv_iadd hx hb dL_law_1254 ?_
  refine va_sld hx hb hX hbl hbA hS hi2 dL_law_1255 ?_
  refine lv_aload_n hx hb dL_law_1256 rfl (lv_at hl 0 rfl) ?_
  refine lv_iload_n hx hb dL_law_1257 rfl (lv_at hl 3 rfl) ?_
  refine lv_iconst (v := 3) hx hb dL_law_1258 (by decide) ?_
  refine lv_iadd hx hb dL_law_1259 ?_
  refine va_sld hx hb hX hbl hbA hS hi3 dL_law_1260 ?_
  refine l_call (w := (.int r)) (LA := LM) (LB := LC) (As := [.int (xs (v + 1).toNatClampNeg), .int (xs (v + 2).toNatClampNeg), .int (xs (v + 3).toNatClampNeg)]) (rest := [.int r]) E hM hMM (fun i j h h2 q => hdis j i h2 h q.symm) hP2 hP1 hS hl.1 (c_X10_hold (xs (v + 1).toNatClampNeg) (xs (v + 2).toNatClampNeg) (xs (v + 3).toNatClampNeg) r T T' h2) cv_L_158 rfl (by decide) rfl rfl rfl ⟨Nat.le_of_ble_eq_true rfl, Nat.le_of_ble_eq_true rfl⟩ ⟨Nat.le_refl _, Nat.le_refl _⟩ (Nat.le_of_ble_eq_true rfl) dL_law_1261 (fun H locs hP2 hP1 hS => ?_)
  refine lv_icmp_eq (tgt := 1610) hx hb dL_law_1264 (by decide) (fun _ => ?_) (fun c9 => absurd rfl c9)
  exact next _ _ hR _ _ _ ⟨hP1, hP2, hS⟩ hl
set_option maxRecDepth 100000 in
set_option maxHeartbeats 4000000 in
theorem lcase_34 {p : Program} {l : Launch} {e : Env} {s : State} {m : MethodId} {below : List Frame} {meth : Method} {c : Code} {b n : Nat} {xs : Nat → Int32} {D : va_G} {cy : Nat → ClassId} {LC LM : Nat → Nat} {bA : Nat} {Q : State → Prop} (X : LX p s m c b n xs D cy LC LM bA) (v : Int32) (hi0 : vp_in v n) (hi1 : vp_in (v + 1) n) (hi2 : vp_in (v + 2) n) (hi3 : vp_in (v + 3) n) (hi4 : vp_in (v + 4) n) (next : ∀ (S T : Sg), Rel S T → ∀ (H : Heap) (locs : List Loc) (ls : Array Slot), LW D cy LC LM S T s H locs → lv_has ls 4 [(0, .ref b), (1, .ref (LC 0)), (2, .ref (LM 0)), (3, .int v)] → W p l e room_1 s m #[Value.ref b] below meth c H locs 600000 7302250 Q (F0 m 1610 ls [])) (S T : Sg) (hR : Rel S T) (H : Heap) (locs : List Loc) (ls : Array Slot) (hW : LW D cy LC LM S T s H locs) (hl : lv_has ls 4 [(0, .ref b), (1, .ref (LC 0)), (2, .ref (LM 0)), (3, .int v)]) : W p l e room_1 s m #[Value.ref b] below meth c H locs 600000 7302250 Q (F0 m 1269 ls []) := by
  obtain ⟨E, hC, hM, hCC, hMM, hdis, hX, hbl⟩ := X
  obtain ⟨hP1, hP2, hS⟩ := hW
  have hx := E.1
  have hb := E.2.1
  have hts := E.2.2.2.2
  have hbA : ¬ A0 s b := Nat.not_le.mpr hbl
  refine lv_aload_n hx hb dL_law_1269 rfl (lv_at hl 1 rfl) ?_
  refine lv_aload_n hx hb dL_law_1270 rfl (lv_at hl 0 rfl) ?_
  refine lv_iload_n hx hb dL_law_1271 rfl (lv_at hl 3 rfl) ?_
  refine lv_iconst (v := 1) hx hb dL_law_1272 (by decide) ?_
  refine lv_iadd hx hb dL_law_1273 ?_
  refine va_sld hx hb hX hbl hbA hS hi1 dL_law_1274 ?_
  refine lv_aload_n hx hb dL_law_1275 rfl (lv_at hl 0 rfl) ?_
  refine lv_iload_n hx hb dL_law_1276 rfl (lv_at hl 3 rfl) ?_
  refine lv_iconst (v := 2) hx hb dL_law_1277 (by decide) ?_
  refine lv_iadd hx hb dL_law_1278 ?_
  refine va_sld hx hb hX hbl hbA hS hi2 dL_law_1279 ?_
  obtain ⟨r, h1, h2, hR⟩ := e_asPair hR (xs (v + 1).toNatClampNeg) (xs (v + 2).toNatClampNeg)
  refine l_call (w := (.int r)) (LA := LC) (LB := LM) (As := [.int (xs (v + 1).toNatClampNeg), .int (xs (v + 2).toNatClampNeg)]) (rest := []) E hC hCC hdis hP1 hP2 hS hl.1 (c_X9_asPair (xs (v + 1).toNatClampNeg) (xs (v + 2).toNatClampNeg) r S h1) cv_L_159 rfl (by decide) rfl rfl rfl ⟨Nat.le_of_ble_eq_true rfl, Nat.le_of_ble_eq_true rfl⟩ ⟨Nat.le_refl _, Nat.le_refl _⟩ (Nat.le_of_ble_eq_true rfl) dL_law_1280 (fun H locs hP1 hP2 hS => ?_)
  refine lv_aload_n hx hb dL_law_1283 rfl (lv_at hl 2 rfl) ?_
  refine lv_aload_n hx hb dL_law_1284 rfl (lv_at hl 0 rfl) ?_
  refine lv_iload_n hx hb dL_law_1285 rfl (lv_at hl 3 rfl) ?_
  refine lv_iconst (v := 1) hx hb dL_law_1286 (by decide) ?_
  refine lv_iadd hx hb dL_law_1287 ?_
  refine va_sld hx hb hX hbl hbA hS hi1 dL_law_1288 ?_
  refine lv_aload_n hx hb dL_law_1289 rfl (lv_at hl 0 rfl) ?_
  refine lv_iload_n hx hb dL_law_1290 rfl (lv_at hl 3 rfl) ?_
  refine lv_iconst (v := 2) hx hb dL_law_1291 (by decide) ?_
  refine lv_iadd hx hb dL_law_1292 ?_
  refine va_sld hx hb hX hbl hbA hS hi2 dL_law_1293 ?_
  refine l_call (w := (.int r)) (LA := LM) (LB := LC) (As := [.int (xs (v + 1).toNatClampNeg), .int (xs (v + 2).toNatClampNeg)]) (rest := [.int r]) E hM hMM (fun i j h h2 q => hdis j i h2 h q.symm) hP2 hP1 hS hl.1 (c_X10_asPair (xs (v + 1).toNatClampNeg) (xs (v + 2).toNatClampNeg) r T h2) cv_L_162 rfl (by decide) rfl rfl rfl ⟨Nat.le_of_ble_eq_true rfl, Nat.le_of_ble_eq_true rfl⟩ ⟨Nat.le_refl _, Nat.le_refl _⟩ (Nat.le_of_ble_eq_true rfl) dL_law_1294 (fun H locs hP2 hP1 hS => ?_)
  refine lv_icmp_eq (tgt := 1610) hx hb dL_law_1297 (by decide) (fun _ => ?_) (fun c9 => absurd rfl c9)
  exact next _ _ hR _ _ _ ⟨hP1, hP2, hS⟩ hl
set_option maxRecDepth 100000 in
set_option maxHeartbeats 4000000 in
theorem lcase_35 {p : Program} {l : Launch} {e : Env} {s : State} {m : MethodId} {below : List Frame} {meth : Method} {c : Code} {b n : Nat} {xs : Nat → Int32} {D : va_G} {cy : Nat → ClassId} {LC LM : Nat → Nat} {bA : Nat} {Q : State → Prop} (X : LX p s m c b n xs D cy LC LM bA) (v : Int32) (hi0 : vp_in v n) (hi1 : vp_in (v + 1) n) (hi2 : vp_in (v + 2) n) (hi3 : vp_in (v + 3) n) (hi4 : vp_in (v + 4) n) (next : ∀ (S T : Sg), Rel S T → ∀ (H : Heap) (locs : List Loc) (ls : Array Slot), LW D cy LC LM S T s H locs → lv_has ls 4 [(0, .ref b), (1, .ref (LC 0)), (2, .ref (LM 0)), (3, .int v)] → W p l e room_1 s m #[Value.ref b] below meth c H locs 600000 7302250 Q (F0 m 1610 ls [])) (S T : Sg) (hR : Rel S T) (H : Heap) (locs : List Loc) (ls : Array Slot) (hW : LW D cy LC LM S T s H locs) (hl : lv_has ls 4 [(0, .ref b), (1, .ref (LC 0)), (2, .ref (LM 0)), (3, .int v)]) : W p l e room_1 s m #[Value.ref b] below meth c H locs 600000 7302250 Q (F0 m 1302 ls []) := by
  obtain ⟨E, hC, hM, hCC, hMM, hdis, hX, hbl⟩ := X
  obtain ⟨hP1, hP2, hS⟩ := hW
  have hx := E.1
  have hb := E.2.1
  have hts := E.2.2.2.2
  have hbA : ¬ A0 s b := Nat.not_le.mpr hbl
  refine lv_aload_n hx hb dL_law_1302 rfl (lv_at hl 1 rfl) ?_
  refine lv_aload_n hx hb dL_law_1303 rfl (lv_at hl 0 rfl) ?_
  refine lv_iload_n hx hb dL_law_1304 rfl (lv_at hl 3 rfl) ?_
  refine lv_iconst (v := 1) hx hb dL_law_1305 (by decide) ?_
  refine lv_iadd hx hb dL_law_1306 ?_
  refine va_sld hx hb hX hbl hbA hS hi1 dL_law_1307 ?_
  refine lv_aload_n hx hb dL_law_1308 rfl (lv_at hl 0 rfl) ?_
  refine lv_iload_n hx hb dL_law_1309 rfl (lv_at hl 3 rfl) ?_
  refine lv_iconst (v := 2) hx hb dL_law_1310 (by decide) ?_
  refine lv_iadd hx hb dL_law_1311 ?_
  refine va_sld hx hb hX hbl hbA hS hi2 dL_law_1312 ?_
  obtain ⟨r, h1, h2, hR⟩ := e_asRay hR (xs (v + 1).toNatClampNeg) (xs (v + 2).toNatClampNeg)
  refine l_call (w := (.int r)) (LA := LC) (LB := LM) (As := [.int (xs (v + 1).toNatClampNeg), .int (xs (v + 2).toNatClampNeg)]) (rest := []) E hC hCC hdis hP1 hP2 hS hl.1 (c_X9_asRay (xs (v + 1).toNatClampNeg) (xs (v + 2).toNatClampNeg) r S h1) cv_L_163 rfl (by decide) rfl rfl rfl ⟨Nat.le_of_ble_eq_true rfl, Nat.le_of_ble_eq_true rfl⟩ ⟨Nat.le_refl _, Nat.le_refl _⟩ (Nat.le_of_ble_eq_true rfl) dL_law_1313 (fun H locs hP1 hP2 hS => ?_)
  refine lv_aload_n hx hb dL_law_1316 rfl (lv_at hl 2 rfl) ?_
  refine lv_aload_n hx hb dL_law_1317 rfl (lv_at hl 0 rfl) ?_
  refine lv_iload_n hx hb dL_law_1318 rfl (lv_at hl 3 rfl) ?_
  refine lv_iconst (v := 1) hx hb dL_law_1319 (by decide) ?_
  refine lv_iadd hx hb dL_law_1320 ?_
  refine va_sld hx hb hX hbl hbA hS hi1 dL_law_1321 ?_
  refine lv_aload_n hx hb dL_law_1322 rfl (lv_at hl 0 rfl) ?_
  refine lv_iload_n hx hb dL_law_1323 rfl (lv_at hl 3 rfl) ?_
  refine lv_iconst (v := 2) hx hb dL_law_1324 (by decide) ?_
  refine lv_iadd hx hb dL_law_1325 ?_
  refine va_sld hx hb hX hbl hbA hS hi2 dL_law_1326 ?_
  refine l_call (w := (.int r)) (LA := LM) (LB := LC) (As := [.int (xs (v + 1).toNatClampNeg), .int (xs (v + 2).toNatClampNeg)]) (rest := [.int r]) E hM hMM (fun i j h h2 q => hdis j i h2 h q.symm) hP2 hP1 hS hl.1 (c_X10_asRay (xs (v + 1).toNatClampNeg) (xs (v + 2).toNatClampNeg) r T h2) cv_L_166 rfl (by decide) rfl rfl rfl ⟨Nat.le_of_ble_eq_true rfl, Nat.le_of_ble_eq_true rfl⟩ ⟨Nat.le_refl _, Nat.le_refl _⟩ (Nat.le_of_ble_eq_true rfl) dL_law_1327 (fun H locs hP2 hP1 hS => ?_)
  refine lv_icmp_eq (tgt := 1610) hx hb dL_law_1330 (by decide) (fun _ => ?_) (fun c9 => absurd rfl c9)
  exact next _ _ hR _ _ _ ⟨hP1, hP2, hS⟩ hl
set_option maxRecDepth 100000 in
set_option maxHeartbeats 4000000 in
theorem lcase_36 {p : Program} {l : Launch} {e : Env} {s : State} {m : MethodId} {below : List Frame} {meth : Method} {c : Code} {b n : Nat} {xs : Nat → Int32} {D : va_G} {cy : Nat → ClassId} {LC LM : Nat → Nat} {bA : Nat} {Q : State → Prop} (X : LX p s m c b n xs D cy LC LM bA) (v : Int32) (hi0 : vp_in v n) (hi1 : vp_in (v + 1) n) (hi2 : vp_in (v + 2) n) (hi3 : vp_in (v + 3) n) (hi4 : vp_in (v + 4) n) (next : ∀ (S T : Sg), Rel S T → ∀ (H : Heap) (locs : List Loc) (ls : Array Slot), LW D cy LC LM S T s H locs → lv_has ls 4 [(0, .ref b), (1, .ref (LC 0)), (2, .ref (LM 0)), (3, .int v)] → W p l e room_1 s m #[Value.ref b] below meth c H locs 600000 7302250 Q (F0 m 1610 ls [])) (S T : Sg) (hR : Rel S T) (H : Heap) (locs : List Loc) (ls : Array Slot) (hW : LW D cy LC LM S T s H locs) (hl : lv_has ls 4 [(0, .ref b), (1, .ref (LC 0)), (2, .ref (LM 0)), (3, .int v)]) : W p l e room_1 s m #[Value.ref b] below meth c H locs 600000 7302250 Q (F0 m 1335 ls []) := by
  obtain ⟨E, hC, hM, hCC, hMM, hdis, hX, hbl⟩ := X
  obtain ⟨hP1, hP2, hS⟩ := hW
  have hx := E.1
  have hb := E.2.1
  have hts := E.2.2.2.2
  have hbA : ¬ A0 s b := Nat.not_le.mpr hbl
  refine lv_aload_n hx hb dL_law_1335 rfl (lv_at hl 1 rfl) ?_
  refine lv_aload_n hx hb dL_law_1336 rfl (lv_at hl 0 rfl) ?_
  refine lv_iload_n hx hb dL_law_1337 rfl (lv_at hl 3 rfl) ?_
  refine lv_iconst (v := 1) hx hb dL_law_1338 (by decide) ?_
  refine lv_iadd hx hb dL_law_1339 ?_
  refine va_sld hx hb hX hbl hbA hS hi1 dL_law_1340 ?_
  refine lv_aload_n hx hb dL_law_1341 rfl (lv_at hl 0 rfl) ?_
  refine lv_iload_n hx hb dL_law_1342 rfl (lv_at hl 3 rfl) ?_
  refine lv_iconst (v := 2) hx hb dL_law_1343 (by decide) ?_
  refine lv_iadd hx hb dL_law_1344 ?_
  refine va_sld hx hb hX hbl hbA hS hi2 dL_law_1345 ?_
  obtain ⟨r, h1, h2, hR⟩ := e_compare hR (xs (v + 1).toNatClampNeg) (xs (v + 2).toNatClampNeg)
  refine l_call (w := (.int r)) (LA := LC) (LB := LM) (As := [.int (xs (v + 1).toNatClampNeg), .int (xs (v + 2).toNatClampNeg)]) (rest := []) E hC hCC hdis hP1 hP2 hS hl.1 (c_X9_compare (xs (v + 1).toNatClampNeg) (xs (v + 2).toNatClampNeg) r S h1) cv_L_167 rfl (by decide) rfl rfl rfl ⟨Nat.le_of_ble_eq_true rfl, Nat.le_of_ble_eq_true rfl⟩ ⟨Nat.le_refl _, Nat.le_refl _⟩ (Nat.le_of_ble_eq_true rfl) dL_law_1346 (fun H locs hP1 hP2 hS => ?_)
  refine lv_aload_n hx hb dL_law_1349 rfl (lv_at hl 2 rfl) ?_
  refine lv_aload_n hx hb dL_law_1350 rfl (lv_at hl 0 rfl) ?_
  refine lv_iload_n hx hb dL_law_1351 rfl (lv_at hl 3 rfl) ?_
  refine lv_iconst (v := 1) hx hb dL_law_1352 (by decide) ?_
  refine lv_iadd hx hb dL_law_1353 ?_
  refine va_sld hx hb hX hbl hbA hS hi1 dL_law_1354 ?_
  refine lv_aload_n hx hb dL_law_1355 rfl (lv_at hl 0 rfl) ?_
  refine lv_iload_n hx hb dL_law_1356 rfl (lv_at hl 3 rfl) ?_
  refine lv_iconst (v := 2) hx hb dL_law_1357 (by decide) ?_
  refine lv_iadd hx hb dL_law_1358 ?_
  refine va_sld hx hb hX hbl hbA hS hi2 dL_law_1359 ?_
  refine l_call (w := (.int r)) (LA := LM) (LB := LC) (As := [.int (xs (v + 1).toNatClampNeg), .int (xs (v + 2).toNatClampNeg)]) (rest := [.int r]) E hM hMM (fun i j h h2 q => hdis j i h2 h q.symm) hP2 hP1 hS hl.1 (c_X10_compare (xs (v + 1).toNatClampNeg) (xs (v + 2).toNatClampNeg) r T h2) cv_L_170 rfl (by decide) rfl rfl rfl ⟨Nat.le_of_ble_eq_true rfl, Nat.le_of_ble_eq_true rfl⟩ ⟨Nat.le_refl _, Nat.le_refl _⟩ (Nat.le_of_ble_eq_true rfl) dL_law_1360 (fun H locs hP2 hP1 hS => ?_)
  refine lv_icmp_eq (tgt := 1610) hx hb dL_law_1363 (by decide) (fun _ => ?_) (fun c9 => absurd rfl c9)
  exact next _ _ hR _ _ _ ⟨hP1, hP2, hS⟩ hl
set_option maxRecDepth 100000 in
set_option maxHeartbeats 4000000 in
theorem lcase_37 {p : Program} {l : Launch} {e : Env} {s : State} {m : MethodId} {below : List Frame} {meth : Method} {c : Code} {b n : Nat} {xs : Nat → Int32} {D : va_G} {cy : Nat → ClassId} {LC LM : Nat → Nat} {bA : Nat} {Q : State → Prop} (X : LX p s m c b n xs D cy LC LM bA) (v : Int32) (hi0 : vp_in v n) (hi1 : vp_in (v + 1) n) (hi2 : vp_in (v + 2) n) (hi3 : vp_in (v + 3) n) (hi4 : vp_in (v + 4) n) (next : ∀ (S T : Sg), Rel S T → ∀ (H : Heap) (locs : List Loc) (ls : Array Slot), LW D cy LC LM S T s H locs → lv_has ls 4 [(0, .ref b), (1, .ref (LC 0)), (2, .ref (LM 0)), (3, .int v)] → W p l e room_1 s m #[Value.ref b] below meth c H locs 600000 7302250 Q (F0 m 1610 ls [])) (S T : Sg) (hR : Rel S T) (H : Heap) (locs : List Loc) (ls : Array Slot) (hW : LW D cy LC LM S T s H locs) (hl : lv_has ls 4 [(0, .ref b), (1, .ref (LC 0)), (2, .ref (LM 0)), (3, .int v)]) : W p l e room_1 s m #[Value.ref b] below meth c H locs 600000 7302250 Q (F0 m 1368 ls []) := by
  obtain ⟨E, hC, hM, hCC, hMM, hdis, hX, hbl⟩ := X
  obtain ⟨hP1, hP2, hS⟩ := hW
  have hx := E.1
  have hb := E.2.1
  have hts := E.2.2.2.2
  have hbA : ¬ A0 s b := Nat.not_le.mpr hbl
  refine lv_aload_n hx hb dL_law_1368 rfl (lv_at hl 1 rfl) ?_
  refine lv_aload_n hx hb dL_law_1369 rfl (lv_at hl 0 rfl) ?_
  refine lv_iload_n hx hb dL_law_1370 rfl (lv_at hl 3 rfl) ?_
  refine lv_iconst (v := 1) hx hb dL_law_1371 (by decide) ?_
  refine lv_iadd hx hb dL_law_1372 ?_
  refine va_sld hx hb hX hbl hbA hS hi1 dL_law_1373 ?_
  refine lv_aload_n hx hb dL_law_1374 rfl (lv_at hl 0 rfl) ?_
  refine lv_iload_n hx hb dL_law_1375 rfl (lv_at hl 3 rfl) ?_
  refine lv_iconst (v := 2) hx hb dL_law_1376 (by decide) ?_
  refine lv_iadd hx hb dL_law_1377 ?_
  refine va_sld hx hb hX hbl hbA hS hi2 dL_law_1378 ?_
  refine lv_aload_n hx hb dL_law_1379 rfl (lv_at hl 0 rfl) ?_
  refine lv_iload_n hx hb dL_law_1380 rfl (lv_at hl 3 rfl) ?_
  refine lv_iconst (v := 3) hx hb dL_law_1381 (by decide) ?_
  refine lv_iadd hx hb dL_law_1382 ?_
  refine va_sld hx hb hX hbl hbA hS hi3 dL_law_1383 ?_
  obtain ⟨r, S', T', h1, h2, hR⟩ := e_sheet hR (xs (v + 1).toNatClampNeg) (xs (v + 2).toNatClampNeg) (xs (v + 3).toNatClampNeg)
  refine l_call (w := (.int r)) (LA := LC) (LB := LM) (As := [.int (xs (v + 1).toNatClampNeg), .int (xs (v + 2).toNatClampNeg), .int (xs (v + 3).toNatClampNeg)]) (rest := []) E hC hCC hdis hP1 hP2 hS hl.1 (c_X9_sheet (xs (v + 1).toNatClampNeg) (xs (v + 2).toNatClampNeg) (xs (v + 3).toNatClampNeg) r S S' h1) cv_L_171 rfl (by decide) rfl rfl rfl ⟨Nat.le_of_ble_eq_true rfl, Nat.le_of_ble_eq_true rfl⟩ ⟨Nat.le_refl _, Nat.le_refl _⟩ (Nat.le_of_ble_eq_true rfl) dL_law_1384 (fun H locs hP1 hP2 hS => ?_)
  refine lv_aload_n hx hb dL_law_1387 rfl (lv_at hl 2 rfl) ?_
  refine lv_aload_n hx hb dL_law_1388 rfl (lv_at hl 0 rfl) ?_
  refine lv_iload_n hx hb dL_law_1389 rfl (lv_at hl 3 rfl) ?_
  refine lv_iconst (v := 1) hx hb dL_law_1390 (by decide) ?_
  refine lv_iadd hx hb dL_law_1391 ?_
  refine va_sld hx hb hX hbl hbA hS hi1 dL_law_1392 ?_
  refine lv_aload_n hx hb dL_law_1393 rfl (lv_at hl 0 rfl) ?_
  refine lv_iload_n hx hb dL_law_1394 rfl (lv_at hl 3 rfl) ?_
  refine lv_iconst (v := 2) hx hb dL_law_1395 (by decide) ?_
  refine lv_iadd hx hb dL_law_1396 ?_
  refine va_sld hx hb hX hbl hbA hS hi2 dL_law_1397 ?_
  refine lv_aload_n hx hb dL_law_1398 rfl (lv_at hl 0 rfl) ?_
  refine lv_iload_n hx hb dL_law_1399 rfl (lv_at hl 3 rfl) ?_
  refine lv_iconst (v := 3) hx hb dL_law_1400 (by decide) ?_
  refine lv_iadd hx hb dL_law_1401 ?_
  refine va_sld hx hb hX hbl hbA hS hi3 dL_law_1402 ?_
  refine l_call (w := (.int r)) (LA := LM) (LB := LC) (As := [.int (xs (v + 1).toNatClampNeg), .int (xs (v + 2).toNatClampNeg), .int (xs (v + 3).toNatClampNeg)]) (rest := [.int r]) E hM hMM (fun i j h h2 q => hdis j i h2 h q.symm) hP2 hP1 hS hl.1 (c_X10_sheet (xs (v + 1).toNatClampNeg) (xs (v + 2).toNatClampNeg) (xs (v + 3).toNatClampNeg) r T T' h2) cv_L_174 rfl (by decide) rfl rfl rfl ⟨Nat.le_of_ble_eq_true rfl, Nat.le_of_ble_eq_true rfl⟩ ⟨Nat.le_refl _, Nat.le_refl _⟩ (Nat.le_of_ble_eq_true rfl) dL_law_1403 (fun H locs hP2 hP1 hS => ?_)
  refine lv_icmp_eq (tgt := 1610) hx hb dL_law_1406 (by decide) (fun _ => ?_) (fun c9 => absurd rfl c9)
  exact next _ _ hR _ _ _ ⟨hP1, hP2, hS⟩ hl
set_option maxRecDepth 100000 in
set_option maxHeartbeats 4000000 in
theorem lcase_38 {p : Program} {l : Launch} {e : Env} {s : State} {m : MethodId} {below : List Frame} {meth : Method} {c : Code} {b n : Nat} {xs : Nat → Int32} {D : va_G} {cy : Nat → ClassId} {LC LM : Nat → Nat} {bA : Nat} {Q : State → Prop} (X : LX p s m c b n xs D cy LC LM bA) (v : Int32) (hi0 : vp_in v n) (hi1 : vp_in (v + 1) n) (hi2 : vp_in (v + 2) n) (hi3 : vp_in (v + 3) n) (hi4 : vp_in (v + 4) n) (next : ∀ (S T : Sg), Rel S T → ∀ (H : Heap) (locs : List Loc) (ls : Array Slot), LW D cy LC LM S T s H locs → lv_has ls 4 [(0, .ref b), (1, .ref (LC 0)), (2, .ref (LM 0)), (3, .int v)] → W p l e room_1 s m #[Value.ref b] below meth c H locs 600000 7302250 Q (F0 m 1610 ls [])) (S T : Sg) (hR : Rel S T) (H : Heap) (locs : List Loc) (ls : Array Slot) (hW : LW D cy LC LM S T s H locs) (hl : lv_has ls 4 [(0, .ref b), (1, .ref (LC 0)), (2, .ref (LM 0)), (3, .int v)]) : W p l e room_1 s m #[Value.ref b] below meth c H locs 600000 7302250 Q (F0 m 1411 ls []) := by
  obtain ⟨E, hC, hM, hCC, hMM, hdis, hX, hbl⟩ := X
  obtain ⟨hP1, hP2, hS⟩ := hW
  have hx := E.1
  have hb := E.2.1
  have hts := E.2.2.2.2
  have hbA : ¬ A0 s b := Nat.not_le.mpr hbl
  refine lv_aload_n hx hb dL_law_1411 rfl (lv_at hl 1 rfl) ?_
  refine lv_aload_n hx hb dL_law_1412 rfl (lv_at hl 0 rfl) ?_
  refine lv_iload_n hx hb dL_law_1413 rfl (lv_at hl 3 rfl) ?_
  refine lv_iconst (v := 1) hx hb dL_law_1414 (by decide) ?_
  refine lv_iadd hx hb dL_law_1415 ?_
  refine va_sld hx hb hX hbl hbA hS hi1 dL_law_1416 ?_
  refine lv_aload_n hx hb dL_law_1417 rfl (lv_at hl 0 rfl) ?_
  refine lv_iload_n hx hb dL_law_1418 rfl (lv_at hl 3 rfl) ?_
  refine lv_iconst (v := 2) hx hb dL_law_1419 (by decide) ?_
  refine lv_iadd hx hb dL_law_1420 ?_
  refine va_sld hx hb hX hbl hbA hS hi2 dL_law_1421 ?_
  refine lv_aload_n hx hb dL_law_1422 rfl (lv_at hl 0 rfl) ?_
  refine lv_iload_n hx hb dL_law_1423 rfl (lv_at hl 3 rfl) ?_
  refine lv_iconst (v := 3) hx hb dL_law_1424 (by decide) ?_
  refine lv_iadd hx hb dL_law_1425 ?_
  refine va_sld hx hb hX hbl hbA hS hi3 dL_law_1426 ?_
  refine lv_i2l hx hb dL_law_1427 rfl ?_
  refine lv_bipush (v := 32) hx hb dL_law_1428 (by decide) ?_
  refine lv_lshl (v := lsh ((xs (v + 3).toNatClampNeg).toInt64) 32) hx hb dL_law_1430 rfl ?_
  refine lv_aload_n hx hb dL_law_1431 rfl (lv_at hl 0 rfl) ?_
  refine lv_iload_n hx hb dL_law_1432 rfl (lv_at hl 3 rfl) ?_
  refine lv_iconst (v := 4) hx hb dL_law_1433 (by decide) ?_
  refine lv_iadd hx hb dL_law_1434 ?_
  refine va_sld hx hb hX hbl hbA hS hi4 dL_law_1435 ?_
  refine lv_i2l hx hb dL_law_1436 rfl ?_
  refine lv_ldc2 hx hb E.2.2.2.1 (hts _ ww_1287) dL_law_1437 ?_
  refine lv_land hx hb dL_law_1440 ?_
  refine lv_lor hx hb dL_law_1441 ?_
  obtain ⟨r, S', T', h1, h2, hR⟩ := e_cell hR (xs (v + 1).toNatClampNeg) (xs (v + 2).toNatClampNeg) ((lsh ((xs (v + 3).toNatClampNeg).toInt64) 32) ||| ((xs (v + 4).toNatClampNeg).toInt64 &&& (4294967295 : Int64)))
  refine l_call (w := (.int r)) (LA := LC) (LB := LM) (As := [.int (xs (v + 1).toNatClampNeg), .int (xs (v + 2).toNatClampNeg), .long ((lsh ((xs (v + 3).toNatClampNeg).toInt64) 32) ||| ((xs (v + 4).toNatClampNeg).toInt64 &&& (4294967295 : Int64)))]) (rest := []) E hC hCC hdis hP1 hP2 hS hl.1 (c_X9_cell (xs (v + 1).toNatClampNeg) (xs (v + 2).toNatClampNeg) ((lsh ((xs (v + 3).toNatClampNeg).toInt64) 32) ||| ((xs (v + 4).toNatClampNeg).toInt64 &&& (4294967295 : Int64))) r S S' h1) cv_L_175 rfl (by decide) rfl rfl rfl ⟨Nat.le_of_ble_eq_true rfl, Nat.le_of_ble_eq_true rfl⟩ ⟨Nat.le_refl _, Nat.le_refl _⟩ (Nat.le_of_ble_eq_true rfl) dL_law_1442 (fun H locs hP1 hP2 hS => ?_)
  refine lv_aload_n hx hb dL_law_1445 rfl (lv_at hl 2 rfl) ?_
  refine lv_aload_n hx hb dL_law_1446 rfl (lv_at hl 0 rfl) ?_
  refine lv_iload_n hx hb dL_law_1447 rfl (lv_at hl 3 rfl) ?_
  refine lv_iconst (v := 1) hx hb dL_law_1448 (by decide) ?_
  refine lv_iadd hx hb dL_law_1449 ?_
  refine va_sld hx hb hX hbl hbA hS hi1 dL_law_1450 ?_
  refine lv_aload_n hx hb dL_law_1451 rfl (lv_at hl 0 rfl) ?_
  refine lv_iload_n hx hb dL_law_1452 rfl (lv_at hl 3 rfl) ?_
  refine lv_iconst (v := 2) hx hb dL_law_1453 (by decide) ?_
  refine lv_iadd hx hb dL_law_1454 ?_
  refine va_sld hx hb hX hbl hbA hS hi2 dL_law_1455 ?_
  refine lv_aload_n hx hb dL_law_1456 rfl (lv_at hl 0 rfl) ?_
  refine lv_iload_n hx hb dL_law_1457 rfl (lv_at hl 3 rfl) ?_
  refine lv_iconst (v := 3) hx hb dL_law_1458 (by decide) ?_
  refine lv_iadd hx hb dL_law_1459 ?_
  refine va_sld hx hb hX hbl hbA hS hi3 dL_law_1460 ?_
  refine lv_i2l hx hb dL_law_1461 rfl ?_
  refine lv_bipush (v := 32) hx hb dL_law_1462 (by decide) ?_
  refine lv_lshl (v := lsh ((xs (v + 3).toNatClampNeg).toInt64) 32) hx hb dL_law_1464 rfl ?_
  refine lv_aload_n hx hb dL_law_1465 rfl (lv_at hl 0 rfl) ?_
  refine lv_iload_n hx hb dL_law_1466 rfl (lv_at hl 3 rfl) ?_
  refine lv_iconst (v := 4) hx hb dL_law_1467 (by decide) ?_
  refine lv_iadd hx hb dL_law_1468 ?_
  refine va_sld hx hb hX hbl hbA hS hi4 dL_law_1469 ?_
  refine lv_i2l hx hb dL_law_1470 rfl ?_
  refine lv_ldc2 hx hb E.2.2.2.1 (hts _ ww_1287) dL_law_1471 ?_
  refine lv_land hx hb dL_law_1474 ?_
  refine lv_lor hx hb dL_law_1475 ?_
  refine l_call (w := (.int r)) (LA := LM) (LB := LC) (As := [.int (xs (v + 1).toNatClampNeg), .int (xs (v + 2).toNatClampNeg), .long ((lsh ((xs (v + 3).toNatClampNeg).toInt64) 32) ||| ((xs (v + 4).toNatClampNeg).toInt64 &&& (4294967295 : Int64)))]) (rest := [.int r]) E hM hMM (fun i j h h2 q => hdis j i h2 h q.symm) hP2 hP1 hS hl.1 (c_X10_cell (xs (v + 1).toNatClampNeg) (xs (v + 2).toNatClampNeg) ((lsh ((xs (v + 3).toNatClampNeg).toInt64) 32) ||| ((xs (v + 4).toNatClampNeg).toInt64 &&& (4294967295 : Int64))) r T T' h2) cv_L_179 rfl (by decide) rfl rfl rfl ⟨Nat.le_of_ble_eq_true rfl, Nat.le_of_ble_eq_true rfl⟩ ⟨Nat.le_refl _, Nat.le_refl _⟩ (Nat.le_of_ble_eq_true rfl) dL_law_1476 (fun H locs hP2 hP1 hS => ?_)
  refine lv_icmp_eq (tgt := 1610) hx hb dL_law_1479 (by decide) (fun _ => ?_) (fun c9 => absurd rfl c9)
  exact next _ _ hR _ _ _ ⟨hP1, hP2, hS⟩ hl
set_option maxRecDepth 100000 in
set_option maxHeartbeats 4000000 in
theorem lcase_39 {p : Program} {l : Launch} {e : Env} {s : State} {m : MethodId} {below : List Frame} {meth : Method} {c : Code} {b n : Nat} {xs : Nat → Int32} {D : va_G} {cy : Nat → ClassId} {LC LM : Nat → Nat} {bA : Nat} {Q : State → Prop} (X : LX p s m c b n xs D cy LC LM bA) (v : Int32) (hi0 : vp_in v n) (hi1 : vp_in (v + 1) n) (hi2 : vp_in (v + 2) n) (hi3 : vp_in (v + 3) n) (hi4 : vp_in (v + 4) n) (next : ∀ (S T : Sg), Rel S T → ∀ (H : Heap) (locs : List Loc) (ls : Array Slot), LW D cy LC LM S T s H locs → lv_has ls 4 [(0, .ref b), (1, .ref (LC 0)), (2, .ref (LM 0)), (3, .int v)] → W p l e room_1 s m #[Value.ref b] below meth c H locs 600000 7302250 Q (F0 m 1610 ls [])) (S T : Sg) (hR : Rel S T) (H : Heap) (locs : List Loc) (ls : Array Slot) (hW : LW D cy LC LM S T s H locs) (hl : lv_has ls 4 [(0, .ref b), (1, .ref (LC 0)), (2, .ref (LM 0)), (3, .int v)]) : W p l e room_1 s m #[Value.ref b] below meth c H locs 600000 7302250 Q (F0 m 1484 ls []) := by
  obtain ⟨E, hC, hM, hCC, hMM, hdis, hX, hbl⟩ := X
  obtain ⟨hP1, hP2, hS⟩ := hW
  have hx := E.1
  have hb := E.2.1
  have hts := E.2.2.2.2
  have hbA : ¬ A0 s b := Nat.not_le.mpr hbl
  refine lv_aload_n hx hb dL_law_1484 rfl (lv_at hl 1 rfl) ?_
  refine lv_aload_n hx hb dL_law_1485 rfl (lv_at hl 0 rfl) ?_
  refine lv_iload_n hx hb dL_law_1486 rfl (lv_at hl 3 rfl) ?_
  refine lv_iconst (v := 1) hx hb dL_law_1487 (by decide) ?_
  refine lv_iadd hx hb dL_law_1488 ?_
  refine va_sld hx hb hX hbl hbA hS hi1 dL_law_1489 ?_
  refine lv_aload_n hx hb dL_law_1490 rfl (lv_at hl 0 rfl) ?_
  refine lv_iload_n hx hb dL_law_1491 rfl (lv_at hl 3 rfl) ?_
  refine lv_iconst (v := 2) hx hb dL_law_1492 (by decide) ?_
  refine lv_iadd hx hb dL_law_1493 ?_
  refine va_sld hx hb hX hbl hbA hS hi2 dL_law_1494 ?_
  obtain ⟨r, h1, h2, hR⟩ := e_read hR (xs (v + 1).toNatClampNeg) (xs (v + 2).toNatClampNeg)
  refine l_call (w := (.long r)) (LA := LC) (LB := LM) (As := [.int (xs (v + 1).toNatClampNeg), .int (xs (v + 2).toNatClampNeg)]) (rest := []) E hC hCC hdis hP1 hP2 hS hl.1 (c_X9_read (xs (v + 1).toNatClampNeg) (xs (v + 2).toNatClampNeg) r S h1) cv_L_180 rfl (by decide) rfl rfl rfl ⟨Nat.le_of_ble_eq_true rfl, Nat.le_of_ble_eq_true rfl⟩ ⟨Nat.le_refl _, Nat.le_refl _⟩ (Nat.le_of_ble_eq_true rfl) dL_law_1495 (fun H locs hP1 hP2 hS => ?_)
  refine lv_aload_n hx hb dL_law_1498 rfl (lv_at hl 2 rfl) ?_
  refine lv_aload_n hx hb dL_law_1499 rfl (lv_at hl 0 rfl) ?_
  refine lv_iload_n hx hb dL_law_1500 rfl (lv_at hl 3 rfl) ?_
  refine lv_iconst (v := 1) hx hb dL_law_1501 (by decide) ?_
  refine lv_iadd hx hb dL_law_1502 ?_
  refine va_sld hx hb hX hbl hbA hS hi1 dL_law_1503 ?_
  refine lv_aload_n hx hb dL_law_1504 rfl (lv_at hl 0 rfl) ?_
  refine lv_iload_n hx hb dL_law_1505 rfl (lv_at hl 3 rfl) ?_
  refine lv_iconst (v := 2) hx hb dL_law_1506 (by decide) ?_
  refine lv_iadd hx hb dL_law_1507 ?_
  refine va_sld hx hb hX hbl hbA hS hi2 dL_law_1508 ?_
  refine l_call (w := (.long r)) (LA := LM) (LB := LC) (As := [.int (xs (v + 1).toNatClampNeg), .int (xs (v + 2).toNatClampNeg)]) (rest := [.long r]) E hM hMM (fun i j h h2 q => hdis j i h2 h q.symm) hP2 hP1 hS hl.1 (c_X10_read (xs (v + 1).toNatClampNeg) (xs (v + 2).toNatClampNeg) r T h2) cv_L_184 rfl (by decide) rfl rfl rfl ⟨Nat.le_of_ble_eq_true rfl, Nat.le_of_ble_eq_true rfl⟩ ⟨Nat.le_refl _, Nat.le_refl _⟩ (Nat.le_of_ble_eq_true rfl) dL_law_1509 (fun H locs hP2 hP1 hS => ?_)
  refine W.lcmp hx hb dL_law_1512 ?_
  rw [lg_cmp_self]
  refine lv_if_eq (tgt := 1610) hx hb dL_law_1513 (by decide) (fun _ => ?_) (fun c9 => absurd rfl c9)
  exact next _ _ hR _ _ _ ⟨hP1, hP2, hS⟩ hl
set_option maxRecDepth 100000 in
set_option maxHeartbeats 4000000 in
theorem lcase_40 {p : Program} {l : Launch} {e : Env} {s : State} {m : MethodId} {below : List Frame} {meth : Method} {c : Code} {b n : Nat} {xs : Nat → Int32} {D : va_G} {cy : Nat → ClassId} {LC LM : Nat → Nat} {bA : Nat} {Q : State → Prop} (X : LX p s m c b n xs D cy LC LM bA) (v : Int32) (hi0 : vp_in v n) (hi1 : vp_in (v + 1) n) (hi2 : vp_in (v + 2) n) (hi3 : vp_in (v + 3) n) (hi4 : vp_in (v + 4) n) (next : ∀ (S T : Sg), Rel S T → ∀ (H : Heap) (locs : List Loc) (ls : Array Slot), LW D cy LC LM S T s H locs → lv_has ls 4 [(0, .ref b), (1, .ref (LC 0)), (2, .ref (LM 0)), (3, .int v)] → W p l e room_1 s m #[Value.ref b] below meth c H locs 600000 7302250 Q (F0 m 1610 ls [])) (S T : Sg) (hR : Rel S T) (H : Heap) (locs : List Loc) (ls : Array Slot) (hW : LW D cy LC LM S T s H locs) (hl : lv_has ls 4 [(0, .ref b), (1, .ref (LC 0)), (2, .ref (LM 0)), (3, .int v)]) : W p l e room_1 s m #[Value.ref b] below meth c H locs 600000 7302250 Q (F0 m 1518 ls []) := by
  obtain ⟨E, hC, hM, hCC, hMM, hdis, hX, hbl⟩ := X
  obtain ⟨hP1, hP2, hS⟩ := hW
  have hx := E.1
  have hb := E.2.1
  have hts := E.2.2.2.2
  have hbA : ¬ A0 s b := Nat.not_le.mpr hbl
  refine lv_aload_n hx hb dL_law_1518 rfl (lv_at hl 1 rfl) ?_
  refine lv_aload_n hx hb dL_law_1519 rfl (lv_at hl 0 rfl) ?_
  refine lv_iload_n hx hb dL_law_1520 rfl (lv_at hl 3 rfl) ?_
  refine lv_iconst (v := 1) hx hb dL_law_1521 (by decide) ?_
  refine lv_iadd hx hb dL_law_1522 ?_
  refine va_sld hx hb hX hbl hbA hS hi1 dL_law_1523 ?_
  refine lv_aload_n hx hb dL_law_1524 rfl (lv_at hl 0 rfl) ?_
  refine lv_iload_n hx hb dL_law_1525 rfl (lv_at hl 3 rfl) ?_
  refine lv_iconst (v := 2) hx hb dL_law_1526 (by decide) ?_
  refine lv_iadd hx hb dL_law_1527 ?_
  refine va_sld hx hb hX hbl hbA hS hi2 dL_law_1528 ?_
  refine lv_aload_n hx hb dL_law_1529 rfl (lv_at hl 0 rfl) ?_
  refine lv_iload_n hx hb dL_law_1530 rfl (lv_at hl 3 rfl) ?_
  refine lv_iconst (v := 3) hx hb dL_law_1531 (by decide) ?_
  refine lv_iadd hx hb dL_law_1532 ?_
  refine va_sld hx hb hX hbl hbA hS hi3 dL_law_1533 ?_
  obtain ⟨r, S', T', h1, h2, hR⟩ := e_load hR (xs (v + 1).toNatClampNeg) (xs (v + 2).toNatClampNeg) (xs (v + 3).toNatClampNeg)
  refine l_call (w := (.int r)) (LA := LC) (LB := LM) (As := [.int (xs (v + 1).toNatClampNeg), .int (xs (v + 2).toNatClampNeg), .int (xs (v + 3).toNatClampNeg)]) (rest := []) E hC hCC hdis hP1 hP2 hS hl.1 (c_X9_load (xs (v + 1).toNatClampNeg) (xs (v + 2).toNatClampNeg) (xs (v + 3).toNatClampNeg) r S S' h1) cv_L_185 rfl (by decide) rfl rfl rfl ⟨Nat.le_of_ble_eq_true rfl, Nat.le_of_ble_eq_true rfl⟩ ⟨Nat.le_refl _, Nat.le_refl _⟩ (Nat.le_of_ble_eq_true rfl) dL_law_1534 (fun H locs hP1 hP2 hS => ?_)
  refine lv_aload_n hx hb dL_law_1537 rfl (lv_at hl 2 rfl) ?_
  refine lv_aload_n hx hb dL_law_1538 rfl (lv_at hl 0 rfl) ?_
  refine lv_iload_n hx hb dL_law_1539 rfl (lv_at hl 3 rfl) ?_
  refine lv_iconst (v := 1) hx hb dL_law_1540 (by decide) ?_
  refine lv_iadd hx hb dL_law_1541 ?_
  refine va_sld hx hb hX hbl hbA hS hi1 dL_law_1542 ?_
  refine lv_aload_n hx hb dL_law_1543 rfl (lv_at hl 0 rfl) ?_
  refine lv_iload_n hx hb dL_law_1544 rfl (lv_at hl 3 rfl) ?_
  refine lv_iconst (v := 2) hx hb dL_law_1545 (by decide) ?_
  refine lv_iadd hx hb dL_law_1546 ?_
  refine va_sld hx hb hX hbl hbA hS hi2 dL_law_1547 ?_
  refine lv_aload_n hx hb dL_law_1548 rfl (lv_at hl 0 rfl) ?_
  refine lv_iload_n hx hb dL_law_1549 rfl (lv_at hl 3 rfl) ?_
  refine lv_iconst (v := 3) hx hb dL_law_1550 (by decide) ?_
  refine lv_iadd hx hb dL_law_1551 ?_
  refine va_sld hx hb hX hbl hbA hS hi3 dL_law_1552 ?_
  refine l_call (w := (.int r)) (LA := LM) (LB := LC) (As := [.int (xs (v + 1).toNatClampNeg), .int (xs (v + 2).toNatClampNeg), .int (xs (v + 3).toNatClampNeg)]) (rest := [.int r]) E hM hMM (fun i j h h2 q => hdis j i h2 h q.symm) hP2 hP1 hS hl.1 (c_X10_load (xs (v + 1).toNatClampNeg) (xs (v + 2).toNatClampNeg) (xs (v + 3).toNatClampNeg) r T T' h2) cv_L_188 rfl (by decide) rfl rfl rfl ⟨Nat.le_of_ble_eq_true rfl, Nat.le_of_ble_eq_true rfl⟩ ⟨Nat.le_refl _, Nat.le_refl _⟩ (Nat.le_of_ble_eq_true rfl) dL_law_1553 (fun H locs hP2 hP1 hS => ?_)
  refine lv_icmp_eq (tgt := 1610) hx hb dL_law_1556 (by decide) (fun _ => ?_) (fun c9 => absurd rfl c9)
  exact next _ _ hR _ _ _ ⟨hP1, hP2, hS⟩ hl
set_option maxRecDepth 100000 in
set_option maxHeartbeats 4000000 in
theorem lcase_41 {p : Program} {l : Launch} {e : Env} {s : State} {m : MethodId} {below : List Frame} {meth : Method} {c : Code} {b n : Nat} {xs : Nat → Int32} {D : va_G} {cy : Nat → ClassId} {LC LM : Nat → Nat} {bA : Nat} {Q : State → Prop} (X : LX p s m c b n xs D cy LC LM bA) (v : Int32) (hi0 : vp_in v n) (hi1 : vp_in (v + 1) n) (hi2 : vp_in (v + 2) n) (hi3 : vp_in (v + 3) n) (hi4 : vp_in (v + 4) n) (next : ∀ (S T : Sg), Rel S T → ∀ (H : Heap) (locs : List Loc) (ls : Array Slot), LW D cy LC LM S T s H locs → lv_has ls 4 [(0, .ref b), (1, .ref (LC 0)), (2, .ref (LM 0)), (3, .int v)] → W p l e room_1 s m #[Value.ref b] below meth c H locs 600000 7302250 Q (F0 m 1610 ls [])) (S T : Sg) (hR : Rel S T) (H : Heap) (locs : List Loc) (ls : Array Slot) (hW : LW D cy LC LM S T s H locs) (hl : lv_has ls 4 [(0, .ref b), (1, .ref (LC 0)), (2, .ref (LM 0)), (3, .int v)]) : W p l e room_1 s m #[Value.ref b] below meth c H locs 600000 7302250 Q (F0 m 1561 ls []) := by
  obtain ⟨E, hC, hM, hCC, hMM, hdis, hX, hbl⟩ := X
  obtain ⟨hP1, hP2, hS⟩ := hW
  have hx := E.1
  have hb := E.2.1
  have hts := E.2.2.2.2
  have hbA : ¬ A0 s b := Nat.not_le.mpr hbl
  refine lv_aload_n hx hb dL_law_1561 rfl (lv_at hl 1 rfl) ?_
  obtain ⟨r, S', T', h1, h2, hR⟩ := e_image hR
  refine l_call (w := (.int r)) (LA := LC) (LB := LM) (As := []) (rest := []) E hC hCC hdis hP1 hP2 hS hl.1 (c_X9_image  r S S' h1) cv_L_189 rfl (by decide) rfl rfl rfl ⟨Nat.le_of_ble_eq_true rfl, Nat.le_of_ble_eq_true rfl⟩ ⟨Nat.le_refl _, Nat.le_refl _⟩ (Nat.le_of_ble_eq_true rfl) dL_law_1562 (fun H locs hP1 hP2 hS => ?_)
  refine lv_aload_n hx hb dL_law_1565 rfl (lv_at hl 2 rfl) ?_
  refine l_call (w := (.int r)) (LA := LM) (LB := LC) (As := []) (rest := [.int r]) E hM hMM (fun i j h h2 q => hdis j i h2 h q.symm) hP2 hP1 hS hl.1 (c_X10_image  r T T' h2) cv_L_192 rfl (by decide) rfl rfl rfl ⟨Nat.le_of_ble_eq_true rfl, Nat.le_of_ble_eq_true rfl⟩ ⟨Nat.le_refl _, Nat.le_refl _⟩ (Nat.le_of_ble_eq_true rfl) dL_law_1566 (fun H locs hP2 hP1 hS => ?_)
  refine lv_icmp_eq (tgt := 1610) hx hb dL_law_1569 (by decide) (fun _ => ?_) (fun c9 => absurd rfl c9)
  exact next _ _ hR _ _ _ ⟨hP1, hP2, hS⟩ hl
set_option maxRecDepth 100000 in
set_option maxHeartbeats 4000000 in
theorem lcase_42 {p : Program} {l : Launch} {e : Env} {s : State} {m : MethodId} {below : List Frame} {meth : Method} {c : Code} {b n : Nat} {xs : Nat → Int32} {D : va_G} {cy : Nat → ClassId} {LC LM : Nat → Nat} {bA : Nat} {Q : State → Prop} (X : LX p s m c b n xs D cy LC LM bA) (v : Int32) (hi0 : vp_in v n) (hi1 : vp_in (v + 1) n) (hi2 : vp_in (v + 2) n) (hi3 : vp_in (v + 3) n) (hi4 : vp_in (v + 4) n) (next : ∀ (S T : Sg), Rel S T → ∀ (H : Heap) (locs : List Loc) (ls : Array Slot), LW D cy LC LM S T s H locs → lv_has ls 4 [(0, .ref b), (1, .ref (LC 0)), (2, .ref (LM 0)), (3, .int v)] → W p l e room_1 s m #[Value.ref b] below meth c H locs 600000 7302250 Q (F0 m 1610 ls [])) (S T : Sg) (hR : Rel S T) (H : Heap) (locs : List Loc) (ls : Array Slot) (hW : LW D cy LC LM S T s H locs) (hl : lv_has ls 4 [(0, .ref b), (1, .ref (LC 0)), (2, .ref (LM 0)), (3, .int v)]) : W p l e room_1 s m #[Value.ref b] below meth c H locs 600000 7302250 Q (F0 m 1574 ls []) := by
  obtain ⟨E, hC, hM, hCC, hMM, hdis, hX, hbl⟩ := X
  obtain ⟨hP1, hP2, hS⟩ := hW
  have hx := E.1
  have hb := E.2.1
  have hts := E.2.2.2.2
  have hbA : ¬ A0 s b := Nat.not_le.mpr hbl
  refine lv_aload_n hx hb dL_law_1574 rfl (lv_at hl 1 rfl) ?_
  obtain ⟨r, S', T', h1, h2, hR⟩ := e_back hR
  refine l_call (w := (.int r)) (LA := LC) (LB := LM) (As := []) (rest := []) E hC hCC hdis hP1 hP2 hS hl.1 (c_X9_back  r S S' h1) cv_L_193 rfl (by decide) rfl rfl rfl ⟨Nat.le_of_ble_eq_true rfl, Nat.le_of_ble_eq_true rfl⟩ ⟨Nat.le_refl _, Nat.le_refl _⟩ (Nat.le_of_ble_eq_true rfl) dL_law_1575 (fun H locs hP1 hP2 hS => ?_)
  refine lv_aload_n hx hb dL_law_1578 rfl (lv_at hl 2 rfl) ?_
  refine l_call (w := (.int r)) (LA := LM) (LB := LC) (As := []) (rest := [.int r]) E hM hMM (fun i j h h2 q => hdis j i h2 h q.symm) hP2 hP1 hS hl.1 (c_X10_back  r T T' h2) cv_L_196 rfl (by decide) rfl rfl rfl ⟨Nat.le_of_ble_eq_true rfl, Nat.le_of_ble_eq_true rfl⟩ ⟨Nat.le_refl _, Nat.le_refl _⟩ (Nat.le_of_ble_eq_true rfl) dL_law_1579 (fun H locs hP2 hP1 hS => ?_)
  refine lv_icmp_eq (tgt := 1610) hx hb dL_law_1582 (by decide) (fun _ => ?_) (fun c9 => absurd rfl c9)
  exact next _ _ hR _ _ _ ⟨hP1, hP2, hS⟩ hl
set_option maxRecDepth 100000 in
set_option maxHeartbeats 4000000 in
theorem lcase_43 {p : Program} {l : Launch} {e : Env} {s : State} {m : MethodId} {below : List Frame} {meth : Method} {c : Code} {b n : Nat} {xs : Nat → Int32} {D : va_G} {cy : Nat → ClassId} {LC LM : Nat → Nat} {bA : Nat} {Q : State → Prop} (X : LX p s m c b n xs D cy LC LM bA) (v : Int32) (hi0 : vp_in v n) (hi1 : vp_in (v + 1) n) (hi2 : vp_in (v + 2) n) (hi3 : vp_in (v + 3) n) (hi4 : vp_in (v + 4) n) (next : ∀ (S T : Sg), Rel S T → ∀ (H : Heap) (locs : List Loc) (ls : Array Slot), LW D cy LC LM S T s H locs → lv_has ls 4 [(0, .ref b), (1, .ref (LC 0)), (2, .ref (LM 0)), (3, .int v)] → W p l e room_1 s m #[Value.ref b] below meth c H locs 600000 7302250 Q (F0 m 1610 ls [])) (S T : Sg) (hR : Rel S T) (H : Heap) (locs : List Loc) (ls : Array Slot) (hW : LW D cy LC LM S T s H locs) (hl : lv_has ls 4 [(0, .ref b), (1, .ref (LC 0)), (2, .ref (LM 0)), (3, .int v)]) : W p l e room_1 s m #[Value.ref b] below meth c H locs 600000 7302250 Q (F0 m 1587 ls []) := by
  obtain ⟨E, hC, hM, hCC, hMM, hdis, hX, hbl⟩ := X
  obtain ⟨hP1, hP2, hS⟩ := hW
  have hx := E.1
  have hb := E.2.1
  have hts := E.2.2.2.2
  have hbA : ¬ A0 s b := Nat.not_le.mpr hbl
  refine lv_aload_n hx hb dL_law_1587 rfl (lv_at hl 1 rfl) ?_
  refine lv_aload_n hx hb dL_law_1588 rfl (lv_at hl 0 rfl) ?_
  refine lv_iload_n hx hb dL_law_1589 rfl (lv_at hl 3 rfl) ?_
  refine lv_iconst (v := 1) hx hb dL_law_1590 (by decide) ?_
  refine lv_iadd hx hb dL_law_1591 ?_
  refine va_sld hx hb hX hbl hbA hS hi1 dL_law_1592 ?_
  obtain ⟨r, h1, h2, hR⟩ := e_count hR (xs (v + 1).toNatClampNeg)
  refine l_call (w := (.int r)) (LA := LC) (LB := LM) (As := [.int (xs (v + 1).toNatClampNeg)]) (rest := []) E hC hCC hdis hP1 hP2 hS hl.1 (c_X9_count (xs (v + 1).toNatClampNeg) r S h1) cv_L_197 rfl (by decide) rfl rfl rfl ⟨Nat.le_of_ble_eq_true rfl, Nat.le_of_ble_eq_true rfl⟩ ⟨Nat.le_refl _, Nat.le_refl _⟩ (Nat.le_of_ble_eq_true rfl) dL_law_1593 (fun H locs hP1 hP2 hS => ?_)
  refine lv_aload_n hx hb dL_law_1596 rfl (lv_at hl 2 rfl) ?_
  refine lv_aload_n hx hb dL_law_1597 rfl (lv_at hl 0 rfl) ?_
  refine lv_iload_n hx hb dL_law_1598 rfl (lv_at hl 3 rfl) ?_
  refine lv_iconst (v := 1) hx hb dL_law_1599 (by decide) ?_
  refine lv_iadd hx hb dL_law_1600 ?_
  refine va_sld hx hb hX hbl hbA hS hi1 dL_law_1601 ?_
  refine l_call (w := (.int r)) (LA := LM) (LB := LC) (As := [.int (xs (v + 1).toNatClampNeg)]) (rest := [.int r]) E hM hMM (fun i j h h2 q => hdis j i h2 h q.symm) hP2 hP1 hS hl.1 (c_X10_count (xs (v + 1).toNatClampNeg) r T h2) cv_L_200 rfl (by decide) rfl rfl rfl ⟨Nat.le_of_ble_eq_true rfl, Nat.le_of_ble_eq_true rfl⟩ ⟨Nat.le_refl _, Nat.le_refl _⟩ (Nat.le_of_ble_eq_true rfl) dL_law_1602 (fun H locs hP2 hP1 hS => ?_)
  refine lv_icmp_eq (tgt := 1610) hx hb dL_law_1605 (by decide) (fun _ => ?_) (fun c9 => absurd rfl c9)
  exact next _ _ hR _ _ _ ⟨hP1, hP2, hS⟩ hl
