def R_law : String := "PairsStandLaw"
def lw_P (b : Addr) (xs : List Int32) (args : Array Value) (s : State) : Prop := args = #[.ref b] ∧ s.IntsAt b xs ∧ xs.length ≤ 2560 ∧ (Jvm.Cond.and given_1 narrow_1).before args s = true
def lw_Q (_ : Array Value) (s : State) (o : Outcome) (t : State) : Prop := o = .returned (some (.int 1)) ∧ Framed s o t [] 600000 7302250
def lw_Z (below : List Frame) (a : Array Value) (s : State) : State → Prop := fun t => ∃ o, t.status = .running ∧ Ended t below o ∧ lw_Q a s o t
/-- the law's own end, with 1 on the stack, nothing written that was there before, its room as the claim has it -/
theorem lw_ret {p : Program} {l : Launch} {e : Env} {s : State} {m : MethodId} {below : List Frame} {meth : Method} {c : Code} {b : Nat} (hx : p.tables.exec = Jvm.exec) (hb : c.code = code) (hr : meth.sig.returnType = ret) (hlocks : meth.locks = false) {pc : Nat} {H : Heap} {ls : Array Slot} (hdg : decode code pc = .ok (.ireturn, 1)) : W p l e room_1 s m #[Value.ref b] below meth c H [] 600000 7302250 (lw_Z below #[Value.ref b] s) (F0 m pc ls [.int 1]) := by
  intro T hT X
  obtain ⟨fs, hret, hrun, hended, hW, hframe⟩ := X.leave (v := some (.int 1)) (hlocks := hlocks) (fun h => by rw [hr] at h; cases h)
  have hmeth' : T.vm.method? m = some meth := X.method'
  refine ⟨T.setFrames fs, ?_, .returned (some (.int 1)), hrun, hended, rfl, ⟨_, rfl⟩, hW, hframe⟩
  jvm_step X.here [X.here.top, hx, hb, hdg, hmeth', hr, ret, narrow_b1]
  (try refine ⟨rfl, ?_⟩); (try refine ⟨rfl, ?_⟩)
  first | (intro acts; rw [hret _ acts rfl rfl rfl]) | rw [hret _ _ rfl rfl rfl]
  exact Steps.refl _
/-- what holds at the law's entry: the machine, the code, the tables' words (any of lw_tbl by 'hts w (by decide +kernel)'), the script of L ints xs at the cell b, what the Statement gives of the start (any of its parts by flat_of_before) -/
def lw_At (p : Program) (s : State) (m : MethodId) (meth : Method) (c : Code) (b L : Nat) (xs : Nat → Int32) : Prop :=
  p.tables.exec = Jvm.exec ∧ c.code = code ∧ meth.sig.returnType = ret ∧ c.maxLocals = 4 ∧ s.vm.findClass R_law = some m.cls ∧ (∀ w ∈ lw_tbl, w.before #[Value.ref b] s = true) ∧ va_X b L xs s s.heap ∧ b < s.heap.size ∧ meth.locks = false ∧ (Jvm.Cond.and given_1 narrow_1).before #[Value.ref b] s = true
set_option maxRecDepth 100000 in
set_option maxHeartbeats 4000000 in
theorem law_loop {p : Program} {l : Launch} {e : Env} {s : State} {m : MethodId} {below : List Frame} {meth : Method} {c : Code} {b n : Nat} {xs : Nat → Int32} {D : va_G} {cy : Nat → ClassId} {LC LM : Nat → Nat} {bA : Nat} {Q : State → Prop} (X : LX p s m c b n xs D cy LC LM bA) (hn : n ≤ 2560) (hret : ∀ (H : Heap) (locs : List Loc) (ls : Array Slot) (S T : Sg), LW D cy LC LM S T s H locs → W p l e room_1 s m #[Value.ref b] below meth c H locs 600000 7302250 Q (F0 m 1616 ls [])) : ∀ (k j : Nat), n + 5 < 5 * j + 5 * k → 5 * j ≤ n + 5 → ∀ (S T : Sg), Rel S T → ∀ (H : Heap) (locs : List Loc) (ls : Array Slot), LW D cy LC LM S T s H locs → lv_has ls 4 [(0, .ref b), (1, .ref (LC 0)), (2, .ref (LM 0)), (3, .int (nI (5 * j)))] → W p l e room_1 s m #[Value.ref b] below meth c H locs 600000 7302250 Q (F0 m 18 ls []) := by
  have E := X.1
  obtain ⟨-, -, -, -, -, -, hX, hbl⟩ := id X
  have hx := E.1
  have hb := E.2.1
  have hbA : ¬ A0 s b := Nat.not_le.mpr hbl
  intro k
  induction k with
  | zero => intro j h1 h2; omega
  | succ k ih =>
    intro j hk hj S T hR H locs ls hW hl
    have hS := hW.2.2
    generalize hv : nI (5 * j) = v at hl
    refine lv_iload_n hx hb dL_law_18 rfl (lv_at hl 3 rfl) ?_
    refine lv_aload_n hx hb dL_law_19 rfl (lv_at hl 0 rfl) ?_
    refine va_slen hx hb hX hbl hbA hS dL_law_20 ?_
    refine lv_iconst (v := 5) hx hb dL_law_21 (by decide) ?_
    refine lv_isub hx hb dL_law_22 ?_
    have ev : v.toInt = (5 * j : Nat) := by rw [← hv]; exact nI_toInt (by omega)
    have en : (Int32.ofNat n - 5).toInt = (n : Int) - 5 := by
      have := pk_sub_toInt (a := n) (b := 5) (by omega) (by decide)
      exact this
    refine lv_icmp_gt (tgt := 1616) hx hb dL_law_23 (by decide) (fun _ => hret H locs ls S T hW) (fun c1 => ?_)
    have hlt : 5 * j + 5 ≤ n := by
      have h1 : ¬ ((n : Int) - 5 < (5 * j : Nat)) := fun q => c1 (by rw [Int32.lt_iff_toInt_lt, en, ev]; exact q)
      omega
    have hin : ∀ i : Nat, i < 5 → vp_in (v + nI i) n := fun i hi => by rw [← hv, nI_add]; exact vp_in_nI (by omega) (by omega)
    have hi0 : vp_in v n := by rw [← hv]; exact vp_in_nI (by omega) (by omega)
    have hi1 : vp_in (v + 1) n := hin 1 (by decide)
    have hi2 : vp_in (v + 2) n := hin 2 (by decide)
    have hi3 : vp_in (v + 3) n := hin 3 (by decide)
    have hi4 : vp_in (v + 4) n := hin 4 (by decide)
    have next : ∀ (S T : Sg), Rel S T → ∀ (H : Heap) (locs : List Loc) (ls : Array Slot), LW D cy LC LM S T s H locs → lv_has ls 4 [(0, .ref b), (1, .ref (LC 0)), (2, .ref (LM 0)), (3, .int v)] → W p l e room_1 s m #[Value.ref b] below meth c H locs 600000 7302250 Q (F0 m 1610 ls []) := by
      intro S T hR H locs ls hW hl
      have h5 : v + 5 = nI (5 * (j + 1)) := by rw [← hv]; exact nI_add (5 * j) 5
      refine lv_iinc (v := nI (5 * (j + 1))) (lv' := [(3, .int (nI (5 * (j + 1)))), (0, .ref b), (1, .ref (LC 0)), (2, .ref (LM 0))]) hx hb dL_law_1610 hl (k := 3) rfl h5 (by decide) rfl (fun ls hl => ?_)
      refine lv_goto (tgt := 18) hx hb dL_law_1613 (by decide) ?_
      exact ih (j + 1) (by omega) (by omega) S T hR H locs ls hW (lv_sub hl [1, 2, 3, 0] rfl)
    refine lv_aload_n hx hb dL_law_26 rfl (lv_at hl 0 rfl) ?_
    refine lv_iload_n hx hb dL_law_27 rfl (lv_at hl 3 rfl) ?_
    refine va_sld hx hb hX hbl hbA hS hi0 dL_law_28 ?_
    refine lv_bipush (v := 63) hx hb dL_law_29 (by decide) ?_
    refine lv_iand hx hb dL_law_31 ?_
    refine lv_topi (fun x ex => ?_)
    by_cases c10 : x = 0
    · refine lv_tableIn (off := 192) (tgt := 224) hx hb dL_law_32 (by rw [c10]; decide) (by rw [c10]; decide) (by rw [c10]; rfl) (by decide) ?_
      exact lcase_0 X v hi0 hi1 hi2 hi3 hi4 next S T hR H locs ls hW hl
    by_cases c11 : x = 1
    · refine lv_tableIn (off := 225) (tgt := 257) hx hb dL_law_32 (by rw [c11]; decide) (by rw [c11]; decide) (by rw [c11]; rfl) (by decide) ?_
      exact lcase_1 X v hi0 hi1 hi2 hi3 hi4 next S T hR H locs ls hW hl
    by_cases c12 : x = 2
    · refine lv_tableIn (off := 258) (tgt := 290) hx hb dL_law_32 (by rw [c12]; decide) (by rw [c12]; decide) (by rw [c12]; rfl) (by decide) ?_
      exact lcase_2 X v hi0 hi1 hi2 hi3 hi4 next S T hR H locs ls hW hl
    by_cases c13 : x = 3
    · refine lv_tableIn (off := 291) (tgt := 323) hx hb dL_law_32 (by rw [c13]; decide) (by rw [c13]; decide) (by rw [c13]; rfl) (by decide) ?_
      exact lcase_3 X v hi0 hi1 hi2 hi3 hi4 next S T hR H locs ls hW hl
    by_cases c14 : x = 4
    · refine lv_tableIn (off := 344) (tgt := 376) hx hb dL_law_32 (by rw [c14]; decide) (by rw [c14]; decide) (by rw [c14]; rfl) (by decide) ?_
      exact lcase_4 X v hi0 hi1 hi2 hi3 hi4 next S T hR H locs ls hW hl
    by_cases c15 : x = 5
    · refine lv_tableIn (off := 387) (tgt := 419) hx hb dL_law_32 (by rw [c15]; decide) (by rw [c15]; decide) (by rw [c15]; rfl) (by decide) ?_
      exact lcase_5 X v hi0 hi1 hi2 hi3 hi4 next S T hR H locs ls hW hl
    by_cases c16 : x = 6
    · refine lv_tableIn (off := 420) (tgt := 452) hx hb dL_law_32 (by rw [c16]; decide) (by rw [c16]; decide) (by rw [c16]; rfl) (by decide) ?_
      exact lcase_6 X v hi0 hi1 hi2 hi3 hi4 next S T hR H locs ls hW hl
    by_cases c17 : x = 7
    · refine lv_tableIn (off := 463) (tgt := 495) hx hb dL_law_32 (by rw [c17]; decide) (by rw [c17]; decide) (by rw [c17]; rfl) (by decide) ?_
      exact lcase_7 X v hi0 hi1 hi2 hi3 hi4 next S T hR H locs ls hW hl
    by_cases c18 : x = 8
    · refine lv_tableIn (off := 476) (tgt := 508) hx hb dL_law_32 (by rw [c18]; decide) (by rw [c18]; decide) (by rw [c18]; rfl) (by decide) ?_
      exact lcase_8 X v hi0 hi1 hi2 hi3 hi4 next S T hR H locs ls hW hl
    by_cases c19 : x = 9
    · refine lv_tableIn (off := 539) (tgt := 571) hx hb dL_law_32 (by rw [c19]; decide) (by rw [c19]; decide) (by rw [c19]; rfl) (by decide) ?_
      exact lcase_9 X v hi0 hi1 hi2 hi3 hi4 next S T hR H locs ls hW hl
    by_cases c20 : x = 10
    · refine lv_tableIn (off := 592) (tgt := 624) hx hb dL_law_32 (by rw [c20]; decide) (by rw [c20]; decide) (by rw [c20]; rfl) (by decide) ?_
      exact lcase_10 X v hi0 hi1 hi2 hi3 hi4 next S T hR H locs ls hW hl
    by_cases c21 : x = 11
    · refine lv_tableIn (off := 615) (tgt := 647) hx hb dL_law_32 (by rw [c21]; decide) (by rw [c21]; decide) (by rw [c21]; rfl) (by decide) ?_
      exact lcase_11 X v hi0 hi1 hi2 hi3 hi4 next S T hR H locs ls hW hl
    by_cases c22 : x = 12
    · refine lv_tableIn (off := 639) (tgt := 671) hx hb dL_law_32 (by rw [c22]; decide) (by rw [c22]; decide) (by rw [c22]; rfl) (by decide) ?_
      exact lcase_12 X v hi0 hi1 hi2 hi3 hi4 next S T hR H locs ls hW hl
    by_cases c23 : x = 13
    · refine lv_tableIn (off := 662) (tgt := 694) hx hb dL_law_32 (by rw [c23]; decide) (by rw [c23]; decide) (by rw [c23]; rfl) (by decide) ?_
      exact lcase_13 X v hi0 hi1 hi2 hi3 hi4 next S T hR H locs ls hW hl
    by_cases c24 : x = 14
    · refine lv_tableIn (off := 685) (tgt := 717) hx hb dL_law_32 (by rw [c24]; decide) (by rw [c24]; decide) (by rw [c24]; rfl) (by decide) ?_
      exact lcase_14 X v hi0 hi1 hi2 hi3 hi4 next S T hR H locs ls hW hl
    by_cases c25 : x = 15
    · refine lv_tableIn (off := 698) (tgt := 730) hx hb dL_law_32 (by rw [c25]; decide) (by rw [c25]; decide) (by rw [c25]; rfl) (by decide) ?_
      exact lcase_15 X v hi0 hi1 hi2 hi3 hi4 next S T hR H locs ls hW hl
    by_cases c26 : x = 16
    · refine lv_tableIn (off := 721) (tgt := 753) hx hb dL_law_32 (by rw [c26]; decide) (by rw [c26]; decide) (by rw [c26]; rfl) (by decide) ?_
      exact lcase_16 X v hi0 hi1 hi2 hi3 hi4 next S T hR H locs ls hW hl
    by_cases c27 : x = 17
    · refine lv_tableIn (off := 744) (tgt := 776) hx hb dL_law_32 (by rw [c27]; decide) (by rw [c27]; decide) (by rw [c27]; rfl) (by decide) ?_
      exact lcase_17 X v hi0 hi1 hi2 hi3 hi4 next S T hR H locs ls hW hl
    by_cases c28 : x = 18
    · refine lv_tableIn (off := 767) (tgt := 799) hx hb dL_law_32 (by rw [c28]; decide) (by rw [c28]; decide) (by rw [c28]; rfl) (by decide) ?_
      exact lcase_18 X v hi0 hi1 hi2 hi3 hi4 next S T hR H locs ls hW hl
    by_cases c29 : x = 19
    · refine lv_tableIn (off := 790) (tgt := 822) hx hb dL_law_32 (by rw [c29]; decide) (by rw [c29]; decide) (by rw [c29]; rfl) (by decide) ?_
      exact lcase_19 X v hi0 hi1 hi2 hi3 hi4 next S T hR H locs ls hW hl
    by_cases c30 : x = 20
    · refine lv_tableIn (off := 813) (tgt := 845) hx hb dL_law_32 (by rw [c30]; decide) (by rw [c30]; decide) (by rw [c30]; rfl) (by decide) ?_
      exact lcase_20 X v hi0 hi1 hi2 hi3 hi4 next S T hR H locs ls hW hl
    by_cases c31 : x = 21
    · refine lv_tableIn (off := 856) (tgt := 888) hx hb dL_law_32 (by rw [c31]; decide) (by rw [c31]; decide) (by rw [c31]; rfl) (by decide) ?_
      exact lcase_21 X v hi0 hi1 hi2 hi3 hi4 next S T hR H locs ls hW hl
    by_cases c32 : x = 22
    · refine lv_tableIn (off := 879) (tgt := 911) hx hb dL_law_32 (by rw [c32]; decide) (by rw [c32]; decide) (by rw [c32]; rfl) (by decide) ?_
      exact lcase_22 X v hi0 hi1 hi2 hi3 hi4 next S T hR H locs ls hW hl
    by_cases c33 : x = 23
    · refine lv_tableIn (off := 903) (tgt := 935) hx hb dL_law_32 (by rw [c33]; decide) (by rw [c33]; decide) (by rw [c33]; rfl) (by decide) ?_
      exact lcase_23 X v hi0 hi1 hi2 hi3 hi4 next S T hR H locs ls hW hl
    by_cases c34 : x = 24
    · refine lv_tableIn (off := 936) (tgt := 968) hx hb dL_law_32 (by rw [c34]; decide) (by rw [c34]; decide) (by rw [c34]; rfl) (by decide) ?_
      exact lcase_24 X v hi0 hi1 hi2 hi3 hi4 next S T hR H locs ls hW hl
    by_cases c35 : x = 25
    · refine lv_tableIn (off := 969) (tgt := 1001) hx hb dL_law_32 (by rw [c35]; decide) (by rw [c35]; decide) (by rw [c35]; rfl) (by decide) ?_
      exact lcase_25 X v hi0 hi1 hi2 hi3 hi4 next S T hR H locs ls hW hl
    by_cases c36 : x = 26
    · refine lv_tableIn (off := 1002) (tgt := 1034) hx hb dL_law_32 (by rw [c36]; decide) (by rw [c36]; decide) (by rw [c36]; rfl) (by decide) ?_
      exact lcase_26 X v hi0 hi1 hi2 hi3 hi4 next S T hR H locs ls hW hl
    by_cases c37 : x = 27
    · refine lv_tableIn (off := 1035) (tgt := 1067) hx hb dL_law_32 (by rw [c37]; decide) (by rw [c37]; decide) (by rw [c37]; rfl) (by decide) ?_
      exact lcase_27 X v hi0 hi1 hi2 hi3 hi4 next S T hR H locs ls hW hl
    by_cases c38 : x = 28
    · refine lv_tableIn (off := 1048) (tgt := 1080) hx hb dL_law_32 (by rw [c38]; decide) (by rw [c38]; decide) (by rw [c38]; rfl) (by decide) ?_
      exact lcase_28 X v hi0 hi1 hi2 hi3 hi4 next S T hR H locs ls hW hl
    by_cases c39 : x = 29
    · refine lv_tableIn (off := 1072) (tgt := 1104) hx hb dL_law_32 (by rw [c39]; decide) (by rw [c39]; decide) (by rw [c39]; rfl) (by decide) ?_
      exact lcase_29 X v hi0 hi1 hi2 hi3 hi4 next S T hR H locs ls hW hl
    by_cases c40 : x = 30
    · refine lv_tableIn (off := 1105) (tgt := 1137) hx hb dL_law_32 (by rw [c40]; decide) (by rw [c40]; decide) (by rw [c40]; rfl) (by decide) ?_
      exact lcase_30 X v hi0 hi1 hi2 hi3 hi4 next S T hR H locs ls hW hl
    by_cases c41 : x = 31
    · refine lv_tableIn (off := 1148) (tgt := 1180) hx hb dL_law_32 (by rw [c41]; decide) (by rw [c41]; decide) (by rw [c41]; rfl) (by decide) ?_
      exact lcase_31 X v hi0 hi1 hi2 hi3 hi4 next S T hR H locs ls hW hl
    by_cases c42 : x = 32
    · refine lv_tableIn (off := 1171) (tgt := 1203) hx hb dL_law_32 (by rw [c42]; decide) (by rw [c42]; decide) (by rw [c42]; rfl) (by decide) ?_
      exact lcase_32 X v hi0 hi1 hi2 hi3 hi4 next S T hR H locs ls hW hl
    by_cases c43 : x = 33
    · refine lv_tableIn (off := 1194) (tgt := 1226) hx hb dL_law_32 (by rw [c43]; decide) (by rw [c43]; decide) (by rw [c43]; rfl) (by decide) ?_
      exact lcase_33 X v hi0 hi1 hi2 hi3 hi4 next S T hR H locs ls hW hl
    by_cases c44 : x = 34
    · refine lv_tableIn (off := 1237) (tgt := 1269) hx hb dL_law_32 (by rw [c44]; decide) (by rw [c44]; decide) (by rw [c44]; rfl) (by decide) ?_
      exact lcase_34 X v hi0 hi1 hi2 hi3 hi4 next S T hR H locs ls hW hl
    by_cases c45 : x = 35
    · refine lv_tableIn (off := 1270) (tgt := 1302) hx hb dL_law_32 (by rw [c45]; decide) (by rw [c45]; decide) (by rw [c45]; rfl) (by decide) ?_
      exact lcase_35 X v hi0 hi1 hi2 hi3 hi4 next S T hR H locs ls hW hl
    by_cases c46 : x = 36
    · refine lv_tableIn (off := 1303) (tgt := 1335) hx hb dL_law_32 (by rw [c46]; decide) (by rw [c46]; decide) (by rw [c46]; rfl) (by decide) ?_
      exact lcase_36 X v hi0 hi1 hi2 hi3 hi4 next S T hR H locs ls hW hl
    by_cases c47 : x = 37
    · refine lv_tableIn (off := 1336) (tgt := 1368) hx hb dL_law_32 (by rw [c47]; decide) (by rw [c47]; decide) (by rw [c47]; rfl) (by decide) ?_
      exact lcase_37 X v hi0 hi1 hi2 hi3 hi4 next S T hR H locs ls hW hl
    by_cases c48 : x = 38
    · refine lv_tableIn (off := 1379) (tgt := 1411) hx hb dL_law_32 (by rw [c48]; decide) (by rw [c48]; decide) (by rw [c48]; rfl) (by decide) ?_
      exact lcase_38 X v hi0 hi1 hi2 hi3 hi4 next S T hR H locs ls hW hl
    by_cases c49 : x = 39
    · refine lv_tableIn (off := 1452) (tgt := 1484) hx hb dL_law_32 (by rw [c49]; decide) (by rw [c49]; decide) (by rw [c49]; rfl) (by decide) ?_
      exact lcase_39 X v hi0 hi1 hi2 hi3 hi4 next S T hR H locs ls hW hl
    by_cases c50 : x = 40
    · refine lv_tableIn (off := 1486) (tgt := 1518) hx hb dL_law_32 (by rw [c50]; decide) (by rw [c50]; decide) (by rw [c50]; rfl) (by decide) ?_
      exact lcase_40 X v hi0 hi1 hi2 hi3 hi4 next S T hR H locs ls hW hl
    by_cases c51 : x = 41
    · refine lv_tableIn (off := 1529) (tgt := 1561) hx hb dL_law_32 (by rw [c51]; decide) (by rw [c51]; decide) (by rw [c51]; rfl) (by decide) ?_
      exact lcase_41 X v hi0 hi1 hi2 hi3 hi4 next S T hR H locs ls hW hl
    by_cases c52 : x = 42
    · refine lv_tableIn (off := 1542) (tgt := 1574) hx hb dL_law_32 (by rw [c52]; decide) (by rw [c52]; decide) (by rw [c52]; rfl) (by decide) ?_
      exact lcase_42 X v hi0 hi1 hi2 hi3 hi4 next S T hR H locs ls hW hl
    by_cases c53 : x = 43
    · refine lv_tableIn (off := 1555) (tgt := 1587) hx hb dL_law_32 (by rw [c53]; decide) (by rw [c53]; decide) (by rw [c53]; rfl) (by decide) ?_
      exact lcase_43 X v hi0 hi1 hi2 hi3 hi4 next S T hR H locs ls hW hl
    have q0 := lv_neT c10 (a := 0) (by decide)
    have q1 := lv_neT c11 (a := 1) (by decide)
    have q2 := lv_neT c12 (a := 2) (by decide)
    have q3 := lv_neT c13 (a := 3) (by decide)
    have q4 := lv_neT c14 (a := 4) (by decide)
    have q5 := lv_neT c15 (a := 5) (by decide)
    have q6 := lv_neT c16 (a := 6) (by decide)
    have q7 := lv_neT c17 (a := 7) (by decide)
    have q8 := lv_neT c18 (a := 8) (by decide)
    have q9 := lv_neT c19 (a := 9) (by decide)
    have q10 := lv_neT c20 (a := 10) (by decide)
    have q11 := lv_neT c21 (a := 11) (by decide)
    have q12 := lv_neT c22 (a := 12) (by decide)
    have q13 := lv_neT c23 (a := 13) (by decide)
    have q14 := lv_neT c24 (a := 14) (by decide)
    have q15 := lv_neT c25 (a := 15) (by decide)
    have q16 := lv_neT c26 (a := 16) (by decide)
    have q17 := lv_neT c27 (a := 17) (by decide)
    have q18 := lv_neT c28 (a := 18) (by decide)
    have q19 := lv_neT c29 (a := 19) (by decide)
    have q20 := lv_neT c30 (a := 20) (by decide)
    have q21 := lv_neT c31 (a := 21) (by decide)
    have q22 := lv_neT c32 (a := 22) (by decide)
    have q23 := lv_neT c33 (a := 23) (by decide)
    have q24 := lv_neT c34 (a := 24) (by decide)
    have q25 := lv_neT c35 (a := 25) (by decide)
    have q26 := lv_neT c36 (a := 26) (by decide)
    have q27 := lv_neT c37 (a := 27) (by decide)
    have q28 := lv_neT c38 (a := 28) (by decide)
    have q29 := lv_neT c39 (a := 29) (by decide)
    have q30 := lv_neT c40 (a := 30) (by decide)
    have q31 := lv_neT c41 (a := 31) (by decide)
    have q32 := lv_neT c42 (a := 32) (by decide)
    have q33 := lv_neT c43 (a := 33) (by decide)
    have q34 := lv_neT c44 (a := 34) (by decide)
    have q35 := lv_neT c45 (a := 35) (by decide)
    have q36 := lv_neT c46 (a := 36) (by decide)
    have q37 := lv_neT c47 (a := 37) (by decide)
    have q38 := lv_neT c48 (a := 38) (by decide)
    have q39 := lv_neT c49 (a := 39) (by decide)
    have q40 := lv_neT c50 (a := 40) (by decide)
    have q41 := lv_neT c51 (a := 41) (by decide)
    have q42 := lv_neT c52 (a := 42) (by decide)
    have q43 := lv_neT c53 (a := 43) (by decide)
    refine lv_tableOut (tgt := 1610) hx hb dL_law_32 (by omega) (by decide) ?_
    exact next S T hR H locs ls hW hl
theorem wl_len {cy : Nat → ClassId} {L : Nat → Nat} {sh : Nat → Dsc} {n : Nat} {S : Sg} : (wl cy L sh n S).length = n := by simp [wl]
set_option maxRecDepth 100000 in
theorem nests_in : ∀ q ∈ nests, Cond.methodLinkNest q.1 q.2.1 q.2.2 "PairsStand" ∈ lw_tbl := by
  simp only [nests, List.forall_mem_cons]
  exact ⟨List.mem_of_getElem? (i := 81) (by decide +kernel), List.mem_of_getElem? (i := 125) (by decide +kernel), List.mem_of_getElem? (i := 131) (by decide +kernel), List.mem_of_getElem? (i := 188) (by decide +kernel), List.mem_of_getElem? (i := 206) (by decide +kernel), List.mem_of_getElem? (i := 211) (by decide +kernel), List.mem_of_getElem? (i := 221) (by decide +kernel), List.mem_of_getElem? (i := 237) (by decide +kernel), List.mem_of_getElem? (i := 255) (by decide +kernel), List.mem_of_getElem? (i := 273) (by decide +kernel), List.mem_of_getElem? (i := 416) (by decide +kernel), List.mem_of_getElem? (i := 591) (by decide +kernel), List.mem_of_getElem? (i := 630) (by decide +kernel), List.mem_of_getElem? (i := 689) (by decide +kernel), fun _ h => absurd h List.not_mem_nil⟩
set_option maxRecDepth 100000 in
set_option maxHeartbeats 4000000 in
/-- what the tables say at the law's entry -/
theorem law_facts {s : State} {b : Nat} (hts : ∀ w ∈ lw_tbl, w.before #[Value.ref b] s = true) (hgv : (Jvm.Cond.and given_1 narrow_1).before #[Value.ref b] s = true) : ∃ (D : va_G) (cy : Nat → ClassId) (bA : Nat), va_K D vwCl (tyl cy) s ∧ Nst s ∧ va_AO RX6 s ∧ va_AO RX1 s ∧ va_Z "PairsStand" "ABOVE" "[I" (.ref bA) (A0 s) s s.heap ∧ va_T .int bA 6 fAb (A0 s) s s.heap := by
  have htb : ∀ w ∈ tb, w.before #[Value.ref b] s = true := fun w h => hts w (tb_in h)
  obtain ⟨c0, i0, k0⟩ := u_known (C := RX0) (T := TX0) (N := 7) (n := 7) htb inT0 (hts (.instantiable RX0 7) (List.mem_of_getElem? (i := 130) (by decide +kernel)))
  obtain ⟨c1, i1, k1⟩ := u_known (C := RX1) (T := TX1) (N := 5) (n := 5) htb inT1 (hts (.instantiable RX1 5) (List.mem_of_getElem? (i := 272) (by decide +kernel)))
  obtain ⟨c2, i2, k2⟩ := u_known (C := RX2) (T := TX2) (N := 8) (n := 8) htb inT2 (hts (.instantiable RX2 8) (List.mem_of_getElem? (i := 80) (by decide +kernel)))
  obtain ⟨c3, i3, k3⟩ := u_known (C := RX3) (T := TX3) (N := 2) (n := 2) htb inT3 (hts (.instantiable RX3 2) (List.mem_of_getElem? (i := 236) (by decide +kernel)))
  obtain ⟨c4, i4, k4⟩ := u_known (C := RX4) (T := TX4) (N := 3) (n := 3) htb inT4 (hts (.instantiable RX4 3) (List.mem_of_getElem? (i := 220) (by decide +kernel)))
  obtain ⟨c5, i5, k5⟩ := u_known (C := RX5) (T := TX5) (N := 5) (n := 5) htb inT5 (hts (.instantiable RX5 5) (List.mem_of_getElem? (i := 124) (by decide +kernel)))
  obtain ⟨c6, i6, k6⟩ := u_known (C := RX6) (T := TX6) (N := 3) (n := 3) htb inT6 (hts (.instantiable RX6 3) (List.mem_of_getElem? (i := 254) (by decide +kernel)))
  obtain ⟨c7, i7, k7⟩ := u_known (C := RX7) (T := TX7) (N := 2) (n := 2) htb inT7 (hts (.instantiable RX7 2) (List.mem_of_getElem? (i := 205) (by decide +kernel)))
  obtain ⟨c8, i8, k8⟩ := u_known (C := RX8) (T := TX8) (N := 3) (n := 3) htb inT8 (hts (.instantiable RX8 3) (List.mem_of_getElem? (i := 187) (by decide +kernel)))
  obtain ⟨c9, i9, k9⟩ := u_known (C := RX9) (T := TX9) (N := 13) (n := 13) htb inT9 (hts (.instantiable RX9 13) (List.mem_of_getElem? (i := 72) (by decide +kernel)))
  obtain ⟨c10, i10, k10⟩ := u_known (C := RX10) (T := TX10) (N := 27) (n := 27) htb inT10 (hts (.instantiable RX10 27) (List.mem_of_getElem? (i := 830) (by decide +kernel)))
  obtain ⟨aI0, aI1, aI2, gI1, gI2, gI3⟩ := Cond.arrayClass_spec (hts (.arrayClass .int) (List.mem_of_getElem? (i := 121) (by decide +kernel)))
  obtain ⟨aJ0, aJ1, aJ2, gJ1, gJ2, gJ3⟩ := Cond.arrayClass_spec (hts (.arrayClass .long) (List.mem_of_getElem? (i := 122) (by decide +kernel)))
  obtain ⟨aZ0, aZ1, aZ2, gZ1, gZ2, gZ3⟩ := Cond.arrayClass_spec (hts (.arrayClass .boolean) (List.mem_of_getElem? (i := 159) (by decide +kernel)))
  have h6 : (Cond.arrayOver (.object RX6)).before #[Value.ref b] s = true := hts _ (List.mem_of_getElem? (i := 251) (by decide +kernel))
  have h1 : (Cond.arrayOver (.object RX1)).before #[Value.ref b] s = true := hts _ (List.mem_of_getElem? (i := 253) (by decide +kernel))
  obtain ⟨s0, s1, s2, gS1, -, gS2, gS3, gS4⟩ := Cond.arrayOver_spec h6
  obtain ⟨t0, t1, t2, gT1, -, gT2, gT3, gT4⟩ := Cond.arrayOver_spec h1
  have hfl := flat_of_before _ hgv
  have hA : ∀ a : Nat, a < s.heap.size → ¬ A0 s a := fun a h => Nat.not_le.mpr h
  obtain ⟨bA, hbe, hT⟩ := va_Tof (tm := .static "PairsStand" "ABOVE" "[I") (ty := .int) (N := 6) (f := fAb) (A := A0 s) (by decide) (hfl _ (by decide +kernel)) (va_eqt (hfl (Cond.eq (.length (.static "PairsStand" "ABOVE" "[I")) (.int 6)) (by decide +kernel))) (fun j hj => by
    rcases (show j = 0 ∨ j = 1 ∨ j = 2 ∨ j = 3 ∨ j = 4 ∨ j = 5 by omega) with rfl | rfl | rfl | rfl | rfl | rfl
    · exact va_eqt (hfl (Cond.eq (.elem (.static "PairsStand" "ABOVE" "[I") (.int 0)) (.int (-1))) (by decide +kernel))
    · exact va_eqt (hfl (Cond.eq (.elem (.static "PairsStand" "ABOVE" "[I") (.int 1)) (.int 0)) (by decide +kernel))
    · exact va_eqt (hfl (Cond.eq (.elem (.static "PairsStand" "ABOVE" "[I") (.int 2)) (.int 0)) (by decide +kernel))
    · exact va_eqt (hfl (Cond.eq (.elem (.static "PairsStand" "ABOVE" "[I") (.int 3)) (.int 1)) (by decide +kernel))
    · exact va_eqt (hfl (Cond.eq (.elem (.static "PairsStand" "ABOVE" "[I") (.int 4)) (.int 2)) (by decide +kernel))
    · exact va_eqt (hfl (Cond.eq (.elem (.static "PairsStand" "ABOVE" "[I") (.int 5)) (.int 0)) (by decide +kernel))) hA
  have hZ := va_Zref (A := A0 s) (hts (.laysStatic "PairsStand" "ABOVE" "[I") (List.mem_of_getElem? (i := 363) (by decide +kernel))) (hts (.initialized "PairsStand") (List.mem_of_getElem? (i := 57) (by decide +kernel))) hbe hA
  refine ⟨(fun k => match k with | 0 => c0 | 1 => c1 | 2 => c2 | 3 => c3 | 4 => c4 | 5 => c5 | 6 => c6 | 7 => c7 | 8 => c8 | 9 => c9 | _ => c10, fun k => match k with | 0 => i0 | 1 => i1 | 2 => i2 | 3 => i3 | 4 => i4 | 5 => i5 | 6 => i6 | 7 => i7 | 8 => i8 | 9 => i9 | _ => i10), (fun k => match k with | 0 => aI0 | 1 => aJ0 | 2 => aZ0 | 3 => s1 | _ => t1), bA, ⟨?_, ?_⟩, fun q hq => va_Nw.of rfl (hts _ (nests_in q hq)), va_AO.of h6, va_AO.of h1, hZ, hT⟩
  · intro k q hq
    match k, hq with
    | 0, hq => cases hq; exact k0
    | 1, hq => cases hq; exact k1
    | 2, hq => cases hq; exact k2
    | 3, hq => cases hq; exact k3
    | 4, hq => cases hq; exact k4
    | 5, hq => cases hq; exact k5
    | 6, hq => cases hq; exact k6
    | 7, hq => cases hq; exact k7
    | 8, hq => cases hq; exact k8
    | 9, hq => cases hq; exact k9
    | 10, hq => cases hq; exact k10
    | k + 11, hq => simp [vwCl] at hq
  · intro k q hq
    match k, hq with
    | 0, hq => cases hq; exact ⟨fun n z => ⟨fun k h => (by cases h), aI1, gI2, aI2, gI3⟩, gI1⟩
    | 1, hq => cases hq; exact ⟨fun n z => ⟨fun k h => (by cases h), aJ1, gJ2, aJ2, gJ3⟩, gJ1⟩
    | 2, hq => cases hq; exact ⟨fun n z => ⟨fun k h => (by cases h), aZ1, gZ2, aZ2, gZ3⟩, gZ1⟩
    | 3, hq => cases hq; exact ⟨fun n z => ⟨fun k h => (by cases h), s2, gS2, s0, gS3⟩, s2, s0, gS2, gS3, gS1, gS4⟩
    | 4, hq => cases hq; exact ⟨fun n z => ⟨fun k h => (by cases h), t2, gT2, t0, gT3⟩, t2, t0, gT2, gT3, gT1, gT4⟩
    | k + 5, hq => simp [tyl] at hq
set_option maxRecDepth 100000 in
set_option maxHeartbeats 4000000 in
/-- YOUR PART: from the entry, for every script of at most 2560 ints, the law comes to its end with true ('hflags': the launch's flags, for a law that throws: no stack traces) -/
theorem whole_start {p : Program} {e : Env} {s : State} {m : MethodId} {below : List Frame} {meth : Method} {c : Code} (l : Launch) (hflags : l.flags = flags0) {b L : Nat} {xs : Nat → Int32} (hL : L ≤ 2560) (C0 : lw_At p s m meth c b L xs) : W p l e room_1 s m #[Value.ref b] below meth c s.heap [] 0 0 (lw_Z below #[Value.ref b] s) (entryFrame m ([Value.ref b] : List Value).toArray 4) := by
  obtain ⟨hx, hb, hr, hml, hown, hts, hX, hbl, hlocks, hgv⟩ := id C0
  have E : En p m c code 4 s #[Value.ref b] RL := ⟨hx, hb, hml, hown, fun w h => hts w (tb_in h)⟩
  obtain ⟨D, cy, bA, hK, hN, hO6, hO1, hZ, hT⟩ := law_facts hts hgv
  have hA : ∀ q : Nat, s.heap.size ≤ q → A0 s q := fun _ h => h
  have hS : va_S (A0 s) s.heap s.heap [] := va_S.rf
  have hP : va_P D vwCl [] s.heap := fun k q h => by simp at h
  have hD : va_D (A0 s) [] := ⟨fun i j p q h => by simp at h, fun k q h => by simp at h⟩
  have hl := lv_entry ([.ref b]) (n := 4) (Nat.le_of_ble_eq_true rfl)
  rw [lg_entry_eq]
  generalize (lg_sl ([.ref b]) ++ List.replicate (4 - (lg_sl ([.ref b])).length) Slot.unset).toArray = ls at hl ⊢
  have hl : lv_has ls 4 [(0, .ref b)] := hl
  refine c_new (fs := [.null, .null, .int 0, .null, .null, .null, .null, .null, .null, .null, .null, .null, .null]) E hK hP hD hS hA nw_L_7 tyX9 tyX9_ok (by decide +kernel) (Nat.le_of_ble_eq_true rfl) (Nat.le_of_ble_eq_true rfl) dL_law_0 (fun q0 H hP hD hS => ?_)
  refine lv_dup hx hb dL_law_3 rfl ?_
  refine c_callM (i0 := 0) (b := q0) (rest := [.ref q0]) E hK hN hO6 hO1 hP hD hS hA hl.1 (fun sz => c_X9_init q0 sz) ci_L_9 rfl ⟨Nat.le_of_ble_eq_true rfl, Nat.le_of_ble_eq_true rfl⟩ ⟨Nat.le_of_ble_eq_true rfl, Nat.le_of_ble_eq_true rfl⟩ (Nat.le_of_ble_eq_true rfl) dL_law_4 (fun H1 locs1 hB hk1 hF1 hS => ?_)
  obtain ⟨LC, e0, hPC, hiC, hAC⟩ := hB
  have hgC : ∀ k, k < 52 → s.heap.size ≤ LC k := fun k h => hF1 _ (hAC k h)
  have hDC : va_D (A0 s) (wl cy LC shC 52 S0C) := (wl_D hiC).weaken (fun k q _ ⟨i, h1, h2⟩ => by rw [h2]; exact hgC i h1)
  subst e0
  clear hP hD
  refine lv_astore_n (lv' := [(1, .ref (LC 0)), (0, .ref b)]) hx hb dL_law_7 rfl hl (by decide) rfl (fun ls hl => ?_)
  refine c_new (fs := [.int 0, .int 0, .int 0, .null, .null, .null, .null, .null, .null, .int 0, .null, .int 0, .null, .int 0, .null, .int 0, .null, .null, .null, .null, .null, .null, .null, .null, .int 0, .null, .null]) E hK hPC hDC hS hA nw_L_10 tyX10 tyX10_ok (by decide +kernel) (Nat.le_of_ble_eq_true rfl) (Nat.le_of_ble_eq_true rfl) dL_law_8 (fun q1 H2 hP hD hS => ?_)
  refine lv_dup hx hb dL_law_11 rfl ?_
  have he : (wl cy LC shC 52 S0C ++ [(q1, .inr (10, [.int 0, .int 0, .int 0, .null, .null, .null, .null, .null, .null, .int 0, .null, .int 0, .null, .int 0, .null, .int 0, .null, .null, .null, .null, .null, .null, .null, .null, .int 0, .null, .null]))])[52]? = some (q1, .inr (10, [.int 0, .int 0, .int 0, .null, .null, .null, .null, .null, .null, .int 0, .null, .int 0, .null, .int 0, .null, .int 0, .null, .null, .null, .null, .null, .null, .null, .null, .int 0, .null, .null])) := by
    rw [List.getElem?_append_right (by rw [wl_len]; exact Nat.le_refl _), wl_len]; rfl
  have hgetC : ∀ k, k < 52 → (wl cy LC shC 52 S0C ++ [(q1, .inr (10, [.int 0, .int 0, .int 0, .null, .null, .null, .null, .null, .null, .int 0, .null, .int 0, .null, .int 0, .null, .int 0, .null, .null, .null, .null, .null, .null, .null, .null, .int 0, .null, .null]))])[k]? = some (LC k, mkE cy LC S0C k (shC k)) := fun k h => by
    rw [List.getElem?_append_left (by rw [wl_len]; exact h)]; exact wl_get h
  have hne : ∀ k, k < 52 → LC k ≠ q1 := fun k h q => by
    have := hD.1 k 52 _ _ (hgetC k h) he q
    omega
  have hlt : ∀ k, k < 52 → LC k < H2.size := fun k h => (hP k _ (hgetC k h)).lt
  have hPC : va_P D vwCl (wl cy LC shC 52 S0C) H2 := fun k q hq => by
    obtain ⟨h1, rfl⟩ := wl_at hq
    exact hP k _ (hgetC k h1)
  refine c_callM (i0 := 52) (b := q1) (rest := [.ref q1]) E hK hN hO6 hO1 hP hD hS hA hl.1 (fun sz => c_X10_init q1 sz) ci_L_12 he ⟨Nat.le_of_ble_eq_true rfl, Nat.le_of_ble_eq_true rfl⟩ ⟨Nat.le_of_ble_eq_true rfl, Nat.le_of_ble_eq_true rfl⟩ (Nat.le_of_ble_eq_true rfl) dL_law_12 (fun H3 locs3 hB hk3 hF3 hS => ?_)
  obtain ⟨LM, e1, hPM, hiM, hAM⟩ := hB
  have hgM : ∀ k, k < 20 → s.heap.size ≤ LM k := fun k h => hF3 _ (hAM k h)
  have hnA : ∀ k, k < 52 → ¬ va_A [(q1, .inr (10, [.int 0, .int 0, .int 0, .null, .null, .null, .null, .null, .null, .int 0, .null, .int 0, .null, .int 0, .null, .int 0, .null, .null, .null, .null, .null, .null, .null, .null, .int 0, .null, .null]))] H2.size (LC k) := fun k h z => by
    rcases z with ⟨i, e, h1⟩ | h1
    · have h2 : i < 1 := (List.getElem?_eq_some_iff.mp h1).1
      rw [show i = 0 by omega] at h1
      cases h1
      exact hne k h rfl
    · have := hlt k h
      omega
  have hPC : va_P D vwCl (wl cy LC shC 52 S0C) H3 := hPC.kept (fun k q hq => by
    obtain ⟨h1, rfl⟩ := wl_at hq
    exact hk3 _ (hlt k h1) (hnA k h1))
  have hdis : ∀ i j, i < 52 → j < 20 → LC i ≠ LM j := fun i j h1 h2 q => hnA i h1 (by rw [q]; exact hAM j h2)
  subst e1
  clear hP hD
  refine lv_astore_n (lv' := [(2, .ref (LM 0)), (1, .ref (LC 0)), (0, .ref b)]) hx hb dL_law_15 rfl hl (by decide) rfl (fun ls hl => ?_)
  refine lv_iconst (v := 0) hx hb dL_law_16 (by decide) ?_
  refine lv_istore_n (lv' := [(3, .int 0), (2, .ref (LM 0)), (1, .ref (LC 0)), (0, .ref b)]) hx hb dL_law_17 rfl hl (by decide) rfl (fun ls hl => ?_)
  refine W.widen (k := 600000) (n := 7302250) (Nat.le_of_ble_eq_true rfl) (Nat.le_of_ble_eq_true rfl) ?_
  have hsC : ∀ q, AL LC 52 q → A0 s q := fun q ⟨k, h1, h2⟩ => by rw [h2]; exact hgC k h1
  have hsM : ∀ q, AL LM 20 q → A0 s q := fun q ⟨k, h1, h2⟩ => by rw [h2]; exact hgM k h1
  have X : LX p s m c b L xs D cy LC LM bA := ⟨E, ⟨hK, hiC, hN, hZ.narrow hsC, hT.narrow hsC⟩, ⟨hK, hiM, hN, hZ.narrow hsM, hT.narrow hsM⟩, hgC, hgM, hdis, hX, hbl⟩
  refine law_loop X hL ?_ (L + 2) 0 (by omega) (by omega) S0C S0M Rel0 _ _ ls ⟨hPC, hPM, hS⟩ (lv_sub hl [3, 2, 1, 0] rfl)
  intro H locs ls S T hW
  refine lv_iconst (v := 1) hx hb dL_law_1616 (by decide) ?_
  refine va_forget (fun q hq => hW.2.2.2.2 q hq) ?_
  exact lw_ret hx hb hr hlocks dL_law_1617
-- ===== YOUR PART ENDS =====
set_option maxHeartbeats 4000000 in
theorem lw_walk (l : Launch) (hflags : l.flags = flags0) (b : Addr) (xs : List Int32) : MetFree l x (headSpec (Jvm.Cond.code x code maxLocals ret :: tables_1) room_1) (lw_P b xs) (fun _ _ _ _ _ => True) lw_Q := by
  refine MetFree.of_bodyS (code := code) (maxLocals := maxLocals) (ret := ret) (by decide) ?_ ?_
  · intro args s m h hn
    obtain ⟨meth, c, h1, h2, h3, h4, h5, h6, -, -⟩ := Cond.code_spec hn (atoms_spec (ws := Jvm.Cond.code x code maxLocals ret :: tables_1) h _ List.mem_cons_self)
    exact ⟨meth, c, h1, h2, h3, h4, h5, h6⟩
  · intro p e s m args below meth c s₁ B hml0 hP _
    obtain ⟨rfl, hx, hbd, hgv⟩ := hP
    obtain ⟨scr, harrAt, hlist, hof, hsmall⟩ := hx
    obtain ⟨hcb, hkn, -, -⟩ := State.arrayAt?_spec harrAt
    have hown : s.vm.findClass R_law = some m.cls := findClass_of_methodNamed B.named
    have hts0 : ∀ c ∈ (Jvm.Cond.code x code maxLocals ret :: tables_1), c.before #[Value.ref b] s = true := atoms_spec (ws := Jvm.Cond.code x code maxLocals ret :: tables_1) B.pre
    have hts : ∀ w ∈ lw_tbl, w.before #[Value.ref b] s = true := k2_hts_sels lw_privs (fun w hw => hts0 w (List.mem_cons_of_mem _ hw)) lw_privs_ok
    have hml : c.maxLocals = 4 := B.maxLocals_eq (hts0 _ List.mem_cons_self)
    have X₀ : Stand p l e room_1 s m #[Value.ref b] below meth c s₁ [] 0 0 := Stand.of_body B
    have hh0 : s₁.heap = s.heap := by rw [B.state]; rfl
    have hsz : scr.slots.size = xs.length := by rw [← Array.length_toList, hlist, List.length_map]
    have hval : ∀ j : Nat, j < xs.length → scr.slots[j]? = some (.int (xs.getD j 0)) := fun j hj => by
      rw [← Array.getElem?_toList, hlist]
      simp [hj]
    have hbl : b < s.heap.size := (Array.getElem?_eq_some_iff.mp hcb).1
    have hX : va_X b xs.length (fun j => xs.getD j 0) s s.heap := ⟨scr, hcb, hof, hkn, hsz, hval⟩
    have K : W p l e room_1 s m #[Value.ref b] below meth c s₁.heap [] 0 0 (lw_Z below #[Value.ref b] s) (entryFrame m ([Value.ref b] : List Value).toArray 4) := by
      rw [hh0]
      exact whole_start l hflags hbd ⟨B.exec, B.bytes, B.returns, hml, hown, hts, hX, hbl, B.notSynchronized, hgv⟩
    obtain ⟨t, a1, o, b1, b2, b3⟩ := K s₁ rfl X₀
    exact ⟨t, o, a1, b1, b2, b3⟩
theorem lw_pre_spec {args : Array Value} {s : State} (h : (Jvm.Cond.and given_1 narrow_1).before args s = true) (hr : rest_1_c.before args s = true) : ∃ (b : Addr) (xs : List Int32), lw_P b xs args s := by
  have hs := flat_of_before _ h
  have hq := flat_of_before _ hr
  have hc : (Cond.count 1).before args s = true := hs _ (by decide +kernel)
  have harr : (Cond.arrayOf (.arg 0) .int).before args s = true := hs _ (by decide +kernel)
  have hle : (Cond.le (.length (.arg 0)) (.int 2560)).before args s = true := hs _ (by decide +kernel)
  have hlen : (Cond.isInt (.length (.arg 0))).before args s = true := hq _ (by decide +kernel)
  have hall : (Cond.all (.arg 0) (.isInt (.elem (.arg 0) (.index 0)))).before args s = true := hq _ (by decide +kernel)
  obtain ⟨b, xs, hb, hx⟩ := State.ints_of_pre rfl harr hlen hall
  have hsm : xs.length < 2 ^ 31 := hx.choose_spec.2.2.2
  have hev : (Term.length (.arg 0)).eval args s none [] s = some (.int xs.length.toInt32) := hx.length_eval hb
  have hv := Cond.le_ints hev (show (Term.int 2560).eval args s none [] s = some (.int 2560) from rfl)
  have hd : xs.length.toInt32 ≤ 2560 := by
    simpa [Cond.before, Cond.holds, hv] using hle
  have hN : xs.length ≤ 2560 := (Int32.ofNat_le_ofNat hsm (by decide)).mp (show Int32.ofNat xs.length ≤ Int32.ofNat 2560 from hd)
  exact ⟨b, xs, Cond.one_arg hc (show args[0]? = some (.ref b) from hb), hx, hN, h⟩
theorem lw_comes (l : Launch) (hflags : l.flags = flags0) : Comes l x (Jvm.Cond.code x code maxLocals ret :: tables_1) room_1 (fun tb e args s => Calls_1 tb e args s ∧ rest_1 tb e args s ∧ Pre_1 tb e args s)
    (fun _ _ args s o t => lw_Q args s o t) := by
  intro p e ha hc hk s m args below hf hfit hheap happ hpre
  obtain ⟨b, xs, hP⟩ := lw_pre_spec hpre.2.2 hpre.2.1
  obtain ⟨k, o, h1, h2, h3, hQ⟩ := lw_walk l hflags b xs p e ha hc hk s m args below hf ((Spec.applies_iff_loose hf).mp happ).1 hP trivial
  exact ⟨k, o, h1, h2, h3, hQ⟩
theorem lw_frame {s t : State} {o : Outcome} {args : Array Value} (h : Framed s o t [] 600000 7302250) :
    Framed s o t (fieldLocs frame_1_writes args s ++ arrayLocs frame_1_arrays args s ++ staticLocs frame_1_statics s) 600000 7302250 := h
theorem lw_limb (L : Cond) (hL : ∀ (args : Array Value) (s t : State), L.after args s (.returned (some (.int 1))) t = true) :
    ArmFor flags0 classFile x code maxLocals ret World_1 tables_1 room_1 Calls_1 rest_1 Pre_1
      (fun tb e a s o t => postC L tb e a s o t ∧ Framed s o t (fieldLocs frame_1_writes a s ++ arrayLocs frame_1_arrays a s ++ staticLocs frame_1_statics s) 600000 7302250) := by
  intro l hflags _ _ p e ha hc hk s m args below hf hfit hheap happ hpre
  obtain ⟨k, o, h1, h2, h3, rfl, hF⟩ := lw_comes l hflags p e ha hc hk s m args below hf hfit hheap happ hpre
  exact ⟨k, _, h1, h2, h3, hL args s _, lw_frame hF⟩
theorem i_vc : Claimed_1_1 ∧ Claimed_1_2 := ⟨lw_limb limb_1_1 (fun args s t => by simp [limb_1_1, Cond.after, Cond.holds, Cond.value]), lw_limb limb_1_2 (fun args s t => Cond.after_iff.mpr (by
  first | (rw [show limb_1_2 = Cond.eq .result (.int 1) from rfl, Cond.eq_ints (x := 1) (y := 1) rfl rfl]; simp; done) | (simp [limb_1_2, Cond.value, Term.eval]; done)))⟩
