set_option maxRecDepth 100000 in
set_option maxHeartbeats 4000000 in
theorem c_X8_withTwoForOne {l : Launch} {D : va_G} {cy : Nat → ClassId} {L : Nat → Nat} {bA : Nat} (a1 : Int32) (r : Int32) (S : Sg)  (hf : f_X8_withTwoForOne a1 S = some r) : MetX l D cy L shC 52 bA yX8_withTwoForOne cX8_withTwoForOne 4 (some .int) 1 25 [.ref (L 19), .int a1] (some (.int r)) S S := by
  refine x_met (own := RX8) (by decide) rfl (Nat.le_of_ble_eq_true rfl) ?_
  intro p e s m below meth c ls E hC hr hlk hl hW
  generalize hargs : ([.ref (L 19), .int a1] : List Value).toArray = args at E ⊢
  generalize hQ : MQ below (xQ D cy L shC 52 bA (some (.int r)) S) args s 0 0 (AL L 52) = Q
  have hl : lv_has ls 4 [(0, .ref (L 19)), (1, .int a1)] := hl
  have hx := E.1
  have hb := E.2.1
  have hts := E.2.2.2.2
  unfold f_X8_withTwoForOne at hf
  refine lv_iconst (v := 0) hx hb dX8_withTwoForOne_0 (by decide) ?_
  refine lv_istore_n (lv' := [(2, .int (0 : Int32)), (0, .ref (L 19)), (1, .int a1)]) hx hb dX8_withTwoForOne_1 rfl hl (by decide) rfl (fun ls hl => ?_)
  refine wp1S (fun (v1 : Int32) => ∀ (H : Heap) (locs : List Loc) (ls : Array Slot), lv_has ls 4 [(0, .ref (L 19)), (1, .int a1), (2, .int v1)] → Wd D cy L shC 52 S s H locs → W p l e (rmk 1 25) s m args below meth c H locs 0 0 Q (F0 m 2 ls [])) ?_ hf _ _ _ (lv_sub hl [1, 2, 0] rfl) hW
  · intro self2 ih2 v1 hf H locs ls hl hW
    unfold X8_withTwoForOne_L2 at hf
    refine lv_iload_n hx hb dX8_withTwoForOne_2 rfl (lv_at hl 2 rfl) ?_
    refine lv_aload_n hx hb dX8_withTwoForOne_3 rfl (lv_at hl 0 rfl) ?_
    refine x_geti (k := 19) E hC hW fl_X8_15 (by decide) rfl rfl dX8_withTwoForOne_4 ?_
    refine lv_icmp_ge (tgt := 45) hx hb dX8_withTwoForOne_7 (by decide) (fun c7 => ?_) (fun c7 => ?_)
    · have hf := xt hf c7
      refine lv_iload_n hx hb dX8_withTwoForOne_45 rfl (lv_at hl 1 rfl) ?_
      exact x_iretP E hC hW hr hlk hQ dX8_withTwoForOne_46 hf
    · have hf := xf hf c7
      refine lv_iload_n hx hb dX8_withTwoForOne_10 rfl (lv_at hl 1 rfl) ?_
      refine lv_iload_n hx hb dX8_withTwoForOne_11 rfl (lv_at hl 2 rfl) ?_
      refine lv_ishr hx hb dX8_withTwoForOne_12 ?_
      refine lv_iconst (v := 1) hx hb dX8_withTwoForOne_13 (by decide) ?_
      refine lv_iand hx hb dX8_withTwoForOne_14 ?_
      refine lv_iconst (v := 1) hx hb dX8_withTwoForOne_15 (by decide) ?_
      refine jnS hf (fun (j : Option (Int32)) => (j) = some r → ∀ (H : Heap) (locs : List Loc) (ls : Array Slot), lv_has ls 4 [(0, .ref (L 19)), (1, .int a1), (2, .int v1)] → Wd D cy L shC 52 S s H locs → W p l e (rmk 1 25) s m args below meth c H locs 0 0 Q (F0 m 39 ls [])) ?_ ?_
      · intro hf H locs ls hl hW
        try dsimp only at hf
        obtain ⟨x2, ex2⟩ : ∃ z : Int32, z = (v1 + 1) := ⟨_, rfl⟩
        have hf := bvS hf ex2
        refine lv_iinc (v := x2) (lv' := [(2, .int x2), (0, .ref (L 19)), (1, .int a1)]) hx hb dX8_withTwoForOne_39 hl (k := 2) rfl (by rw [ex2]; rfl) (by decide) rfl (fun ls hl => ?_)
        refine lv_goto (tgt := 2) hx hb dX8_withTwoForOne_42 (by decide) ?_
        exact ih2 _ hf _ _ _ (lv_sub hl [1, 2, 0] rfl) hW
      intro j39 J39 hf
      refine lv_icmp_ne (tgt := 39) hx hb dX8_withTwoForOne_16 (by decide) (fun c6 => ?_) (fun c6 => ?_)
      · have hf := xf hf c6
        exact J39 hf _ _ _ (lv_sub hl [0, 1, 2] rfl) hW
      · have hf := xt hf c6
        refine lv_aload_n hx hb dX8_withTwoForOne_19 rfl (lv_at hl 0 rfl) ?_
        refine lv_iload_n hx hb dX8_withTwoForOne_20 rfl (lv_at hl 1 rfl) ?_
        refine lv_iload_n hx hb dX8_withTwoForOne_21 rfl (lv_at hl 1 rfl) ?_
        refine lv_iconst (v := 1) hx hb dX8_withTwoForOne_22 (by decide) ?_
        refine lv_iload_n hx hb dX8_withTwoForOne_23 rfl (lv_at hl 2 rfl) ?_
        refine lv_ishl hx hb dX8_withTwoForOne_24 ?_
        refine lv_iconst (v := (-1)) hx hb dX8_withTwoForOne_25 (by decide) ?_
        refine lv_ixor hx hb dX8_withTwoForOne_26 ?_
        refine lv_iand hx hb dX8_withTwoForOne_27 ?_
        obtain ⟨r3, g4, hf⟩ := cl1S hf
        refine x_Vr (k := 19) (As := [.int a1, .int (a1 &&& (((1 : Int32) <<< (v1 &&& 31)) ^^^ (-1 : Int32)))]) (rest := []) E hC hW hl.1 (c_X8_twoMore a1 (a1 &&& (((1 : Int32) <<< (v1 &&& 31)) ^^^ (-1 : Int32))) r3 S g4) cv_X8_47 rfl (by decide) rfl rfl rfl ⟨Nat.le_of_ble_eq_true rfl, Nat.le_of_ble_eq_true rfl⟩ ⟨Nat.le_refl _, Nat.le_refl _⟩ (Nat.le_of_ble_eq_true rfl) dX8_withTwoForOne_28 (fun H locs hW => ?_)
        refine lv_istore_n (lv' := [(3, .int r3), (0, .ref (L 19)), (1, .int a1), (2, .int v1)]) hx hb dX8_withTwoForOne_31 rfl hl (by decide) rfl (fun ls hl => ?_)
        refine lv_iload_n hx hb dX8_withTwoForOne_32 rfl (lv_at hl 0 rfl) ?_
        refine lv_iconst (v := (-1)) hx hb dX8_withTwoForOne_33 (by decide) ?_
        refine lv_icmp_eq (tgt := 39) hx hb dX8_withTwoForOne_34 (by decide) (fun c5 => ?_) (fun c5 => ?_)
        · have hf := xt hf c5
          exact J39 hf _ _ _ (lv_sub hl [1, 2, 3] rfl) hW
        · have hf := xf hf c5
          refine lv_iload_n hx hb dX8_withTwoForOne_37 rfl (lv_at hl 0 rfl) ?_
          exact x_iretP E hC hW hr hlk hQ dX8_withTwoForOne_38 hf
set_option maxRecDepth 100000 in
set_option maxHeartbeats 4000000 in
theorem c_X8_bettered {l : Launch} {D : va_G} {cy : Nat → ClassId} {L : Nat → Nat} {bA : Nat} (a1 : Int32) (r : Int32) (S : Sg)  (hf : f_X8_bettered a1 S = some r) : MetX l D cy L shC 52 bA yX8_bettered cX8_bettered 5 (some .int) 2 48 [.ref (L 19), .int a1] (some (.int r)) S S := by
  refine x_met (own := RX8) (by decide) rfl (Nat.le_of_ble_eq_true rfl) ?_
  intro p e s m below meth c ls E hC hr hlk hl hW
  generalize hargs : ([.ref (L 19), .int a1] : List Value).toArray = args at E ⊢
  generalize hQ : MQ below (xQ D cy L shC 52 bA (some (.int r)) S) args s 0 0 (AL L 52) = Q
  have hl : lv_has ls 5 [(0, .ref (L 19)), (1, .int a1)] := hl
  have hx := E.1
  have hb := E.2.1
  have hts := E.2.2.2.2
  unfold f_X8_bettered at hf
  refine lv_iload_n hx hb dX8_bettered_0 rfl (lv_at hl 1 rfl) ?_
  refine lv_istore_n (lv' := [(2, .int a1), (0, .ref (L 19)), (1, .int a1)]) hx hb dX8_bettered_1 rfl hl (by decide) rfl (fun ls hl => ?_)
  refine lv_iconst (v := 0) hx hb dX8_bettered_2 (by decide) ?_
  refine lv_istore_n (lv' := [(3, .int (0 : Int32)), (2, .int a1), (0, .ref (L 19)), (1, .int a1)]) hx hb dX8_bettered_3 rfl hl (by decide) rfl (fun ls hl => ?_)
  refine wp2S (fun (v1 : Int32) (v2 : Int32) => ∀ (H : Heap) (locs : List Loc) (ls : Array Slot), lv_has ls 5 [(0, .ref (L 19)), (2, .int v1), (3, .int v2)] → Wd D cy L shC 52 S s H locs → W p l e (rmk 2 48) s m args below meth c H locs 0 0 Q (F0 m 4 ls [])) ?_ hf _ _ _ (lv_sub hl [2, 1, 0] rfl) hW
  · intro self4 ih4 v1 v2 hf H locs ls hl hW
    unfold X8_bettered_L4 at hf
    refine lv_iload_n hx hb dX8_bettered_4 rfl (lv_at hl 2 rfl) ?_
    refine lv_aload_n hx hb dX8_bettered_5 rfl (lv_at hl 0 rfl) ?_
    refine x_geti (k := 19) E hC hW fl_X8_15 (by decide) rfl rfl dX8_bettered_6 ?_
    refine lv_icmp_ge (tgt := 42) hx hb dX8_bettered_9 (by decide) (fun c10 => ?_) (fun c10 => ?_)
    · have hf := xt hf c10
      refine lv_iload_n hx hb dX8_bettered_42 rfl (lv_at hl 1 rfl) ?_
      exact x_iretP E hC hW hr hlk hQ dX8_bettered_43 hf
    · have hf := xf hf c10
      refine lv_aload_n hx hb dX8_bettered_12 rfl (lv_at hl 0 rfl) ?_
      refine lv_iload_n hx hb dX8_bettered_13 rfl (lv_at hl 1 rfl) ?_
      obtain ⟨r3, g4, hf⟩ := cl1S hf
      refine x_Vr (k := 19) (As := [.int v1]) (rest := []) E hC hW hl.1 (c_X8_withOneMore v1 r3 S g4) cv_X8_41 rfl (by decide) rfl rfl rfl ⟨Nat.le_of_ble_eq_true rfl, Nat.le_of_ble_eq_true rfl⟩ ⟨Nat.le_refl _, Nat.le_refl _⟩ (Nat.le_of_ble_eq_true rfl) dX8_bettered_14 (fun H locs hW => ?_)
      refine lv_istore (lv' := [(4, .int r3), (0, .ref (L 19)), (2, .int v1), (3, .int v2)]) hx hb dX8_bettered_17 hl (by decide) rfl (fun ls hl => ?_)
      refine lv_iload hx hb dX8_bettered_19 (lv_at hl 0 rfl) ?_
      refine lv_iload_n hx hb dX8_bettered_21 rfl (lv_at hl 2 rfl) ?_
      refine jnS hf (fun (j : Int32 → Option (Int32)) => ∀ (x5 : Int32), (j x5) = some r → ∀ (H : Heap) (locs : List Loc) (ls : Array Slot), lv_has ls 5 [(0, .ref (L 19)), (3, .int v2)] → Wd D cy L shC 52 S s H locs → W p l e (rmk 2 48) s m args below meth c H locs 0 0 Q (F0 m 35 ls [.int x5])) ?_ ?_
      · intro x5 hf H locs ls hl hW
        try dsimp only at hf
        refine lv_istore_n (lv' := [(2, .int x5), (0, .ref (L 19)), (3, .int v2)]) hx hb dX8_bettered_35 rfl hl (by decide) rfl (fun ls hl => ?_)
        obtain ⟨x6, ex6⟩ : ∃ z : Int32, z = (v2 + 1) := ⟨_, rfl⟩
        have hf := bvS hf ex6
        refine lv_iinc (v := x6) (lv' := [(3, .int x6), (2, .int x5), (0, .ref (L 19))]) hx hb dX8_bettered_36 hl (k := 2) rfl (by rw [ex6]; rfl) (by decide) rfl (fun ls hl => ?_)
        refine lv_goto (tgt := 4) hx hb dX8_bettered_39 (by decide) ?_
        exact ih4 _ _ hf _ _ _ (lv_sub hl [2, 1, 0] rfl) hW
      intro j35 J35 hf
      refine lv_icmp_ne (tgt := 33) hx hb dX8_bettered_22 (by decide) (fun c9 => ?_) (fun c9 => ?_)
      · have hf := xf hf c9
        refine lv_iload hx hb dX8_bettered_33 (lv_at hl 0 rfl) ?_
        exact J35 _ hf _ _ _ (lv_sub hl [1, 3] rfl) hW
      · have hf := xt hf c9
        refine lv_aload_n hx hb dX8_bettered_25 rfl (lv_at hl 1 rfl) ?_
        refine lv_iload_n hx hb dX8_bettered_26 rfl (lv_at hl 2 rfl) ?_
        obtain ⟨r7, g8, hf⟩ := cl1S hf
        refine x_Vr (k := 19) (As := [.int v1]) (rest := []) E hC hW hl.1 (c_X8_withTwoForOne v1 r7 S g8) cv_X8_44 rfl (by decide) rfl rfl rfl ⟨Nat.le_of_ble_eq_true rfl, Nat.le_of_ble_eq_true rfl⟩ ⟨Nat.le_refl _, Nat.le_refl _⟩ (Nat.le_of_ble_eq_true rfl) dX8_bettered_27 (fun H locs hW => ?_)
        refine lv_goto (tgt := 35) hx hb dX8_bettered_30 (by decide) ?_
        exact J35 _ hf _ _ _ (lv_sub hl [1, 3] rfl) hW
set_option maxRecDepth 100000 in
set_option maxHeartbeats 4000000 in
theorem c_X9_better {l : Launch} {D : va_G} {cy : Nat → ClassId} {L : Nat → Nat} {bA : Nat} (a1 : Int32) (r : Int32) (S S' : Sg)  (hf : f_X9_better a1 S = some (r, S')) : MetX l D cy L shC 52 bA yX9_better cX9_better 2 (some .int) 6 134 [.ref (L 0), .int a1] (some (.int r)) S S' := by
  refine x_met (own := RX9) (by decide) rfl (Nat.le_of_ble_eq_true rfl) ?_
  intro p e s m below meth c ls E hC hr hlk hl hW
  generalize hargs : ([.ref (L 0), .int a1] : List Value).toArray = args at E ⊢
  generalize hQ : MQ below (xQ D cy L shC 52 bA (some (.int r)) S') args s 0 0 (AL L 52) = Q
  have hl : lv_has ls 2 [(0, .ref (L 0)), (1, .int a1)] := hl
  have hx := E.1
  have hb := E.2.1
  have hts := E.2.2.2.2
  unfold f_X9_better at hf
  refine lv_aload_n hx hb dX9_better_0 rfl (lv_at hl 0 rfl) ?_
  refine x_getr (k := 0) (k' := 1) E hC hW fl_X9_12 (by decide) rfl rfl dX9_better_1 ?_
  refine lv_iload_n hx hb dX9_better_4 rfl (lv_at hl 1 rfl) ?_
  obtain ⟨r1, g2, hf⟩ := cl1S hf
  refine x_Vr (k := 1) (As := [.int a1]) (rest := []) E hC hW hl.1 (c_X2_hasAll a1 r1 S g2) cv_X9_160 rfl (by decide) rfl rfl rfl ⟨Nat.le_of_ble_eq_true rfl, Nat.le_of_ble_eq_true rfl⟩ ⟨Nat.le_refl _, Nat.le_refl _⟩ (Nat.le_of_ble_eq_true rfl) dX9_better_5 (fun H locs hW => ?_)
  refine lv_if_ne (tgt := 14) hx hb dX9_better_8 (by decide) (fun c9 => ?_) (fun c9 => ?_)
  · have hf := xf hf c9
    refine lv_aload_n hx hb dX9_better_14 rfl (lv_at hl 0 rfl) ?_
    obtain ⟨S4, g3, hf⟩ := cl1S hf
    refine x_Vv (k := 0) (As := []) (rest := []) E hC hW hl.1 (c_X9_fillStanding S S4 g3) cv_X9_166 rfl (by decide) rfl rfl rfl ⟨Nat.le_of_ble_eq_true rfl, Nat.le_of_ble_eq_true rfl⟩ ⟨Nat.le_refl _, Nat.le_refl _⟩ (Nat.le_of_ble_eq_true rfl) dX9_better_15 (fun H locs hW => ?_)
    refine lv_aload_n hx hb dX9_better_18 rfl (lv_at hl 0 rfl) ?_
    refine x_getr (k := 0) (k' := 19) E hC hW fl_X9_33 (by decide) rfl rfl dX9_better_19 ?_
    refine x_getr (k := 19) (k' := 20) E hC hW fl_X9_176 (by decide) rfl rfl dX9_better_22 ?_
    refine lv_iload_n hx hb dX9_better_25 rfl (lv_at hl 1 rfl) ?_
    obtain ⟨hg5, hf⟩ := gdS hf
    refine x_zald (k := 20) E hC hW (by decide) rfl (inbS hg5) dX9_better_26 ?_
    refine lv_if_eq (tgt := 41) hx hb dX9_better_27 (by decide) (fun c8 => ?_) (fun c8 => ?_)
    · have hf := xt hf c8
      refine lv_bipush (v := (-3)) hx hb dX9_better_41 (by decide) ?_
      exact x_iretI E hC hW hr hlk hQ dX9_better_43 hf
    · have hf := xf hf c8
      refine lv_aload_n hx hb dX9_better_30 rfl (lv_at hl 0 rfl) ?_
      refine x_getr (k := 0) (k' := 19) E hC hW fl_X9_33 (by decide) rfl rfl dX9_better_31 ?_
      refine lv_iload_n hx hb dX9_better_34 rfl (lv_at hl 1 rfl) ?_
      obtain ⟨r6, g7, hf⟩ := cl1S hf
      refine x_Vr (k := 19) (As := [.int a1]) (rest := []) E hC hW hl.1 (c_X8_bettered a1 r6 S4 g7) cv_X9_191 rfl (by decide) rfl rfl rfl ⟨Nat.le_of_ble_eq_true rfl, Nat.le_of_ble_eq_true rfl⟩ ⟨Nat.le_refl _, Nat.le_refl _⟩ (Nat.le_of_ble_eq_true rfl) dX9_better_35 (fun H locs hW => ?_)
      refine lv_goto (tgt := 43) hx hb dX9_better_38 (by decide) ?_
      exact x_iretI E hC hW hr hlk hQ dX9_better_43 hf
  · have hf := xt hf c9
    refine lv_bipush (v := (-2)) hx hb dX9_better_11 (by decide) ?_
    exact x_iretI E hC hW hr hlk hQ dX9_better_13 hf
set_option maxRecDepth 100000 in
set_option maxHeartbeats 4000000 in
theorem c_X6_has {l : Launch} {D : va_G} {cy : Nat → ClassId} {L : Nat → Nat} {bA : Nat} (k : Nat) (a1 : Int32) (r : Int32) (S : Sg) (hk : okS k) (hf : f_X6_has k a1 S = some r) : MetX l D cy L shC 52 bA yX6_has cX6_has 2 (some .boolean) 0 0 [.ref (L k), .int a1] (some (.int r)) S S := by
  refine x_met (own := RX6) (by decide) rfl (Nat.le_of_ble_eq_true rfl) ?_
  intro p e s m below meth c ls E hC hr hlk hl hW
  generalize hargs : ([.ref (L k), .int a1] : List Value).toArray = args at E ⊢
  generalize hQ : MQ below (xQ D cy L shC 52 bA (some (.int r)) S) args s 0 0 (AL L 52) = Q
  have hl : lv_has ls 2 [(0, .ref (L k)), (1, .int a1)] := hl
  have hx := E.1
  have hb := E.2.1
  have hts := E.2.2.2.2
  unfold f_X6_has at hf
  refine lv_iload_n hx hb dX6_has_0 rfl (lv_at hl 1 rfl) ?_
  refine lv_if_lt (tgt := 16) hx hb dX6_has_1 (by decide) (fun c2 => ?_) (fun c2 => ?_)
  · have hf := xt hf c2
    refine lv_iconst (v := 0) hx hb dX6_has_16 (by decide) ?_
    exact x_zretP E hC hW hr hlk hQ (by decide) dX6_has_17 hf
  · have hf := xf hf c2
    refine lv_iload_n hx hb dX6_has_4 rfl (lv_at hl 1 rfl) ?_
    refine lv_aload_n hx hb dX6_has_5 rfl (lv_at hl 0 rfl) ?_
    refine x_geti (k := k) E hC hW fl_X6_15 hk.1 hk.2.1 rfl dX6_has_6 ?_
    refine lv_icmp_ge (tgt := 16) hx hb dX6_has_9 (by decide) (fun c1 => ?_) (fun c1 => ?_)
    · have hf := xt hf c1
      refine lv_iconst (v := 0) hx hb dX6_has_16 (by decide) ?_
      exact x_zretP E hC hW hr hlk hQ (by decide) dX6_has_17 hf
    · have hf := xf hf c1
      refine lv_iconst (v := 1) hx hb dX6_has_12 (by decide) ?_
      refine lv_goto (tgt := 17) hx hb dX6_has_13 (by decide) ?_
      exact x_zretP E hC hW hr hlk hQ (by decide) dX6_has_17 hf
set_option maxRecDepth 100000 in
set_option maxHeartbeats 4000000 in
theorem c_X6_numberFor {l : Launch} {D : va_G} {cy : Nat → ClassId} {L : Nat → Nat} {bA : Nat} (k : Nat) (a1 : Int32) (r : Int64) (S : Sg) (hk : okS k) (hf : f_X6_numberFor k a1 S = some r) : MetX l D cy L shC 52 bA yX6_numberFor cX6_numberFor 2 (some .long) 1 21 [.ref (L k), .int a1] (some (.long r)) S S := by
  refine x_met (own := RX6) (by decide) rfl (Nat.le_of_ble_eq_true rfl) ?_
  intro p e s m below meth c ls E hC hr hlk hl hW
  generalize hargs : ([.ref (L k), .int a1] : List Value).toArray = args at E ⊢
  generalize hQ : MQ below (xQ D cy L shC 52 bA (some (.long r)) S) args s 0 0 (AL L 52) = Q
  have hl : lv_has ls 2 [(0, .ref (L k)), (1, .int a1)] := hl
  have hx := E.1
  have hb := E.2.1
  have hts := E.2.2.2.2
  unfold f_X6_numberFor at hf
  refine lv_aload_n hx hb dX6_numberFor_0 rfl (lv_at hl 0 rfl) ?_
  refine lv_iload_n hx hb dX6_numberFor_1 rfl (lv_at hl 1 rfl) ?_
  obtain ⟨r1, g2, hf⟩ := cl1S hf
  refine x_Vr (k := k) (As := [.int a1]) (rest := []) E hC hW hl.1 (c_X6_has k a1 r1 S hk g2) cv_X6_22 rfl hk.1 hk.2.1 rfl rfl ⟨Nat.le_of_ble_eq_true rfl, Nat.le_of_ble_eq_true rfl⟩ ⟨Nat.le_refl _, Nat.le_refl _⟩ (Nat.le_of_ble_eq_true rfl) dX6_numberFor_2 (fun H locs hW => ?_)
  refine lv_if_eq (tgt := 17) hx hb dX6_numberFor_5 (by decide) (fun c4 => ?_) (fun c4 => ?_)
  · have hf := xt hf c4
    refine lv_lconst (v := 0) hx hb dX6_numberFor_17 (by decide) ?_
    exact x_lretP E hC hW hr hlk hQ dX6_numberFor_18 hf
  · have hf := xf hf c4
    refine lv_aload_n hx hb dX6_numberFor_8 rfl (lv_at hl 0 rfl) ?_
    refine x_getr (k := k) (k' := (k + 1)) E hC hW fl_X6_18 hk.1 hk.2.1 rfl dX6_numberFor_9 ?_
    refine lv_iload_n hx hb dX6_numberFor_12 rfl (lv_at hl 1 rfl) ?_
    obtain ⟨hg3, hf⟩ := gdS hf
    refine x_lald (k := (k + 1)) E hC hW hk.2.2.1 hk.2.2.2 (inbS hg3) dX6_numberFor_13 ?_
    refine lv_goto (tgt := 18) hx hb dX6_numberFor_14 (by decide) ?_
    exact x_lretP E hC hW hr hlk hQ dX6_numberFor_18 hf
set_option maxRecDepth 100000 in
set_option maxHeartbeats 4000000 in
theorem c_X9_fillTimes {l : Launch} {D : va_G} {cy : Nat → ClassId} {L : Nat → Nat} {bA : Nat} (ks : Nat) (S S' : Sg) (hks : okS ks) (hf : f_X9_fillTimes ks S = some S') : MetX l D cy L shC 52 bA yX9_fillTimes cX9_fillTimes 3 none 2 42 [.ref (L 0), .ref (L ks)] none S S' := by
  refine x_met (own := RX9) (by decide) rfl (Nat.le_of_ble_eq_true rfl) ?_
  intro p e s m below meth c ls E hC hr hlk hl hW
  generalize hargs : ([.ref (L 0), .ref (L ks)] : List Value).toArray = args at E ⊢
  generalize hQ : MQ below (xQ D cy L shC 52 bA none S') args s 0 0 (AL L 52) = Q
  have hl : lv_has ls 3 [(0, .ref (L 0)), (1, .ref (L ks))] := hl
  have hx := E.1
  have hb := E.2.1
  have hts := E.2.2.2.2
  unfold f_X9_fillTimes at hf
  refine lv_iconst (v := 0) hx hb dX9_fillTimes_0 (by decide) ?_
  refine lv_istore_n (lv' := [(2, .int (0 : Int32)), (0, .ref (L 0)), (1, .ref (L ks))]) hx hb dX9_fillTimes_1 rfl hl (by decide) rfl (fun ls hl => ?_)
  refine wp2S (fun (v1 : Int32) (S2 : Sg) => ∀ (H : Heap) (locs : List Loc) (ls : Array Slot), lv_has ls 3 [(0, .ref (L 0)), (1, .ref (L ks)), (2, .int v1)] → Wd D cy L shC 52 S2 s H locs → W p l e (rmk 2 42) s m args below meth c H locs 0 0 Q (F0 m 2 ls [])) ?_ hf _ _ _ (lv_sub hl [1, 2, 0] rfl) hW
  · intro self2 ih2 v1 S2 hf H locs ls hl hW
    unfold X9_fillTimes_L2 at hf
    refine lv_iload_n hx hb dX9_fillTimes_2 rfl (lv_at hl 2 rfl) ?_
    refine lv_aload_n hx hb dX9_fillTimes_3 rfl (lv_at hl 0 rfl) ?_
    refine x_getr (k := 0) (k' := 1) E hC hW fl_X9_12 (by decide) rfl rfl dX9_fillTimes_4 ?_
    refine x_geti (k := 1) E hC hW fl_X9_107 (by decide) rfl rfl dX9_fillTimes_7 ?_
    refine lv_icmp_ge (tgt := 40) hx hb dX9_fillTimes_10 (by decide) (fun c10 => ?_) (fun c10 => ?_)
    · have hf := xt hf c10
      exact x_vretI E hC hW hr hlk hQ dX9_fillTimes_40 hf
    · have hf := xf hf c10
      refine lv_aload_n hx hb dX9_fillTimes_13 rfl (lv_at hl 0 rfl) ?_
      refine x_getr (k := 0) (k' := 50) E hC hW fl_X9_74 (by decide) rfl rfl dX9_fillTimes_14 ?_
      refine lv_iload_n hx hb dX9_fillTimes_17 rfl (lv_at hl 2 rfl) ?_
      refine lv_aload_n hx hb dX9_fillTimes_18 rfl (lv_at hl 1 rfl) ?_
      refine lv_iload_n hx hb dX9_fillTimes_19 rfl (lv_at hl 2 rfl) ?_
      obtain ⟨r3, g4, hf⟩ := cl1S hf
      refine x_Vr (k := ks) (As := [.int v1]) (rest := [.int v1, .ref (L 50)]) E hC hW hl.1 (c_X6_numberFor ks v1 r3 S2 hks g4) cv_X9_325 rfl hks.1 hks.2.1 rfl rfl ⟨Nat.le_of_ble_eq_true rfl, Nat.le_of_ble_eq_true rfl⟩ ⟨Nat.le_refl _, Nat.le_refl _⟩ (Nat.le_of_ble_eq_true rfl) dX9_fillTimes_20 (fun H locs hW => ?_)
      refine lv_aload_n hx hb dX9_fillTimes_23 rfl (lv_at hl 0 rfl) ?_
      refine x_getr (k := 0) (k' := 1) E hC hW fl_X9_12 (by decide) rfl rfl dX9_fillTimes_24 ?_
      refine x_geti (k := 1) E hC hW fl_X9_86 (by decide) rfl rfl dX9_fillTimes_27 ?_
      obtain ⟨r5, g6, hf⟩ := cl1S hf
      refine x_Sr (As := [.long r3, .int (S2.1 1 0)]) (rest := [.int v1, .ref (L 50)]) E hC hW hl.1 (c_X9_restOf r3 (S2.1 1 0) r5 S2 g6) cs_X9_93 rfl rfl ⟨Nat.le_of_ble_eq_true rfl, Nat.le_of_ble_eq_true rfl⟩ ⟨Nat.le_refl _, Nat.le_refl _⟩ (Nat.le_of_ble_eq_true rfl) dX9_fillTimes_30 (fun H locs hW => ?_)
      obtain ⟨hg7, hf⟩ := gdS hf
      refine x_iast (k := 50) E hC hW (by decide) rfl (inbS hg7) dX9_fillTimes_33 (fun H locs hW => ?_)
      obtain ⟨S8, eS8⟩ : ∃ z : Sg, z = si S2 50 (ix v1) r5 := ⟨_, rfl⟩
      have hW : Wd D cy L shC 52 S8 s H locs := by rw [eS8]; exact hW
      have hf := bvS hf eS8
      obtain ⟨x9, ex9⟩ : ∃ z : Int32, z = (v1 + 1) := ⟨_, rfl⟩
      have hf := bvS hf ex9
      refine lv_iinc (v := x9) (lv' := [(2, .int x9), (0, .ref (L 0)), (1, .ref (L ks))]) hx hb dX9_fillTimes_34 hl (k := 2) rfl (by rw [ex9]; rfl) (by decide) rfl (fun ls hl => ?_)
      refine lv_goto (tgt := 2) hx hb dX9_fillTimes_37 (by decide) ?_
      exact ih2 _ _ hf _ _ _ (lv_sub hl [1, 2, 0] rfl) hW
set_option maxRecDepth 100000 in
set_option maxHeartbeats 4000000 in
theorem c_X9_isSheet {l : Launch} {D : va_G} {cy : Nat → ClassId} {L : Nat → Nat} {bA : Nat} (a0 : Int32) (r : Int32) (S : Sg)  (hf : f_X9_isSheet a0 = some r) : MetX l D cy L shC 52 bA yX9_isSheet cX9_isSheet 1 (some .boolean) 0 0 [.int a0] (some (.int r)) S S := by
  refine x_met (own := RX9) (by decide) rfl (Nat.le_of_ble_eq_true rfl) ?_
  intro p e s m below meth c ls E hC hr hlk hl hW
  generalize hargs : ([.int a0] : List Value).toArray = args at E ⊢
  generalize hQ : MQ below (xQ D cy L shC 52 bA (some (.int r)) S) args s 0 0 (AL L 52) = Q
  have hl : lv_has ls 1 [(0, .int a0)] := hl
  have hx := E.1
  have hb := E.2.1
  have hts := E.2.2.2.2
  unfold f_X9_isSheet at hf
  refine lv_iload_n hx hb dX9_isSheet_0 rfl (lv_at hl 0 rfl) ?_
  refine lv_if_lt (tgt := 13) hx hb dX9_isSheet_1 (by decide) (fun c2 => ?_) (fun c2 => ?_)
  · have hf := xt hf c2
    refine lv_iconst (v := 0) hx hb dX9_isSheet_13 (by decide) ?_
    exact x_zretP E hC hW hr hlk hQ (by decide) dX9_isSheet_14 hf
  · have hf := xf hf c2
    refine lv_iload_n hx hb dX9_isSheet_4 rfl (lv_at hl 0 rfl) ?_
    refine lv_iconst (v := 4) hx hb dX9_isSheet_5 (by decide) ?_
    refine lv_icmp_ge (tgt := 13) hx hb dX9_isSheet_6 (by decide) (fun c1 => ?_) (fun c1 => ?_)
    · have hf := xt hf c1
      refine lv_iconst (v := 0) hx hb dX9_isSheet_13 (by decide) ?_
      exact x_zretP E hC hW hr hlk hQ (by decide) dX9_isSheet_14 hf
    · have hf := xf hf c1
      refine lv_iconst (v := 1) hx hb dX9_isSheet_9 (by decide) ?_
      refine lv_goto (tgt := 14) hx hb dX9_isSheet_10 (by decide) ?_
      exact x_zretP E hC hW hr hlk hQ (by decide) dX9_isSheet_14 hf
set_option maxRecDepth 100000 in
set_option maxHeartbeats 4000000 in
theorem c_X6_isMissing {l : Launch} {D : va_G} {cy : Nat → ClassId} {L : Nat → Nat} {bA : Nat} (k : Nat) (r : Int32) (S : Sg) (hk : okS k) (hf : f_X6_isMissing k S = some r) : MetX l D cy L shC 52 bA yX6_isMissing cX6_isMissing 1 (some .boolean) 0 0 [.ref (L k)] (some (.int r)) S S := by
  refine x_met (own := RX6) (by decide) rfl (Nat.le_of_ble_eq_true rfl) ?_
  intro p e s m below meth c ls E hC hr hlk hl hW
  generalize hargs : ([.ref (L k)] : List Value).toArray = args at E ⊢
  generalize hQ : MQ below (xQ D cy L shC 52 bA (some (.int r)) S) args s 0 0 (AL L 52) = Q
  have hl : lv_has ls 1 [(0, .ref (L k))] := hl
  have hx := E.1
  have hb := E.2.1
  have hts := E.2.2.2.2
  unfold f_X6_isMissing at hf
  refine lv_aload_n hx hb dX6_isMissing_0 rfl (lv_at hl 0 rfl) ?_
  refine x_geti (k := k) E hC hW fl_X6_9 hk.1 hk.2.1 rfl dX6_isMissing_1 ?_
  refine lv_iconst (v := (-1)) hx hb dX6_isMissing_4 (by decide) ?_
  refine lv_icmp_ne (tgt := 12) hx hb dX6_isMissing_5 (by decide) (fun c1 => ?_) (fun c1 => ?_)
  · have hf := xf hf c1
    refine lv_iconst (v := 0) hx hb dX6_isMissing_12 (by decide) ?_
    exact x_zretP E hC hW hr hlk hQ (by decide) dX6_isMissing_13 hf
  · have hf := xt hf c1
    refine lv_iconst (v := 1) hx hb dX6_isMissing_8 (by decide) ?_
    refine lv_goto (tgt := 13) hx hb dX6_isMissing_9 (by decide) ?_
    exact x_zretP E hC hW hr hlk hQ (by decide) dX6_isMissing_13 hf
set_option maxRecDepth 100000 in
set_option maxHeartbeats 4000000 in
theorem c_X5_difference {l : Launch} {D : va_G} {cy : Nat → ClassId} {L : Nat → Nat} {bA : Nat} (a1 : Int32) (a2 : Int32) (a3 : Int32) (r : Int32) (S : Sg)  (hf : f_X5_difference a1 a2 a3 S = some r) : MetX l D cy L shC 52 bA yX5_difference cX5_difference 6 (some .int) 0 0 [.ref (L 13), .int a1, .int a2, .int a3] (some (.int r)) S S := by
  refine x_met (own := RX5) (by decide) rfl (Nat.le_of_ble_eq_true rfl) ?_
  intro p e s m below meth c ls E hC hr hlk hl hW
  generalize hargs : ([.ref (L 13), .int a1, .int a2, .int a3] : List Value).toArray = args at E ⊢
  generalize hQ : MQ below (xQ D cy L shC 52 bA (some (.int r)) S) args s 0 0 (AL L 52) = Q
  have hl : lv_has ls 6 [(0, .ref (L 13)), (1, .int a1), (2, .int a2), (3, .int a3)] := hl
  have hx := E.1
  have hb := E.2.1
  have hts := E.2.2.2.2
  unfold f_X5_difference at hf
  refine lv_iload_n hx hb dX5_difference_0 rfl (lv_at hl 1 rfl) ?_
  refine lv_bipush (v := 12) hx hb dX5_difference_1 (by decide) ?_
  refine lv_imul hx hb dX5_difference_3 ?_
  refine lv_topi (fun x1 ex1 => ?_)
  have hf := bvS hf ex1
  refine lv_istore (lv' := [(4, .int x1), (0, .ref (L 13)), (1, .int a1), (2, .int a2), (3, .int a3)]) hx hb dX5_difference_4 hl (by decide) rfl (fun ls hl => ?_)
  refine lv_iload hx hb dX5_difference_6 (lv_at hl 0 rfl) ?_
  refine lv_bipush (v := 6) hx hb dX5_difference_8 (by decide) ?_
  refine lv_iadd hx hb dX5_difference_10 ?_
  refine lv_topi (fun x2 ex2 => ?_)
  have hf := bvS hf ex2
  refine lv_istore (lv' := [(5, .int x2), (4, .int x1), (0, .ref (L 13)), (1, .int a1), (2, .int a2), (3, .int a3)]) hx hb dX5_difference_11 hl (by decide) rfl (fun ls hl => ?_)
  refine lv_aload_n hx hb dX5_difference_13 rfl (lv_at hl 2 rfl) ?_
  refine x_getr (k := 13) (k' := 14) E hC hW fl_X5_21 (by decide) rfl rfl dX5_difference_14 ?_
  refine lv_iload hx hb dX5_difference_17 (lv_at hl 1 rfl) ?_
  refine lv_iload_n hx hb dX5_difference_19 rfl (lv_at hl 4 rfl) ?_
  refine lv_iadd hx hb dX5_difference_20 ?_
  obtain ⟨hg3, hf⟩ := gdS hf
  refine x_iald (k := 14) E hC hW (by decide) rfl (inbS hg3) dX5_difference_21 ?_
  refine lv_aload_n hx hb dX5_difference_22 rfl (lv_at hl 2 rfl) ?_
  refine x_getr (k := 13) (k' := 14) E hC hW fl_X5_21 (by decide) rfl rfl dX5_difference_23 ?_
  refine lv_iload hx hb dX5_difference_26 (lv_at hl 0 rfl) ?_
  refine lv_iload_n hx hb dX5_difference_28 rfl (lv_at hl 5 rfl) ?_
  refine lv_iadd hx hb dX5_difference_29 ?_
  obtain ⟨hg4, hf⟩ := gdS hf
  refine x_iald (k := 14) E hC hW (by decide) rfl (inbS hg4) dX5_difference_30 ?_
  refine lv_imul hx hb dX5_difference_31 ?_
  refine lv_aload_n hx hb dX5_difference_32 rfl (lv_at hl 2 rfl) ?_
  refine x_getr (k := 13) (k' := 14) E hC hW fl_X5_21 (by decide) rfl rfl dX5_difference_33 ?_
  refine lv_iload hx hb dX5_difference_36 (lv_at hl 0 rfl) ?_
  refine lv_iload_n hx hb dX5_difference_38 rfl (lv_at hl 4 rfl) ?_
  refine lv_iadd hx hb dX5_difference_39 ?_
  obtain ⟨hg5, hf⟩ := gdS hf
  refine x_iald (k := 14) E hC hW (by decide) rfl (inbS hg5) dX5_difference_40 ?_
  refine lv_aload_n hx hb dX5_difference_41 rfl (lv_at hl 2 rfl) ?_
  refine x_getr (k := 13) (k' := 14) E hC hW fl_X5_21 (by decide) rfl rfl dX5_difference_42 ?_
  refine lv_iload hx hb dX5_difference_45 (lv_at hl 1 rfl) ?_
  refine lv_iload_n hx hb dX5_difference_47 rfl (lv_at hl 5 rfl) ?_
  refine lv_iadd hx hb dX5_difference_48 ?_
  obtain ⟨hg6, hf⟩ := gdS hf
  refine x_iald (k := 14) E hC hW (by decide) rfl (inbS hg6) dX5_difference_49 ?_
  refine lv_imul hx hb dX5_difference_50 ?_
  refine lv_isub hx hb dX5_difference_51 ?_
  exact x_iretP E hC hW hr hlk hQ dX5_difference_52 hf
set_option maxRecDepth 100000 in
set_option maxHeartbeats 4000000 in
theorem c_X7_numberAt {l : Launch} {D : va_G} {cy : Nat → ClassId} {L : Nat → Nat} {bA : Nat} (a3 : Int32) (a4 : Int32) (r : Int32) (S : Sg)  (hf : f_X7_numberAt a3 a4 S = some r) : MetX l D cy L shC 52 bA yX7_numberAt cX7_numberAt 7 (some .int) 1 25 [.ref (L 21), .ref (L 13), .ref (L 50), .int a3, .int a4] (some (.int r)) S S := by
  refine x_met (own := RX7) (by decide) rfl (Nat.le_of_ble_eq_true rfl) ?_
  intro p e s m below meth c ls E hC hr hlk hl hW
  generalize hargs : ([.ref (L 21), .ref (L 13), .ref (L 50), .int a3, .int a4] : List Value).toArray = args at E ⊢
  generalize hQ : MQ below (xQ D cy L shC 52 bA (some (.int r)) S) args s 0 0 (AL L 52) = Q
  have hl : lv_has ls 7 [(0, .ref (L 21)), (1, .ref (L 13)), (2, .ref (L 50)), (3, .int a3), (4, .int a4)] := hl
  have hx := E.1
  have hb := E.2.1
  have hts := E.2.2.2.2
  unfold f_X7_numberAt at hf
  refine lv_iconst (v := 0) hx hb dX7_numberAt_0 (by decide) ?_
  refine lv_istore (lv' := [(5, .int (0 : Int32)), (0, .ref (L 21)), (1, .ref (L 13)), (2, .ref (L 50)), (3, .int a3), (4, .int a4)]) hx hb dX7_numberAt_1 hl (by decide) rfl (fun ls hl => ?_)
  refine lv_iconst (v := 0) hx hb dX7_numberAt_3 (by decide) ?_
  refine lv_istore (lv' := [(6, .int (0 : Int32)), (5, .int (0 : Int32)), (0, .ref (L 21)), (1, .ref (L 13)), (2, .ref (L 50)), (3, .int a3), (4, .int a4)]) hx hb dX7_numberAt_4 hl (by decide) rfl (fun ls hl => ?_)
  refine wp2K hf (fun (v4 : Int32) (v5 : Int32) => ∀ (H : Heap) (locs : List Loc) (ls : Array Slot), lv_has ls 7 [(1, .ref (L 13)), (2, .ref (L 50)), (3, .int a3), (4, .int a4), (5, .int v4), (6, .int v5)] → Wd D cy L shC 52 S s H locs → W p l e (rmk 1 25) s m args below meth c H locs 0 0 Q (F0 m 6 ls [])) (fun (j : Int32 → Option (Int32)) => ∀ (v1 : Int32), (j v1) = some r → ∀ (H : Heap) (locs : List Loc) (ls : Array Slot), lv_has ls 7 [(1, .ref (L 13)), (5, .int v1)] → Wd D cy L shC 52 S s H locs → W p l e (rmk 1 25) s m args below meth c H locs 0 0 Q (F0 m 40 ls [])) ?_ ?_ _ _ _ (lv_sub hl [3, 4, 5, 6, 1, 0] rfl) hW
  · intro v1 hf H locs ls hl hW
    try dsimp only at hf
    refine lv_iload hx hb dX7_numberAt_40 (lv_at hl 1 rfl) ?_
    refine lv_i2l hx hb dX7_numberAt_42 rfl ?_
    refine lv_aload_n hx hb dX7_numberAt_43 rfl (lv_at hl 0 rfl) ?_
    refine x_geti (k := 13) E hC hW fl_X7_32 (by decide) rfl rfl dX7_numberAt_44 ?_
    obtain ⟨r2, g3, hf⟩ := cl1S hf
    refine x_Nr (As := [.long v1.toInt64, .int (S.1 13 0)]) (rest := []) E hC hW hl.1 (c_X9_restOf v1.toInt64 (S.1 13 0) r2 S g3) cn_X7_35 rfl rfl ⟨Nat.le_of_ble_eq_true rfl, Nat.le_of_ble_eq_true rfl⟩ ⟨Nat.le_refl _, Nat.le_refl _⟩ (Nat.le_of_ble_eq_true rfl) dX7_numberAt_47 (fun H locs hW => ?_)
    exact x_iretP E hC hW hr hlk hQ dX7_numberAt_50 hf
  · intro k40 K40 self6 ih6 v4 v5 hf H locs ls hl hW
    unfold X7_numberAt_L6 at hf
    refine lv_iload hx hb dX7_numberAt_6 (lv_at hl 5 rfl) ?_
    refine lv_aload_n hx hb dX7_numberAt_8 rfl (lv_at hl 0 rfl) ?_
    refine x_geti (k := 13) E hC hW fl_X7_22 (by decide) rfl rfl dX7_numberAt_9 ?_
    refine lv_icmp_ge (tgt := 40) hx hb dX7_numberAt_12 (by decide) (fun c11 => ?_) (fun c11 => ?_)
    · have hf := xt hf c11
      exact K40 _ hf _ _ _ (lv_sub hl [0, 4] rfl) hW
    · have hf := xf hf c11
      refine lv_iload hx hb dX7_numberAt_15 (lv_at hl 4 rfl) ?_
      refine lv_aload_n hx hb dX7_numberAt_17 rfl (lv_at hl 1 rfl) ?_
      refine lv_iload hx hb dX7_numberAt_18 (lv_at hl 5 rfl) ?_
      obtain ⟨hg6, hf⟩ := gdS hf
      refine x_iald (k := 50) E hC hW (by decide) rfl (inbS hg6) dX7_numberAt_20 ?_
      refine lv_aload_n hx hb dX7_numberAt_21 rfl (lv_at hl 0 rfl) ?_
      refine lv_iload hx hb dX7_numberAt_22 (lv_at hl 5 rfl) ?_
      refine lv_iload_n hx hb dX7_numberAt_24 rfl (lv_at hl 2 rfl) ?_
      refine lv_iload hx hb dX7_numberAt_25 (lv_at hl 3 rfl) ?_
      obtain ⟨r7, g8, hf⟩ := cl1S hf
      refine x_Vr (k := 13) (As := [.int v5, .int a3, .int a4]) (rest := [.int (S.1 50 (ix v5)), .int v4]) E hC hW hl.1 (c_X5_difference v5 a3 a4 r7 S g8) cv_X7_28 rfl (by decide) rfl rfl rfl ⟨Nat.le_of_ble_eq_true rfl, Nat.le_of_ble_eq_true rfl⟩ ⟨Nat.le_refl _, Nat.le_refl _⟩ (Nat.le_of_ble_eq_true rfl) dX7_numberAt_27 (fun H locs hW => ?_)
      refine lv_imul hx hb dX7_numberAt_30 ?_
      refine lv_iadd hx hb dX7_numberAt_31 ?_
      refine lv_topi (fun x9 ex9 => ?_)
      have hf := bvS hf ex9
      refine lv_istore (lv' := [(5, .int x9), (1, .ref (L 13)), (2, .ref (L 50)), (3, .int a3), (4, .int a4), (6, .int v5)]) hx hb dX7_numberAt_32 hl (by decide) rfl (fun ls hl => ?_)
      obtain ⟨x10, ex10⟩ : ∃ z : Int32, z = (v5 + 1) := ⟨_, rfl⟩
      have hf := bvS hf ex10
      refine lv_iinc (v := x10) (lv' := [(6, .int x10), (5, .int x9), (1, .ref (L 13)), (2, .ref (L 50)), (3, .int a3), (4, .int a4)]) hx hb dX7_numberAt_34 hl (k := 5) rfl (by rw [ex10]; rfl) (by decide) rfl (fun ls hl => ?_)
      refine lv_goto (tgt := 6) hx hb dX7_numberAt_37 (by decide) ?_
      exact ih6 _ _ hf _ _ _ (lv_sub hl [2, 3, 4, 5, 1, 0] rfl) hW
set_option maxRecDepth 100000 in
set_option maxHeartbeats 4000000 in
theorem c_X9_table {l : Launch} {D : va_G} {cy : Nat → ClassId} {L : Nat → Nat} {bA : Nat} (a1 : Int32) (a2 : Int32) (a3 : Int32) (r : Int32) (S S' : Sg)  (hf : f_X9_table a1 a2 a3 S = some (r, S')) : MetX l D cy L shC 52 bA yX9_table cX9_table 4 (some .int) 3 72 [.ref (L 0), .int a1, .int a2, .int a3] (some (.int r)) S S' := by
  refine x_met (own := RX9) (by decide) rfl (Nat.le_of_ble_eq_true rfl) ?_
  intro p e s m below meth c ls E hC hr hlk hl hW
  generalize hargs : ([.ref (L 0), .int a1, .int a2, .int a3] : List Value).toArray = args at E ⊢
  generalize hQ : MQ below (xQ D cy L shC 52 bA (some (.int r)) S') args s 0 0 (AL L 52) = Q
  have hl : lv_has ls 4 [(0, .ref (L 0)), (1, .int a1), (2, .int a2), (3, .int a3)] := hl
  have hx := E.1
  have hb := E.2.1
  have hts := E.2.2.2.2
  unfold f_X9_table at hf
  refine lv_iload_n hx hb dX9_table_0 rfl (lv_at hl 1 rfl) ?_
  obtain ⟨r1, g2, hf⟩ := cl1S hf
  refine x_Sr (As := [.int a1]) (rest := []) E hC hW hl.1 (c_X9_isSheet a1 r1 S g2) cs_X9_194 rfl rfl ⟨Nat.le_of_ble_eq_true rfl, Nat.le_of_ble_eq_true rfl⟩ ⟨Nat.le_refl _, Nat.le_refl _⟩ (Nat.le_of_ble_eq_true rfl) dX9_table_1 (fun H locs hW => ?_)
  refine lv_if_eq (tgt := 37) hx hb dX9_table_4 (by decide) (fun c20 => ?_) (fun c20 => ?_)
  · have hf := xt hf c20
    refine lv_bipush (v := (-2)) hx hb dX9_table_37 (by decide) ?_
    exact x_iretI E hC hW hr hlk hQ dX9_table_39 hf
  · have hf := xf hf c20
    refine lv_iload_n hx hb dX9_table_7 rfl (lv_at hl 2 rfl) ?_
    refine lv_if_lt (tgt := 37) hx hb dX9_table_8 (by decide) (fun c19 => ?_) (fun c19 => ?_)
    · have hf := xt hf c19
      refine lv_bipush (v := (-2)) hx hb dX9_table_37 (by decide) ?_
      exact x_iretI E hC hW hr hlk hQ dX9_table_39 hf
    · have hf := xf hf c19
      refine lv_iload_n hx hb dX9_table_11 rfl (lv_at hl 2 rfl) ?_
      refine lv_aload_n hx hb dX9_table_12 rfl (lv_at hl 0 rfl) ?_
      refine x_getr (k := 0) (k' := 1) E hC hW fl_X9_12 (by decide) rfl rfl dX9_table_13 ?_
      refine x_geti (k := 1) E hC hW fl_X9_90 (by decide) rfl rfl dX9_table_16 ?_
      refine lv_icmp_ge (tgt := 37) hx hb dX9_table_19 (by decide) (fun c18 => ?_) (fun c18 => ?_)
      · have hf := xt hf c18
        refine lv_bipush (v := (-2)) hx hb dX9_table_37 (by decide) ?_
        exact x_iretI E hC hW hr hlk hQ dX9_table_39 hf
      · have hf := xf hf c18
        refine lv_iload_n hx hb dX9_table_22 rfl (lv_at hl 3 rfl) ?_
        refine lv_if_lt (tgt := 37) hx hb dX9_table_23 (by decide) (fun c17 => ?_) (fun c17 => ?_)
        · have hf := xt hf c17
          refine lv_bipush (v := (-2)) hx hb dX9_table_37 (by decide) ?_
          exact x_iretI E hC hW hr hlk hQ dX9_table_39 hf
        · have hf := xf hf c17
          refine lv_iload_n hx hb dX9_table_26 rfl (lv_at hl 3 rfl) ?_
          refine lv_aload_n hx hb dX9_table_27 rfl (lv_at hl 0 rfl) ?_
          refine x_getr (k := 0) (k' := 1) E hC hW fl_X9_12 (by decide) rfl rfl dX9_table_28 ?_
          refine x_geti (k := 1) E hC hW fl_X9_90 (by decide) rfl rfl dX9_table_31 ?_
          refine lv_icmp_lt (tgt := 40) hx hb dX9_table_34 (by decide) (fun c16 => ?_) (fun c16 => ?_)
          · have hf := xt hf c16
            refine lv_aload_n hx hb dX9_table_40 rfl (lv_at hl 0 rfl) ?_
            refine x_getr (k := 0) (k' := 31) E hC hW fl_X9_60 (by decide) rfl rfl dX9_table_41 ?_
            refine lv_iload_n hx hb dX9_table_44 rfl (lv_at hl 1 rfl) ?_
            obtain ⟨hg3, hf⟩ := gdS hf
            refine x_aald (k := 31) (b := 32) E hC hW (by decide) rfl rfl (inbS hg3) dX9_table_45 ?_
            have ho4 := okS_ix hg3
            obtain ⟨r5, g6, hf⟩ := cl1S hf
            refine x_Vr (k := (32 + 2 * ix a1)) (As := []) (rest := []) E hC hW hl.1 (c_X6_isMissing (32 + 2 * ix a1) r5 S ho4 g6) cv_X9_197 rfl ho4.1 ho4.2.1 rfl rfl ⟨Nat.le_of_ble_eq_true rfl, Nat.le_of_ble_eq_true rfl⟩ ⟨Nat.le_refl _, Nat.le_refl _⟩ (Nat.le_of_ble_eq_true rfl) dX9_table_46 (fun H locs hW => ?_)
            refine lv_if_eq (tgt := 55) hx hb dX9_table_49 (by decide) (fun c15 => ?_) (fun c15 => ?_)
            · have hf := xt hf c15
              refine lv_aload_n hx hb dX9_table_55 rfl (lv_at hl 0 rfl) ?_
              refine x_getr (k := 0) (k' := 13) E hC hW fl_X9_26 (by decide) rfl rfl dX9_table_56 ?_
              refine lv_aload_n hx hb dX9_table_59 rfl (lv_at hl 0 rfl) ?_
              refine x_getr (k := 0) (k' := 1) E hC hW fl_X9_12 (by decide) rfl rfl dX9_table_60 ?_
              obtain ⟨S8, g7, hf⟩ := cl1S hf
              refine x_Vv (k := 13) (As := [.ref (L 1)]) (rest := []) E hC hW hl.1 (c_X5_fill S S8 g7) cv_X9_141 rfl (by decide) rfl rfl rfl ⟨Nat.le_of_ble_eq_true rfl, Nat.le_of_ble_eq_true rfl⟩ ⟨Nat.le_refl _, Nat.le_refl _⟩ (Nat.le_of_ble_eq_true rfl) dX9_table_63 (fun H locs hW => ?_)
              refine lv_aload_n hx hb dX9_table_66 rfl (lv_at hl 0 rfl) ?_
              refine lv_aload_n hx hb dX9_table_67 rfl (lv_at hl 0 rfl) ?_
              refine x_getr (k := 0) (k' := 31) E hC hW fl_X9_60 (by decide) rfl rfl dX9_table_68 ?_
              refine lv_iload_n hx hb dX9_table_71 rfl (lv_at hl 1 rfl) ?_
              obtain ⟨hg9, hf⟩ := gdS hf
              refine x_aald (k := 31) (b := 32) E hC hW (by decide) rfl rfl (inbS hg9) dX9_table_72 ?_
              have ho10 := okS_ix hg9
              obtain ⟨S12, g11, hf⟩ := cl1S hf
              refine x_Vv (k := 0) (As := [.ref (L (32 + 2 * ix a1))]) (rest := []) E hC hW hl.1 (c_X9_fillTimes (32 + 2 * ix a1) S8 S12 ho10 g11) cv_X9_201 rfl (by decide) rfl rfl rfl ⟨Nat.le_of_ble_eq_true rfl, Nat.le_of_ble_eq_true rfl⟩ ⟨Nat.le_refl _, Nat.le_refl _⟩ (Nat.le_of_ble_eq_true rfl) dX9_table_73 (fun H locs hW => ?_)
              refine lv_aload_n hx hb dX9_table_76 rfl (lv_at hl 0 rfl) ?_
              refine x_getr (k := 0) (k' := 21) E hC hW fl_X9_40 (by decide) rfl rfl dX9_table_77 ?_
              refine lv_aload_n hx hb dX9_table_80 rfl (lv_at hl 0 rfl) ?_
              refine x_getr (k := 0) (k' := 13) E hC hW fl_X9_26 (by decide) rfl rfl dX9_table_81 ?_
              refine lv_aload_n hx hb dX9_table_84 rfl (lv_at hl 0 rfl) ?_
              refine x_getr (k := 0) (k' := 50) E hC hW fl_X9_74 (by decide) rfl rfl dX9_table_85 ?_
              refine lv_iload_n hx hb dX9_table_88 rfl (lv_at hl 2 rfl) ?_
              refine lv_iload_n hx hb dX9_table_89 rfl (lv_at hl 3 rfl) ?_
              obtain ⟨r13, g14, hf⟩ := cl1S hf
              refine x_Vr (k := 21) (As := [.ref (L 13), .ref (L 50), .int a2, .int a3]) (rest := []) E hC hW hl.1 (c_X7_numberAt a2 a3 r13 S12 g14) cv_X9_205 rfl (by decide) rfl rfl rfl ⟨Nat.le_of_ble_eq_true rfl, Nat.le_of_ble_eq_true rfl⟩ ⟨Nat.le_refl _, Nat.le_refl _⟩ (Nat.le_of_ble_eq_true rfl) dX9_table_90 (fun H locs hW => ?_)
              exact x_iretI E hC hW hr hlk hQ dX9_table_93 hf
            · have hf := xf hf c15
              refine lv_bipush (v := (-11)) hx hb dX9_table_52 (by decide) ?_
              exact x_iretI E hC hW hr hlk hQ dX9_table_54 hf
          · have hf := xf hf c16
            refine lv_bipush (v := (-2)) hx hb dX9_table_37 (by decide) ?_
            exact x_iretI E hC hW hr hlk hQ dX9_table_39 hf
set_option maxRecDepth 100000 in
set_option maxHeartbeats 4000000 in
theorem c_X7_halfRank {l : Launch} {D : va_G} {cy : Nat → ClassId} {L : Nat → Nat} {bA : Nat}  (r : Int32) (S S' : Sg)  (hf : f_X7_halfRank S = some (r, S')) : MetX l D cy L shC 52 bA yX7_halfRank cX7_halfRank 5 (some .int) 2 51 [.ref (L 21), .ref (L 13), .ref (L 50)] (some (.int r)) S S' := by
  refine x_met (own := RX7) (by decide) rfl (Nat.le_of_ble_eq_true rfl) ?_
  intro p e s m below meth c ls E hC hr hlk hl hW
  generalize hargs : ([.ref (L 21), .ref (L 13), .ref (L 50)] : List Value).toArray = args at E ⊢
  generalize hQ : MQ below (xQ D cy L shC 52 bA (some (.int r)) S') args s 0 0 (AL L 52) = Q
  have hl : lv_has ls 5 [(0, .ref (L 21)), (1, .ref (L 13)), (2, .ref (L 50))] := hl
  have hx := E.1
  have hb := E.2.1
  have hts := E.2.2.2.2
  unfold f_X7_halfRank at hf
  refine lv_aload_n hx hb dX7_halfRank_0 rfl (lv_at hl 0 rfl) ?_
  refine x_getr (k := 21) (k' := 23) E hC hW fl_X7_18 (by decide) rfl rfl dX7_halfRank_1 ?_
  refine lv_aload_n hx hb dX7_halfRank_4 rfl (lv_at hl 1 rfl) ?_
  refine x_geti (k := 13) E hC hW fl_X7_32 (by decide) rfl rfl dX7_halfRank_5 ?_
  refine lv_aload_n hx hb dX7_halfRank_8 rfl (lv_at hl 1 rfl) ?_
  refine x_geti (k := 13) E hC hW fl_X7_39 (by decide) rfl rfl dX7_halfRank_9 ?_
  refine lv_iconst (v := 0) hx hb dX7_halfRank_12 (by decide) ?_
  obtain ⟨S2, g1, hf⟩ := cl1S hf
  refine x_Vv (k := 23) (As := [.int (S.1 13 0), .int (S.1 13 1), .int (0 : Int32)]) (rest := []) E hC hW hl.1 (c_X0_clear 23 (S.1 13 0) (S.1 13 1) (0 : Int32) S S2 okB_23 g1) cv_X7_42 rfl (by decide) rfl rfl rfl ⟨Nat.le_of_ble_eq_true rfl, Nat.le_of_ble_eq_true rfl⟩ ⟨Nat.le_refl _, Nat.le_refl _⟩ (Nat.le_of_ble_eq_true rfl) dX7_halfRank_13 (fun H locs hW => ?_)
  refine lv_iconst (v := 0) hx hb dX7_halfRank_16 (by decide) ?_
  refine lv_istore_n (lv' := [(3, .int (0 : Int32)), (0, .ref (L 21)), (1, .ref (L 13)), (2, .ref (L 50))]) hx hb dX7_halfRank_17 rfl hl (by decide) rfl (fun ls hl => ?_)
  refine wp2K hf (fun (v4 : Int32) (S5 : Sg) => ∀ (H : Heap) (locs : List Loc) (ls : Array Slot), lv_has ls 5 [(0, .ref (L 21)), (1, .ref (L 13)), (2, .ref (L 50)), (3, .int v4)] → Wd D cy L shC 52 S5 s H locs → W p l e (rmk 2 51) s m args below meth c H locs 0 0 Q (F0 m 18 ls [])) (fun (j : Sg → Option (Int32 × Sg)) => ∀ (S3 : Sg), (j S3) = some (r, S') → ∀ (H : Heap) (locs : List Loc) (ls : Array Slot), lv_has ls 5 [(0, .ref (L 21))] → Wd D cy L shC 52 S3 s H locs → W p l e (rmk 2 51) s m args below meth c H locs 0 0 Q (F0 m 78 ls [])) ?_ ?_ _ _ _ (lv_sub hl [1, 2, 3, 0] rfl) hW
  · intro S3 hf H locs ls hl hW
    try dsimp only at hf
    refine lv_aload_n hx hb dX7_halfRank_78 rfl (lv_at hl 0 rfl) ?_
    refine x_getr (k := 21) (k' := 23) E hC hW fl_X7_18 (by decide) rfl rfl dX7_halfRank_79 ?_
    refine x_geti (k := 23) E hC hW fl_X7_54 (by decide) rfl rfl dX7_halfRank_82 ?_
    refine lv_iconst (v := 2) hx hb dX7_halfRank_85 (by decide) ?_
    refine lv_idiv hx hb dX7_halfRank_86 (by decide) ?_
    exact x_iretI E hC hW hr hlk hQ dX7_halfRank_87 hf
  · intro k78 K78 self18 ih18 v4 S5 hf H locs ls hl hW
    unfold X7_halfRank_L18 at hf
    refine lv_iload_n hx hb dX7_halfRank_18 rfl (lv_at hl 3 rfl) ?_
    refine lv_aload_n hx hb dX7_halfRank_19 rfl (lv_at hl 1 rfl) ?_
    refine x_geti (k := 13) E hC hW fl_X7_39 (by decide) rfl rfl dX7_halfRank_20 ?_
    refine lv_icmp_ge (tgt := 78) hx hb dX7_halfRank_23 (by decide) (fun c18 => ?_) (fun c18 => ?_)
    · have hf := xt hf c18
      exact K78 _ hf _ _ _ (lv_sub hl [0] rfl) hW
    · have hf := xf hf c18
      refine lv_iconst (v := 0) hx hb dX7_halfRank_26 (by decide) ?_
      refine lv_istore (lv' := [(4, .int (0 : Int32)), (0, .ref (L 21)), (1, .ref (L 13)), (2, .ref (L 50)), (3, .int v4)]) hx hb dX7_halfRank_27 hl (by decide) rfl (fun ls hl => ?_)
      refine wp2K hf (fun (v10 : Int32) (S11 : Sg) => ∀ (H : Heap) (locs : List Loc) (ls : Array Slot), lv_has ls 5 [(0, .ref (L 21)), (1, .ref (L 13)), (2, .ref (L 50)), (3, .int v4), (4, .int v10)] → Wd D cy L shC 52 S11 s H locs → W p l e (rmk 2 51) s m args below meth c H locs 0 0 Q (F0 m 29 ls [])) (fun (j : Sg → Option (Int32 × Sg)) => ∀ (S6 : Sg), (j S6) = some (r, S') → ∀ (H : Heap) (locs : List Loc) (ls : Array Slot), lv_has ls 5 [(0, .ref (L 21)), (1, .ref (L 13)), (2, .ref (L 50)), (3, .int v4)] → Wd D cy L shC 52 S6 s H locs → W p l e (rmk 2 51) s m args below meth c H locs 0 0 Q (F0 m 60 ls [])) ?_ ?_ _ _ _ (lv_sub hl [1, 2, 3, 4, 0] rfl) hW
      · intro S6 hf H locs ls hl hW
        try dsimp only at hf
        refine lv_aload_n hx hb dX7_halfRank_60 rfl (lv_at hl 0 rfl) ?_
        refine x_getr (k := 21) (k' := 23) E hC hW fl_X7_18 (by decide) rfl rfl dX7_halfRank_61 ?_
        refine lv_aload_n hx hb dX7_halfRank_64 rfl (lv_at hl 0 rfl) ?_
        refine x_getr (k := 21) (k' := 22) E hC hW fl_X7_9 (by decide) rfl rfl dX7_halfRank_65 ?_
        refine lv_iconst (v := 0) hx hb dX7_halfRank_68 (by decide) ?_
        obtain ⟨S8, g7, hf⟩ := cl1S hf
        refine x_Vv (k := 23) (As := [.ref (L 22), .int (0 : Int32)]) (rest := []) E hC hW hl.1 (c_X0_add 23 22 6 (0 : Int32) S6 S8 okB_23 ⟨(by decide), rfl⟩ g7) cv_X7_50 rfl (by decide) rfl rfl rfl ⟨Nat.le_of_ble_eq_true rfl, Nat.le_of_ble_eq_true rfl⟩ ⟨Nat.le_refl _, Nat.le_refl _⟩ (Nat.le_of_ble_eq_true rfl) dX7_halfRank_69 (fun H locs hW => ?_)
        obtain ⟨x9, ex9⟩ : ∃ z : Int32, z = (v4 + 1) := ⟨_, rfl⟩
        have hf := bvS hf ex9
        refine lv_iinc (v := x9) (lv' := [(3, .int x9), (0, .ref (L 21)), (1, .ref (L 13)), (2, .ref (L 50))]) hx hb dX7_halfRank_72 hl (k := 3) rfl (by rw [ex9]; rfl) (by decide) rfl (fun ls hl => ?_)
        refine lv_goto (tgt := 18) hx hb dX7_halfRank_75 (by decide) ?_
        exact ih18 _ _ hf _ _ _ (lv_sub hl [1, 2, 3, 0] rfl) hW
      · intro k60 K60 self29 ih29 v10 S11 hf H locs ls hl hW
        unfold X7_halfRank_L29 at hf
        refine lv_iload hx hb dX7_halfRank_29 (lv_at hl 4 rfl) ?_
        refine lv_aload_n hx hb dX7_halfRank_31 rfl (lv_at hl 1 rfl) ?_
        refine x_geti (k := 13) E hC hW fl_X7_39 (by decide) rfl rfl dX7_halfRank_32 ?_
        refine lv_icmp_ge (tgt := 60) hx hb dX7_halfRank_35 (by decide) (fun c17 => ?_) (fun c17 => ?_)
        · have hf := xt hf c17
          exact K60 _ hf _ _ _ (lv_sub hl [0, 1, 2, 3] rfl) hW
        · have hf := xf hf c17
          refine lv_aload_n hx hb dX7_halfRank_38 rfl (lv_at hl 0 rfl) ?_
          refine x_getr (k := 21) (k' := 22) E hC hW fl_X7_9 (by decide) rfl rfl dX7_halfRank_39 ?_
          refine lv_iload hx hb dX7_halfRank_42 (lv_at hl 4 rfl) ?_
          refine lv_aload_n hx hb dX7_halfRank_44 rfl (lv_at hl 0 rfl) ?_
          refine lv_aload_n hx hb dX7_halfRank_45 rfl (lv_at hl 1 rfl) ?_
          refine lv_aload_n hx hb dX7_halfRank_46 rfl (lv_at hl 2 rfl) ?_
          refine lv_iload_n hx hb dX7_halfRank_47 rfl (lv_at hl 3 rfl) ?_
          refine lv_iload hx hb dX7_halfRank_48 (lv_at hl 4 rfl) ?_
          obtain ⟨r12, g13, hf⟩ := cl1S hf
          refine x_Vr (k := 21) (As := [.ref (L 13), .ref (L 50), .int v4, .int v10]) (rest := [.int v10, .ref (L 22)]) E hC hW hl.1 (c_X7_numberAt v4 v10 r12 S11 g13) cv_X7_46 rfl (by decide) rfl rfl rfl ⟨Nat.le_of_ble_eq_true rfl, Nat.le_of_ble_eq_true rfl⟩ ⟨Nat.le_refl _, Nat.le_refl _⟩ (Nat.le_of_ble_eq_true rfl) dX7_halfRank_50 (fun H locs hW => ?_)
          obtain ⟨hg14, hf⟩ := gdS hf
          refine x_iast (k := 22) E hC hW (by decide) rfl (inbS hg14) dX7_halfRank_53 (fun H locs hW => ?_)
          obtain ⟨S15, eS15⟩ : ∃ z : Sg, z = si S11 22 (ix v10) r12 := ⟨_, rfl⟩
          have hW : Wd D cy L shC 52 S15 s H locs := by rw [eS15]; exact hW
          have hf := bvS hf eS15
          obtain ⟨x16, ex16⟩ : ∃ z : Int32, z = (v10 + 1) := ⟨_, rfl⟩
          have hf := bvS hf ex16
          refine lv_iinc (v := x16) (lv' := [(4, .int x16), (0, .ref (L 21)), (1, .ref (L 13)), (2, .ref (L 50)), (3, .int v4)]) hx hb dX7_halfRank_54 hl (k := 4) rfl (by rw [ex16]; rfl) (by decide) rfl (fun ls hl => ?_)
          refine lv_goto (tgt := 29) hx hb dX7_halfRank_57 (by decide) ?_
          exact ih29 _ _ hf _ _ _ (lv_sub hl [1, 2, 3, 4, 0] rfl) hW
set_option maxRecDepth 100000 in
set_option maxHeartbeats 4000000 in
theorem c_X9_half {l : Launch} {D : va_G} {cy : Nat → ClassId} {L : Nat → Nat} {bA : Nat} (a1 : Int32) (r : Int32) (S S' : Sg)  (hf : f_X9_half a1 S = some (r, S')) : MetX l D cy L shC 52 bA yX9_half cX9_half 2 (some .int) 3 75 [.ref (L 0), .int a1] (some (.int r)) S S' := by
  refine x_met (own := RX9) (by decide) rfl (Nat.le_of_ble_eq_true rfl) ?_
  intro p e s m below meth c ls E hC hr hlk hl hW
  generalize hargs : ([.ref (L 0), .int a1] : List Value).toArray = args at E ⊢
  generalize hQ : MQ below (xQ D cy L shC 52 bA (some (.int r)) S') args s 0 0 (AL L 52) = Q
  have hl : lv_has ls 2 [(0, .ref (L 0)), (1, .int a1)] := hl
  have hx := E.1
  have hb := E.2.1
  have hts := E.2.2.2.2
  unfold f_X9_half at hf
  refine lv_iload_n hx hb dX9_half_0 rfl (lv_at hl 1 rfl) ?_
  obtain ⟨r1, g2, hf⟩ := cl1S hf
  refine x_Sr (As := [.int a1]) (rest := []) E hC hW hl.1 (c_X9_isSheet a1 r1 S g2) cs_X9_194 rfl rfl ⟨Nat.le_of_ble_eq_true rfl, Nat.le_of_ble_eq_true rfl⟩ ⟨Nat.le_refl _, Nat.le_refl _⟩ (Nat.le_of_ble_eq_true rfl) dX9_half_1 (fun H locs hW => ?_)
  refine lv_if_ne (tgt := 10) hx hb dX9_half_4 (by decide) (fun c17 => ?_) (fun c17 => ?_)
  · have hf := xf hf c17
    refine lv_aload_n hx hb dX9_half_10 rfl (lv_at hl 0 rfl) ?_
    refine x_getr (k := 0) (k' := 31) E hC hW fl_X9_60 (by decide) rfl rfl dX9_half_11 ?_
    refine lv_iload_n hx hb dX9_half_14 rfl (lv_at hl 1 rfl) ?_
    obtain ⟨hg3, hf⟩ := gdS hf
    refine x_aald (k := 31) (b := 32) E hC hW (by decide) rfl rfl (inbS hg3) dX9_half_15 ?_
    have ho4 := okS_ix hg3
    obtain ⟨r5, g6, hf⟩ := cl1S hf
    refine x_Vr (k := (32 + 2 * ix a1)) (As := []) (rest := []) E hC hW hl.1 (c_X6_isMissing (32 + 2 * ix a1) r5 S ho4 g6) cv_X9_197 rfl ho4.1 ho4.2.1 rfl rfl ⟨Nat.le_of_ble_eq_true rfl, Nat.le_of_ble_eq_true rfl⟩ ⟨Nat.le_refl _, Nat.le_refl _⟩ (Nat.le_of_ble_eq_true rfl) dX9_half_16 (fun H locs hW => ?_)
    refine lv_if_eq (tgt := 25) hx hb dX9_half_19 (by decide) (fun c16 => ?_) (fun c16 => ?_)
    · have hf := xt hf c16
      refine lv_aload_n hx hb dX9_half_25 rfl (lv_at hl 0 rfl) ?_
      refine x_getr (k := 0) (k' := 13) E hC hW fl_X9_26 (by decide) rfl rfl dX9_half_26 ?_
      refine lv_aload_n hx hb dX9_half_29 rfl (lv_at hl 0 rfl) ?_
      refine x_getr (k := 0) (k' := 1) E hC hW fl_X9_12 (by decide) rfl rfl dX9_half_30 ?_
      obtain ⟨S8, g7, hf⟩ := cl1S hf
      refine x_Vv (k := 13) (As := [.ref (L 1)]) (rest := []) E hC hW hl.1 (c_X5_fill S S8 g7) cv_X9_141 rfl (by decide) rfl rfl rfl ⟨Nat.le_of_ble_eq_true rfl, Nat.le_of_ble_eq_true rfl⟩ ⟨Nat.le_refl _, Nat.le_refl _⟩ (Nat.le_of_ble_eq_true rfl) dX9_half_33 (fun H locs hW => ?_)
      refine lv_aload_n hx hb dX9_half_36 rfl (lv_at hl 0 rfl) ?_
      refine lv_aload_n hx hb dX9_half_37 rfl (lv_at hl 0 rfl) ?_
      refine x_getr (k := 0) (k' := 31) E hC hW fl_X9_60 (by decide) rfl rfl dX9_half_38 ?_
      refine lv_iload_n hx hb dX9_half_41 rfl (lv_at hl 1 rfl) ?_
      obtain ⟨hg9, hf⟩ := gdS hf
      refine x_aald (k := 31) (b := 32) E hC hW (by decide) rfl rfl (inbS hg9) dX9_half_42 ?_
      have ho10 := okS_ix hg9
      obtain ⟨S12, g11, hf⟩ := cl1S hf
      refine x_Vv (k := 0) (As := [.ref (L (32 + 2 * ix a1))]) (rest := []) E hC hW hl.1 (c_X9_fillTimes (32 + 2 * ix a1) S8 S12 ho10 g11) cv_X9_201 rfl (by decide) rfl rfl rfl ⟨Nat.le_of_ble_eq_true rfl, Nat.le_of_ble_eq_true rfl⟩ ⟨Nat.le_refl _, Nat.le_refl _⟩ (Nat.le_of_ble_eq_true rfl) dX9_half_43 (fun H locs hW => ?_)
      refine lv_aload_n hx hb dX9_half_46 rfl (lv_at hl 0 rfl) ?_
      refine x_getr (k := 0) (k' := 21) E hC hW fl_X9_40 (by decide) rfl rfl dX9_half_47 ?_
      refine lv_aload_n hx hb dX9_half_50 rfl (lv_at hl 0 rfl) ?_
      refine x_getr (k := 0) (k' := 13) E hC hW fl_X9_26 (by decide) rfl rfl dX9_half_51 ?_
      refine lv_aload_n hx hb dX9_half_54 rfl (lv_at hl 0 rfl) ?_
      refine x_getr (k := 0) (k' := 50) E hC hW fl_X9_74 (by decide) rfl rfl dX9_half_55 ?_
      obtain ⟨r13, S15, g14, hf⟩ := clS hf
      refine x_Vr (k := 21) (As := [.ref (L 13), .ref (L 50)]) (rest := []) E hC hW hl.1 (c_X7_halfRank r13 S12 S15 g14) cv_X9_209 rfl (by decide) rfl rfl rfl ⟨Nat.le_of_ble_eq_true rfl, Nat.le_of_ble_eq_true rfl⟩ ⟨Nat.le_refl _, Nat.le_refl _⟩ (Nat.le_of_ble_eq_true rfl) dX9_half_58 (fun H locs hW => ?_)
      exact x_iretI E hC hW hr hlk hQ dX9_half_61 hf
    · have hf := xf hf c16
      refine lv_bipush (v := (-11)) hx hb dX9_half_22 (by decide) ?_
      exact x_iretI E hC hW hr hlk hQ dX9_half_24 hf
  · have hf := xt hf c17
    refine lv_bipush (v := (-2)) hx hb dX9_half_7 (by decide) ?_
    exact x_iretI E hC hW hr hlk hQ dX9_half_9 hf
set_option maxRecDepth 100000 in
set_option maxHeartbeats 4000000 in
theorem c_X4_minus {l : Launch} {D : va_G} {cy : Nat → ClassId} {L : Nat → Nat} {bA : Nat} (a1 : Int64) (a3 : Int64) (r : Int64) (S S' : Sg)  (hf : f_X4_minus a1 a3 S = some (r, S')) : MetX l D cy L shC 52 bA yX4_minus cX4_minus 7 (some .long) 0 0 [.ref (L 27), .long a1, .long a3] (some (.long r)) S S' := by
  refine x_met (own := RX4) (by decide) rfl (Nat.le_of_ble_eq_true rfl) ?_
  intro p e s m below meth c ls E hC hr hlk hl hW
  generalize hargs : ([.ref (L 27), .long a1, .long a3] : List Value).toArray = args at E ⊢
  generalize hQ : MQ below (xQ D cy L shC 52 bA (some (.long r)) S') args s 0 0 (AL L 52) = Q
  have hl : lv_has ls 7 [(0, .ref (L 27)), (1, .long a1), (3, .long a3)] := hl
  have hx := E.1
  have hb := E.2.1
  have hts := E.2.2.2.2
  unfold f_X4_minus at hf
  refine lv_lload_n hx hb dX4_minus_0 rfl (lv_at hl 1 rfl) ?_
  refine lv_lload_n hx hb dX4_minus_1 rfl (lv_at hl 2 rfl) ?_
  refine lv_lsub hx hb dX4_minus_2 ?_
  refine lv_topl (fun x1 ex1 => ?_)
  have hf := bvS hf ex1
  refine lv_lstore (lv' := [(5, .long x1), (0, .ref (L 27)), (1, .long a1), (3, .long a3)]) hx hb dX4_minus_3 hl (by decide) rfl (fun ls hl => ?_)
  refine lv_aload_n hx hb dX4_minus_5 rfl (lv_at hl 1 rfl) ?_
  refine lv_dup hx hb dX4_minus_6 rfl ?_
  refine x_geti (k := 27) E hC hW fl_X4_15 (by decide) rfl rfl dX4_minus_7 ?_
  refine lv_lload_n hx hb dX4_minus_10 rfl (lv_at hl 2 rfl) ?_
  refine lv_lload_n hx hb dX4_minus_11 rfl (lv_at hl 3 rfl) ?_
  refine lv_lxor hx hb dX4_minus_12 ?_
  refine lv_lload_n hx hb dX4_minus_13 rfl (lv_at hl 2 rfl) ?_
  refine lv_lload hx hb dX4_minus_14 (lv_at hl 0 rfl) ?_
  refine lv_lxor hx hb dX4_minus_16 ?_
  refine lv_land hx hb dX4_minus_17 ?_
  refine lv_lconst (v := 0) hx hb dX4_minus_18 (by decide) ?_
  refine W.lcmp hx hb dX4_minus_19 ?_
  refine jnS hf (fun (j : Int32 → Option (Int64 × Sg)) => ∀ (x2 : Int32), (j x2) = some (r, S') → ∀ (H : Heap) (locs : List Loc) (ls : Array Slot), lv_has ls 7 [(5, .long x1)] → Wd D cy L shC 52 S s H locs → W p l e (rmk 0 0) s m args below meth c H locs 0 0 Q (F0 m 28 ls [.int x2, .int (S.1 27 1), .ref (L 27)])) ?_ ?_
  · intro x2 hf H locs ls hl hW
    try dsimp only at hf
    refine lv_ior hx hb dX4_minus_28 ?_
    obtain ⟨hg3, hf⟩ := gdS hf
    refine x_put (k := 27) E hC hW fl_X4_15 pl_4_1 (by decide) rfl rfl (isB_narrow hg3) (isB_fits hg3) dX4_minus_29 (fun H locs hW => ?_)
    obtain ⟨S4, eS4⟩ : ∃ z : Sg, z = si S 27 1 ((S.1 27 1) ||| x2) := ⟨_, rfl⟩
    have hW : Wd D cy L shC 52 S4 s H locs := by rw [eS4]; exact hW
    have hf := bvS hf eS4
    refine lv_lload hx hb dX4_minus_32 (lv_at hl 0 rfl) ?_
    exact x_lretI E hC hW hr hlk hQ dX4_minus_34 hf
  intro j28 J28 hf
  refine lv_if_ge (tgt := 27) hx hb dX4_minus_20 (by decide) (fun c5 => ?_) (fun c5 => ?_)
  · have hf := xt hf c5
    refine lv_iconst (v := 0) hx hb dX4_minus_27 (by decide) ?_
    exact J28 _ hf _ _ _ (lv_sub hl [0] rfl) hW
  · have hf := xf hf c5
    refine lv_iconst (v := 1) hx hb dX4_minus_23 (by decide) ?_
    refine lv_goto (tgt := 28) hx hb dX4_minus_24 (by decide) ?_
    exact J28 _ hf _ _ _ (lv_sub hl [0] rfl) hW
set_option maxRecDepth 100000 in
set_option maxHeartbeats 4000000 in
theorem c_X4_plus {l : Launch} {D : va_G} {cy : Nat → ClassId} {L : Nat → Nat} {bA : Nat} (a1 : Int64) (a3 : Int64) (r : Int64) (S S' : Sg)  (hf : f_X4_plus a1 a3 S = some (r, S')) : MetX l D cy L shC 52 bA yX4_plus cX4_plus 7 (some .long) 0 0 [.ref (L 27), .long a1, .long a3] (some (.long r)) S S' := by
  refine x_met (own := RX4) (by decide) rfl (Nat.le_of_ble_eq_true rfl) ?_
  intro p e s m below meth c ls E hC hr hlk hl hW
  generalize hargs : ([.ref (L 27), .long a1, .long a3] : List Value).toArray = args at E ⊢
  generalize hQ : MQ below (xQ D cy L shC 52 bA (some (.long r)) S') args s 0 0 (AL L 52) = Q
  have hl : lv_has ls 7 [(0, .ref (L 27)), (1, .long a1), (3, .long a3)] := hl
  have hx := E.1
  have hb := E.2.1
  have hts := E.2.2.2.2
  unfold f_X4_plus at hf
  refine lv_lload_n hx hb dX4_plus_0 rfl (lv_at hl 1 rfl) ?_
  refine lv_lload_n hx hb dX4_plus_1 rfl (lv_at hl 2 rfl) ?_
  refine lv_ladd hx hb dX4_plus_2 ?_
  refine lv_topl (fun x1 ex1 => ?_)
  have hf := bvS hf ex1
  refine lv_lstore (lv' := [(5, .long x1), (0, .ref (L 27)), (1, .long a1), (3, .long a3)]) hx hb dX4_plus_3 hl (by decide) rfl (fun ls hl => ?_)
  refine lv_aload_n hx hb dX4_plus_5 rfl (lv_at hl 1 rfl) ?_
  refine lv_dup hx hb dX4_plus_6 rfl ?_
  refine x_geti (k := 27) E hC hW fl_X4_15 (by decide) rfl rfl dX4_plus_7 ?_
  refine lv_lload_n hx hb dX4_plus_10 rfl (lv_at hl 2 rfl) ?_
  refine lv_lload hx hb dX4_plus_11 (lv_at hl 0 rfl) ?_
  refine lv_lxor hx hb dX4_plus_13 ?_
  refine lv_lload_n hx hb dX4_plus_14 rfl (lv_at hl 3 rfl) ?_
  refine lv_lload hx hb dX4_plus_15 (lv_at hl 0 rfl) ?_
  refine lv_lxor hx hb dX4_plus_17 ?_
  refine lv_land hx hb dX4_plus_18 ?_
  refine lv_lconst (v := 0) hx hb dX4_plus_19 (by decide) ?_
  refine W.lcmp hx hb dX4_plus_20 ?_
  refine jnS hf (fun (j : Int32 → Option (Int64 × Sg)) => ∀ (x2 : Int32), (j x2) = some (r, S') → ∀ (H : Heap) (locs : List Loc) (ls : Array Slot), lv_has ls 7 [(5, .long x1)] → Wd D cy L shC 52 S s H locs → W p l e (rmk 0 0) s m args below meth c H locs 0 0 Q (F0 m 29 ls [.int x2, .int (S.1 27 1), .ref (L 27)])) ?_ ?_
  · intro x2 hf H locs ls hl hW
    try dsimp only at hf
    refine lv_ior hx hb dX4_plus_29 ?_
    obtain ⟨hg3, hf⟩ := gdS hf
    refine x_put (k := 27) E hC hW fl_X4_15 pl_4_1 (by decide) rfl rfl (isB_narrow hg3) (isB_fits hg3) dX4_plus_30 (fun H locs hW => ?_)
    obtain ⟨S4, eS4⟩ : ∃ z : Sg, z = si S 27 1 ((S.1 27 1) ||| x2) := ⟨_, rfl⟩
    have hW : Wd D cy L shC 52 S4 s H locs := by rw [eS4]; exact hW
    have hf := bvS hf eS4
    refine lv_lload hx hb dX4_plus_33 (lv_at hl 0 rfl) ?_
    exact x_lretI E hC hW hr hlk hQ dX4_plus_35 hf
  intro j29 J29 hf
  refine lv_if_ge (tgt := 28) hx hb dX4_plus_21 (by decide) (fun c5 => ?_) (fun c5 => ?_)
  · have hf := xt hf c5
    refine lv_iconst (v := 0) hx hb dX4_plus_28 (by decide) ?_
    exact J29 _ hf _ _ _ (lv_sub hl [0] rfl) hW
  · have hf := xf hf c5
    refine lv_iconst (v := 1) hx hb dX4_plus_24 (by decide) ?_
    refine lv_goto (tgt := 29) hx hb dX4_plus_25 (by decide) ?_
    exact J29 _ hf _ _ _ (lv_sub hl [0] rfl) hW
set_option maxRecDepth 100000 in
set_option maxHeartbeats 4000000 in
theorem c_X4_product {l : Launch} {D : va_G} {cy : Nat → ClassId} {L : Nat → Nat} {bA : Nat} (a1 : Int64) (a3 : Int64) (r : Int64) (S S' : Sg)  (hf : f_X4_product a1 a3 S = some (r, S')) : MetX l D cy L shC 52 bA yX4_product cX4_product 7 (some .long) 0 0 [.ref (L 27), .long a1, .long a3] (some (.long r)) S S' := by
  refine x_met (own := RX4) (by decide) rfl (Nat.le_of_ble_eq_true rfl) ?_
  intro p e s m below meth c ls E hC hr hlk hl hW
  generalize hargs : ([.ref (L 27), .long a1, .long a3] : List Value).toArray = args at E ⊢
  generalize hQ : MQ below (xQ D cy L shC 52 bA (some (.long r)) S') args s 0 0 (AL L 52) = Q
  have hl : lv_has ls 7 [(0, .ref (L 27)), (1, .long a1), (3, .long a3)] := hl
  have hx := E.1
  have hb := E.2.1
  have hts := E.2.2.2.2
  unfold f_X4_product at hf
  refine lv_lload_n hx hb dX4_product_0 rfl (lv_at hl 1 rfl) ?_
  refine lv_lload_n hx hb dX4_product_1 rfl (lv_at hl 2 rfl) ?_
  refine lv_lmul hx hb dX4_product_2 ?_
  refine lv_topl (fun x1 ex1 => ?_)
  have hf := bvS hf ex1
  refine lv_lstore (lv' := [(5, .long x1), (0, .ref (L 27)), (1, .long a1), (3, .long a3)]) hx hb dX4_product_3 hl (by decide) rfl (fun ls hl => ?_)
  refine lv_aload_n hx hb dX4_product_5 rfl (lv_at hl 1 rfl) ?_
  refine lv_dup hx hb dX4_product_6 rfl ?_
  refine x_geti (k := 27) E hC hW fl_X4_15 (by decide) rfl rfl dX4_product_7 ?_
  refine lv_lload_n hx hb dX4_product_10 rfl (lv_at hl 3 rfl) ?_
  refine lv_ldc2 hx hb E.2.2.2.1 (hts _ ww_624) dX4_product_11 ?_
  refine W.lcmp hx hb dX4_product_14 ?_
  refine jnS hf (fun (j : Int32 → Option (Int64 × Sg)) => ∀ (x2 : Int32), (j x2) = some (r, S') → ∀ (H : Heap) (locs : List Loc) (ls : Array Slot), lv_has ls 7 [(5, .long x1)] → Wd D cy L shC 52 S s H locs → W p l e (rmk 0 0) s m args below meth c H locs 0 0 Q (F0 m 54 ls [.int x2, .int (S.1 27 1), .ref (L 27)])) ?_ ?_
  · intro x2 hf H locs ls hl hW
    try dsimp only at hf
    refine lv_ior hx hb dX4_product_54 ?_
    obtain ⟨hg3, hf⟩ := gdS hf
    refine x_put (k := 27) E hC hW fl_X4_15 pl_4_1 (by decide) rfl rfl (isB_narrow hg3) (isB_fits hg3) dX4_product_55 (fun H locs hW => ?_)
    obtain ⟨S4, eS4⟩ : ∃ z : Sg, z = si S 27 1 ((S.1 27 1) ||| x2) := ⟨_, rfl⟩
    have hW : Wd D cy L shC 52 S4 s H locs := by rw [eS4]; exact hW
    have hf := bvS hf eS4
    refine lv_lload hx hb dX4_product_58 (lv_at hl 0 rfl) ?_
    exact x_lretI E hC hW hr hlk hQ dX4_product_60 hf
  intro j54 J54 hf
  refine lv_if_ne (tgt := 34) hx hb dX4_product_15 (by decide) (fun c9 => ?_) (fun c9 => ?_)
  · have hf := xf hf c9
    refine lv_lload_n hx hb dX4_product_34 rfl (lv_at hl 3 rfl) ?_
    refine lv_lconst (v := 0) hx hb dX4_product_35 (by decide) ?_
    refine W.lcmp hx hb dX4_product_36 ?_
    refine jnS hf (fun (j : Option (Int64 × Sg)) => (j) = some (r, S') → ∀ (H : Heap) (locs : List Loc) (ls : Array Slot), lv_has ls 7 [(5, .long x1)] → Wd D cy L shC 52 S s H locs → W p l e (rmk 0 0) s m args below meth c H locs 0 0 Q (F0 m 53 ls [.int (S.1 27 1), .ref (L 27)])) ?_ ?_
    · intro hf H locs ls hl hW
      try dsimp only at hf
      refine lv_iconst (v := 0) hx hb dX4_product_53 (by decide) ?_
      exact J54 _ hf _ _ _ (lv_sub hl [0] rfl) hW
    intro j53 J53 hf
    refine lv_if_eq (tgt := 53) hx hb dX4_product_37 (by decide) (fun c7 => ?_) (fun c7 => ?_)
    · have hf := xt hf c7
      exact J53 hf _ _ _ (lv_sub hl [0] rfl) hW
    · have hf := xf hf c7
      refine lv_lload hx hb dX4_product_40 (lv_at hl 0 rfl) ?_
      refine lv_lload_n hx hb dX4_product_42 rfl (lv_at hl 3 rfl) ?_
      obtain ⟨hg5, hf⟩ := gdS hf
      refine lv_ldiv hx hb dX4_product_43 (nzlS hg5) ?_
      refine lv_lload_n hx hb dX4_product_44 rfl (lv_at hl 2 rfl) ?_
      refine W.lcmp hx hb dX4_product_45 ?_
      refine lv_if_eq (tgt := 53) hx hb dX4_product_46 (by decide) (fun c6 => ?_) (fun c6 => ?_)
      · have hf := xt hf c6
        exact J53 hf _ _ _ (lv_sub hl [0] rfl) hW
      · have hf := xf hf c6
        refine lv_iconst (v := 1) hx hb dX4_product_49 (by decide) ?_
        refine lv_goto (tgt := 54) hx hb dX4_product_50 (by decide) ?_
        exact J54 _ hf _ _ _ (lv_sub hl [0] rfl) hW
  · have hf := xt hf c9
    refine lv_lload_n hx hb dX4_product_18 rfl (lv_at hl 2 rfl) ?_
    refine lv_ldc2 hx hb E.2.2.2.1 (hts _ ww_625) dX4_product_19 ?_
    refine W.lcmp hx hb dX4_product_22 ?_
    refine lv_if_ne (tgt := 30) hx hb dX4_product_23 (by decide) (fun c8 => ?_) (fun c8 => ?_)
    · have hf := xf hf c8
      refine lv_iconst (v := 0) hx hb dX4_product_30 (by decide) ?_
      refine lv_goto (tgt := 54) hx hb dX4_product_31 (by decide) ?_
      exact J54 _ hf _ _ _ (lv_sub hl [0] rfl) hW
    · have hf := xt hf c8
      refine lv_iconst (v := 1) hx hb dX4_product_26 (by decide) ?_
      refine lv_goto (tgt := 54) hx hb dX4_product_27 (by decide) ?_
      exact J54 _ hf _ _ _ (lv_sub hl [0] rfl) hW
set_option maxRecDepth 100000 in
set_option maxHeartbeats 4000000 in
theorem rc_X4_ofPlaces {l : Launch} {D : va_G} {cy : Nat → ClassId} {L : Nat → Nat} {bA : Nat}  : ∀ (n : Nat) (a1 : Int32) (a2 : Int32) (r : Int64) (S S' : Sg), wp3 g_X4_ofPlaces n a1 a2 S = some (r, S') → MetX l D cy L shC 52 bA yX4_ofPlaces cX4_ofPlaces 12 (some .long) (1 + n) (26 + 31 * n) [.ref (L 27), .int a1, .int a2] (some (.long r)) S S'
  | 0, _, _, _, _, _, hf => by cases hf
  | n + 1, a1, a2, r, S, S', hf => by
    have hrc := rc_X4_ofPlaces (l := l) (D := D) (cy := cy) (L := L) (bA := bA) n
    have hf : g_X4_ofPlaces (wp3 g_X4_ofPlaces n) a1 a2 S = some (r, S') := hf
    refine x_met (own := RX4) (by decide) rfl (Nat.le_of_ble_eq_true rfl) ?_
    intro p e s m below meth c ls E hC hr hlk hl hW
    generalize hargs : ([.ref (L 27), .int a1, .int a2] : List Value).toArray = args at E ⊢
    generalize hQ : MQ below (xQ D cy L shC 52 bA (some (.long r)) S') args s 0 0 (AL L 52) = Q
    have hl : lv_has ls 12 [(0, .ref (L 27)), (1, .int a1), (2, .int a2)] := hl
    have hx := E.1
    have hb := E.2.1
    have hts := E.2.2.2.2
    unfold g_X4_ofPlaces at hf
    refine lv_iload_n hx hb dX4_ofPlaces_0 rfl (lv_at hl 1 rfl) ?_
    refine lv_if_eq (tgt := 16) hx hb dX4_ofPlaces_1 (by decide) (fun c37 => ?_) (fun c37 => ?_)
    · have hf := xt hf c37
      refine lv_lconst (v := 1) hx hb dX4_ofPlaces_16 (by decide) ?_
      exact x_lretI E hC hW hr hlk hQ dX4_ofPlaces_17 hf
    · have hf := xf hf c37
      refine lv_aload_n hx hb dX4_ofPlaces_4 rfl (lv_at hl 0 rfl) ?_
      refine x_geti (k := 27) E hC hW fl_X4_15 (by decide) rfl rfl dX4_ofPlaces_5 ?_
      refine lv_if_ne (tgt := 16) hx hb dX4_ofPlaces_8 (by decide) (fun c36 => ?_) (fun c36 => ?_)
      · have hf := xf hf c36
        refine lv_lconst (v := 1) hx hb dX4_ofPlaces_16 (by decide) ?_
        exact x_lretI E hC hW hr hlk hQ dX4_ofPlaces_17 hf
      · have hf := xt hf c36
        refine lv_iload_n hx hb dX4_ofPlaces_11 rfl (lv_at hl 2 rfl) ?_
        refine lv_iconst (v := 3) hx hb dX4_ofPlaces_12 (by decide) ?_
        refine lv_icmp_le (tgt := 18) hx hb dX4_ofPlaces_13 (by decide) (fun c35 => ?_) (fun c35 => ?_)
        · have hf := xt hf c35
          refine lv_iconst (v := 0) hx hb dX4_ofPlaces_18 (by decide) ?_
          refine lv_istore_n (lv' := [(3, .int (0 : Int32)), (0, .ref (L 27)), (1, .int a1), (2, .int a2)]) hx hb dX4_ofPlaces_19 rfl hl (by decide) rfl (fun ls hl => ?_)
          refine wp1K hf (fun (v31 : Int32) => ∀ (H : Heap) (locs : List Loc) (ls : Array Slot), lv_has ls 12 [(0, .ref (L 27)), (1, .int a1), (2, .int a2), (3, .int v31)] → Wd D cy L shC 52 S s H locs → W p l e (rmk (1 + (n + 1)) (26 + 31 * (n + 1))) s m args below meth c H locs 0 0 Q (F0 m 20 ls [])) (fun (j : Int32 → Option (Int64 × Sg)) => ∀ (v1 : Int32), (j v1) = some (r, S') → ∀ (H : Heap) (locs : List Loc) (ls : Array Slot), lv_has ls 12 [(0, .ref (L 27)), (1, .int a1), (2, .int a2), (3, .int v1)] → Wd D cy L shC 52 S s H locs → W p l e (rmk (1 + (n + 1)) (26 + 31 * (n + 1))) s m args below meth c H locs 0 0 Q (F0 m 42 ls [])) ?_ ?_ _ _ _ (lv_sub hl [1, 2, 3, 0] rfl) hW
          · intro v1 hf H locs ls hl hW
            try dsimp only at hf
            refine lv_lconst (v := 0) hx hb dX4_ofPlaces_42 (by decide) ?_
            refine lv_lstore (lv' := [(4, .long (0 : Int64)), (0, .ref (L 27)), (1, .int a1), (2, .int a2), (3, .int v1)]) hx hb dX4_ofPlaces_43 hl (by decide) rfl (fun ls hl => ?_)
            refine lv_iconst (v := 1) hx hb dX4_ofPlaces_45 (by decide) ?_
            refine lv_istore (lv' := [(6, .int (1 : Int32)), (4, .long (0 : Int64)), (0, .ref (L 27)), (1, .int a1), (2, .int a2), (3, .int v1)]) hx hb dX4_ofPlaces_46 hl (by decide) rfl (fun ls hl => ?_)
            refine lv_iload_n hx hb dX4_ofPlaces_48 rfl (lv_at hl 5 rfl) ?_
            refine lv_iconst (v := 1) hx hb dX4_ofPlaces_49 (by decide) ?_
            refine lv_iadd hx hb dX4_ofPlaces_50 ?_
            refine lv_topi (fun x2 ex2 => ?_)
            have hf := bvS hf ex2
            refine lv_istore (lv' := [(7, .int x2), (6, .int (1 : Int32)), (4, .long (0 : Int64)), (0, .ref (L 27)), (1, .int a1), (2, .int a2), (3, .int v1)]) hx hb dX4_ofPlaces_51 hl (by decide) rfl (fun ls hl => ?_)
            refine wp4S (fun (v3 : Int64) (v4 : Int32) (v5 : Int32) (S6 : Sg) => ∀ (H : Heap) (locs : List Loc) (ls : Array Slot), lv_has ls 12 [(0, .ref (L 27)), (1, .int a1), (2, .int a2), (3, .int v1), (4, .long v3), (6, .int v4), (7, .int v5)] → Wd D cy L shC 52 S6 s H locs → W p l e (rmk (1 + (n + 1)) (26 + 31 * (n + 1))) s m args below meth c H locs 0 0 Q (F0 m 53 ls [])) ?_ hf _ _ _ (lv_sub hl [3, 4, 5, 6, 2, 1, 0] rfl) hW
            · intro self53 ih53 v3 v4 v5 S6 hf H locs ls hl hW
              unfold X4_ofPlaces_L53 at hf
              refine lv_iload hx hb dX4_ofPlaces_53 (lv_at hl 6 rfl) ?_
              refine lv_aload_n hx hb dX4_ofPlaces_55 rfl (lv_at hl 0 rfl) ?_
              refine x_geti (k := 27) E hC hW fl_X4_9 (by decide) rfl rfl dX4_ofPlaces_56 ?_
              refine lv_icmp_ge (tgt := 157) hx hb dX4_ofPlaces_59 (by decide) (fun c30 => ?_) (fun c30 => ?_)
              · have hf := xt hf c30
                refine lv_lload hx hb dX4_ofPlaces_157 (lv_at hl 4 rfl) ?_
                exact x_lretI E hC hW hr hlk hQ dX4_ofPlaces_159 hf
              · have hf := xf hf c30
                refine lv_iload_n hx hb dX4_ofPlaces_62 rfl (lv_at hl 1 rfl) ?_
                refine lv_iload hx hb dX4_ofPlaces_63 (lv_at hl 6 rfl) ?_
                refine lv_ishr hx hb dX4_ofPlaces_65 ?_
                refine lv_iconst (v := 1) hx hb dX4_ofPlaces_66 (by decide) ?_
                refine lv_iand hx hb dX4_ofPlaces_67 ?_
                refine lv_iconst (v := 1) hx hb dX4_ofPlaces_68 (by decide) ?_
                refine jnS hf (fun (j : Int64 → Int32 → Sg → Option (Int64 × Sg)) => ∀ (v7 : Int64) (v8 : Int32) (S9 : Sg), (j v7 v8 S9) = some (r, S') → ∀ (H : Heap) (locs : List Loc) (ls : Array Slot), lv_has ls 12 [(0, .ref (L 27)), (1, .int a1), (2, .int a2), (3, .int v1), (4, .long v7), (6, .int v8), (7, .int v5)] → Wd D cy L shC 52 S9 s H locs → W p l e (rmk (1 + (n + 1)) (26 + 31 * (n + 1))) s m args below meth c H locs 0 0 Q (F0 m 151 ls [])) ?_ ?_
                · intro v7 v8 S9 hf H locs ls hl hW
                  try dsimp only at hf
                  obtain ⟨x10, ex10⟩ : ∃ z : Int32, z = (v5 + 1) := ⟨_, rfl⟩
                  have hf := bvS hf ex10
                  refine lv_iinc (v := x10) (lv' := [(7, .int x10), (0, .ref (L 27)), (1, .int a1), (2, .int a2), (3, .int v1), (4, .long v7), (6, .int v8)]) hx hb dX4_ofPlaces_151 hl (k := 6) rfl (by rw [ex10]; rfl) (by decide) rfl (fun ls hl => ?_)
                  refine lv_goto (tgt := 53) hx hb dX4_ofPlaces_154 (by decide) ?_
                  exact ih53 _ _ _ _ hf _ _ _ (lv_sub hl [1, 2, 3, 4, 5, 6, 0] rfl) hW
                intro j151 J151 hf
                refine lv_icmp_ne (tgt := 151) hx hb dX4_ofPlaces_69 (by decide) (fun c29 => ?_) (fun c29 => ?_)
                · have hf := xf hf c29
                  exact J151 _ _ _ hf _ _ _ (lv_sub hl [0, 1, 2, 3, 4, 5, 6] rfl) hW
                · have hf := xt hf c29
                  refine lv_aload_n hx hb dX4_ofPlaces_72 rfl (lv_at hl 0 rfl) ?_
                  refine lv_iload_n hx hb dX4_ofPlaces_73 rfl (lv_at hl 1 rfl) ?_
                  refine lv_iconst (v := 1) hx hb dX4_ofPlaces_74 (by decide) ?_
                  refine lv_iload_n hx hb dX4_ofPlaces_75 rfl (lv_at hl 3 rfl) ?_
                  refine lv_ishl hx hb dX4_ofPlaces_76 ?_
                  refine lv_iconst (v := 1) hx hb dX4_ofPlaces_77 (by decide) ?_
                  refine lv_iload hx hb dX4_ofPlaces_78 (lv_at hl 6 rfl) ?_
                  refine lv_ishl hx hb dX4_ofPlaces_80 ?_
                  refine lv_ior hx hb dX4_ofPlaces_81 ?_
                  refine lv_iconst (v := (-1)) hx hb dX4_ofPlaces_82 (by decide) ?_
                  refine lv_ixor hx hb dX4_ofPlaces_83 ?_
                  refine lv_iand hx hb dX4_ofPlaces_84 ?_
                  refine lv_iload_n hx hb dX4_ofPlaces_85 rfl (lv_at hl 2 rfl) ?_
                  refine lv_iconst (v := 1) hx hb dX4_ofPlaces_86 (by decide) ?_
                  refine lv_iadd hx hb dX4_ofPlaces_87 ?_
                  obtain ⟨r11, S13, g12, hf⟩ := clS hf
                  refine x_Vr (k := 27) (As := [.int (a1 &&& ((((1 : Int32) <<< (v1 &&& 31)) ||| ((1 : Int32) <<< (v5 &&& 31))) ^^^ (-1 : Int32))), .int (a2 + (1 : Int32))]) (rest := []) E hC hW hl.1 (hrc (a1 &&& ((((1 : Int32) <<< (v1 &&& 31)) ||| ((1 : Int32) <<< (v5 &&& 31))) ^^^ (-1 : Int32))) (a2 + (1 : Int32)) r11 S6 S13 g12) cv_X4_30 rfl (by decide) rfl rfl rfl ⟨by simp only [rmk]; omega, by simp only [rmk]; omega⟩ ⟨Nat.le_refl _, Nat.le_refl _⟩ (Nat.le_of_ble_eq_true rfl) dX4_ofPlaces_88 (fun H locs hW => ?_)
                  refine lv_lstore (lv' := [(8, .long r11), (0, .ref (L 27)), (1, .int a1), (2, .int a2), (3, .int v1), (4, .long v3), (6, .int v4), (7, .int v5)]) hx hb dX4_ofPlaces_91 hl (by decide) rfl (fun ls hl => ?_)
                  refine lv_aload_n hx hb dX4_ofPlaces_93 rfl (lv_at hl 1 rfl) ?_
                  refine lv_aload_n hx hb dX4_ofPlaces_94 rfl (lv_at hl 1 rfl) ?_
                  refine x_getr (k := 27) (k' := 28) E hC hW fl_X4_19 (by decide) rfl rfl dX4_ofPlaces_95 ?_
                  refine lv_iload_n hx hb dX4_ofPlaces_98 rfl (lv_at hl 4 rfl) ?_
                  refine lv_bipush (v := 6) hx hb dX4_ofPlaces_99 (by decide) ?_
                  refine lv_imul hx hb dX4_ofPlaces_101 ?_
                  refine lv_iload hx hb dX4_ofPlaces_102 (lv_at hl 7 rfl) ?_
                  refine lv_iadd hx hb dX4_ofPlaces_104 ?_
                  obtain ⟨hg14, hf⟩ := gdS hf
                  refine x_lald (k := 28) E hC hW (by decide) rfl (inbS hg14) dX4_ofPlaces_105 ?_
                  refine lv_lload hx hb dX4_ofPlaces_106 (lv_at hl 0 rfl) ?_
                  obtain ⟨r15, S17, g16, hf⟩ := clS hf
                  refine x_Vr (k := 27) (As := [.long (S13.2 28 (ix ((v1 * (6 : Int32)) + v5))), .long r11]) (rest := []) E hC hW hl.1 (c_X4_product (S13.2 28 (ix ((v1 * (6 : Int32)) + v5))) r11 r15 S13 S17 g16) cv_X4_49 rfl (by decide) rfl rfl rfl ⟨by simp only [rmk]; omega, by simp only [rmk]; omega⟩ ⟨Nat.le_refl _, Nat.le_refl _⟩ (Nat.le_of_ble_eq_true rfl) dX4_ofPlaces_108 (fun H locs hW => ?_)
                  refine lv_lstore (lv' := [(10, .long r15), (8, .long r11), (0, .ref (L 27)), (1, .int a1), (2, .int a2), (3, .int v1), (4, .long v3), (6, .int v4), (7, .int v5)]) hx hb dX4_ofPlaces_111 hl (by decide) rfl (fun ls hl => ?_)
                  refine lv_iload hx hb dX4_ofPlaces_113 (lv_at hl 7 rfl) ?_
                  refine jnS hf (fun (j : Int64 → Sg → Option (Int64 × Sg)) => ∀ (x18 : Int64) (S19 : Sg), (j x18 S19) = some (r, S') → ∀ (H : Heap) (locs : List Loc) (ls : Array Slot), lv_has ls 12 [(0, .ref (L 27)), (1, .int a1), (2, .int a2), (3, .int v1), (6, .int v4), (7, .int v5)] → Wd D cy L shC 52 S19 s H locs → W p l e (rmk (1 + (n + 1)) (26 + 31 * (n + 1))) s m args below meth c H locs 0 0 Q (F0 m 137 ls [.long x18])) ?_ ?_
                  · intro x18 S19 hf H locs ls hl hW
                    try dsimp only at hf
                    refine lv_lstore (lv' := [(4, .long x18), (0, .ref (L 27)), (1, .int a1), (2, .int a2), (3, .int v1), (6, .int v4), (7, .int v5)]) hx hb dX4_ofPlaces_137 hl (by decide) rfl (fun ls hl => ?_)
                    refine lv_iload hx hb dX4_ofPlaces_139 (lv_at hl 5 rfl) ?_
                    refine jnS hf (fun (j : Int32 → Option (Int64 × Sg)) => ∀ (x20 : Int32), (j x20) = some (r, S') → ∀ (H : Heap) (locs : List Loc) (ls : Array Slot), lv_has ls 12 [(0, .ref (L 27)), (1, .int a1), (2, .int a2), (3, .int v1), (4, .long x18), (7, .int v5)] → Wd D cy L shC 52 S19 s H locs → W p l e (rmk (1 + (n + 1)) (26 + 31 * (n + 1))) s m args below meth c H locs 0 0 Q (F0 m 149 ls [.int x20])) ?_ ?_
                    · intro x20 hf H locs ls hl hW
                      try dsimp only at hf
                      refine lv_istore (lv' := [(6, .int x20), (0, .ref (L 27)), (1, .int a1), (2, .int a2), (3, .int v1), (4, .long x18), (7, .int v5)]) hx hb dX4_ofPlaces_149 hl (by decide) rfl (fun ls hl => ?_)
                      exact J151 _ _ _ hf _ _ _ (lv_sub hl [1, 2, 3, 4, 5, 0, 6] rfl) hW
                    intro j149 J149 hf
                    refine lv_if_ne (tgt := 148) hx hb dX4_ofPlaces_141 (by decide) (fun c21 => ?_) (fun c21 => ?_)
                    · have hf := xf hf c21
                      refine lv_iconst (v := 0) hx hb dX4_ofPlaces_148 (by decide) ?_
                      exact J149 _ hf _ _ _ (lv_sub hl [1, 2, 3, 4, 0, 6] rfl) hW
                    · have hf := xt hf c21
                      refine lv_iconst (v := 1) hx hb dX4_ofPlaces_144 (by decide) ?_
                      refine lv_goto (tgt := 149) hx hb dX4_ofPlaces_145 (by decide) ?_
                      exact J149 _ hf _ _ _ (lv_sub hl [1, 2, 3, 4, 0, 6] rfl) hW
                  intro j137 J137 hf
                  refine lv_if_eq (tgt := 129) hx hb dX4_ofPlaces_115 (by decide) (fun c28 => ?_) (fun c28 => ?_)
                  · have hf := xt hf c28
                    refine lv_aload_n hx hb dX4_ofPlaces_129 rfl (lv_at hl 2 rfl) ?_
                    refine lv_lload hx hb dX4_ofPlaces_130 (lv_at hl 6 rfl) ?_
                    refine lv_lload hx hb dX4_ofPlaces_132 (lv_at hl 0 rfl) ?_
                    obtain ⟨r22, S24, g23, hf⟩ := clS hf
                    refine x_Vr (k := 27) (As := [.long v3, .long r15]) (rest := []) E hC hW hl.1 (c_X4_minus v3 r15 r22 S17 S24 g23) cv_X4_60 rfl (by decide) rfl rfl rfl ⟨by simp only [rmk]; omega, by simp only [rmk]; omega⟩ ⟨Nat.le_refl _, Nat.le_refl _⟩ (Nat.le_of_ble_eq_true rfl) dX4_ofPlaces_134 (fun H locs hW => ?_)
                    exact J137 _ _ hf _ _ _ (lv_sub hl [2, 3, 4, 5, 7, 8] rfl) hW
                  · have hf := xf hf c28
                    refine lv_aload_n hx hb dX4_ofPlaces_118 rfl (lv_at hl 2 rfl) ?_
                    refine lv_lload hx hb dX4_ofPlaces_119 (lv_at hl 6 rfl) ?_
                    refine lv_lload hx hb dX4_ofPlaces_121 (lv_at hl 0 rfl) ?_
                    obtain ⟨r25, S27, g26, hf⟩ := clS hf
                    refine x_Vr (k := 27) (As := [.long v3, .long r15]) (rest := []) E hC hW hl.1 (c_X4_plus v3 r15 r25 S17 S27 g26) cv_X4_53 rfl (by decide) rfl rfl rfl ⟨by simp only [rmk]; omega, by simp only [rmk]; omega⟩ ⟨Nat.le_refl _, Nat.le_refl _⟩ (Nat.le_of_ble_eq_true rfl) dX4_ofPlaces_123 (fun H locs hW => ?_)
                    refine lv_goto (tgt := 137) hx hb dX4_ofPlaces_126 (by decide) ?_
                    exact J137 _ _ hf _ _ _ (lv_sub hl [2, 3, 4, 5, 7, 8] rfl) hW
          · intro k42 K42 self20 ih20 v31 hf H locs ls hl hW
            unfold X4_ofPlaces_L20 at hf
            refine lv_iload_n hx hb dX4_ofPlaces_20 rfl (lv_at hl 3 rfl) ?_
            refine lv_aload_n hx hb dX4_ofPlaces_21 rfl (lv_at hl 0 rfl) ?_
            refine x_geti (k := 27) E hC hW fl_X4_9 (by decide) rfl rfl dX4_ofPlaces_22 ?_
            refine lv_icmp_ge (tgt := 42) hx hb dX4_ofPlaces_25 (by decide) (fun c34 => ?_) (fun c34 => ?_)
            · have hf := xt hf c34
              exact K42 _ hf _ _ _ (lv_sub hl [0, 1, 2, 3] rfl) hW
            · have hf := xf hf c34
              refine lv_iload_n hx hb dX4_ofPlaces_28 rfl (lv_at hl 1 rfl) ?_
              refine lv_iload_n hx hb dX4_ofPlaces_29 rfl (lv_at hl 3 rfl) ?_
              refine lv_ishr hx hb dX4_ofPlaces_30 ?_
              refine lv_iconst (v := 1) hx hb dX4_ofPlaces_31 (by decide) ?_
              refine lv_iand hx hb dX4_ofPlaces_32 ?_
              refine lv_if_ne (tgt := 42) hx hb dX4_ofPlaces_33 (by decide) (fun c33 => ?_) (fun c33 => ?_)
              · have hf := xf hf c33
                exact K42 _ hf _ _ _ (lv_sub hl [0, 1, 2, 3] rfl) hW
              · have hf := xt hf c33
                obtain ⟨x32, ex32⟩ : ∃ z : Int32, z = (v31 + 1) := ⟨_, rfl⟩
                have hf := bvS hf ex32
                refine lv_iinc (v := x32) (lv' := [(3, .int x32), (0, .ref (L 27)), (1, .int a1), (2, .int a2)]) hx hb dX4_ofPlaces_36 hl (k := 3) rfl (by rw [ex32]; rfl) (by decide) rfl (fun ls hl => ?_)
                refine lv_goto (tgt := 20) hx hb dX4_ofPlaces_39 (by decide) ?_
                exact ih20 _ hf _ _ _ (lv_sub hl [1, 2, 3, 0] rfl) hW
        · have hf := xf hf c35
          refine lv_lconst (v := 1) hx hb dX4_ofPlaces_16 (by decide) ?_
          exact x_lretI E hC hW hr hlk hQ dX4_ofPlaces_17 hf
theorem c_X4_ofPlaces {l : Launch} {D : va_G} {cy : Nat → ClassId} {L : Nat → Nat} {bA : Nat} (a1 : Int32) (a2 : Int32) (r : Int64) (S S' : Sg)  (hf : f_X4_ofPlaces a1 a2 S = some (r, S')) : MetX l D cy L shC 52 bA yX4_ofPlaces cX4_ofPlaces 12 (some .long) 9 274 [.ref (L 27), .int a1, .int a2] (some (.long r)) S S' := rc_X4_ofPlaces 8 a1 a2 r S S' hf
set_option maxRecDepth 100000 in
set_option maxHeartbeats 4000000 in
theorem c_X9_isInt {l : Launch} {D : va_G} {cy : Nat → ClassId} {L : Nat → Nat} {bA : Nat} (a0 : Int64) (r : Int32) (S : Sg)  (hf : f_X9_isInt a0 = some r) : MetX l D cy L shC 52 bA yX9_isInt cX9_isInt 2 (some .boolean) 0 0 [.long a0] (some (.int r)) S S := by
  refine x_met (own := RX9) (by decide) rfl (Nat.le_of_ble_eq_true rfl) ?_
  intro p e s m below meth c ls E hC hr hlk hl hW
  generalize hargs : ([.long a0] : List Value).toArray = args at E ⊢
  generalize hQ : MQ below (xQ D cy L shC 52 bA (some (.int r)) S) args s 0 0 (AL L 52) = Q
  have hl : lv_has ls 2 [(0, .long a0)] := hl
  have hx := E.1
  have hb := E.2.1
  have hts := E.2.2.2.2
  unfold f_X9_isInt at hf
  refine lv_lload_n hx hb dX9_isInt_0 rfl (lv_at hl 0 rfl) ?_
  refine lv_lload_n hx hb dX9_isInt_1 rfl (lv_at hl 0 rfl) ?_
  refine lv_l2i hx hb dX9_isInt_2 rfl ?_
  refine lv_i2l hx hb dX9_isInt_3 rfl ?_
  refine W.lcmp hx hb dX9_isInt_4 ?_
  refine lv_if_ne (tgt := 12) hx hb dX9_isInt_5 (by decide) (fun c1 => ?_) (fun c1 => ?_)
  · have hf := xf hf c1
    refine lv_iconst (v := 0) hx hb dX9_isInt_12 (by decide) ?_
    exact x_zretP E hC hW hr hlk hQ (by decide) dX9_isInt_13 hf
  · have hf := xt hf c1
    refine lv_iconst (v := 1) hx hb dX9_isInt_8 (by decide) ?_
    refine lv_goto (tgt := 13) hx hb dX9_isInt_9 (by decide) ?_
    exact x_zretP E hC hW hr hlk hQ (by decide) dX9_isInt_13 hf
set_option maxRecDepth 100000 in
set_option maxHeartbeats 4000000 in
theorem c_X4_wholeNumber {l : Launch} {D : va_G} {cy : Nat → ClassId} {L : Nat → Nat} {bA : Nat} (ks : Nat) (a3 : Int32) (a4 : Int32) (r : Int64) (S S' : Sg) (hks : okS ks) (hf : f_X4_wholeNumber ks a3 a4 S = some (r, S')) : MetX l D cy L shC 52 bA yX4_wholeNumber cX4_wholeNumber 8 (some .long) 2 42 [.ref (L 27), .ref (L 13), .ref (L ks), .int a3, .int a4] (some (.long r)) S S' := by
  refine x_met (own := RX4) (by decide) rfl (Nat.le_of_ble_eq_true rfl) ?_
  intro p e s m below meth c ls E hC hr hlk hl hW
  generalize hargs : ([.ref (L 27), .ref (L 13), .ref (L ks), .int a3, .int a4] : List Value).toArray = args at E ⊢
  generalize hQ : MQ below (xQ D cy L shC 52 bA (some (.long r)) S') args s 0 0 (AL L 52) = Q
  have hl : lv_has ls 8 [(0, .ref (L 27)), (1, .ref (L 13)), (2, .ref (L ks)), (3, .int a3), (4, .int a4)] := hl
  have hx := E.1
  have hb := E.2.1
  have hts := E.2.2.2.2
  unfold f_X4_wholeNumber at hf
  refine lv_lconst (v := 0) hx hb dX4_wholeNumber_0 (by decide) ?_
  refine lv_lstore (lv' := [(5, .long (0 : Int64)), (0, .ref (L 27)), (1, .ref (L 13)), (2, .ref (L ks)), (3, .int a3), (4, .int a4)]) hx hb dX4_wholeNumber_1 hl (by decide) rfl (fun ls hl => ?_)
  refine lv_iconst (v := 0) hx hb dX4_wholeNumber_3 (by decide) ?_
  refine lv_istore (lv' := [(7, .int (0 : Int32)), (5, .long (0 : Int64)), (0, .ref (L 27)), (1, .ref (L 13)), (2, .ref (L ks)), (3, .int a3), (4, .int a4)]) hx hb dX4_wholeNumber_4 hl (by decide) rfl (fun ls hl => ?_)
  refine wp3K hf (fun (v9 : Int64) (v10 : Int32) (S11 : Sg) => ∀ (H : Heap) (locs : List Loc) (ls : Array Slot), lv_has ls 8 [(0, .ref (L 27)), (1, .ref (L 13)), (2, .ref (L ks)), (3, .int a3), (4, .int a4), (5, .long v9), (7, .int v10)] → Wd D cy L shC 52 S11 s H locs → W p l e (rmk 2 42) s m args below meth c H locs 0 0 Q (F0 m 6 ls [])) (fun (j : Int64 → Sg → Option (Int64 × Sg)) => ∀ (v1 : Int64) (S2 : Sg), (j v1 S2) = some (r, S') → ∀ (H : Heap) (locs : List Loc) (ls : Array Slot), lv_has ls 8 [(0, .ref (L 27)), (5, .long v1)] → Wd D cy L shC 52 S2 s H locs → W p l e (rmk 2 42) s m args below meth c H locs 0 0 Q (F0 m 49 ls [])) ?_ ?_ _ _ _ (lv_sub hl [2, 3, 4, 5, 6, 1, 0] rfl) hW
  · intro v1 S2 hf H locs ls hl hW
    try dsimp only at hf
    refine lv_aload_n hx hb dX4_wholeNumber_49 rfl (lv_at hl 0 rfl) ?_
    refine lv_dup hx hb dX4_wholeNumber_50 rfl ?_
    refine x_geti (k := 27) E hC hW fl_X4_15 (by decide) rfl rfl dX4_wholeNumber_51 ?_
    refine lv_lload hx hb dX4_wholeNumber_54 (lv_at hl 1 rfl) ?_
    obtain ⟨r3, g4, hf⟩ := cl1S hf
    refine x_Nr (As := [.long v1]) (rest := [.int (S2.1 27 1), .ref (L 27)]) E hC hW hl.1 (c_X9_isInt v1 r3 S2 g4) cn_X4_56 rfl rfl ⟨Nat.le_of_ble_eq_true rfl, Nat.le_of_ble_eq_true rfl⟩ ⟨Nat.le_refl _, Nat.le_refl _⟩ (Nat.le_of_ble_eq_true rfl) dX4_wholeNumber_56 (fun H locs hW => ?_)
    refine jnS hf (fun (j : Int32 → Option (Int64 × Sg)) => ∀ (x5 : Int32), (j x5) = some (r, S') → ∀ (H : Heap) (locs : List Loc) (ls : Array Slot), lv_has ls 8 [(5, .long v1)] → Wd D cy L shC 52 S2 s H locs → W p l e (rmk 2 42) s m args below meth c H locs 0 0 Q (F0 m 67 ls [.int x5, .int (S2.1 27 1), .ref (L 27)])) ?_ ?_
    · intro x5 hf H locs ls hl hW
      try dsimp only at hf
      refine lv_ior hx hb dX4_wholeNumber_67 ?_
      obtain ⟨hg6, hf⟩ := gdS hf
      refine x_put (k := 27) E hC hW fl_X4_15 pl_4_1 (by decide) rfl rfl (isB_narrow hg6) (isB_fits hg6) dX4_wholeNumber_68 (fun H locs hW => ?_)
      obtain ⟨S7, eS7⟩ : ∃ z : Sg, z = si S2 27 1 ((S2.1 27 1) ||| x5) := ⟨_, rfl⟩
      have hW : Wd D cy L shC 52 S7 s H locs := by rw [eS7]; exact hW
      have hf := bvS hf eS7
      refine lv_lload hx hb dX4_wholeNumber_71 (lv_at hl 0 rfl) ?_
      exact x_lretI E hC hW hr hlk hQ dX4_wholeNumber_73 hf
    intro j67 J67 hf
    refine lv_if_ne (tgt := 66) hx hb dX4_wholeNumber_59 (by decide) (fun c8 => ?_) (fun c8 => ?_)
    · have hf := xf hf c8
      refine lv_iconst (v := 0) hx hb dX4_wholeNumber_66 (by decide) ?_
      exact J67 _ hf _ _ _ (lv_sub hl [1] rfl) hW
    · have hf := xt hf c8
      refine lv_iconst (v := 1) hx hb dX4_wholeNumber_62 (by decide) ?_
      refine lv_goto (tgt := 67) hx hb dX4_wholeNumber_63 (by decide) ?_
      exact J67 _ hf _ _ _ (lv_sub hl [1] rfl) hW
  · intro k49 K49 self6 ih6 v9 v10 S11 hf H locs ls hl hW
    unfold X4_wholeNumber_L6 at hf
    refine lv_iload hx hb dX4_wholeNumber_6 (lv_at hl 6 rfl) ?_
    refine lv_aload_n hx hb dX4_wholeNumber_8 rfl (lv_at hl 1 rfl) ?_
    refine x_geti (k := 13) E hC hW fl_X4_36 (by decide) rfl rfl dX4_wholeNumber_9 ?_
    refine lv_icmp_ge (tgt := 49) hx hb dX4_wholeNumber_12 (by decide) (fun c23 => ?_) (fun c23 => ?_)
    · have hf := xt hf c23
      exact K49 _ _ hf _ _ _ (lv_sub hl [0, 5] rfl) hW
    · have hf := xf hf c23
      refine lv_aload_n hx hb dX4_wholeNumber_15 rfl (lv_at hl 0 rfl) ?_
      refine lv_lload hx hb dX4_wholeNumber_16 (lv_at hl 5 rfl) ?_
      refine lv_aload_n hx hb dX4_wholeNumber_18 rfl (lv_at hl 0 rfl) ?_
      refine lv_aload_n hx hb dX4_wholeNumber_19 rfl (lv_at hl 2 rfl) ?_
      refine lv_iload hx hb dX4_wholeNumber_20 (lv_at hl 6 rfl) ?_
      obtain ⟨r12, g13, hf⟩ := cl1S hf
      refine x_Vr (k := ks) (As := [.int v10]) (rest := [.ref (L 27), .long v9, .ref (L 27)]) E hC hW hl.1 (c_X6_numberFor ks v10 r12 S11 hks g13) cv_X4_39 rfl hks.1 hks.2.1 rfl rfl ⟨Nat.le_of_ble_eq_true rfl, Nat.le_of_ble_eq_true rfl⟩ ⟨Nat.le_refl _, Nat.le_refl _⟩ (Nat.le_of_ble_eq_true rfl) dX4_wholeNumber_22 (fun H locs hW => ?_)
      refine lv_aload_n hx hb dX4_wholeNumber_25 rfl (lv_at hl 1 rfl) ?_
      refine lv_iload hx hb dX4_wholeNumber_26 (lv_at hl 6 rfl) ?_
      refine lv_iload_n hx hb dX4_wholeNumber_28 rfl (lv_at hl 3 rfl) ?_
      refine lv_iload hx hb dX4_wholeNumber_29 (lv_at hl 4 rfl) ?_
      obtain ⟨r14, g15, hf⟩ := cl1S hf
      refine x_Vr (k := 13) (As := [.int v10, .int a3, .int a4]) (rest := [.long r12, .ref (L 27), .long v9, .ref (L 27)]) E hC hW hl.1 (c_X5_difference v10 a3 a4 r14 S11 g15) cv_X4_45 rfl (by decide) rfl rfl rfl ⟨Nat.le_of_ble_eq_true rfl, Nat.le_of_ble_eq_true rfl⟩ ⟨Nat.le_refl _, Nat.le_refl _⟩ (Nat.le_of_ble_eq_true rfl) dX4_wholeNumber_31 (fun H locs hW => ?_)
      refine lv_i2l hx hb dX4_wholeNumber_34 rfl ?_
      obtain ⟨r16, S18, g17, hf⟩ := clS hf
      refine x_Vr (k := 27) (As := [.long r12, .long r14.toInt64]) (rest := [.long v9, .ref (L 27)]) E hC hW hl.1 (c_X4_product r12 r14.toInt64 r16 S11 S18 g17) cv_X4_49 rfl (by decide) rfl rfl rfl ⟨Nat.le_of_ble_eq_true rfl, Nat.le_of_ble_eq_true rfl⟩ ⟨Nat.le_refl _, Nat.le_refl _⟩ (Nat.le_of_ble_eq_true rfl) dX4_wholeNumber_35 (fun H locs hW => ?_)
      obtain ⟨r19, S21, g20, hf⟩ := clS hf
      refine x_Vr (k := 27) (As := [.long v9, .long r16]) (rest := []) E hC hW hl.1 (c_X4_plus v9 r16 r19 S18 S21 g20) cv_X4_53 rfl (by decide) rfl rfl rfl ⟨Nat.le_of_ble_eq_true rfl, Nat.le_of_ble_eq_true rfl⟩ ⟨Nat.le_refl _, Nat.le_refl _⟩ (Nat.le_of_ble_eq_true rfl) dX4_wholeNumber_38 (fun H locs hW => ?_)
      refine lv_lstore (lv' := [(5, .long r19), (0, .ref (L 27)), (1, .ref (L 13)), (2, .ref (L ks)), (3, .int a3), (4, .int a4), (7, .int v10)]) hx hb dX4_wholeNumber_41 hl (by decide) rfl (fun ls hl => ?_)
      obtain ⟨x22, ex22⟩ : ∃ z : Int32, z = (v10 + 1) := ⟨_, rfl⟩
      have hf := bvS hf ex22
      refine lv_iinc (v := x22) (lv' := [(7, .int x22), (5, .long r19), (0, .ref (L 27)), (1, .ref (L 13)), (2, .ref (L ks)), (3, .int a3), (4, .int a4)]) hx hb dX4_wholeNumber_43 hl (k := 6) rfl (by rw [ex22]; rfl) (by decide) rfl (fun ls hl => ?_)
      refine lv_goto (tgt := 6) hx hb dX4_wholeNumber_46 (by decide) ?_
      exact ih6 _ _ _ hf _ _ _ (lv_sub hl [2, 3, 4, 5, 6, 1, 0] rfl) hW
set_option maxRecDepth 100000 in
set_option maxHeartbeats 4000000 in
theorem c_X4_made {l : Launch} {D : va_G} {cy : Nat → ClassId} {L : Nat → Nat} {bA : Nat} (ks : Nat) (r : Int64) (S S' : Sg) (hks : okS ks) (hf : f_X4_made ks S = some (r, S')) : MetX l D cy L shC 52 bA yX4_made cX4_made 5 (some .long) 10 305 [.ref (L 27), .ref (L 13), .ref (L ks)] (some (.long r)) S S' := by
  refine x_met (own := RX4) (by decide) rfl (Nat.le_of_ble_eq_true rfl) ?_
  intro p e s m below meth c ls E hC hr hlk hl hW
  generalize hargs : ([.ref (L 27), .ref (L 13), .ref (L ks)] : List Value).toArray = args at E ⊢
  generalize hQ : MQ below (xQ D cy L shC 52 bA (some (.long r)) S') args s 0 0 (AL L 52) = Q
  have hl : lv_has ls 5 [(0, .ref (L 27)), (1, .ref (L 13)), (2, .ref (L ks))] := hl
  have hx := E.1
  have hb := E.2.1
  have hts := E.2.2.2.2
  unfold f_X4_made at hf
  refine lv_aload_n hx hb dX4_made_0 rfl (lv_at hl 0 rfl) ?_
  refine lv_aload_n hx hb dX4_made_1 rfl (lv_at hl 1 rfl) ?_
  refine x_geti (k := 13) E hC hW fl_X4_23 (by decide) rfl rfl dX4_made_2 ?_
  refine x_put (k := 27) E hC hW fl_X4_9 pl_4_0 (by decide) rfl rfl rfl rfl dX4_made_5 (fun H locs hW => ?_)
  obtain ⟨S1, eS1⟩ : ∃ z : Sg, z = si S 27 0 (S.1 13 1) := ⟨_, rfl⟩
  have hW : Wd D cy L shC 52 S1 s H locs := by rw [eS1]; exact hW
  have hf := bvS hf eS1
  refine lv_aload_n hx hb dX4_made_8 rfl (lv_at hl 0 rfl) ?_
  refine lv_iconst (v := 0) hx hb dX4_made_9 (by decide) ?_
  refine x_put (k := 27) E hC hW fl_X4_15 pl_4_1 (by decide) rfl rfl (isB_narrow (by decide)) (isB_fits (by decide)) dX4_made_10 (fun H locs hW => ?_)
  obtain ⟨S2, eS2⟩ : ∃ z : Sg, z = si S1 27 1 (0 : Int32) := ⟨_, rfl⟩
  have hW : Wd D cy L shC 52 S2 s H locs := by rw [eS2]; exact hW
  have hf := bvS hf eS2
  refine lv_iconst (v := 0) hx hb dX4_made_13 (by decide) ?_
  refine lv_istore_n (lv' := [(3, .int (0 : Int32)), (0, .ref (L 27)), (1, .ref (L 13)), (2, .ref (L ks))]) hx hb dX4_made_14 rfl hl (by decide) rfl (fun ls hl => ?_)
  refine wp2K hf (fun (v8 : Int32) (S9 : Sg) => ∀ (H : Heap) (locs : List Loc) (ls : Array Slot), lv_has ls 5 [(0, .ref (L 27)), (1, .ref (L 13)), (2, .ref (L ks)), (3, .int v8)] → Wd D cy L shC 52 S9 s H locs → W p l e (rmk 10 305) s m args below meth c H locs 0 0 Q (F0 m 15 ls [])) (fun (j : Sg → Option (Int64 × Sg)) => ∀ (S3 : Sg), (j S3) = some (r, S') → ∀ (H : Heap) (locs : List Loc) (ls : Array Slot), lv_has ls 5 [(0, .ref (L 27))] → Wd D cy L shC 52 S3 s H locs → W p l e (rmk 10 305) s m args below meth c H locs 0 0 Q (F0 m 70 ls [])) ?_ ?_ _ _ _ (lv_sub hl [1, 2, 3, 0] rfl) hW
  · intro S3 hf H locs ls hl hW
    try dsimp only at hf
    refine lv_aload_n hx hb dX4_made_70 rfl (lv_at hl 0 rfl) ?_
    refine lv_iconst (v := 1) hx hb dX4_made_71 (by decide) ?_
    refine lv_aload_n hx hb dX4_made_72 rfl (lv_at hl 0 rfl) ?_
    refine x_geti (k := 27) E hC hW fl_X4_9 (by decide) rfl rfl dX4_made_73 ?_
    refine lv_ishl hx hb dX4_made_76 ?_
    refine lv_iconst (v := 1) hx hb dX4_made_77 (by decide) ?_
    refine lv_isub hx hb dX4_made_78 ?_
    refine lv_iconst (v := 0) hx hb dX4_made_79 (by decide) ?_
    obtain ⟨r4, S6, g5, hf⟩ := clS hf
    refine x_Vr (k := 27) (As := [.int (((1 : Int32) <<< ((S3.1 27 0) &&& 31)) - (1 : Int32)), .int (0 : Int32)]) (rest := []) E hC hW hl.1 (c_X4_ofPlaces (((1 : Int32) <<< ((S3.1 27 0) &&& 31)) - (1 : Int32)) (0 : Int32) r4 S3 S6 g5) cv_X4_30 rfl (by decide) rfl rfl rfl ⟨Nat.le_of_ble_eq_true rfl, Nat.le_of_ble_eq_true rfl⟩ ⟨Nat.le_refl _, Nat.le_refl _⟩ (Nat.le_of_ble_eq_true rfl) dX4_made_80 (fun H locs hW => ?_)
    refine lv_lstore_n (lv' := [(3, .long r4), (0, .ref (L 27))]) hx hb dX4_made_83 rfl hl (by decide) rfl (fun ls hl => ?_)
    refine lv_aload_n hx hb dX4_made_84 rfl (lv_at hl 1 rfl) ?_
    refine x_geti (k := 27) E hC hW fl_X4_15 (by decide) rfl rfl dX4_made_85 ?_
    refine lv_if_eq (tgt := 97) hx hb dX4_made_88 (by decide) (fun c7 => ?_) (fun c7 => ?_)
    · have hf := xt hf c7
      refine lv_lload_n hx hb dX4_made_97 rfl (lv_at hl 0 rfl) ?_
      exact x_lretI E hC hW hr hlk hQ dX4_made_98 hf
    · have hf := xf hf c7
      refine lv_ldc2 hx hb E.2.2.2.1 (hts _ ww_641) dX4_made_91 ?_
      refine lv_goto (tgt := 98) hx hb dX4_made_94 (by decide) ?_
      exact x_lretI E hC hW hr hlk hQ dX4_made_98 hf
  · intro k70 K70 self15 ih15 v8 S9 hf H locs ls hl hW
    unfold X4_made_L15 at hf
    refine lv_iload_n hx hb dX4_made_15 rfl (lv_at hl 3 rfl) ?_
    refine lv_aload_n hx hb dX4_made_16 rfl (lv_at hl 0 rfl) ?_
    refine x_geti (k := 27) E hC hW fl_X4_9 (by decide) rfl rfl dX4_made_17 ?_
    refine lv_icmp_ge (tgt := 70) hx hb dX4_made_20 (by decide) (fun c22 => ?_) (fun c22 => ?_)
    · have hf := xt hf c22
      exact K70 _ hf _ _ _ (lv_sub hl [0] rfl) hW
    · have hf := xf hf c22
      refine lv_iload_n hx hb dX4_made_23 rfl (lv_at hl 3 rfl) ?_
      refine lv_iconst (v := 1) hx hb dX4_made_24 (by decide) ?_
      refine lv_iadd hx hb dX4_made_25 ?_
      refine lv_topi (fun x10 ex10 => ?_)
      have hf := bvS hf ex10
      refine lv_istore (lv' := [(4, .int x10), (0, .ref (L 27)), (1, .ref (L 13)), (2, .ref (L ks)), (3, .int v8)]) hx hb dX4_made_26 hl (by decide) rfl (fun ls hl => ?_)
      refine wp2K hf (fun (v13 : Int32) (S14 : Sg) => ∀ (H : Heap) (locs : List Loc) (ls : Array Slot), lv_has ls 5 [(0, .ref (L 27)), (1, .ref (L 13)), (2, .ref (L ks)), (3, .int v8), (4, .int v13)] → Wd D cy L shC 52 S14 s H locs → W p l e (rmk 10 305) s m args below meth c H locs 0 0 Q (F0 m 28 ls [])) (fun (j : Sg → Option (Int64 × Sg)) => ∀ (S11 : Sg), (j S11) = some (r, S') → ∀ (H : Heap) (locs : List Loc) (ls : Array Slot), lv_has ls 5 [(0, .ref (L 27)), (1, .ref (L 13)), (2, .ref (L ks)), (3, .int v8)] → Wd D cy L shC 52 S11 s H locs → W p l e (rmk 10 305) s m args below meth c H locs 0 0 Q (F0 m 64 ls [])) ?_ ?_ _ _ _ (lv_sub hl [1, 2, 3, 4, 0] rfl) hW
      · intro S11 hf H locs ls hl hW
        try dsimp only at hf
        obtain ⟨x12, ex12⟩ : ∃ z : Int32, z = (v8 + 1) := ⟨_, rfl⟩
        have hf := bvS hf ex12
        refine lv_iinc (v := x12) (lv' := [(3, .int x12), (0, .ref (L 27)), (1, .ref (L 13)), (2, .ref (L ks))]) hx hb dX4_made_64 hl (k := 3) rfl (by rw [ex12]; rfl) (by decide) rfl (fun ls hl => ?_)
        refine lv_goto (tgt := 15) hx hb dX4_made_67 (by decide) ?_
        exact ih15 _ _ hf _ _ _ (lv_sub hl [1, 2, 3, 0] rfl) hW
      · intro k64 K64 self28 ih28 v13 S14 hf H locs ls hl hW
        unfold X4_made_L28 at hf
        refine lv_iload hx hb dX4_made_28 (lv_at hl 4 rfl) ?_
        refine lv_aload_n hx hb dX4_made_30 rfl (lv_at hl 0 rfl) ?_
        refine x_geti (k := 27) E hC hW fl_X4_9 (by decide) rfl rfl dX4_made_31 ?_
        refine lv_icmp_ge (tgt := 64) hx hb dX4_made_34 (by decide) (fun c21 => ?_) (fun c21 => ?_)
        · have hf := xt hf c21
          exact K64 _ hf _ _ _ (lv_sub hl [0, 1, 2, 3] rfl) hW
        · have hf := xf hf c21
          refine lv_aload_n hx hb dX4_made_37 rfl (lv_at hl 0 rfl) ?_
          refine x_getr (k := 27) (k' := 28) E hC hW fl_X4_19 (by decide) rfl rfl dX4_made_38 ?_
          refine lv_iload_n hx hb dX4_made_41 rfl (lv_at hl 3 rfl) ?_
          refine lv_bipush (v := 6) hx hb dX4_made_42 (by decide) ?_
          refine lv_imul hx hb dX4_made_44 ?_
          refine lv_iload hx hb dX4_made_45 (lv_at hl 4 rfl) ?_
          refine lv_iadd hx hb dX4_made_47 ?_
          refine lv_aload_n hx hb dX4_made_48 rfl (lv_at hl 0 rfl) ?_
          refine lv_aload_n hx hb dX4_made_49 rfl (lv_at hl 1 rfl) ?_
          refine lv_aload_n hx hb dX4_made_50 rfl (lv_at hl 2 rfl) ?_
          refine lv_iload_n hx hb dX4_made_51 rfl (lv_at hl 3 rfl) ?_
          refine lv_iload hx hb dX4_made_52 (lv_at hl 4 rfl) ?_
          obtain ⟨r15, S17, g16, hf⟩ := clS hf
          refine x_Vr (k := 27) (As := [.ref (L 13), .ref (L ks), .int v8, .int v13]) (rest := [.int ((v8 * (6 : Int32)) + v13), .ref (L 28)]) E hC hW hl.1 (c_X4_wholeNumber ks v8 v13 r15 S14 S17 hks g16) cv_X4_26 rfl (by decide) rfl rfl rfl ⟨Nat.le_of_ble_eq_true rfl, Nat.le_of_ble_eq_true rfl⟩ ⟨Nat.le_refl _, Nat.le_refl _⟩ (Nat.le_of_ble_eq_true rfl) dX4_made_54 (fun H locs hW => ?_)
          obtain ⟨hg18, hf⟩ := gdS hf
          refine x_last (k := 28) E hC hW (by decide) rfl (inbS hg18) dX4_made_57 (fun H locs hW => ?_)
          obtain ⟨S19, eS19⟩ : ∃ z : Sg, z = sl S17 28 (ix ((v8 * (6 : Int32)) + v13)) r15 := ⟨_, rfl⟩
          have hW : Wd D cy L shC 52 S19 s H locs := by rw [eS19]; exact hW
          have hf := bvS hf eS19
          obtain ⟨x20, ex20⟩ : ∃ z : Int32, z = (v13 + 1) := ⟨_, rfl⟩
          have hf := bvS hf ex20
          refine lv_iinc (v := x20) (lv' := [(4, .int x20), (0, .ref (L 27)), (1, .ref (L 13)), (2, .ref (L ks)), (3, .int v8)]) hx hb dX4_made_58 hl (k := 4) rfl (by rw [ex20]; rfl) (by decide) rfl (fun ls hl => ?_)
          refine lv_goto (tgt := 28) hx hb dX4_made_61 (by decide) ?_
          exact ih28 _ _ hf _ _ _ (lv_sub hl [1, 2, 3, 4, 0] rfl) hW
set_option maxRecDepth 100000 in
set_option maxHeartbeats 4000000 in
theorem c_X9_root {l : Launch} {D : va_G} {cy : Nat → ClassId} {L : Nat → Nat} {bA : Nat} (a1 : Int32) (r : Int64) (S S' : Sg)  (hf : f_X9_root a1 S = some (r, S')) : MetX l D cy L shC 52 bA yX9_root cX9_root 2 (some .long) 11 329 [.ref (L 0), .int a1] (some (.long r)) S S' := by
  refine x_met (own := RX9) (by decide) rfl (Nat.le_of_ble_eq_true rfl) ?_
  intro p e s m below meth c ls E hC hr hlk hl hW
  generalize hargs : ([.ref (L 0), .int a1] : List Value).toArray = args at E ⊢
  generalize hQ : MQ below (xQ D cy L shC 52 bA (some (.long r)) S') args s 0 0 (AL L 52) = Q
  have hl : lv_has ls 2 [(0, .ref (L 0)), (1, .int a1)] := hl
  have hx := E.1
  have hb := E.2.1
  have hts := E.2.2.2.2
  unfold f_X9_root at hf
  refine lv_iload_n hx hb dX9_root_0 rfl (lv_at hl 1 rfl) ?_
  obtain ⟨r1, g2, hf⟩ := cl1S hf
  refine x_Sr (As := [.int a1]) (rest := []) E hC hW hl.1 (c_X9_isSheet a1 r1 S g2) cs_X9_194 rfl rfl ⟨Nat.le_of_ble_eq_true rfl, Nat.le_of_ble_eq_true rfl⟩ ⟨Nat.le_refl _, Nat.le_refl _⟩ (Nat.le_of_ble_eq_true rfl) dX9_root_1 (fun H locs hW => ?_)
  refine lv_if_ne (tgt := 11) hx hb dX9_root_4 (by decide) (fun c16 => ?_) (fun c16 => ?_)
  · have hf := xf hf c16
    refine lv_aload_n hx hb dX9_root_11 rfl (lv_at hl 0 rfl) ?_
    refine x_getr (k := 0) (k' := 31) E hC hW fl_X9_60 (by decide) rfl rfl dX9_root_12 ?_
    refine lv_iload_n hx hb dX9_root_15 rfl (lv_at hl 1 rfl) ?_
    obtain ⟨hg3, hf⟩ := gdS hf
    refine x_aald (k := 31) (b := 32) E hC hW (by decide) rfl rfl (inbS hg3) dX9_root_16 ?_
    have ho4 := okS_ix hg3
    obtain ⟨r5, g6, hf⟩ := cl1S hf
    refine x_Vr (k := (32 + 2 * ix a1)) (As := []) (rest := []) E hC hW hl.1 (c_X6_isMissing (32 + 2 * ix a1) r5 S ho4 g6) cv_X9_197 rfl ho4.1 ho4.2.1 rfl rfl ⟨Nat.le_of_ble_eq_true rfl, Nat.le_of_ble_eq_true rfl⟩ ⟨Nat.le_refl _, Nat.le_refl _⟩ (Nat.le_of_ble_eq_true rfl) dX9_root_17 (fun H locs hW => ?_)
    refine lv_if_eq (tgt := 27) hx hb dX9_root_20 (by decide) (fun c15 => ?_) (fun c15 => ?_)
    · have hf := xt hf c15
      refine lv_aload_n hx hb dX9_root_27 rfl (lv_at hl 0 rfl) ?_
      refine x_getr (k := 0) (k' := 1) E hC hW fl_X9_12 (by decide) rfl rfl dX9_root_28 ?_
      refine x_geti (k := 1) E hC hW fl_X9_90 (by decide) rfl rfl dX9_root_31 ?_
      refine lv_iconst (v := 2) hx hb dX9_root_34 (by decide) ?_
      refine lv_irem hx hb dX9_root_35 (by decide) ?_
      refine lv_if_eq (tgt := 43) hx hb dX9_root_36 (by decide) (fun c14 => ?_) (fun c14 => ?_)
      · have hf := xt hf c14
        refine lv_aload_n hx hb dX9_root_43 rfl (lv_at hl 0 rfl) ?_
        refine x_getr (k := 0) (k' := 13) E hC hW fl_X9_26 (by decide) rfl rfl dX9_root_44 ?_
        refine lv_aload_n hx hb dX9_root_47 rfl (lv_at hl 0 rfl) ?_
        refine x_getr (k := 0) (k' := 1) E hC hW fl_X9_12 (by decide) rfl rfl dX9_root_48 ?_
        obtain ⟨S8, g7, hf⟩ := cl1S hf
        refine x_Vv (k := 13) (As := [.ref (L 1)]) (rest := []) E hC hW hl.1 (c_X5_fill S S8 g7) cv_X9_141 rfl (by decide) rfl rfl rfl ⟨Nat.le_of_ble_eq_true rfl, Nat.le_of_ble_eq_true rfl⟩ ⟨Nat.le_refl _, Nat.le_refl _⟩ (Nat.le_of_ble_eq_true rfl) dX9_root_51 (fun H locs hW => ?_)
        refine lv_aload_n hx hb dX9_root_54 rfl (lv_at hl 0 rfl) ?_
        refine x_getr (k := 0) (k' := 27) E hC hW fl_X9_47 (by decide) rfl rfl dX9_root_55 ?_
        refine lv_aload_n hx hb dX9_root_58 rfl (lv_at hl 0 rfl) ?_
        refine x_getr (k := 0) (k' := 13) E hC hW fl_X9_26 (by decide) rfl rfl dX9_root_59 ?_
        refine lv_aload_n hx hb dX9_root_62 rfl (lv_at hl 0 rfl) ?_
        refine x_getr (k := 0) (k' := 31) E hC hW fl_X9_60 (by decide) rfl rfl dX9_root_63 ?_
        refine lv_iload_n hx hb dX9_root_66 rfl (lv_at hl 1 rfl) ?_
        obtain ⟨hg9, hf⟩ := gdS hf
        refine x_aald (k := 31) (b := 32) E hC hW (by decide) rfl rfl (inbS hg9) dX9_root_67 ?_
        have ho10 := okS_ix hg9
        obtain ⟨r11, S13, g12, hf⟩ := clS hf
        refine x_Vr (k := 27) (As := [.ref (L 13), .ref (L (32 + 2 * ix a1))]) (rest := []) E hC hW hl.1 (c_X4_made (32 + 2 * ix a1) r11 S8 S13 ho10 g12) cv_X9_219 rfl (by decide) rfl rfl rfl ⟨Nat.le_of_ble_eq_true rfl, Nat.le_of_ble_eq_true rfl⟩ ⟨Nat.le_refl _, Nat.le_refl _⟩ (Nat.le_of_ble_eq_true rfl) dX9_root_68 (fun H locs hW => ?_)
        exact x_lretI E hC hW hr hlk hQ dX9_root_71 hf
      · have hf := xf hf c14
        refine lv_ldc2 hx hb E.2.2.2.1 (hts _ ww_609) dX9_root_39 ?_
        exact x_lretI E hC hW hr hlk hQ dX9_root_42 hf
    · have hf := xf hf c15
      refine lv_ldc2 hx hb E.2.2.2.1 (hts _ ww_608) dX9_root_23 ?_
      exact x_lretI E hC hW hr hlk hQ dX9_root_26 hf
  · have hf := xt hf c16
    refine lv_ldc2 hx hb E.2.2.2.1 (hts _ ww_607) dX9_root_7 ?_
    exact x_lretI E hC hW hr hlk hQ dX9_root_10 hf
set_option maxRecDepth 100000 in
set_option maxHeartbeats 4000000 in
theorem c_X9_drawTimes {l : Launch} {D : va_G} {cy : Nat → ClassId} {L : Nat → Nat} {bA : Nat} (a1 : Int32) (r : Int32) (S S' : Sg)  (hf : f_X9_drawTimes a1 S = some (r, S')) : MetX l D cy L shC 52 bA yX9_drawTimes cX9_drawTimes 4 (some .int) 0 0 [.ref (L 0), .int a1] (some (.int r)) S S' := by
  refine x_met (own := RX9) (by decide) rfl (Nat.le_of_ble_eq_true rfl) ?_
  intro p e s m below meth c ls E hC hr hlk hl hW
  generalize hargs : ([.ref (L 0), .int a1] : List Value).toArray = args at E ⊢
  generalize hQ : MQ below (xQ D cy L shC 52 bA (some (.int r)) S') args s 0 0 (AL L 52) = Q
  have hl : lv_has ls 4 [(0, .ref (L 0)), (1, .int a1)] := hl
  have hx := E.1
  have hb := E.2.1
  have hts := E.2.2.2.2
  unfold f_X9_drawTimes at hf
  refine lv_iload_n hx hb dX9_drawTimes_0 rfl (lv_at hl 1 rfl) ?_
  refine lv_istore_n (lv' := [(2, .int a1), (0, .ref (L 0)), (1, .int a1)]) hx hb dX9_drawTimes_1 rfl hl (by decide) rfl (fun ls hl => ?_)
  refine lv_iconst (v := 0) hx hb dX9_drawTimes_2 (by decide) ?_
  refine lv_istore_n (lv' := [(3, .int (0 : Int32)), (2, .int a1), (0, .ref (L 0)), (1, .int a1)]) hx hb dX9_drawTimes_3 rfl hl (by decide) rfl (fun ls hl => ?_)
  refine wp3S (fun (v1 : Int32) (v2 : Int32) (S3 : Sg) => ∀ (H : Heap) (locs : List Loc) (ls : Array Slot), lv_has ls 4 [(0, .ref (L 0)), (2, .int v1), (3, .int v2)] → Wd D cy L shC 52 S3 s H locs → W p l e (rmk 0 0) s m args below meth c H locs 0 0 Q (F0 m 4 ls [])) ?_ hf _ _ _ (lv_sub hl [2, 1, 0] rfl) hW
  · intro self4 ih4 v1 v2 S3 hf H locs ls hl hW
    unfold X9_drawTimes_L4 at hf
    refine lv_iload_n hx hb dX9_drawTimes_4 rfl (lv_at hl 2 rfl) ?_
    refine lv_aload_n hx hb dX9_drawTimes_5 rfl (lv_at hl 0 rfl) ?_
    refine x_getr (k := 0) (k' := 1) E hC hW fl_X9_12 (by decide) rfl rfl dX9_drawTimes_6 ?_
    refine x_geti (k := 1) E hC hW fl_X9_107 (by decide) rfl rfl dX9_drawTimes_9 ?_
    refine lv_icmp_ge (tgt := 49) hx hb dX9_drawTimes_12 (by decide) (fun c9 => ?_) (fun c9 => ?_)
    · have hf := xt hf c9
      refine lv_iload_n hx hb dX9_drawTimes_49 rfl (lv_at hl 1 rfl) ?_
      exact x_iretI E hC hW hr hlk hQ dX9_drawTimes_50 hf
    · have hf := xf hf c9
      refine lv_iload_n hx hb dX9_drawTimes_15 rfl (lv_at hl 1 rfl) ?_
      refine lv_ldcw hx hb E.2.2.2.1 (hts _ ww_650) dX9_drawTimes_16 ?_
      refine lv_imul hx hb dX9_drawTimes_19 ?_
      refine lv_sipush (v := 12345) hx hb dX9_drawTimes_20 (by decide) ?_
      refine lv_iadd hx hb dX9_drawTimes_23 ?_
      refine lv_topi (fun x4 ex4 => ?_)
      have hf := bvS hf ex4
      refine lv_istore_n (lv' := [(2, .int x4), (0, .ref (L 0)), (3, .int v2)]) hx hb dX9_drawTimes_24 rfl hl (by decide) rfl (fun ls hl => ?_)
      refine lv_aload_n hx hb dX9_drawTimes_25 rfl (lv_at hl 1 rfl) ?_
      refine x_getr (k := 0) (k' := 50) E hC hW fl_X9_74 (by decide) rfl rfl dX9_drawTimes_26 ?_
      refine lv_iload_n hx hb dX9_drawTimes_29 rfl (lv_at hl 2 rfl) ?_
      refine lv_iload_n hx hb dX9_drawTimes_30 rfl (lv_at hl 0 rfl) ?_
      refine lv_bipush (v := 8) hx hb dX9_drawTimes_31 (by decide) ?_
      refine lv_iushr (v := ush x4 (8 : Int32)) hx hb dX9_drawTimes_33 rfl ?_
      refine lv_aload_n hx hb dX9_drawTimes_34 rfl (lv_at hl 1 rfl) ?_
      refine x_getr (k := 0) (k' := 1) E hC hW fl_X9_12 (by decide) rfl rfl dX9_drawTimes_35 ?_
      refine x_geti (k := 1) E hC hW fl_X9_86 (by decide) rfl rfl dX9_drawTimes_38 ?_
      obtain ⟨hg5, hf⟩ := gdS hf
      refine lv_irem hx hb dX9_drawTimes_41 (nzS hg5) ?_
      obtain ⟨hg6, hf⟩ := gdS hf
      refine x_iast (k := 50) E hC hW (by decide) rfl (inbS hg6) dX9_drawTimes_42 (fun H locs hW => ?_)
      obtain ⟨S7, eS7⟩ : ∃ z : Sg, z = si S3 50 (ix v2) (irm (ush x4 (8 : Int32)) (S3.1 1 0)) := ⟨_, rfl⟩
      have hW : Wd D cy L shC 52 S7 s H locs := by rw [eS7]; exact hW
      have hf := bvS hf eS7
      obtain ⟨x8, ex8⟩ : ∃ z : Int32, z = (v2 + 1) := ⟨_, rfl⟩
      have hf := bvS hf ex8
      refine lv_iinc (v := x8) (lv' := [(3, .int x8), (2, .int x4), (0, .ref (L 0))]) hx hb dX9_drawTimes_43 hl (k := 2) rfl (by rw [ex8]; rfl) (by decide) rfl (fun ls hl => ?_)
      refine lv_goto (tgt := 4) hx hb dX9_drawTimes_46 (by decide) ?_
      exact ih4 _ _ _ hf _ _ _ (lv_sub hl [2, 1, 0] rfl) hW
set_option maxRecDepth 100000 in
set_option maxHeartbeats 4000000 in
theorem c_X9_claim {l : Launch} {D : va_G} {cy : Nat → ClassId} {L : Nat → Nat} {bA : Nat} (a1 : Int32) (a2 : Int32) (r : Int32) (S S' : Sg)  (hf : f_X9_claim a1 a2 S = some (r, S')) : MetX l D cy L shC 52 bA yX9_claim cX9_claim 6 (some .int) 3 75 [.ref (L 0), .int a1, .int a2] (some (.int r)) S S' := by
  refine x_met (own := RX9) (by decide) rfl (Nat.le_of_ble_eq_true rfl) ?_
  intro p e s m below meth c ls E hC hr hlk hl hW
  generalize hargs : ([.ref (L 0), .int a1, .int a2] : List Value).toArray = args at E ⊢
  generalize hQ : MQ below (xQ D cy L shC 52 bA (some (.int r)) S') args s 0 0 (AL L 52) = Q
  have hl : lv_has ls 6 [(0, .ref (L 0)), (1, .int a1), (2, .int a2)] := hl
  have hx := E.1
  have hb := E.2.1
  have hts := E.2.2.2.2
  unfold f_X9_claim at hf
  refine lv_iload_n hx hb dX9_claim_0 rfl (lv_at hl 2 rfl) ?_
  refine lv_iconst (v := 1) hx hb dX9_claim_1 (by decide) ?_
  refine lv_icmp_lt (tgt := 11) hx hb dX9_claim_2 (by decide) (fun c17 => ?_) (fun c17 => ?_)
  · have hf := xt hf c17
    refine lv_bipush (v := (-2)) hx hb dX9_claim_11 (by decide) ?_
    exact x_iretI E hC hW hr hlk hQ dX9_claim_13 hf
  · have hf := xf hf c17
    refine lv_iload_n hx hb dX9_claim_5 rfl (lv_at hl 2 rfl) ?_
    refine lv_bipush (v := 20) hx hb dX9_claim_6 (by decide) ?_
    refine lv_icmp_le (tgt := 14) hx hb dX9_claim_8 (by decide) (fun c16 => ?_) (fun c16 => ?_)
    · have hf := xt hf c16
      refine lv_aload_n hx hb dX9_claim_14 rfl (lv_at hl 0 rfl) ?_
      refine x_getr (k := 0) (k' := 13) E hC hW fl_X9_26 (by decide) rfl rfl dX9_claim_15 ?_
      refine lv_aload_n hx hb dX9_claim_18 rfl (lv_at hl 0 rfl) ?_
      refine x_getr (k := 0) (k' := 1) E hC hW fl_X9_12 (by decide) rfl rfl dX9_claim_19 ?_
      obtain ⟨S2, g1, hf⟩ := cl1S hf
      refine x_Vv (k := 13) (As := [.ref (L 1)]) (rest := []) E hC hW hl.1 (c_X5_fill S S2 g1) cv_X9_141 rfl (by decide) rfl rfl rfl ⟨Nat.le_of_ble_eq_true rfl, Nat.le_of_ble_eq_true rfl⟩ ⟨Nat.le_refl _, Nat.le_refl _⟩ (Nat.le_of_ble_eq_true rfl) dX9_claim_22 (fun H locs hW => ?_)
      refine lv_iload_n hx hb dX9_claim_25 rfl (lv_at hl 1 rfl) ?_
      refine lv_istore_n (lv' := [(3, .int a1), (0, .ref (L 0)), (1, .int a1), (2, .int a2)]) hx hb dX9_claim_26 rfl hl (by decide) rfl (fun ls hl => ?_)
      refine lv_iconst (v := 0) hx hb dX9_claim_27 (by decide) ?_
      refine lv_istore (lv' := [(4, .int (0 : Int32)), (3, .int a1), (0, .ref (L 0)), (1, .int a1), (2, .int a2)]) hx hb dX9_claim_28 hl (by decide) rfl (fun ls hl => ?_)
      refine lv_iconst (v := 0) hx hb dX9_claim_30 (by decide) ?_
      refine lv_istore (lv' := [(5, .int (0 : Int32)), (4, .int (0 : Int32)), (3, .int a1), (0, .ref (L 0)), (1, .int a1), (2, .int a2)]) hx hb dX9_claim_31 hl (by decide) rfl (fun ls hl => ?_)
      refine wp4S (fun (v3 : Int32) (v4 : Int32) (v5 : Int32) (S6 : Sg) => ∀ (H : Heap) (locs : List Loc) (ls : Array Slot), lv_has ls 6 [(0, .ref (L 0)), (2, .int a2), (3, .int v3), (4, .int v4), (5, .int v5)] → Wd D cy L shC 52 S6 s H locs → W p l e (rmk 3 75) s m args below meth c H locs 0 0 Q (F0 m 33 ls [])) ?_ hf _ _ _ (lv_sub hl [3, 5, 2, 1, 0] rfl) hW
      · intro self33 ih33 v3 v4 v5 S6 hf H locs ls hl hW
        unfold X9_claim_L33 at hf
        refine lv_iload hx hb dX9_claim_33 (lv_at hl 4 rfl) ?_
        refine lv_iload_n hx hb dX9_claim_35 rfl (lv_at hl 1 rfl) ?_
        refine lv_icmp_ge (tgt := 73) hx hb dX9_claim_36 (by decide) (fun c15 => ?_) (fun c15 => ?_)
        · have hf := xt hf c15
          refine lv_iload hx hb dX9_claim_73 (lv_at hl 3 rfl) ?_
          exact x_iretI E hC hW hr hlk hQ dX9_claim_75 hf
        · have hf := xf hf c15
          refine lv_aload_n hx hb dX9_claim_39 rfl (lv_at hl 0 rfl) ?_
          refine lv_iload_n hx hb dX9_claim_40 rfl (lv_at hl 2 rfl) ?_
          obtain ⟨r7, S9, g8, hf⟩ := clS hf
          refine x_Vr (k := 0) (As := [.int v3]) (rest := []) E hC hW hl.1 (c_X9_drawTimes v3 r7 S6 S9 g8) cv_X9_223 rfl (by decide) rfl rfl rfl ⟨Nat.le_of_ble_eq_true rfl, Nat.le_of_ble_eq_true rfl⟩ ⟨Nat.le_refl _, Nat.le_refl _⟩ (Nat.le_of_ble_eq_true rfl) dX9_claim_41 (fun H locs hW => ?_)
          refine lv_istore_n (lv' := [(3, .int r7), (0, .ref (L 0)), (2, .int a2), (4, .int v4), (5, .int v5)]) hx hb dX9_claim_44 rfl hl (by decide) rfl (fun ls hl => ?_)
          refine lv_iload hx hb dX9_claim_45 (lv_at hl 3 rfl) ?_
          refine lv_aload_n hx hb dX9_claim_47 rfl (lv_at hl 1 rfl) ?_
          refine x_getr (k := 0) (k' := 21) E hC hW fl_X9_40 (by decide) rfl rfl dX9_claim_48 ?_
          refine lv_aload_n hx hb dX9_claim_51 rfl (lv_at hl 1 rfl) ?_
          refine x_getr (k := 0) (k' := 13) E hC hW fl_X9_26 (by decide) rfl rfl dX9_claim_52 ?_
          refine lv_aload_n hx hb dX9_claim_55 rfl (lv_at hl 1 rfl) ?_
          refine x_getr (k := 0) (k' := 50) E hC hW fl_X9_74 (by decide) rfl rfl dX9_claim_56 ?_
          obtain ⟨r10, S12, g11, hf⟩ := clS hf
          refine x_Vr (k := 21) (As := [.ref (L 13), .ref (L 50)]) (rest := [.int v4]) E hC hW hl.1 (c_X7_halfRank r10 S9 S12 g11) cv_X9_209 rfl (by decide) rfl rfl rfl ⟨Nat.le_of_ble_eq_true rfl, Nat.le_of_ble_eq_true rfl⟩ ⟨Nat.le_refl _, Nat.le_refl _⟩ (Nat.le_of_ble_eq_true rfl) dX9_claim_59 (fun H locs hW => ?_)
          refine va_mmax (x := v4) (y := r10) (rest := []) hx hb (E.2.2.1.trans hl.1.symm) E.2.2.2.1 (hts _ ww_651) (hts _ ww_513) (hts _ ww_69) (hts _ ww_514) (Nat.le_of_ble_eq_true rfl) (Nat.le_of_ble_eq_true rfl) (Nat.le_refl _) (Nat.le_refl _) dX9_claim_62 ?_
          refine lv_topi (fun x13 ex13 => ?_)
          have hf := bvS hf ex13
          refine lv_istore (lv' := [(4, .int x13), (3, .int r7), (0, .ref (L 0)), (2, .int a2), (5, .int v5)]) hx hb dX9_claim_65 hl (by decide) rfl (fun ls hl => ?_)
          obtain ⟨x14, ex14⟩ : ∃ z : Int32, z = (v5 + 1) := ⟨_, rfl⟩
          have hf := bvS hf ex14
          refine lv_iinc (v := x14) (lv' := [(5, .int x14), (4, .int x13), (3, .int r7), (0, .ref (L 0)), (2, .int a2)]) hx hb dX9_claim_67 hl (k := 4) rfl (by rw [ex14]; rfl) (by decide) rfl (fun ls hl => ?_)
          refine lv_goto (tgt := 33) hx hb dX9_claim_70 (by decide) ?_
          exact ih33 _ _ _ _ hf _ _ _ (lv_sub hl [3, 4, 2, 1, 0] rfl) hW
    · have hf := xf hf c16
      refine lv_bipush (v := (-2)) hx hb dX9_claim_11 (by decide) ?_
      exact x_iretI E hC hW hr hlk hQ dX9_claim_13 hf
set_option maxRecDepth 100000 in
set_option maxHeartbeats 4000000 in
theorem c_X9_sure {l : Launch} {D : va_G} {cy : Nat → ClassId} {L : Nat → Nat} {bA : Nat} (a1 : Int32) (a2 : Int32) (r : Int32) (S S' : Sg)  (hf : f_X9_sure a1 a2 S = some (r, S')) : MetX l D cy L shC 52 bA yX9_sure cX9_sure 7 (some .int) 6 134 [.ref (L 0), .int a1, .int a2] (some (.int r)) S S' := by
  refine x_met (own := RX9) (by decide) rfl (Nat.le_of_ble_eq_true rfl) ?_
  intro p e s m below meth c ls E hC hr hlk hl hW
  generalize hargs : ([.ref (L 0), .int a1, .int a2] : List Value).toArray = args at E ⊢
  generalize hQ : MQ below (xQ D cy L shC 52 bA (some (.int r)) S') args s 0 0 (AL L 52) = Q
  have hl : lv_has ls 7 [(0, .ref (L 0)), (1, .int a1), (2, .int a2)] := hl
  have hx := E.1
  have hb := E.2.1
  have hts := E.2.2.2.2
  unfold f_X9_sure at hf
  refine lv_iload_n hx hb dX9_sure_0 rfl (lv_at hl 2 rfl) ?_
  refine lv_iconst (v := 1) hx hb dX9_sure_1 (by decide) ?_
  refine lv_icmp_lt (tgt := 11) hx hb dX9_sure_2 (by decide) (fun c21 => ?_) (fun c21 => ?_)
  · have hf := xt hf c21
    refine lv_bipush (v := (-2)) hx hb dX9_sure_11 (by decide) ?_
    exact x_iretI E hC hW hr hlk hQ dX9_sure_13 hf
  · have hf := xf hf c21
    refine lv_iload_n hx hb dX9_sure_5 rfl (lv_at hl 2 rfl) ?_
    refine lv_bipush (v := 20) hx hb dX9_sure_6 (by decide) ?_
    refine lv_icmp_le (tgt := 14) hx hb dX9_sure_8 (by decide) (fun c20 => ?_) (fun c20 => ?_)
    · have hf := xt hf c20
      refine lv_aload_n hx hb dX9_sure_14 rfl (lv_at hl 0 rfl) ?_
      obtain ⟨S2, g1, hf⟩ := cl1S hf
      refine x_Vv (k := 0) (As := []) (rest := []) E hC hW hl.1 (c_X9_fillStanding S S2 g1) cv_X9_166 rfl (by decide) rfl rfl rfl ⟨Nat.le_of_ble_eq_true rfl, Nat.le_of_ble_eq_true rfl⟩ ⟨Nat.le_refl _, Nat.le_refl _⟩ (Nat.le_of_ble_eq_true rfl) dX9_sure_15 (fun H locs hW => ?_)
      refine lv_aload_n hx hb dX9_sure_18 rfl (lv_at hl 0 rfl) ?_
      refine x_getr (k := 0) (k' := 19) E hC hW fl_X9_33 (by decide) rfl rfl dX9_sure_19 ?_
      obtain ⟨r3, g4, hf⟩ := cl1S hf
      refine x_Vr (k := 19) (As := []) (rest := []) E hC hW hl.1 (c_X8_greatest r3 S2 g4) cv_X9_169 rfl (by decide) rfl rfl rfl ⟨Nat.le_of_ble_eq_true rfl, Nat.le_of_ble_eq_true rfl⟩ ⟨Nat.le_refl _, Nat.le_refl _⟩ (Nat.le_of_ble_eq_true rfl) dX9_sure_22 (fun H locs hW => ?_)
      refine lv_istore_n (lv' := [(3, .int r3), (0, .ref (L 0)), (1, .int a1), (2, .int a2)]) hx hb dX9_sure_25 rfl hl (by decide) rfl (fun ls hl => ?_)
      refine lv_iload_n hx hb dX9_sure_26 rfl (lv_at hl 2 rfl) ?_
      refine lv_istore (lv' := [(4, .int a1), (3, .int r3), (0, .ref (L 0)), (1, .int a1), (2, .int a2)]) hx hb dX9_sure_27 hl (by decide) rfl (fun ls hl => ?_)
      refine lv_iconst (v := 0) hx hb dX9_sure_29 (by decide) ?_
      refine lv_istore (lv' := [(5, .int (0 : Int32)), (4, .int a1), (3, .int r3), (0, .ref (L 0)), (1, .int a1), (2, .int a2)]) hx hb dX9_sure_30 hl (by decide) rfl (fun ls hl => ?_)
      refine lv_iconst (v := 0) hx hb dX9_sure_32 (by decide) ?_
      refine lv_istore (lv' := [(6, .int (0 : Int32)), (5, .int (0 : Int32)), (4, .int a1), (3, .int r3), (0, .ref (L 0)), (1, .int a1), (2, .int a2)]) hx hb dX9_sure_33 hl (by decide) rfl (fun ls hl => ?_)
      refine wp4S (fun (v5 : Int32) (v6 : Int32) (v7 : Int32) (S8 : Sg) => ∀ (H : Heap) (locs : List Loc) (ls : Array Slot), lv_has ls 7 [(0, .ref (L 0)), (2, .int a2), (3, .int r3), (4, .int v5), (5, .int v6), (6, .int v7)] → Wd D cy L shC 52 S8 s H locs → W p l e (rmk 6 134) s m args below meth c H locs 0 0 Q (F0 m 35 ls [])) ?_ hf _ _ _ (lv_sub hl [4, 6, 3, 2, 1, 0] rfl) hW
      · intro self35 ih35 v5 v6 v7 S8 hf H locs ls hl hW
        unfold X9_sure_L35 at hf
        refine lv_iload hx hb dX9_sure_35 (lv_at hl 5 rfl) ?_
        refine lv_iload_n hx hb dX9_sure_37 rfl (lv_at hl 1 rfl) ?_
        refine lv_icmp_ge (tgt := 77) hx hb dX9_sure_38 (by decide) (fun c19 => ?_) (fun c19 => ?_)
        · have hf := xt hf c19
          refine lv_iload hx hb dX9_sure_77 (lv_at hl 4 rfl) ?_
          exact x_iretI E hC hW hr hlk hQ dX9_sure_79 hf
        · have hf := xf hf c19
          refine lv_aload_n hx hb dX9_sure_41 rfl (lv_at hl 0 rfl) ?_
          refine lv_iload hx hb dX9_sure_42 (lv_at hl 3 rfl) ?_
          obtain ⟨r9, S11, g10, hf⟩ := clS hf
          refine x_Vr (k := 0) (As := [.int v5]) (rest := []) E hC hW hl.1 (c_X9_drawTimes v5 r9 S8 S11 g10) cv_X9_223 rfl (by decide) rfl rfl rfl ⟨Nat.le_of_ble_eq_true rfl, Nat.le_of_ble_eq_true rfl⟩ ⟨Nat.le_refl _, Nat.le_refl _⟩ (Nat.le_of_ble_eq_true rfl) dX9_sure_44 (fun H locs hW => ?_)
          refine lv_istore (lv' := [(4, .int r9), (0, .ref (L 0)), (2, .int a2), (3, .int r3), (5, .int v6), (6, .int v7)]) hx hb dX9_sure_47 hl (by decide) rfl (fun ls hl => ?_)
          refine lv_aload_n hx hb dX9_sure_49 rfl (lv_at hl 1 rfl) ?_
          refine x_getr (k := 0) (k' := 21) E hC hW fl_X9_40 (by decide) rfl rfl dX9_sure_50 ?_
          refine lv_aload_n hx hb dX9_sure_53 rfl (lv_at hl 1 rfl) ?_
          refine x_getr (k := 0) (k' := 13) E hC hW fl_X9_26 (by decide) rfl rfl dX9_sure_54 ?_
          refine lv_aload_n hx hb dX9_sure_57 rfl (lv_at hl 1 rfl) ?_
          refine x_getr (k := 0) (k' := 50) E hC hW fl_X9_74 (by decide) rfl rfl dX9_sure_58 ?_
          obtain ⟨r12, S14, g13, hf⟩ := clS hf
          refine x_Vr (k := 21) (As := [.ref (L 13), .ref (L 50)]) (rest := []) E hC hW hl.1 (c_X7_halfRank r12 S11 S14 g13) cv_X9_209 rfl (by decide) rfl rfl rfl ⟨Nat.le_of_ble_eq_true rfl, Nat.le_of_ble_eq_true rfl⟩ ⟨Nat.le_refl _, Nat.le_refl _⟩ (Nat.le_of_ble_eq_true rfl) dX9_sure_61 (fun H locs hW => ?_)
          refine lv_iload_n hx hb dX9_sure_64 rfl (lv_at hl 3 rfl) ?_
          refine jnS hf (fun (j : Int32 → Option (Int32 × Sg)) => ∀ (v15 : Int32), (j v15) = some (r, S') → ∀ (H : Heap) (locs : List Loc) (ls : Array Slot), lv_has ls 7 [(0, .ref (L 0)), (2, .int a2), (3, .int r3), (4, .int r9), (5, .int v15), (6, .int v7)] → Wd D cy L shC 52 S14 s H locs → W p l e (rmk 6 134) s m args below meth c H locs 0 0 Q (F0 m 71 ls [])) ?_ ?_
          · intro v15 hf H locs ls hl hW
            try dsimp only at hf
            obtain ⟨x16, ex16⟩ : ∃ z : Int32, z = (v7 + 1) := ⟨_, rfl⟩
            have hf := bvS hf ex16
            refine lv_iinc (v := x16) (lv' := [(6, .int x16), (0, .ref (L 0)), (2, .int a2), (3, .int r3), (4, .int r9), (5, .int v15)]) hx hb dX9_sure_71 hl (k := 5) rfl (by rw [ex16]; rfl) (by decide) rfl (fun ls hl => ?_)
            refine lv_goto (tgt := 35) hx hb dX9_sure_74 (by decide) ?_
            exact ih35 _ _ _ _ hf _ _ _ (lv_sub hl [1, 2, 3, 4, 5, 0] rfl) hW
          intro j71 J71 hf
          refine lv_icmp_ne (tgt := 71) hx hb dX9_sure_65 (by decide) (fun c18 => ?_) (fun c18 => ?_)
          · have hf := xf hf c18
            exact J71 _ hf _ _ _ (lv_sub hl [1, 2, 3, 0, 4, 5] rfl) hW
          · have hf := xt hf c18
            obtain ⟨x17, ex17⟩ : ∃ z : Int32, z = (v6 + 1) := ⟨_, rfl⟩
            have hf := bvS hf ex17
            refine lv_iinc (v := x17) (lv' := [(5, .int x17), (4, .int r9), (0, .ref (L 0)), (2, .int a2), (3, .int r3), (6, .int v7)]) hx hb dX9_sure_68 hl (k := 4) rfl (by rw [ex17]; rfl) (by decide) rfl (fun ls hl => ?_)
            exact J71 _ hf _ _ _ (lv_sub hl [2, 3, 4, 1, 0, 5] rfl) hW
    · have hf := xf hf c20
      refine lv_bipush (v := (-2)) hx hb dX9_sure_11 (by decide) ?_
      exact x_iretI E hC hW hr hlk hQ dX9_sure_13 hf
set_option maxRecDepth 100000 in
set_option maxHeartbeats 4000000 in
theorem c_X9_fillClasses {l : Launch} {D : va_G} {cy : Nat → ClassId} {L : Nat → Nat} {bA : Nat} (ks : Nat) (S S' : Sg) (hks : okS ks) (hf : f_X9_fillClasses ks S = some S') : MetX l D cy L shC 52 bA yX9_fillClasses cX9_fillClasses 4 none 1 21 [.ref (L 0), .ref (L ks)] none S S' := by
  refine x_met (own := RX9) (by decide) rfl (Nat.le_of_ble_eq_true rfl) ?_
  intro p e s m below meth c ls E hC hr hlk hl hW
  generalize hargs : ([.ref (L 0), .ref (L ks)] : List Value).toArray = args at E ⊢
  generalize hQ : MQ below (xQ D cy L shC 52 bA none S') args s 0 0 (AL L 52) = Q
  have hl : lv_has ls 4 [(0, .ref (L 0)), (1, .ref (L ks))] := hl
  have hx := E.1
  have hb := E.2.1
  have hts := E.2.2.2.2
  unfold f_X9_fillClasses at hf
  refine lv_iconst (v := 0) hx hb dX9_fillClasses_0 (by decide) ?_
  refine lv_istore_n (lv' := [(2, .int (0 : Int32)), (0, .ref (L 0)), (1, .ref (L ks))]) hx hb dX9_fillClasses_1 rfl hl (by decide) rfl (fun ls hl => ?_)
  refine wp2S (fun (v1 : Int32) (S2 : Sg) => ∀ (H : Heap) (locs : List Loc) (ls : Array Slot), lv_has ls 4 [(0, .ref (L 0)), (1, .ref (L ks)), (2, .int v1)] → Wd D cy L shC 52 S2 s H locs → W p l e (rmk 1 21) s m args below meth c H locs 0 0 Q (F0 m 2 ls [])) ?_ hf _ _ _ (lv_sub hl [1, 2, 0] rfl) hW
  · intro self2 ih2 v1 S2 hf H locs ls hl hW
    unfold X9_fillClasses_L2 at hf
    refine lv_iload_n hx hb dX9_fillClasses_2 rfl (lv_at hl 2 rfl) ?_
    refine lv_aload_n hx hb dX9_fillClasses_3 rfl (lv_at hl 0 rfl) ?_
    refine x_getr (k := 0) (k' := 1) E hC hW fl_X9_12 (by decide) rfl rfl dX9_fillClasses_4 ?_
    refine x_geti (k := 1) E hC hW fl_X9_107 (by decide) rfl rfl dX9_fillClasses_7 ?_
    refine lv_icmp_ge (tgt := 71) hx hb dX9_fillClasses_10 (by decide) (fun c21 => ?_) (fun c21 => ?_)
    · have hf := xt hf c21
      exact x_vretI E hC hW hr hlk hQ dX9_fillClasses_71 hf
    · have hf := xf hf c21
      refine lv_aload_n hx hb dX9_fillClasses_13 rfl (lv_at hl 0 rfl) ?_
      refine x_getr (k := 0) (k' := 51) E hC hW fl_X9_77 (by decide) rfl rfl dX9_fillClasses_14 ?_
      refine lv_iload_n hx hb dX9_fillClasses_17 rfl (lv_at hl 2 rfl) ?_
      refine lv_iload_n hx hb dX9_fillClasses_18 rfl (lv_at hl 2 rfl) ?_
      obtain ⟨hg3, hf⟩ := gdS hf
      refine x_iast (k := 51) E hC hW (by decide) rfl (inbS hg3) dX9_fillClasses_19 (fun H locs hW => ?_)
      obtain ⟨S4, eS4⟩ : ∃ z : Sg, z = si S2 51 (ix v1) v1 := ⟨_, rfl⟩
      have hW : Wd D cy L shC 52 S4 s H locs := by rw [eS4]; exact hW
      have hf := bvS hf eS4
      refine lv_iload_n hx hb dX9_fillClasses_20 rfl (lv_at hl 2 rfl) ?_
      refine lv_iconst (v := 1) hx hb dX9_fillClasses_21 (by decide) ?_
      refine lv_isub hx hb dX9_fillClasses_22 ?_
      refine lv_topi (fun x5 ex5 => ?_)
      have hf := bvS hf ex5
      refine lv_istore_n (lv' := [(3, .int x5), (0, .ref (L 0)), (1, .ref (L ks)), (2, .int v1)]) hx hb dX9_fillClasses_23 rfl hl (by decide) rfl (fun ls hl => ?_)
      refine wp2K hf (fun (v8 : Int32) (S9 : Sg) => ∀ (H : Heap) (locs : List Loc) (ls : Array Slot), lv_has ls 4 [(0, .ref (L 0)), (1, .ref (L ks)), (2, .int v1), (3, .int v8)] → Wd D cy L shC 52 S9 s H locs → W p l e (rmk 1 21) s m args below meth c H locs 0 0 Q (F0 m 24 ls [])) (fun (j : Sg → Option (Sg)) => ∀ (S6 : Sg), (j S6) = some S' → ∀ (H : Heap) (locs : List Loc) (ls : Array Slot), lv_has ls 4 [(0, .ref (L 0)), (1, .ref (L ks)), (2, .int v1)] → Wd D cy L shC 52 S6 s H locs → W p l e (rmk 1 21) s m args below meth c H locs 0 0 Q (F0 m 65 ls [])) ?_ ?_ _ _ _ (lv_sub hl [1, 2, 3, 0] rfl) hW
      · intro S6 hf H locs ls hl hW
        try dsimp only at hf
        obtain ⟨x7, ex7⟩ : ∃ z : Int32, z = (v1 + 1) := ⟨_, rfl⟩
        have hf := bvS hf ex7
        refine lv_iinc (v := x7) (lv' := [(2, .int x7), (0, .ref (L 0)), (1, .ref (L ks))]) hx hb dX9_fillClasses_65 hl (k := 2) rfl (by rw [ex7]; rfl) (by decide) rfl (fun ls hl => ?_)
        refine lv_goto (tgt := 2) hx hb dX9_fillClasses_68 (by decide) ?_
        exact ih2 _ _ hf _ _ _ (lv_sub hl [1, 2, 0] rfl) hW
      · intro k65 K65 self24 ih24 v8 S9 hf H locs ls hl hW
        unfold X9_fillClasses_L24 at hf
        refine lv_iload_n hx hb dX9_fillClasses_24 rfl (lv_at hl 3 rfl) ?_
        refine lv_if_lt (tgt := 65) hx hb dX9_fillClasses_25 (by decide) (fun c20 => ?_) (fun c20 => ?_)
        · have hf := xt hf c20
          exact K65 _ hf _ _ _ (lv_sub hl [0, 1, 2] rfl) hW
        · have hf := xf hf c20
          refine lv_aload_n hx hb dX9_fillClasses_28 rfl (lv_at hl 1 rfl) ?_
          refine lv_iload_n hx hb dX9_fillClasses_29 rfl (lv_at hl 2 rfl) ?_
          obtain ⟨r10, g11, hf⟩ := cl1S hf
          refine x_Vr (k := ks) (As := [.int v1]) (rest := []) E hC hW hl.1 (c_X6_has ks v1 r10 S9 hks g11) cv_X9_302 rfl hks.1 hks.2.1 rfl rfl ⟨Nat.le_of_ble_eq_true rfl, Nat.le_of_ble_eq_true rfl⟩ ⟨Nat.le_refl _, Nat.le_refl _⟩ (Nat.le_of_ble_eq_true rfl) dX9_fillClasses_30 (fun H locs hW => ?_)
          refine lv_if_eq (tgt := 65) hx hb dX9_fillClasses_33 (by decide) (fun c19 => ?_) (fun c19 => ?_)
          · have hf := xt hf c19
            exact K65 _ hf _ _ _ (lv_sub hl [0, 1, 2] rfl) hW
          · have hf := xf hf c19
            refine lv_aload_n hx hb dX9_fillClasses_36 rfl (lv_at hl 1 rfl) ?_
            refine x_getr (k := ks) (k' := (ks + 1)) E hC hW fl_X9_307 hks.1 hks.2.1 rfl dX9_fillClasses_37 ?_
            refine lv_iload_n hx hb dX9_fillClasses_40 rfl (lv_at hl 3 rfl) ?_
            obtain ⟨hg12, hf⟩ := gdS hf
            refine x_lald (k := (ks + 1)) E hC hW hks.2.2.1 hks.2.2.2 (inbS hg12) dX9_fillClasses_41 ?_
            refine lv_aload_n hx hb dX9_fillClasses_42 rfl (lv_at hl 1 rfl) ?_
            refine x_getr (k := ks) (k' := (ks + 1)) E hC hW fl_X9_307 hks.1 hks.2.1 rfl dX9_fillClasses_43 ?_
            refine lv_iload_n hx hb dX9_fillClasses_46 rfl (lv_at hl 2 rfl) ?_
            obtain ⟨hg13, hf⟩ := gdS hf
            refine x_lald (k := (ks + 1)) E hC hW hks.2.2.1 hks.2.2.2 (inbS hg13) dX9_fillClasses_47 ?_
            refine W.lcmp hx hb dX9_fillClasses_48 ?_
            refine jnS hf (fun (j : Sg → Option (Sg)) => ∀ (S14 : Sg), (j S14) = some S' → ∀ (H : Heap) (locs : List Loc) (ls : Array Slot), lv_has ls 4 [(0, .ref (L 0)), (1, .ref (L ks)), (2, .int v1), (3, .int v8)] → Wd D cy L shC 52 S14 s H locs → W p l e (rmk 1 21) s m args below meth c H locs 0 0 Q (F0 m 59 ls [])) ?_ ?_
            · intro S14 hf H locs ls hl hW
              try dsimp only at hf
              obtain ⟨x15, ex15⟩ : ∃ z : Int32, z = (v8 + (-1)) := ⟨_, rfl⟩
              have hf := bvS hf ex15
              refine lv_iinc (v := x15) (lv' := [(3, .int x15), (0, .ref (L 0)), (1, .ref (L ks)), (2, .int v1)]) hx hb dX9_fillClasses_59 hl (k := 3) rfl (by rw [ex15]; rfl) (by decide) rfl (fun ls hl => ?_)
              refine lv_goto (tgt := 24) hx hb dX9_fillClasses_62 (by decide) ?_
              exact ih24 _ _ hf _ _ _ (lv_sub hl [1, 2, 3, 0] rfl) hW
            intro j59 J59 hf
            refine lv_if_ne (tgt := 59) hx hb dX9_fillClasses_49 (by decide) (fun c18 => ?_) (fun c18 => ?_)
            · have hf := xf hf c18
              exact J59 _ hf _ _ _ (lv_sub hl [0, 1, 2, 3] rfl) hW
            · have hf := xt hf c18
              refine lv_aload_n hx hb dX9_fillClasses_52 rfl (lv_at hl 0 rfl) ?_
              refine x_getr (k := 0) (k' := 51) E hC hW fl_X9_77 (by decide) rfl rfl dX9_fillClasses_53 ?_
              refine lv_iload_n hx hb dX9_fillClasses_56 rfl (lv_at hl 2 rfl) ?_
              refine lv_iload_n hx hb dX9_fillClasses_57 rfl (lv_at hl 3 rfl) ?_
              obtain ⟨hg16, hf⟩ := gdS hf
              refine x_iast (k := 51) E hC hW (by decide) rfl (inbS hg16) dX9_fillClasses_58 (fun H locs hW => ?_)
              obtain ⟨S17, eS17⟩ : ∃ z : Sg, z = si S9 51 (ix v1) v8 := ⟨_, rfl⟩
              have hW : Wd D cy L shC 52 S17 s H locs := by rw [eS17]; exact hW
              have hf := bvS hf eS17
              exact J59 _ hf _ _ _ (lv_sub hl [0, 1, 2, 3] rfl) hW
