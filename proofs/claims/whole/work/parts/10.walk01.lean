set_option maxRecDepth 100000 in
set_option maxHeartbeats 4000000 in
theorem c_X9_isPrime {l : Launch} {D : va_G} {cy : Nat → ClassId} {L : Nat → Nat} {bA : Nat} (a0 : Int32) (r : Int32) (S : Sg)  (hf : f_X9_isPrime a0 = some r) : MetX l D cy L shC 52 bA yX9_isPrime cX9_isPrime 2 (some .boolean) 0 0 [.int a0] (some (.int r)) S S := by
  refine x_met (own := RX9) (by decide) rfl (Nat.le_of_ble_eq_true rfl) ?_
  intro p e s m below meth c ls E hC hr hlk hl hW
  generalize hargs : ([.int a0] : List Value).toArray = args at E ⊢
  generalize hQ : MQ below (xQ D cy L shC 52 bA (some (.int r)) S) args s 0 0 (AL L 52) = Q
  have hl : lv_has ls 2 [(0, .int a0)] := hl
  have hx := E.1
  have hb := E.2.1
  have hts := E.2.2.2.2
  unfold f_X9_isPrime at hf
  refine lv_iload_n hx hb dX9_isPrime_0 rfl (lv_at hl 0 rfl) ?_
  refine lv_iconst (v := 2) hx hb dX9_isPrime_1 (by decide) ?_
  refine lv_icmp_lt (tgt := 11) hx hb dX9_isPrime_2 (by decide) (fun c7 => ?_) (fun c7 => ?_)
  · have hf := xt hf c7
    refine lv_iconst (v := 0) hx hb dX9_isPrime_11 (by decide) ?_
    exact x_zretP E hC hW hr hlk hQ (by decide) dX9_isPrime_12 hf
  · have hf := xf hf c7
    refine lv_iload_n hx hb dX9_isPrime_5 rfl (lv_at hl 0 rfl) ?_
    refine lv_bipush (v := 97) hx hb dX9_isPrime_6 (by decide) ?_
    refine lv_icmp_le (tgt := 13) hx hb dX9_isPrime_8 (by decide) (fun c6 => ?_) (fun c6 => ?_)
    · have hf := xt hf c6
      refine lv_iconst (v := 2) hx hb dX9_isPrime_13 (by decide) ?_
      refine lv_istore_n (lv' := [(1, .int (2 : Int32)), (0, .int a0)]) hx hb dX9_isPrime_14 rfl hl (by decide) rfl (fun ls hl => ?_)
      refine wp1S (fun (v1 : Int32) => ∀ (H : Heap) (locs : List Loc) (ls : Array Slot), lv_has ls 2 [(0, .int a0), (1, .int v1)] → Wd D cy L shC 52 S s H locs → W p l e (rmk 0 0) s m args below meth c H locs 0 0 Q (F0 m 15 ls [])) ?_ hf _ _ _ (lv_sub hl [1, 0] rfl) hW
      · intro self15 ih15 v1 hf H locs ls hl hW
        unfold X9_isPrime_L15 at hf
        refine lv_iload_n hx hb dX9_isPrime_15 rfl (lv_at hl 1 rfl) ?_
        refine lv_iload_n hx hb dX9_isPrime_16 rfl (lv_at hl 1 rfl) ?_
        refine lv_imul hx hb dX9_isPrime_17 ?_
        refine lv_iload_n hx hb dX9_isPrime_18 rfl (lv_at hl 0 rfl) ?_
        refine lv_icmp_gt (tgt := 36) hx hb dX9_isPrime_19 (by decide) (fun c5 => ?_) (fun c5 => ?_)
        · have hf := xt hf c5
          refine lv_iconst (v := 1) hx hb dX9_isPrime_36 (by decide) ?_
          exact x_zretP E hC hW hr hlk hQ (by decide) dX9_isPrime_37 hf
        · have hf := xf hf c5
          refine lv_iload_n hx hb dX9_isPrime_22 rfl (lv_at hl 0 rfl) ?_
          refine lv_iload_n hx hb dX9_isPrime_23 rfl (lv_at hl 1 rfl) ?_
          obtain ⟨hg2, hf⟩ := gdS hf
          refine lv_irem hx hb dX9_isPrime_24 (nzS hg2) ?_
          refine lv_if_ne (tgt := 30) hx hb dX9_isPrime_25 (by decide) (fun c4 => ?_) (fun c4 => ?_)
          · have hf := xf hf c4
            obtain ⟨x3, ex3⟩ : ∃ z : Int32, z = (v1 + 1) := ⟨_, rfl⟩
            have hf := bvS hf ex3
            refine lv_iinc (v := x3) (lv' := [(1, .int x3), (0, .int a0)]) hx hb dX9_isPrime_30 hl (k := 1) rfl (by rw [ex3]; rfl) (by decide) rfl (fun ls hl => ?_)
            refine lv_goto (tgt := 15) hx hb dX9_isPrime_33 (by decide) ?_
            exact ih15 _ hf _ _ _ (lv_sub hl [1, 0] rfl) hW
          · have hf := xt hf c4
            refine lv_iconst (v := 0) hx hb dX9_isPrime_28 (by decide) ?_
            exact x_zretP E hC hW hr hlk hQ (by decide) dX9_isPrime_29 hf
    · have hf := xf hf c6
      refine lv_iconst (v := 0) hx hb dX9_isPrime_11 (by decide) ?_
      exact x_zretP E hC hW hr hlk hQ (by decide) dX9_isPrime_12 hf
set_option maxRecDepth 100000 in
set_option maxHeartbeats 4000000 in
theorem c_X9_field {l : Launch} {D : va_G} {cy : Nat → ClassId} {L : Nat → Nat} {bA : Nat} (a1 : Int32) (a2 : Int32) (r : Int32) (S S' : Sg)  (hf : f_X9_field a1 a2 S = some (r, S')) : MetX l D cy L shC 52 bA yX9_field cX9_field 4 (some .int) 1 21 [.ref (L 0), .int a1, .int a2] (some (.int r)) S S' := by
  refine x_met (own := RX9) (by decide) rfl (Nat.le_of_ble_eq_true rfl) ?_
  intro p e s m below meth c ls E hC hr hlk hl hW
  generalize hargs : ([.ref (L 0), .int a1, .int a2] : List Value).toArray = args at E ⊢
  generalize hQ : MQ below (xQ D cy L shC 52 bA (some (.int r)) S') args s 0 0 (AL L 52) = Q
  have hl : lv_has ls 4 [(0, .ref (L 0)), (1, .int a1), (2, .int a2)] := hl
  have hx := E.1
  have hb := E.2.1
  have hts := E.2.2.2.2
  unfold f_X9_field at hf
  refine lv_iload_n hx hb dX9_field_0 rfl (lv_at hl 1 rfl) ?_
  obtain ⟨r1, g2, hf⟩ := cl1S hf
  refine x_Sr (As := [.int a1]) (rest := []) E hC hW hl.1 (c_X9_isPrime a1 r1 S g2) cs_X9_82 rfl rfl ⟨Nat.le_of_ble_eq_true rfl, Nat.le_of_ble_eq_true rfl⟩ ⟨Nat.le_refl _, Nat.le_refl _⟩ (Nat.le_of_ble_eq_true rfl) dX9_field_1 (fun H locs hW => ?_)
  refine lv_if_eq (tgt := 18) hx hb dX9_field_4 (by decide) (fun c8 => ?_) (fun c8 => ?_)
  · have hf := xt hf c8
    refine lv_bipush (v := (-2)) hx hb dX9_field_18 (by decide) ?_
    exact x_iretI E hC hW hr hlk hQ dX9_field_20 hf
  · have hf := xf hf c8
    refine lv_iload_n hx hb dX9_field_7 rfl (lv_at hl 2 rfl) ?_
    refine lv_iconst (v := 1) hx hb dX9_field_8 (by decide) ?_
    refine lv_icmp_lt (tgt := 18) hx hb dX9_field_9 (by decide) (fun c7 => ?_) (fun c7 => ?_)
    · have hf := xt hf c7
      refine lv_bipush (v := (-2)) hx hb dX9_field_18 (by decide) ?_
      exact x_iretI E hC hW hr hlk hQ dX9_field_20 hf
    · have hf := xf hf c7
      refine lv_iload_n hx hb dX9_field_12 rfl (lv_at hl 2 rfl) ?_
      refine lv_bipush (v := 6) hx hb dX9_field_13 (by decide) ?_
      refine lv_icmp_le (tgt := 21) hx hb dX9_field_15 (by decide) (fun c6 => ?_) (fun c6 => ?_)
      · have hf := xt hf c6
        refine lv_aload_n hx hb dX9_field_21 rfl (lv_at hl 0 rfl) ?_
        refine x_getr (k := 0) (k' := 1) E hC hW fl_X9_12 (by decide) rfl rfl dX9_field_22 ?_
        refine x_geti (k := 1) E hC hW fl_X9_86 (by decide) rfl rfl dX9_field_25 ?_
        refine lv_topi (fun x3 ex3 => ?_)
        have hf := bvS hf ex3
        refine lv_istore_n (lv' := [(3, .int x3), (0, .ref (L 0)), (1, .int a1), (2, .int a2)]) hx hb dX9_field_28 rfl hl (by decide) rfl (fun ls hl => ?_)
        refine lv_aload_n hx hb dX9_field_29 rfl (lv_at hl 1 rfl) ?_
        refine x_getr (k := 0) (k' := 1) E hC hW fl_X9_12 (by decide) rfl rfl dX9_field_30 ?_
        refine lv_iload_n hx hb dX9_field_33 rfl (lv_at hl 2 rfl) ?_
        refine x_put (k := 1) E hC hW fl_X9_86 pl_2_0 (by decide) rfl rfl rfl rfl dX9_field_34 (fun H locs hW => ?_)
        obtain ⟨S4, eS4⟩ : ∃ z : Sg, z = si S 1 0 a1 := ⟨_, rfl⟩
        have hW : Wd D cy L shC 52 S4 s H locs := by rw [eS4]; exact hW
        have hf := bvS hf eS4
        refine lv_aload_n hx hb dX9_field_37 rfl (lv_at hl 1 rfl) ?_
        refine x_getr (k := 0) (k' := 1) E hC hW fl_X9_12 (by decide) rfl rfl dX9_field_38 ?_
        refine lv_iload_n hx hb dX9_field_41 rfl (lv_at hl 3 rfl) ?_
        refine x_put (k := 1) E hC hW fl_X9_90 pl_2_1 (by decide) rfl rfl rfl rfl dX9_field_42 (fun H locs hW => ?_)
        obtain ⟨S5, eS5⟩ : ∃ z : Sg, z = si S4 1 1 a2 := ⟨_, rfl⟩
        have hW : Wd D cy L shC 52 S5 s H locs := by rw [eS5]; exact hW
        have hf := bvS hf eS5
        refine lv_iload_n hx hb dX9_field_45 rfl (lv_at hl 0 rfl) ?_
        exact x_iretI E hC hW hr hlk hQ dX9_field_46 hf
      · have hf := xf hf c6
        refine lv_bipush (v := (-2)) hx hb dX9_field_18 (by decide) ?_
        exact x_iretI E hC hW hr hlk hQ dX9_field_20 hf
set_option maxRecDepth 100000 in
set_option maxHeartbeats 4000000 in
theorem c_X9_quotient {l : Launch} {D : va_G} {cy : Nat → ClassId} {L : Nat → Nat} {bA : Nat} (a0 : Int32) (a1 : Int32) (a2 : Int32) (r : Int32) (S : Sg)  (hf : f_X9_quotient a0 a1 a2 = some r) : MetX l D cy L shC 52 bA yX9_quotient cX9_quotient 4 (some .int) 0 0 [.int a0, .int a1, .int a2] (some (.int r)) S S := by
  refine x_met (own := RX9) (by decide) rfl (Nat.le_of_ble_eq_true rfl) ?_
  intro p e s m below meth c ls E hC hr hlk hl hW
  generalize hargs : ([.int a0, .int a1, .int a2] : List Value).toArray = args at E ⊢
  generalize hQ : MQ below (xQ D cy L shC 52 bA (some (.int r)) S) args s 0 0 (AL L 52) = Q
  have hl : lv_has ls 4 [(0, .int a0), (1, .int a1), (2, .int a2)] := hl
  have hx := E.1
  have hb := E.2.1
  have hts := E.2.2.2.2
  unfold f_X9_quotient at hf
  refine lv_iconst (v := 0) hx hb dX9_quotient_0 (by decide) ?_
  refine lv_istore_n (lv' := [(3, .int (0 : Int32)), (0, .int a0), (1, .int a1), (2, .int a2)]) hx hb dX9_quotient_1 rfl hl (by decide) rfl (fun ls hl => ?_)
  refine wp1S (fun (v1 : Int32) => ∀ (H : Heap) (locs : List Loc) (ls : Array Slot), lv_has ls 4 [(0, .int a0), (1, .int a1), (2, .int a2), (3, .int v1)] → Wd D cy L shC 52 S s H locs → W p l e (rmk 0 0) s m args below meth c H locs 0 0 Q (F0 m 2 ls [])) ?_ hf _ _ _ (lv_sub hl [1, 2, 3, 0] rfl) hW
  · intro self2 ih2 v1 hf H locs ls hl hW
    unfold X9_quotient_L2 at hf
    refine lv_iload_n hx hb dX9_quotient_2 rfl (lv_at hl 3 rfl) ?_
    refine lv_iload_n hx hb dX9_quotient_3 rfl (lv_at hl 2 rfl) ?_
    refine lv_iconst (v := 1) hx hb dX9_quotient_4 (by decide) ?_
    refine lv_isub hx hb dX9_quotient_5 ?_
    refine lv_icmp_ge (tgt := 24) hx hb dX9_quotient_6 (by decide) (fun c5 => ?_) (fun c5 => ?_)
    · have hf := xt hf c5
      refine lv_iload_n hx hb dX9_quotient_24 rfl (lv_at hl 3 rfl) ?_
      exact x_iretP E hC hW hr hlk hQ dX9_quotient_25 hf
    · have hf := xf hf c5
      refine lv_iload_n hx hb dX9_quotient_9 rfl (lv_at hl 3 rfl) ?_
      refine lv_iload_n hx hb dX9_quotient_10 rfl (lv_at hl 1 rfl) ?_
      refine lv_imul hx hb dX9_quotient_11 ?_
      refine lv_iload_n hx hb dX9_quotient_12 rfl (lv_at hl 2 rfl) ?_
      obtain ⟨hg2, hf⟩ := gdS hf
      refine lv_irem hx hb dX9_quotient_13 (nzS hg2) ?_
      refine lv_iload_n hx hb dX9_quotient_14 rfl (lv_at hl 0 rfl) ?_
      refine lv_icmp_eq (tgt := 24) hx hb dX9_quotient_15 (by decide) (fun c4 => ?_) (fun c4 => ?_)
      · have hf := xt hf c4
        refine lv_iload_n hx hb dX9_quotient_24 rfl (lv_at hl 3 rfl) ?_
        exact x_iretP E hC hW hr hlk hQ dX9_quotient_25 hf
      · have hf := xf hf c4
        obtain ⟨x3, ex3⟩ : ∃ z : Int32, z = (v1 + 1) := ⟨_, rfl⟩
        have hf := bvS hf ex3
        refine lv_iinc (v := x3) (lv' := [(3, .int x3), (0, .int a0), (1, .int a1), (2, .int a2)]) hx hb dX9_quotient_18 hl (k := 3) rfl (by rw [ex3]; rfl) (by decide) rfl (fun ls hl => ?_)
        refine lv_goto (tgt := 2) hx hb dX9_quotient_21 (by decide) ?_
        exact ih2 _ hf _ _ _ (lv_sub hl [1, 2, 3, 0] rfl) hW
set_option maxRecDepth 100000 in
set_option maxHeartbeats 4000000 in
theorem c_X9_restOf {l : Launch} {D : va_G} {cy : Nat → ClassId} {L : Nat → Nat} {bA : Nat} (a0 : Int64) (a2 : Int32) (r : Int32) (S : Sg)  (hf : f_X9_restOf a0 a2 = some r) : MetX l D cy L shC 52 bA yX9_restOf cX9_restOf 4 (some .int) 0 0 [.long a0, .int a2] (some (.int r)) S S := by
  refine x_met (own := RX9) (by decide) rfl (Nat.le_of_ble_eq_true rfl) ?_
  intro p e s m below meth c ls E hC hr hlk hl hW
  generalize hargs : ([.long a0, .int a2] : List Value).toArray = args at E ⊢
  generalize hQ : MQ below (xQ D cy L shC 52 bA (some (.int r)) S) args s 0 0 (AL L 52) = Q
  have hl : lv_has ls 4 [(0, .long a0), (2, .int a2)] := hl
  have hx := E.1
  have hb := E.2.1
  have hts := E.2.2.2.2
  unfold f_X9_restOf at hf
  refine lv_lload_n hx hb dX9_restOf_0 rfl (lv_at hl 0 rfl) ?_
  refine lv_iload_n hx hb dX9_restOf_1 rfl (lv_at hl 1 rfl) ?_
  refine lv_i2l hx hb dX9_restOf_2 rfl ?_
  obtain ⟨hg1, hf⟩ := gdS hf
  refine lv_lrem hx hb dX9_restOf_3 (nzlS hg1) ?_
  refine lv_l2i hx hb dX9_restOf_4 rfl ?_
  refine lv_topi (fun x2 ex2 => ?_)
  have hf := bvS hf ex2
  refine lv_istore_n (lv' := [(3, .int x2), (0, .long a0), (2, .int a2)]) hx hb dX9_restOf_5 rfl hl (by decide) rfl (fun ls hl => ?_)
  refine lv_iload_n hx hb dX9_restOf_6 rfl (lv_at hl 0 rfl) ?_
  refine lv_if_ge (tgt := 16) hx hb dX9_restOf_7 (by decide) (fun c3 => ?_) (fun c3 => ?_)
  · have hf := xt hf c3
    refine lv_iload_n hx hb dX9_restOf_16 rfl (lv_at hl 0 rfl) ?_
    exact x_iretP E hC hW hr hlk hQ dX9_restOf_17 hf
  · have hf := xf hf c3
    refine lv_iload_n hx hb dX9_restOf_10 rfl (lv_at hl 0 rfl) ?_
    refine lv_iload_n hx hb dX9_restOf_11 rfl (lv_at hl 2 rfl) ?_
    refine lv_iadd hx hb dX9_restOf_12 ?_
    refine lv_goto (tgt := 17) hx hb dX9_restOf_13 (by decide) ?_
    exact x_iretP E hC hW hr hlk hQ dX9_restOf_17 hf
set_option maxRecDepth 100000 in
set_option maxHeartbeats 4000000 in
theorem c_X9_divided {l : Launch} {D : va_G} {cy : Nat → ClassId} {L : Nat → Nat} {bA : Nat} (a1 : Int32) (a2 : Int32) (r : Int32) (S : Sg)  (hf : f_X9_divided a1 a2 S = some r) : MetX l D cy L shC 52 bA yX9_divided cX9_divided 4 (some .int) 1 23 [.ref (L 0), .int a1, .int a2] (some (.int r)) S S := by
  refine x_met (own := RX9) (by decide) rfl (Nat.le_of_ble_eq_true rfl) ?_
  intro p e s m below meth c ls E hC hr hlk hl hW
  generalize hargs : ([.ref (L 0), .int a1, .int a2] : List Value).toArray = args at E ⊢
  generalize hQ : MQ below (xQ D cy L shC 52 bA (some (.int r)) S) args s 0 0 (AL L 52) = Q
  have hl : lv_has ls 4 [(0, .ref (L 0)), (1, .int a1), (2, .int a2)] := hl
  have hx := E.1
  have hb := E.2.1
  have hts := E.2.2.2.2
  unfold f_X9_divided at hf
  refine lv_iload_n hx hb dX9_divided_0 rfl (lv_at hl 2 rfl) ?_
  refine lv_i2l hx hb dX9_divided_1 rfl ?_
  refine lv_aload_n hx hb dX9_divided_2 rfl (lv_at hl 0 rfl) ?_
  refine x_getr (k := 0) (k' := 1) E hC hW fl_X9_12 (by decide) rfl rfl dX9_divided_3 ?_
  refine x_geti (k := 1) E hC hW fl_X9_86 (by decide) rfl rfl dX9_divided_6 ?_
  obtain ⟨r1, g2, hf⟩ := cl1S hf
  refine x_Sr (As := [.long a2.toInt64, .int (S.1 1 0)]) (rest := []) E hC hW hl.1 (c_X9_restOf a2.toInt64 (S.1 1 0) r1 S g2) cs_X9_93 rfl rfl ⟨Nat.le_of_ble_eq_true rfl, Nat.le_of_ble_eq_true rfl⟩ ⟨Nat.le_refl _, Nat.le_refl _⟩ (Nat.le_of_ble_eq_true rfl) dX9_divided_9 (fun H locs hW => ?_)
  refine lv_istore_n (lv' := [(3, .int r1), (0, .ref (L 0)), (1, .int a1), (2, .int a2)]) hx hb dX9_divided_12 rfl hl (by decide) rfl (fun ls hl => ?_)
  refine lv_iload_n hx hb dX9_divided_13 rfl (lv_at hl 0 rfl) ?_
  refine lv_if_ne (tgt := 22) hx hb dX9_divided_14 (by decide) (fun c7 => ?_) (fun c7 => ?_)
  · have hf := xf hf c7
    refine lv_iload_n hx hb dX9_divided_22 rfl (lv_at hl 2 rfl) ?_
    refine lv_i2l hx hb dX9_divided_23 rfl ?_
    refine lv_aload_n hx hb dX9_divided_24 rfl (lv_at hl 1 rfl) ?_
    refine x_getr (k := 0) (k' := 1) E hC hW fl_X9_12 (by decide) rfl rfl dX9_divided_25 ?_
    refine x_geti (k := 1) E hC hW fl_X9_86 (by decide) rfl rfl dX9_divided_28 ?_
    obtain ⟨r3, g4, hf⟩ := cl1S hf
    refine x_Sr (As := [.long a1.toInt64, .int (S.1 1 0)]) (rest := []) E hC hW hl.1 (c_X9_restOf a1.toInt64 (S.1 1 0) r3 S g4) cs_X9_93 rfl rfl ⟨Nat.le_of_ble_eq_true rfl, Nat.le_of_ble_eq_true rfl⟩ ⟨Nat.le_refl _, Nat.le_refl _⟩ (Nat.le_of_ble_eq_true rfl) dX9_divided_31 (fun H locs hW => ?_)
    refine lv_iload_n hx hb dX9_divided_34 rfl (lv_at hl 0 rfl) ?_
    refine lv_aload_n hx hb dX9_divided_35 rfl (lv_at hl 1 rfl) ?_
    refine x_getr (k := 0) (k' := 1) E hC hW fl_X9_12 (by decide) rfl rfl dX9_divided_36 ?_
    refine x_geti (k := 1) E hC hW fl_X9_86 (by decide) rfl rfl dX9_divided_39 ?_
    obtain ⟨r5, g6, hf⟩ := cl1S hf
    refine x_Sr (As := [.int r3, .int r1, .int (S.1 1 0)]) (rest := []) E hC hW hl.1 (c_X9_quotient r3 r1 (S.1 1 0) r5 S g6) cs_X9_97 rfl rfl ⟨Nat.le_of_ble_eq_true rfl, Nat.le_of_ble_eq_true rfl⟩ ⟨Nat.le_refl _, Nat.le_refl _⟩ (Nat.le_of_ble_eq_true rfl) dX9_divided_42 (fun H locs hW => ?_)
    exact x_iretP E hC hW hr hlk hQ dX9_divided_45 hf
  · have hf := xt hf c7
    refine lv_bipush (v := (-2)) hx hb dX9_divided_17 (by decide) ?_
    refine lv_goto (tgt := 45) hx hb dX9_divided_19 (by decide) ?_
    exact x_iretP E hC hW hr hlk hQ dX9_divided_45 hf
set_option maxRecDepth 100000 in
set_option maxHeartbeats 4000000 in
theorem c_X9_isKind {l : Launch} {D : va_G} {cy : Nat → ClassId} {L : Nat → Nat} {bA : Nat} (a0 : Int32) (r : Int32) (S : Sg)  (hf : f_X9_isKind a0 = some r) : MetX l D cy L shC 52 bA yX9_isKind cX9_isKind 1 (some .boolean) 0 0 [.int a0] (some (.int r)) S S := by
  refine x_met (own := RX9) (by decide) rfl (Nat.le_of_ble_eq_true rfl) ?_
  intro p e s m below meth c ls E hC hr hlk hl hW
  generalize hargs : ([.int a0] : List Value).toArray = args at E ⊢
  generalize hQ : MQ below (xQ D cy L shC 52 bA (some (.int r)) S) args s 0 0 (AL L 52) = Q
  have hl : lv_has ls 1 [(0, .int a0)] := hl
  have hx := E.1
  have hb := E.2.1
  have hts := E.2.2.2.2
  unfold f_X9_isKind at hf
  refine lv_iload_n hx hb dX9_isKind_0 rfl (lv_at hl 0 rfl) ?_
  refine lv_if_lt (tgt := 16) hx hb dX9_isKind_1 (by decide) (fun c2 => ?_) (fun c2 => ?_)
  · have hf := xt hf c2
    refine lv_iconst (v := 0) hx hb dX9_isKind_16 (by decide) ?_
    exact x_zretP E hC hW hr hlk hQ (by decide) dX9_isKind_17 hf
  · have hf := xf hf c2
    refine lv_iload_n hx hb dX9_isKind_4 rfl (lv_at hl 0 rfl) ?_
    refine x_gets E hC hW ml_above_X9_334 dX9_isKind_5 ?_
    refine x_tlen E hC hW dX9_isKind_8 ?_
    refine lv_icmp_ge (tgt := 16) hx hb dX9_isKind_9 (by decide) (fun c1 => ?_) (fun c1 => ?_)
    · have hf := xt hf c1
      refine lv_iconst (v := 0) hx hb dX9_isKind_16 (by decide) ?_
      exact x_zretP E hC hW hr hlk hQ (by decide) dX9_isKind_17 hf
    · have hf := xf hf c1
      refine lv_iconst (v := 1) hx hb dX9_isKind_12 (by decide) ?_
      refine lv_goto (tgt := 17) hx hb dX9_isKind_13 (by decide) ?_
      exact x_zretP E hC hW hr hlk hQ (by decide) dX9_isKind_17 hf
set_option maxRecDepth 100000 in
set_option maxHeartbeats 4000000 in
theorem c_X9_isWeight {l : Launch} {D : va_G} {cy : Nat → ClassId} {L : Nat → Nat} {bA : Nat} (a0 : Int32) (r : Int32) (S : Sg)  (hf : f_X9_isWeight a0 = some r) : MetX l D cy L shC 52 bA yX9_isWeight cX9_isWeight 1 (some .boolean) 0 0 [.int a0] (some (.int r)) S S := by
  refine x_met (own := RX9) (by decide) rfl (Nat.le_of_ble_eq_true rfl) ?_
  intro p e s m below meth c ls E hC hr hlk hl hW
  generalize hargs : ([.int a0] : List Value).toArray = args at E ⊢
  generalize hQ : MQ below (xQ D cy L shC 52 bA (some (.int r)) S) args s 0 0 (AL L 52) = Q
  have hl : lv_has ls 1 [(0, .int a0)] := hl
  have hx := E.1
  have hb := E.2.1
  have hts := E.2.2.2.2
  unfold f_X9_isWeight at hf
  refine lv_iload_n hx hb dX9_isWeight_0 rfl (lv_at hl 0 rfl) ?_
  refine lv_if_lt (tgt := 15) hx hb dX9_isWeight_1 (by decide) (fun c2 => ?_) (fun c2 => ?_)
  · have hf := xt hf c2
    refine lv_iconst (v := 0) hx hb dX9_isWeight_15 (by decide) ?_
    exact x_zretP E hC hW hr hlk hQ (by decide) dX9_isWeight_16 hf
  · have hf := xf hf c2
    refine lv_iload_n hx hb dX9_isWeight_4 rfl (lv_at hl 0 rfl) ?_
    refine lv_sipush (v := 999) hx hb dX9_isWeight_5 (by decide) ?_
    refine lv_icmp_gt (tgt := 15) hx hb dX9_isWeight_8 (by decide) (fun c1 => ?_) (fun c1 => ?_)
    · have hf := xt hf c1
      refine lv_iconst (v := 0) hx hb dX9_isWeight_15 (by decide) ?_
      exact x_zretP E hC hW hr hlk hQ (by decide) dX9_isWeight_16 hf
    · have hf := xf hf c1
      refine lv_iconst (v := 1) hx hb dX9_isWeight_11 (by decide) ?_
      refine lv_goto (tgt := 16) hx hb dX9_isWeight_12 (by decide) ?_
      exact x_zretP E hC hW hr hlk hQ (by decide) dX9_isWeight_16 hf
set_option maxRecDepth 100000 in
set_option maxHeartbeats 4000000 in
theorem c_X2_append {l : Launch} {D : va_G} {cy : Nat → ClassId} {L : Nat → Nat} {bA : Nat} (a1 : Int32) (a2 : Int32) (r : Int32) (S S' : Sg)  (hf : f_X2_append a1 a2 S = some (r, S')) : MetX l D cy L shC 52 bA yX2_append cX2_append 5 (some .int) 0 0 [.ref (L 1), .int a1, .int a2] (some (.int r)) S S' := by
  refine x_met (own := RX2) (by decide) rfl (Nat.le_of_ble_eq_true rfl) ?_
  intro p e s m below meth c ls E hC hr hlk hl hW
  generalize hargs : ([.ref (L 1), .int a1, .int a2] : List Value).toArray = args at E ⊢
  generalize hQ : MQ below (xQ D cy L shC 52 bA (some (.int r)) S') args s 0 0 (AL L 52) = Q
  have hl : lv_has ls 5 [(0, .ref (L 1)), (1, .int a1), (2, .int a2)] := hl
  have hx := E.1
  have hb := E.2.1
  have hts := E.2.2.2.2
  unfold f_X2_append at hf
  refine lv_aload_n hx hb dX2_append_0 rfl (lv_at hl 0 rfl) ?_
  refine x_geti (k := 1) E hC hW fl_X2_18 (by decide) rfl rfl dX2_append_1 ?_
  refine lv_topi (fun x1 ex1 => ?_)
  have hf := bvS hf ex1
  refine lv_istore_n (lv' := [(3, .int x1), (0, .ref (L 1)), (1, .int a1), (2, .int a2)]) hx hb dX2_append_4 rfl hl (by decide) rfl (fun ls hl => ?_)
  refine lv_aload_n hx hb dX2_append_5 rfl (lv_at hl 1 rfl) ?_
  refine x_getr (k := 1) (k' := 2) E hC hW fl_X2_21 (by decide) rfl rfl dX2_append_6 ?_
  refine lv_iload_n hx hb dX2_append_9 rfl (lv_at hl 0 rfl) ?_
  refine lv_iload_n hx hb dX2_append_10 rfl (lv_at hl 2 rfl) ?_
  obtain ⟨hg2, hf⟩ := gdS hf
  refine x_iast (k := 2) E hC hW (by decide) rfl (inbS hg2) dX2_append_11 (fun H locs hW => ?_)
  obtain ⟨S3, eS3⟩ : ∃ z : Sg, z = si S 2 (ix x1) a1 := ⟨_, rfl⟩
  have hW : Wd D cy L shC 52 S3 s H locs := by rw [eS3]; exact hW
  have hf := bvS hf eS3
  refine lv_aload_n hx hb dX2_append_12 rfl (lv_at hl 1 rfl) ?_
  refine x_getr (k := 1) (k' := 3) E hC hW fl_X2_25 (by decide) rfl rfl dX2_append_13 ?_
  refine lv_iload_n hx hb dX2_append_16 rfl (lv_at hl 0 rfl) ?_
  refine lv_iload_n hx hb dX2_append_17 rfl (lv_at hl 3 rfl) ?_
  obtain ⟨hg4, hf⟩ := gdS hf
  refine x_iast (k := 3) E hC hW (by decide) rfl (inbS hg4) dX2_append_18 (fun H locs hW => ?_)
  obtain ⟨S5, eS5⟩ : ∃ z : Sg, z = si S3 3 (ix x1) a2 := ⟨_, rfl⟩
  have hW : Wd D cy L shC 52 S5 s H locs := by rw [eS5]; exact hW
  have hf := bvS hf eS5
  refine lv_aload_n hx hb dX2_append_19 rfl (lv_at hl 1 rfl) ?_
  refine x_getr (k := 1) (k' := 4) E hC hW fl_X2_28 (by decide) rfl rfl dX2_append_20 ?_
  refine lv_iload_n hx hb dX2_append_23 rfl (lv_at hl 0 rfl) ?_
  refine lv_lconst (v := 0) hx hb dX2_append_24 (by decide) ?_
  obtain ⟨hg6, hf⟩ := gdS hf
  refine x_last (k := 4) E hC hW (by decide) rfl (inbS hg6) dX2_append_25 (fun H locs hW => ?_)
  obtain ⟨S7, eS7⟩ : ∃ z : Sg, z = sl S5 4 (ix x1) (0 : Int64) := ⟨_, rfl⟩
  have hW : Wd D cy L shC 52 S7 s H locs := by rw [eS7]; exact hW
  have hf := bvS hf eS7
  refine lv_iconst (v := 0) hx hb dX2_append_26 (by decide) ?_
  refine lv_istore (lv' := [(4, .int (0 : Int32)), (3, .int x1), (0, .ref (L 1)), (1, .int a1), (2, .int a2)]) hx hb dX2_append_27 hl (by decide) rfl (fun ls hl => ?_)
  refine wp2K hf (fun (v10 : Int32) (S11 : Sg) => ∀ (H : Heap) (locs : List Loc) (ls : Array Slot), lv_has ls 5 [(0, .ref (L 1)), (3, .int x1), (4, .int v10)] → Wd D cy L shC 52 S11 s H locs → W p l e (rmk 0 0) s m args below meth c H locs 0 0 Q (F0 m 29 ls [])) (fun (j : Sg → Option (Int32 × Sg)) => ∀ (S8 : Sg), (j S8) = some (r, S') → ∀ (H : Heap) (locs : List Loc) (ls : Array Slot), lv_has ls 5 [(0, .ref (L 1)), (3, .int x1)] → Wd D cy L shC 52 S8 s H locs → W p l e (rmk 0 0) s m args below meth c H locs 0 0 Q (F0 m 55 ls [])) ?_ ?_ _ _ _ (lv_sub hl [2, 1, 0] rfl) hW
  · intro S8 hf H locs ls hl hW
    try dsimp only at hf
    refine lv_aload_n hx hb dX2_append_55 rfl (lv_at hl 0 rfl) ?_
    refine lv_dup hx hb dX2_append_56 rfl ?_
    refine x_geti (k := 1) E hC hW fl_X2_18 (by decide) rfl rfl dX2_append_57 ?_
    refine lv_iconst (v := 1) hx hb dX2_append_60 (by decide) ?_
    refine lv_iadd hx hb dX2_append_61 ?_
    refine x_put (k := 1) E hC hW fl_X2_18 pl_2_2 (by decide) rfl rfl rfl rfl dX2_append_62 (fun H locs hW => ?_)
    obtain ⟨S9, eS9⟩ : ∃ z : Sg, z = si S8 1 2 ((S8.1 1 2) + (1 : Int32)) := ⟨_, rfl⟩
    have hW : Wd D cy L shC 52 S9 s H locs := by rw [eS9]; exact hW
    have hf := bvS hf eS9
    refine lv_iload_n hx hb dX2_append_65 rfl (lv_at hl 1 rfl) ?_
    exact x_iretI E hC hW hr hlk hQ dX2_append_66 hf
  · intro k55 K55 self29 ih29 v10 S11 hf H locs ls hl hW
    unfold X2_append_L29 at hf
    refine lv_iload hx hb dX2_append_29 (lv_at hl 2 rfl) ?_
    refine lv_bipush (v := 12) hx hb dX2_append_31 (by decide) ?_
    refine lv_icmp_ge (tgt := 55) hx hb dX2_append_33 (by decide) (fun c15 => ?_) (fun c15 => ?_)
    · have hf := xt hf c15
      exact K55 _ hf _ _ _ (lv_sub hl [0, 1] rfl) hW
    · have hf := xf hf c15
      refine lv_aload_n hx hb dX2_append_36 rfl (lv_at hl 0 rfl) ?_
      refine x_getr (k := 1) (k' := 5) E hC hW fl_X2_32 (by decide) rfl rfl dX2_append_37 ?_
      refine lv_iload_n hx hb dX2_append_40 rfl (lv_at hl 1 rfl) ?_
      refine lv_bipush (v := 12) hx hb dX2_append_41 (by decide) ?_
      refine lv_imul hx hb dX2_append_43 ?_
      refine lv_iload hx hb dX2_append_44 (lv_at hl 2 rfl) ?_
      refine lv_iadd hx hb dX2_append_46 ?_
      refine lv_iconst (v := 0) hx hb dX2_append_47 (by decide) ?_
      obtain ⟨hg12, hf⟩ := gdS hf
      refine x_iast (k := 5) E hC hW (by decide) rfl (inbS hg12) dX2_append_48 (fun H locs hW => ?_)
      obtain ⟨S13, eS13⟩ : ∃ z : Sg, z = si S11 5 (ix ((x1 * (12 : Int32)) + v10)) (0 : Int32) := ⟨_, rfl⟩
      have hW : Wd D cy L shC 52 S13 s H locs := by rw [eS13]; exact hW
      have hf := bvS hf eS13
      obtain ⟨x14, ex14⟩ : ∃ z : Int32, z = (v10 + 1) := ⟨_, rfl⟩
      have hf := bvS hf ex14
      refine lv_iinc (v := x14) (lv' := [(4, .int x14), (0, .ref (L 1)), (3, .int x1)]) hx hb dX2_append_49 hl (k := 2) rfl (by rw [ex14]; rfl) (by decide) rfl (fun ls hl => ?_)
      refine lv_goto (tgt := 29) hx hb dX2_append_52 (by decide) ?_
      exact ih29 _ _ hf _ _ _ (lv_sub hl [1, 2, 0] rfl) hW
set_option maxRecDepth 100000 in
set_option maxHeartbeats 4000000 in
theorem c_X9_pair {l : Launch} {D : va_G} {cy : Nat → ClassId} {L : Nat → Nat} {bA : Nat} (a1 : Int32) (a2 : Int32) (r : Int32) (S S' : Sg)  (hf : f_X9_pair a1 a2 S = some (r, S')) : MetX l D cy L shC 52 bA yX9_pair cX9_pair 3 (some .int) 1 24 [.ref (L 0), .int a1, .int a2] (some (.int r)) S S' := by
  refine x_met (own := RX9) (by decide) rfl (Nat.le_of_ble_eq_true rfl) ?_
  intro p e s m below meth c ls E hC hr hlk hl hW
  generalize hargs : ([.ref (L 0), .int a1, .int a2] : List Value).toArray = args at E ⊢
  generalize hQ : MQ below (xQ D cy L shC 52 bA (some (.int r)) S') args s 0 0 (AL L 52) = Q
  have hl : lv_has ls 3 [(0, .ref (L 0)), (1, .int a1), (2, .int a2)] := hl
  have hx := E.1
  have hb := E.2.1
  have hts := E.2.2.2.2
  unfold f_X9_pair at hf
  refine lv_iload_n hx hb dX9_pair_0 rfl (lv_at hl 1 rfl) ?_
  obtain ⟨r1, g2, hf⟩ := cl1S hf
  refine x_Sr (As := [.int a1]) (rest := []) E hC hW hl.1 (c_X9_isKind a1 r1 S g2) cs_X9_101 rfl rfl ⟨Nat.le_of_ble_eq_true rfl, Nat.le_of_ble_eq_true rfl⟩ ⟨Nat.le_refl _, Nat.le_refl _⟩ (Nat.le_of_ble_eq_true rfl) dX9_pair_1 (fun H locs hW => ?_)
  refine lv_if_eq (tgt := 14) hx hb dX9_pair_4 (by decide) (fun c10 => ?_) (fun c10 => ?_)
  · have hf := xt hf c10
    refine lv_bipush (v := (-2)) hx hb dX9_pair_14 (by decide) ?_
    exact x_iretI E hC hW hr hlk hQ dX9_pair_16 hf
  · have hf := xf hf c10
    refine lv_iload_n hx hb dX9_pair_7 rfl (lv_at hl 2 rfl) ?_
    obtain ⟨r3, g4, hf⟩ := cl1S hf
    refine x_Sr (As := [.int a2]) (rest := []) E hC hW hl.1 (c_X9_isWeight a2 r3 S g4) cs_X9_104 rfl rfl ⟨Nat.le_of_ble_eq_true rfl, Nat.le_of_ble_eq_true rfl⟩ ⟨Nat.le_refl _, Nat.le_refl _⟩ (Nat.le_of_ble_eq_true rfl) dX9_pair_8 (fun H locs hW => ?_)
    refine lv_if_ne (tgt := 17) hx hb dX9_pair_11 (by decide) (fun c9 => ?_) (fun c9 => ?_)
    · have hf := xf hf c9
      refine lv_aload_n hx hb dX9_pair_17 rfl (lv_at hl 0 rfl) ?_
      refine x_getr (k := 0) (k' := 1) E hC hW fl_X9_12 (by decide) rfl rfl dX9_pair_18 ?_
      refine x_geti (k := 1) E hC hW fl_X9_107 (by decide) rfl rfl dX9_pair_21 ?_
      refine lv_bipush (v := 10) hx hb dX9_pair_24 (by decide) ?_
      refine lv_icmp_lt (tgt := 32) hx hb dX9_pair_26 (by decide) (fun c8 => ?_) (fun c8 => ?_)
      · have hf := xt hf c8
        refine lv_aload_n hx hb dX9_pair_32 rfl (lv_at hl 0 rfl) ?_
        refine x_getr (k := 0) (k' := 1) E hC hW fl_X9_12 (by decide) rfl rfl dX9_pair_33 ?_
        refine lv_iload_n hx hb dX9_pair_36 rfl (lv_at hl 1 rfl) ?_
        refine lv_iload_n hx hb dX9_pair_37 rfl (lv_at hl 2 rfl) ?_
        obtain ⟨r5, S7, g6, hf⟩ := clS hf
        refine x_Vr (k := 1) (As := [.int a1, .int a2]) (rest := []) E hC hW hl.1 (c_X2_append a1 a2 r5 S S7 g6) cv_X9_110 rfl (by decide) rfl rfl rfl ⟨Nat.le_of_ble_eq_true rfl, Nat.le_of_ble_eq_true rfl⟩ ⟨Nat.le_refl _, Nat.le_refl _⟩ (Nat.le_of_ble_eq_true rfl) dX9_pair_38 (fun H locs hW => ?_)
        exact x_iretI E hC hW hr hlk hQ dX9_pair_41 hf
      · have hf := xf hf c8
        refine lv_bipush (v := (-4)) hx hb dX9_pair_29 (by decide) ?_
        exact x_iretI E hC hW hr hlk hQ dX9_pair_31 hf
    · have hf := xt hf c9
      refine lv_bipush (v := (-2)) hx hb dX9_pair_14 (by decide) ?_
      exact x_iretI E hC hW hr hlk hQ dX9_pair_16 hf
set_option maxRecDepth 100000 in
set_option maxHeartbeats 4000000 in
theorem c_X9_isBit {l : Launch} {D : va_G} {cy : Nat → ClassId} {L : Nat → Nat} {bA : Nat} (a0 : Int32) (r : Int32) (S : Sg)  (hf : f_X9_isBit a0 = some r) : MetX l D cy L shC 52 bA yX9_isBit cX9_isBit 1 (some .boolean) 0 0 [.int a0] (some (.int r)) S S := by
  refine x_met (own := RX9) (by decide) rfl (Nat.le_of_ble_eq_true rfl) ?_
  intro p e s m below meth c ls E hC hr hlk hl hW
  generalize hargs : ([.int a0] : List Value).toArray = args at E ⊢
  generalize hQ : MQ below (xQ D cy L shC 52 bA (some (.int r)) S) args s 0 0 (AL L 52) = Q
  have hl : lv_has ls 1 [(0, .int a0)] := hl
  have hx := E.1
  have hb := E.2.1
  have hts := E.2.2.2.2
  unfold f_X9_isBit at hf
  refine lv_iload_n hx hb dX9_isBit_0 rfl (lv_at hl 0 rfl) ?_
  refine lv_if_eq (tgt := 9) hx hb dX9_isBit_1 (by decide) (fun c2 => ?_) (fun c2 => ?_)
  · have hf := xt hf c2
    refine lv_iconst (v := 1) hx hb dX9_isBit_9 (by decide) ?_
    refine lv_goto (tgt := 14) hx hb dX9_isBit_10 (by decide) ?_
    exact x_zretP E hC hW hr hlk hQ (by decide) dX9_isBit_14 hf
  · have hf := xf hf c2
    refine lv_iload_n hx hb dX9_isBit_4 rfl (lv_at hl 0 rfl) ?_
    refine lv_iconst (v := 1) hx hb dX9_isBit_5 (by decide) ?_
    refine lv_icmp_ne (tgt := 13) hx hb dX9_isBit_6 (by decide) (fun c1 => ?_) (fun c1 => ?_)
    · have hf := xf hf c1
      refine lv_iconst (v := 0) hx hb dX9_isBit_13 (by decide) ?_
      exact x_zretP E hC hW hr hlk hQ (by decide) dX9_isBit_14 hf
    · have hf := xt hf c1
      refine lv_iconst (v := 1) hx hb dX9_isBit_9 (by decide) ?_
      refine lv_goto (tgt := 14) hx hb dX9_isBit_10 (by decide) ?_
      exact x_zretP E hC hW hr hlk hQ (by decide) dX9_isBit_14 hf
set_option maxRecDepth 100000 in
set_option maxHeartbeats 4000000 in
theorem c_X2_has {l : Launch} {D : va_G} {cy : Nat → ClassId} {L : Nat → Nat} {bA : Nat} (a1 : Int32) (r : Int32) (S : Sg)  (hf : f_X2_has a1 S = some r) : MetX l D cy L shC 52 bA yX2_has cX2_has 2 (some .boolean) 0 0 [.ref (L 1), .int a1] (some (.int r)) S S := by
  refine x_met (own := RX2) (by decide) rfl (Nat.le_of_ble_eq_true rfl) ?_
  intro p e s m below meth c ls E hC hr hlk hl hW
  generalize hargs : ([.ref (L 1), .int a1] : List Value).toArray = args at E ⊢
  generalize hQ : MQ below (xQ D cy L shC 52 bA (some (.int r)) S) args s 0 0 (AL L 52) = Q
  have hl : lv_has ls 2 [(0, .ref (L 1)), (1, .int a1)] := hl
  have hx := E.1
  have hb := E.2.1
  have hts := E.2.2.2.2
  unfold f_X2_has at hf
  refine lv_iload_n hx hb dX2_has_0 rfl (lv_at hl 1 rfl) ?_
  refine lv_if_lt (tgt := 16) hx hb dX2_has_1 (by decide) (fun c2 => ?_) (fun c2 => ?_)
  · have hf := xt hf c2
    refine lv_iconst (v := 0) hx hb dX2_has_16 (by decide) ?_
    exact x_zretP E hC hW hr hlk hQ (by decide) dX2_has_17 hf
  · have hf := xf hf c2
    refine lv_iload_n hx hb dX2_has_4 rfl (lv_at hl 1 rfl) ?_
    refine lv_aload_n hx hb dX2_has_5 rfl (lv_at hl 0 rfl) ?_
    refine x_geti (k := 1) E hC hW fl_X2_18 (by decide) rfl rfl dX2_has_6 ?_
    refine lv_icmp_ge (tgt := 16) hx hb dX2_has_9 (by decide) (fun c1 => ?_) (fun c1 => ?_)
    · have hf := xt hf c1
      refine lv_iconst (v := 0) hx hb dX2_has_16 (by decide) ?_
      exact x_zretP E hC hW hr hlk hQ (by decide) dX2_has_17 hf
    · have hf := xf hf c1
      refine lv_iconst (v := 1) hx hb dX2_has_12 (by decide) ?_
      refine lv_goto (tgt := 17) hx hb dX2_has_13 (by decide) ?_
      exact x_zretP E hC hW hr hlk hQ (by decide) dX2_has_17 hf
set_option maxRecDepth 100000 in
set_option maxHeartbeats 4000000 in
theorem c_X9_entry {l : Launch} {D : va_G} {cy : Nat → ClassId} {L : Nat → Nat} {bA : Nat} (a1 : Int32) (a2 : Int32) (a3 : Int32) (a4 : Int32) (r : Int32) (S S' : Sg)  (hf : f_X9_entry a1 a2 a3 a4 S = some (r, S')) : MetX l D cy L shC 52 bA yX9_entry cX9_entry 7 (some .int) 1 21 [.ref (L 0), .int a1, .int a2, .int a3, .int a4] (some (.int r)) S S' := by
  refine x_met (own := RX9) (by decide) rfl (Nat.le_of_ble_eq_true rfl) ?_
  intro p e s m below meth c ls E hC hr hlk hl hW
  generalize hargs : ([.ref (L 0), .int a1, .int a2, .int a3, .int a4] : List Value).toArray = args at E ⊢
  generalize hQ : MQ below (xQ D cy L shC 52 bA (some (.int r)) S') args s 0 0 (AL L 52) = Q
  have hl : lv_has ls 7 [(0, .ref (L 0)), (1, .int a1), (2, .int a2), (3, .int a3), (4, .int a4)] := hl
  have hx := E.1
  have hb := E.2.1
  have hts := E.2.2.2.2
  unfold f_X9_entry at hf
  refine lv_aload_n hx hb dX9_entry_0 rfl (lv_at hl 0 rfl) ?_
  refine x_getr (k := 0) (k' := 1) E hC hW fl_X9_12 (by decide) rfl rfl dX9_entry_1 ?_
  refine lv_iload_n hx hb dX9_entry_4 rfl (lv_at hl 1 rfl) ?_
  obtain ⟨r1, g2, hf⟩ := cl1S hf
  refine x_Vr (k := 1) (As := [.int a1]) (rest := []) E hC hW hl.1 (c_X2_has a1 r1 S g2) cv_X9_114 rfl (by decide) rfl rfl rfl ⟨Nat.le_of_ble_eq_true rfl, Nat.le_of_ble_eq_true rfl⟩ ⟨Nat.le_refl _, Nat.le_refl _⟩ (Nat.le_of_ble_eq_true rfl) dX9_entry_5 (fun H locs hW => ?_)
  refine lv_if_eq (tgt := 42) hx hb dX9_entry_8 (by decide) (fun c15 => ?_) (fun c15 => ?_)
  · have hf := xt hf c15
    refine lv_bipush (v := (-2)) hx hb dX9_entry_42 (by decide) ?_
    exact x_iretI E hC hW hr hlk hQ dX9_entry_44 hf
  · have hf := xf hf c15
    refine lv_iload_n hx hb dX9_entry_11 rfl (lv_at hl 2 rfl) ?_
    obtain ⟨r3, g4, hf⟩ := cl1S hf
    refine x_Sr (As := [.int a2]) (rest := []) E hC hW hl.1 (c_X9_isBit a2 r3 S g4) cs_X9_117 rfl rfl ⟨Nat.le_of_ble_eq_true rfl, Nat.le_of_ble_eq_true rfl⟩ ⟨Nat.le_refl _, Nat.le_refl _⟩ (Nat.le_of_ble_eq_true rfl) dX9_entry_12 (fun H locs hW => ?_)
    refine lv_if_eq (tgt := 42) hx hb dX9_entry_15 (by decide) (fun c14 => ?_) (fun c14 => ?_)
    · have hf := xt hf c14
      refine lv_bipush (v := (-2)) hx hb dX9_entry_42 (by decide) ?_
      exact x_iretI E hC hW hr hlk hQ dX9_entry_44 hf
    · have hf := xf hf c14
      refine lv_iload_n hx hb dX9_entry_18 rfl (lv_at hl 3 rfl) ?_
      refine lv_if_lt (tgt := 42) hx hb dX9_entry_19 (by decide) (fun c13 => ?_) (fun c13 => ?_)
      · have hf := xt hf c13
        refine lv_bipush (v := (-2)) hx hb dX9_entry_42 (by decide) ?_
        exact x_iretI E hC hW hr hlk hQ dX9_entry_44 hf
      · have hf := xf hf c13
        refine lv_iload_n hx hb dX9_entry_22 rfl (lv_at hl 3 rfl) ?_
        refine lv_bipush (v := 6) hx hb dX9_entry_23 (by decide) ?_
        refine lv_icmp_ge (tgt := 42) hx hb dX9_entry_25 (by decide) (fun c12 => ?_) (fun c12 => ?_)
        · have hf := xt hf c12
          refine lv_bipush (v := (-2)) hx hb dX9_entry_42 (by decide) ?_
          exact x_iretI E hC hW hr hlk hQ dX9_entry_44 hf
        · have hf := xf hf c12
          refine lv_iload hx hb dX9_entry_28 (lv_at hl 4 rfl) ?_
          refine lv_bipush (v := (-99)) hx hb dX9_entry_30 (by decide) ?_
          refine lv_icmp_lt (tgt := 42) hx hb dX9_entry_32 (by decide) (fun c11 => ?_) (fun c11 => ?_)
          · have hf := xt hf c11
            refine lv_bipush (v := (-2)) hx hb dX9_entry_42 (by decide) ?_
            exact x_iretI E hC hW hr hlk hQ dX9_entry_44 hf
          · have hf := xf hf c11
            refine lv_iload hx hb dX9_entry_35 (lv_at hl 4 rfl) ?_
            refine lv_bipush (v := 99) hx hb dX9_entry_37 (by decide) ?_
            refine lv_icmp_le (tgt := 45) hx hb dX9_entry_39 (by decide) (fun c10 => ?_) (fun c10 => ?_)
            · have hf := xt hf c10
              refine lv_iload_n hx hb dX9_entry_45 rfl (lv_at hl 1 rfl) ?_
              refine lv_bipush (v := 12) hx hb dX9_entry_46 (by decide) ?_
              refine lv_imul hx hb dX9_entry_48 ?_
              refine lv_iload_n hx hb dX9_entry_49 rfl (lv_at hl 2 rfl) ?_
              refine lv_bipush (v := 6) hx hb dX9_entry_50 (by decide) ?_
              refine lv_imul hx hb dX9_entry_52 ?_
              refine lv_iadd hx hb dX9_entry_53 ?_
              refine lv_iload_n hx hb dX9_entry_54 rfl (lv_at hl 3 rfl) ?_
              refine lv_iadd hx hb dX9_entry_55 ?_
              refine lv_topi (fun x5 ex5 => ?_)
              have hf := bvS hf ex5
              refine lv_istore (lv' := [(5, .int x5), (0, .ref (L 0)), (1, .int a1), (2, .int a2), (3, .int a3), (4, .int a4)]) hx hb dX9_entry_56 hl (by decide) rfl (fun ls hl => ?_)
              refine lv_aload_n hx hb dX9_entry_58 rfl (lv_at hl 1 rfl) ?_
              refine x_getr (k := 0) (k' := 1) E hC hW fl_X9_12 (by decide) rfl rfl dX9_entry_59 ?_
              refine x_getr (k := 1) (k' := 5) E hC hW fl_X9_120 (by decide) rfl rfl dX9_entry_62 ?_
              refine lv_iload hx hb dX9_entry_65 (lv_at hl 0 rfl) ?_
              obtain ⟨hg6, hf⟩ := gdS hf
              refine x_iald (k := 5) E hC hW (by decide) rfl (inbS hg6) dX9_entry_67 ?_
              refine lv_topi (fun x7 ex7 => ?_)
              have hf := bvS hf ex7
              refine lv_istore (lv' := [(6, .int x7), (5, .int x5), (0, .ref (L 0)), (1, .int a1), (2, .int a2), (3, .int a3), (4, .int a4)]) hx hb dX9_entry_68 hl (by decide) rfl (fun ls hl => ?_)
              refine lv_aload_n hx hb dX9_entry_70 rfl (lv_at hl 2 rfl) ?_
              refine x_getr (k := 0) (k' := 1) E hC hW fl_X9_12 (by decide) rfl rfl dX9_entry_71 ?_
              refine x_getr (k := 1) (k' := 5) E hC hW fl_X9_120 (by decide) rfl rfl dX9_entry_74 ?_
              refine lv_iload hx hb dX9_entry_77 (lv_at hl 1 rfl) ?_
              refine lv_iload hx hb dX9_entry_79 (lv_at hl 6 rfl) ?_
              obtain ⟨hg8, hf⟩ := gdS hf
              refine x_iast (k := 5) E hC hW (by decide) rfl (inbS hg8) dX9_entry_81 (fun H locs hW => ?_)
              obtain ⟨S9, eS9⟩ : ∃ z : Sg, z = si S 5 (ix x5) a4 := ⟨_, rfl⟩
              have hW : Wd D cy L shC 52 S9 s H locs := by rw [eS9]; exact hW
              have hf := bvS hf eS9
              refine lv_iload hx hb dX9_entry_82 (lv_at hl 0 rfl) ?_
              exact x_iretI E hC hW hr hlk hQ dX9_entry_84 hf
            · have hf := xf hf c10
              refine lv_bipush (v := (-2)) hx hb dX9_entry_42 (by decide) ?_
              exact x_iretI E hC hW hr hlk hQ dX9_entry_44 hf
set_option maxRecDepth 100000 in
set_option maxHeartbeats 4000000 in
theorem c_X9_set {l : Launch} {D : va_G} {cy : Nat → ClassId} {L : Nat → Nat} {bA : Nat} (a1 : Int32) (a2 : Int32) (a3 : Int32) (r : Int32) (S S' : Sg)  (hf : f_X9_set a1 a2 a3 S = some (r, S')) : MetX l D cy L shC 52 bA yX9_set cX9_set 6 (some .int) 1 21 [.ref (L 0), .int a1, .int a2, .int a3] (some (.int r)) S S' := by
  refine x_met (own := RX9) (by decide) rfl (Nat.le_of_ble_eq_true rfl) ?_
  intro p e s m below meth c ls E hC hr hlk hl hW
  generalize hargs : ([.ref (L 0), .int a1, .int a2, .int a3] : List Value).toArray = args at E ⊢
  generalize hQ : MQ below (xQ D cy L shC 52 bA (some (.int r)) S') args s 0 0 (AL L 52) = Q
  have hl : lv_has ls 6 [(0, .ref (L 0)), (1, .int a1), (2, .int a2), (3, .int a3)] := hl
  have hx := E.1
  have hb := E.2.1
  have hts := E.2.2.2.2
  unfold f_X9_set at hf
  refine lv_aload_n hx hb dX9_set_0 rfl (lv_at hl 0 rfl) ?_
  refine x_getr (k := 0) (k' := 1) E hC hW fl_X9_12 (by decide) rfl rfl dX9_set_1 ?_
  refine lv_iload_n hx hb dX9_set_4 rfl (lv_at hl 1 rfl) ?_
  obtain ⟨r1, g2, hf⟩ := cl1S hf
  refine x_Vr (k := 1) (As := [.int a1]) (rest := []) E hC hW hl.1 (c_X2_has a1 r1 S g2) cv_X9_114 rfl (by decide) rfl rfl rfl ⟨Nat.le_of_ble_eq_true rfl, Nat.le_of_ble_eq_true rfl⟩ ⟨Nat.le_refl _, Nat.le_refl _⟩ (Nat.le_of_ble_eq_true rfl) dX9_set_5 (fun H locs hW => ?_)
  refine lv_if_eq (tgt := 39) hx hb dX9_set_8 (by decide) (fun c19 => ?_) (fun c19 => ?_)
  · have hf := xt hf c19
    refine lv_bipush (v := (-2)) hx hb dX9_set_39 (by decide) ?_
    exact x_iretI E hC hW hr hlk hQ dX9_set_41 hf
  · have hf := xf hf c19
    refine lv_iload_n hx hb dX9_set_11 rfl (lv_at hl 2 rfl) ?_
    obtain ⟨r3, g4, hf⟩ := cl1S hf
    refine x_Sr (As := [.int a2]) (rest := []) E hC hW hl.1 (c_X9_isBit a2 r3 S g4) cs_X9_117 rfl rfl ⟨Nat.le_of_ble_eq_true rfl, Nat.le_of_ble_eq_true rfl⟩ ⟨Nat.le_refl _, Nat.le_refl _⟩ (Nat.le_of_ble_eq_true rfl) dX9_set_12 (fun H locs hW => ?_)
    refine lv_if_eq (tgt := 39) hx hb dX9_set_15 (by decide) (fun c18 => ?_) (fun c18 => ?_)
    · have hf := xt hf c18
      refine lv_bipush (v := (-2)) hx hb dX9_set_39 (by decide) ?_
      exact x_iretI E hC hW hr hlk hQ dX9_set_41 hf
    · have hf := xf hf c18
      refine lv_iload_n hx hb dX9_set_18 rfl (lv_at hl 2 rfl) ?_
      refine jnS hf (fun (j : Option (Int32 × Sg)) => (j) = some (r, S') → ∀ (H : Heap) (locs : List Loc) (ls : Array Slot), lv_has ls 6 [(0, .ref (L 0)), (1, .int a1), (2, .int a2), (3, .int a3)] → Wd D cy L shC 52 S s H locs → W p l e (rmk 1 21) s m args below meth c H locs 0 0 Q (F0 m 42 ls [])) ?_ ?_
      · intro hf H locs ls hl hW
        try dsimp only at hf
        refine lv_iload_n hx hb dX9_set_42 rfl (lv_at hl 2 rfl) ?_
        refine jnS hf (fun (j : Nat → Option (Int32 × Sg)) => ∀ (k5 : Nat), okA k5 10 → (j k5) = some (r, S') → ∀ (H : Heap) (locs : List Loc) (ls : Array Slot), lv_has ls 6 [(1, .int a1), (3, .int a3)] → Wd D cy L shC 52 S s H locs → W p l e (rmk 1 21) s m args below meth c H locs 0 0 Q (F0 m 63 ls [.ref (L k5)])) ?_ ?_
        · intro k5 hk5 hf H locs ls hl hW
          try dsimp only at hf
          refine lv_astore (lv' := [(4, .ref (L k5)), (1, .int a1), (3, .int a3)]) hx hb dX9_set_63 hl (by decide) rfl (fun ls hl => ?_)
          refine lv_aload hx hb dX9_set_65 (lv_at hl 0 rfl) ?_
          refine lv_iload_n hx hb dX9_set_67 rfl (lv_at hl 1 rfl) ?_
          obtain ⟨hg6, hf⟩ := gdS hf
          refine x_iald (k := k5) E hC hW hk5.1 hk5.2 (inbS hg6) dX9_set_68 ?_
          refine lv_topi (fun x7 ex7 => ?_)
          have hf := bvS hf ex7
          refine lv_istore (lv' := [(5, .int x7), (4, .ref (L k5)), (1, .int a1), (3, .int a3)]) hx hb dX9_set_69 hl (by decide) rfl (fun ls hl => ?_)
          refine lv_aload hx hb dX9_set_71 (lv_at hl 1 rfl) ?_
          refine lv_iload_n hx hb dX9_set_73 rfl (lv_at hl 2 rfl) ?_
          refine lv_iload_n hx hb dX9_set_74 rfl (lv_at hl 3 rfl) ?_
          obtain ⟨hg8, hf⟩ := gdS hf
          refine x_iast (k := k5) E hC hW hk5.1 hk5.2 (inbS hg8) dX9_set_75 (fun H locs hW => ?_)
          obtain ⟨S9, eS9⟩ : ∃ z : Sg, z = si S k5 (ix a1) a3 := ⟨_, rfl⟩
          have hW : Wd D cy L shC 52 S9 s H locs := by rw [eS9]; exact hW
          have hf := bvS hf eS9
          refine lv_iload hx hb dX9_set_76 (lv_at hl 0 rfl) ?_
          exact x_iretI E hC hW hr hlk hQ dX9_set_78 hf
        intro j63 J63 hf
        refine lv_if_ne (tgt := 56) hx hb dX9_set_43 (by decide) (fun c10 => ?_) (fun c10 => ?_)
        · have hf := xf hf c10
          refine lv_aload_n hx hb dX9_set_56 rfl (lv_at hl 0 rfl) ?_
          refine x_getr (k := 0) (k' := 1) E hC hW fl_X9_12 (by decide) rfl rfl dX9_set_57 ?_
          refine x_getr (k := 1) (k' := 3) E hC hW fl_X9_126 (by decide) rfl rfl dX9_set_60 ?_
          exact J63 _ ⟨(by decide), rfl⟩ hf _ _ _ (lv_sub hl [1, 3] rfl) hW
        · have hf := xt hf c10
          refine lv_aload_n hx hb dX9_set_46 rfl (lv_at hl 0 rfl) ?_
          refine x_getr (k := 0) (k' := 1) E hC hW fl_X9_12 (by decide) rfl rfl dX9_set_47 ?_
          refine x_getr (k := 1) (k' := 2) E hC hW fl_X9_123 (by decide) rfl rfl dX9_set_50 ?_
          refine lv_goto (tgt := 63) hx hb dX9_set_53 (by decide) ?_
          exact J63 _ ⟨(by decide), rfl⟩ hf _ _ _ (lv_sub hl [1, 3] rfl) hW
      intro j42 J42 hf
      refine lv_if_ne (tgt := 32) hx hb dX9_set_19 (by decide) (fun c17 => ?_) (fun c17 => ?_)
      · have hf := xf hf c17
        refine lv_iload_n hx hb dX9_set_32 rfl (lv_at hl 3 rfl) ?_
        obtain ⟨r11, g12, hf⟩ := cl1S hf
        refine x_Sr (As := [.int a3]) (rest := []) E hC hW hl.1 (c_X9_isWeight a3 r11 S g12) cs_X9_104 rfl rfl ⟨Nat.le_of_ble_eq_true rfl, Nat.le_of_ble_eq_true rfl⟩ ⟨Nat.le_refl _, Nat.le_refl _⟩ (Nat.le_of_ble_eq_true rfl) dX9_set_33 (fun H locs hW => ?_)
        refine lv_if_ne (tgt := 42) hx hb dX9_set_36 (by decide) (fun c13 => ?_) (fun c13 => ?_)
        · have hf := xf hf c13
          exact J42 hf _ _ _ (lv_sub hl [0, 1, 2, 3] rfl) hW
        · have hf := xt hf c13
          refine lv_bipush (v := (-2)) hx hb dX9_set_39 (by decide) ?_
          exact x_iretI E hC hW hr hlk hQ dX9_set_41 hf
      · have hf := xt hf c17
        refine lv_iload_n hx hb dX9_set_22 rfl (lv_at hl 3 rfl) ?_
        obtain ⟨r14, g15, hf⟩ := cl1S hf
        refine x_Sr (As := [.int a3]) (rest := []) E hC hW hl.1 (c_X9_isKind a3 r14 S g15) cs_X9_101 rfl rfl ⟨Nat.le_of_ble_eq_true rfl, Nat.le_of_ble_eq_true rfl⟩ ⟨Nat.le_refl _, Nat.le_refl _⟩ (Nat.le_of_ble_eq_true rfl) dX9_set_23 (fun H locs hW => ?_)
        refine lv_if_eq (tgt := 39) hx hb dX9_set_26 (by decide) (fun c16 => ?_) (fun c16 => ?_)
        · have hf := xt hf c16
          refine lv_bipush (v := (-2)) hx hb dX9_set_39 (by decide) ?_
          exact x_iretI E hC hW hr hlk hQ dX9_set_41 hf
        · have hf := xf hf c16
          refine lv_goto (tgt := 42) hx hb dX9_set_29 (by decide) ?_
          exact J42 hf _ _ _ (lv_sub hl [0, 1, 2, 3] rfl) hW
set_option maxRecDepth 100000 in
set_option maxHeartbeats 4000000 in
theorem c_X2_namesBelow {l : Launch} {D : va_G} {cy : Nat → ClassId} {L : Nat → Nat} {bA : Nat} (a1 : Int64) (r : Int32) (S : Sg)  (hf : f_X2_namesBelow a1 S = some r) : MetX l D cy L shC 52 bA yX2_namesBelow cX2_namesBelow 5 (some .int) 0 0 [.ref (L 1), .long a1] (some (.int r)) S S := by
  refine x_met (own := RX2) (by decide) rfl (Nat.le_of_ble_eq_true rfl) ?_
  intro p e s m below meth c ls E hC hr hlk hl hW
  generalize hargs : ([.ref (L 1), .long a1] : List Value).toArray = args at E ⊢
  generalize hQ : MQ below (xQ D cy L shC 52 bA (some (.int r)) S) args s 0 0 (AL L 52) = Q
  have hl : lv_has ls 5 [(0, .ref (L 1)), (1, .long a1)] := hl
  have hx := E.1
  have hb := E.2.1
  have hts := E.2.2.2.2
  unfold f_X2_namesBelow at hf
  refine lv_iconst (v := 0) hx hb dX2_namesBelow_0 (by decide) ?_
  refine lv_istore_n (lv' := [(3, .int (0 : Int32)), (0, .ref (L 1)), (1, .long a1)]) hx hb dX2_namesBelow_1 rfl hl (by decide) rfl (fun ls hl => ?_)
  refine lv_iconst (v := 0) hx hb dX2_namesBelow_2 (by decide) ?_
  refine lv_istore (lv' := [(4, .int (0 : Int32)), (3, .int (0 : Int32)), (0, .ref (L 1)), (1, .long a1)]) hx hb dX2_namesBelow_3 hl (by decide) rfl (fun ls hl => ?_)
  refine wp2S (fun (v1 : Int32) (v2 : Int32) => ∀ (H : Heap) (locs : List Loc) (ls : Array Slot), lv_has ls 5 [(0, .ref (L 1)), (1, .long a1), (3, .int v1), (4, .int v2)] → Wd D cy L shC 52 S s H locs → W p l e (rmk 0 0) s m args below meth c H locs 0 0 Q (F0 m 5 ls [])) ?_ hf _ _ _ (lv_sub hl [2, 3, 1, 0] rfl) hW
  · intro self5 ih5 v1 v2 hf H locs ls hl hW
    unfold X2_namesBelow_L5 at hf
    refine lv_iload hx hb dX2_namesBelow_5 (lv_at hl 3 rfl) ?_
    refine lv_aload_n hx hb dX2_namesBelow_7 rfl (lv_at hl 0 rfl) ?_
    refine x_geti (k := 1) E hC hW fl_X2_18 (by decide) rfl rfl dX2_namesBelow_8 ?_
    refine lv_icmp_ge (tgt := 47) hx hb dX2_namesBelow_11 (by decide) (fun c10 => ?_) (fun c10 => ?_)
    · have hf := xt hf c10
      refine lv_iload_n hx hb dX2_namesBelow_47 rfl (lv_at hl 2 rfl) ?_
      exact x_iretP E hC hW hr hlk hQ dX2_namesBelow_48 hf
    · have hf := xf hf c10
      refine lv_aload_n hx hb dX2_namesBelow_14 rfl (lv_at hl 0 rfl) ?_
      refine x_getr (k := 1) (k' := 4) E hC hW fl_X2_28 (by decide) rfl rfl dX2_namesBelow_15 ?_
      refine lv_iload hx hb dX2_namesBelow_18 (lv_at hl 3 rfl) ?_
      obtain ⟨hg3, hf⟩ := gdS hf
      refine x_lald (k := 4) E hC hW (by decide) rfl (inbS hg3) dX2_namesBelow_20 ?_
      refine lv_lconst (v := 0) hx hb dX2_namesBelow_21 (by decide) ?_
      refine W.lcmp hx hb dX2_namesBelow_22 ?_
      refine jnS hf (fun (j : Int32 → Option (Int32)) => ∀ (v4 : Int32), (j v4) = some r → ∀ (H : Heap) (locs : List Loc) (ls : Array Slot), lv_has ls 5 [(0, .ref (L 1)), (1, .long a1), (3, .int v4), (4, .int v2)] → Wd D cy L shC 52 S s H locs → W p l e (rmk 0 0) s m args below meth c H locs 0 0 Q (F0 m 41 ls [])) ?_ ?_
      · intro v4 hf H locs ls hl hW
        try dsimp only at hf
        obtain ⟨x5, ex5⟩ : ∃ z : Int32, z = (v2 + 1) := ⟨_, rfl⟩
        have hf := bvS hf ex5
        refine lv_iinc (v := x5) (lv' := [(4, .int x5), (0, .ref (L 1)), (1, .long a1), (3, .int v4)]) hx hb dX2_namesBelow_41 hl (k := 3) rfl (by rw [ex5]; rfl) (by decide) rfl (fun ls hl => ?_)
        refine lv_goto (tgt := 5) hx hb dX2_namesBelow_44 (by decide) ?_
        exact ih5 _ _ hf _ _ _ (lv_sub hl [1, 2, 3, 0] rfl) hW
      intro j41 J41 hf
      refine lv_if_eq (tgt := 41) hx hb dX2_namesBelow_23 (by decide) (fun c9 => ?_) (fun c9 => ?_)
      · have hf := xt hf c9
        exact J41 _ hf _ _ _ (lv_sub hl [0, 1, 2, 3] rfl) hW
      · have hf := xf hf c9
        refine lv_aload_n hx hb dX2_namesBelow_26 rfl (lv_at hl 0 rfl) ?_
        refine x_getr (k := 1) (k' := 4) E hC hW fl_X2_28 (by decide) rfl rfl dX2_namesBelow_27 ?_
        refine lv_iload hx hb dX2_namesBelow_30 (lv_at hl 3 rfl) ?_
        obtain ⟨hg6, hf⟩ := gdS hf
        refine x_lald (k := 4) E hC hW (by decide) rfl (inbS hg6) dX2_namesBelow_32 ?_
        refine lv_lload_n hx hb dX2_namesBelow_33 rfl (lv_at hl 1 rfl) ?_
        refine W.lcmp hx hb dX2_namesBelow_34 ?_
        refine lv_if_ge (tgt := 41) hx hb dX2_namesBelow_35 (by decide) (fun c8 => ?_) (fun c8 => ?_)
        · have hf := xt hf c8
          exact J41 _ hf _ _ _ (lv_sub hl [0, 1, 2, 3] rfl) hW
        · have hf := xf hf c8
          obtain ⟨x7, ex7⟩ : ∃ z : Int32, z = (v1 + 1) := ⟨_, rfl⟩
          have hf := bvS hf ex7
          refine lv_iinc (v := x7) (lv' := [(3, .int x7), (0, .ref (L 1)), (1, .long a1), (4, .int v2)]) hx hb dX2_namesBelow_38 hl (k := 2) rfl (by rw [ex7]; rfl) (by decide) rfl (fun ls hl => ?_)
          exact J41 _ hf _ _ _ (lv_sub hl [1, 2, 0, 3] rfl) hW
set_option maxRecDepth 100000 in
set_option maxHeartbeats 4000000 in
theorem c_X2_isAhead {l : Launch} {D : va_G} {cy : Nat → ClassId} {L : Nat → Nat} {bA : Nat} (a1 : Int32) (a2 : Int32) (r : Int32) (S : Sg)  (hf : f_X2_isAhead a1 a2 S = some r) : MetX l D cy L shC 52 bA yX2_isAhead cX2_isAhead 3 (some .boolean) 0 0 [.ref (L 1), .int a1, .int a2] (some (.int r)) S S := by
  refine x_met (own := RX2) (by decide) rfl (Nat.le_of_ble_eq_true rfl) ?_
  intro p e s m below meth c ls E hC hr hlk hl hW
  generalize hargs : ([.ref (L 1), .int a1, .int a2] : List Value).toArray = args at E ⊢
  generalize hQ : MQ below (xQ D cy L shC 52 bA (some (.int r)) S) args s 0 0 (AL L 52) = Q
  have hl : lv_has ls 3 [(0, .ref (L 1)), (1, .int a1), (2, .int a2)] := hl
  have hx := E.1
  have hb := E.2.1
  have hts := E.2.2.2.2
  unfold f_X2_isAhead at hf
  refine lv_aload_n hx hb dX2_isAhead_0 rfl (lv_at hl 0 rfl) ?_
  refine x_getr (k := 1) (k' := 3) E hC hW fl_X2_25 (by decide) rfl rfl dX2_isAhead_1 ?_
  refine lv_iload_n hx hb dX2_isAhead_4 rfl (lv_at hl 1 rfl) ?_
  obtain ⟨hg1, hf⟩ := gdS hf
  refine x_iald (k := 3) E hC hW (by decide) rfl (inbS hg1) dX2_isAhead_5 ?_
  refine lv_aload_n hx hb dX2_isAhead_6 rfl (lv_at hl 0 rfl) ?_
  refine x_getr (k := 1) (k' := 3) E hC hW fl_X2_25 (by decide) rfl rfl dX2_isAhead_7 ?_
  refine lv_iload_n hx hb dX2_isAhead_10 rfl (lv_at hl 2 rfl) ?_
  obtain ⟨hg2, hf⟩ := gdS hf
  refine x_iald (k := 3) E hC hW (by decide) rfl (inbS hg2) dX2_isAhead_11 ?_
  refine lv_icmp_eq (tgt := 36) hx hb dX2_isAhead_12 (by decide) (fun c13 => ?_) (fun c13 => ?_)
  · have hf := xt hf c13
    refine lv_aload_n hx hb dX2_isAhead_36 rfl (lv_at hl 0 rfl) ?_
    refine x_getr (k := 1) (k' := 2) E hC hW fl_X2_21 (by decide) rfl rfl dX2_isAhead_37 ?_
    refine lv_iload_n hx hb dX2_isAhead_40 rfl (lv_at hl 1 rfl) ?_
    obtain ⟨hg3, hf⟩ := gdS hf
    refine x_iald (k := 2) E hC hW (by decide) rfl (inbS hg3) dX2_isAhead_41 ?_
    refine lv_aload_n hx hb dX2_isAhead_42 rfl (lv_at hl 0 rfl) ?_
    refine x_getr (k := 1) (k' := 2) E hC hW fl_X2_21 (by decide) rfl rfl dX2_isAhead_43 ?_
    refine lv_iload_n hx hb dX2_isAhead_46 rfl (lv_at hl 2 rfl) ?_
    obtain ⟨hg4, hf⟩ := gdS hf
    refine x_iald (k := 2) E hC hW (by decide) rfl (inbS hg4) dX2_isAhead_47 ?_
    refine lv_icmp_eq (tgt := 72) hx hb dX2_isAhead_48 (by decide) (fun c9 => ?_) (fun c9 => ?_)
    · have hf := xt hf c9
      refine lv_iload_n hx hb dX2_isAhead_72 rfl (lv_at hl 1 rfl) ?_
      refine lv_iload_n hx hb dX2_isAhead_73 rfl (lv_at hl 2 rfl) ?_
      refine lv_icmp_ge (tgt := 81) hx hb dX2_isAhead_74 (by decide) (fun c5 => ?_) (fun c5 => ?_)
      · have hf := xt hf c5
        refine lv_iconst (v := 0) hx hb dX2_isAhead_81 (by decide) ?_
        exact x_zretP E hC hW hr hlk hQ (by decide) dX2_isAhead_82 hf
      · have hf := xf hf c5
        refine lv_iconst (v := 1) hx hb dX2_isAhead_77 (by decide) ?_
        refine lv_goto (tgt := 82) hx hb dX2_isAhead_78 (by decide) ?_
        exact x_zretP E hC hW hr hlk hQ (by decide) dX2_isAhead_82 hf
    · have hf := xf hf c9
      refine lv_aload_n hx hb dX2_isAhead_51 rfl (lv_at hl 0 rfl) ?_
      refine x_getr (k := 1) (k' := 2) E hC hW fl_X2_21 (by decide) rfl rfl dX2_isAhead_52 ?_
      refine lv_iload_n hx hb dX2_isAhead_55 rfl (lv_at hl 1 rfl) ?_
      obtain ⟨hg6, hf⟩ := gdS hf
      refine x_iald (k := 2) E hC hW (by decide) rfl (inbS hg6) dX2_isAhead_56 ?_
      refine lv_aload_n hx hb dX2_isAhead_57 rfl (lv_at hl 0 rfl) ?_
      refine x_getr (k := 1) (k' := 2) E hC hW fl_X2_21 (by decide) rfl rfl dX2_isAhead_58 ?_
      refine lv_iload_n hx hb dX2_isAhead_61 rfl (lv_at hl 2 rfl) ?_
      obtain ⟨hg7, hf⟩ := gdS hf
      refine x_iald (k := 2) E hC hW (by decide) rfl (inbS hg7) dX2_isAhead_62 ?_
      refine lv_icmp_ge (tgt := 70) hx hb dX2_isAhead_63 (by decide) (fun c8 => ?_) (fun c8 => ?_)
      · have hf := xt hf c8
        refine lv_iconst (v := 0) hx hb dX2_isAhead_70 (by decide) ?_
        exact x_zretP E hC hW hr hlk hQ (by decide) dX2_isAhead_71 hf
      · have hf := xf hf c8
        refine lv_iconst (v := 1) hx hb dX2_isAhead_66 (by decide) ?_
        refine lv_goto (tgt := 71) hx hb dX2_isAhead_67 (by decide) ?_
        exact x_zretP E hC hW hr hlk hQ (by decide) dX2_isAhead_71 hf
  · have hf := xf hf c13
    refine lv_aload_n hx hb dX2_isAhead_15 rfl (lv_at hl 0 rfl) ?_
    refine x_getr (k := 1) (k' := 3) E hC hW fl_X2_25 (by decide) rfl rfl dX2_isAhead_16 ?_
    refine lv_iload_n hx hb dX2_isAhead_19 rfl (lv_at hl 1 rfl) ?_
    obtain ⟨hg10, hf⟩ := gdS hf
    refine x_iald (k := 3) E hC hW (by decide) rfl (inbS hg10) dX2_isAhead_20 ?_
    refine lv_aload_n hx hb dX2_isAhead_21 rfl (lv_at hl 0 rfl) ?_
    refine x_getr (k := 1) (k' := 3) E hC hW fl_X2_25 (by decide) rfl rfl dX2_isAhead_22 ?_
    refine lv_iload_n hx hb dX2_isAhead_25 rfl (lv_at hl 2 rfl) ?_
    obtain ⟨hg11, hf⟩ := gdS hf
    refine x_iald (k := 3) E hC hW (by decide) rfl (inbS hg11) dX2_isAhead_26 ?_
    refine lv_icmp_le (tgt := 34) hx hb dX2_isAhead_27 (by decide) (fun c12 => ?_) (fun c12 => ?_)
    · have hf := xt hf c12
      refine lv_iconst (v := 0) hx hb dX2_isAhead_34 (by decide) ?_
      exact x_zretP E hC hW hr hlk hQ (by decide) dX2_isAhead_35 hf
    · have hf := xf hf c12
      refine lv_iconst (v := 1) hx hb dX2_isAhead_30 (by decide) ?_
      refine lv_goto (tgt := 35) hx hb dX2_isAhead_31 (by decide) ?_
      exact x_zretP E hC hW hr hlk hQ (by decide) dX2_isAhead_35 hf
set_option maxRecDepth 100000 in
set_option maxHeartbeats 4000000 in
theorem c_X2_placeInQueue {l : Launch} {D : va_G} {cy : Nat → ClassId} {L : Nat → Nat} {bA : Nat} (a1 : Int32) (r : Int32) (S : Sg)  (hf : f_X2_placeInQueue a1 S = some r) : MetX l D cy L shC 52 bA yX2_placeInQueue cX2_placeInQueue 4 (some .int) 1 22 [.ref (L 1), .int a1] (some (.int r)) S S := by
  refine x_met (own := RX2) (by decide) rfl (Nat.le_of_ble_eq_true rfl) ?_
  intro p e s m below meth c ls E hC hr hlk hl hW
  generalize hargs : ([.ref (L 1), .int a1] : List Value).toArray = args at E ⊢
  generalize hQ : MQ below (xQ D cy L shC 52 bA (some (.int r)) S) args s 0 0 (AL L 52) = Q
  have hl : lv_has ls 4 [(0, .ref (L 1)), (1, .int a1)] := hl
  have hx := E.1
  have hb := E.2.1
  have hts := E.2.2.2.2
  unfold f_X2_placeInQueue at hf
  refine lv_iconst (v := 0) hx hb dX2_placeInQueue_0 (by decide) ?_
  refine lv_istore_n (lv' := [(2, .int (0 : Int32)), (0, .ref (L 1)), (1, .int a1)]) hx hb dX2_placeInQueue_1 rfl hl (by decide) rfl (fun ls hl => ?_)
  refine lv_iconst (v := 0) hx hb dX2_placeInQueue_2 (by decide) ?_
  refine lv_istore_n (lv' := [(3, .int (0 : Int32)), (2, .int (0 : Int32)), (0, .ref (L 1)), (1, .int a1)]) hx hb dX2_placeInQueue_3 rfl hl (by decide) rfl (fun ls hl => ?_)
  refine wp2S (fun (v1 : Int32) (v2 : Int32) => ∀ (H : Heap) (locs : List Loc) (ls : Array Slot), lv_has ls 4 [(0, .ref (L 1)), (1, .int a1), (2, .int v1), (3, .int v2)] → Wd D cy L shC 52 S s H locs → W p l e (rmk 1 22) s m args below meth c H locs 0 0 Q (F0 m 4 ls [])) ?_ hf _ _ _ (lv_sub hl [2, 3, 1, 0] rfl) hW
  · intro self4 ih4 v1 v2 hf H locs ls hl hW
    unfold X2_placeInQueue_L4 at hf
    refine lv_iload_n hx hb dX2_placeInQueue_4 rfl (lv_at hl 3 rfl) ?_
    refine lv_aload_n hx hb dX2_placeInQueue_5 rfl (lv_at hl 0 rfl) ?_
    refine x_geti (k := 1) E hC hW fl_X2_18 (by decide) rfl rfl dX2_placeInQueue_6 ?_
    refine lv_icmp_ge (tgt := 30) hx hb dX2_placeInQueue_9 (by decide) (fun c9 => ?_) (fun c9 => ?_)
    · have hf := xt hf c9
      refine lv_iload_n hx hb dX2_placeInQueue_30 rfl (lv_at hl 2 rfl) ?_
      exact x_iretP E hC hW hr hlk hQ dX2_placeInQueue_31 hf
    · have hf := xf hf c9
      refine lv_aload_n hx hb dX2_placeInQueue_12 rfl (lv_at hl 0 rfl) ?_
      refine lv_iload_n hx hb dX2_placeInQueue_13 rfl (lv_at hl 3 rfl) ?_
      refine lv_iload_n hx hb dX2_placeInQueue_14 rfl (lv_at hl 1 rfl) ?_
      obtain ⟨r3, g4, hf⟩ := cl1S hf
      refine x_Vr (k := 1) (As := [.int v2, .int a1]) (rest := []) E hC hW hl.1 (c_X2_isAhead v2 a1 r3 S g4) cv_X2_56 rfl (by decide) rfl rfl rfl ⟨Nat.le_of_ble_eq_true rfl, Nat.le_of_ble_eq_true rfl⟩ ⟨Nat.le_refl _, Nat.le_refl _⟩ (Nat.le_of_ble_eq_true rfl) dX2_placeInQueue_15 (fun H locs hW => ?_)
      refine jnS hf (fun (j : Int32 → Option (Int32)) => ∀ (v5 : Int32), (j v5) = some r → ∀ (H : Heap) (locs : List Loc) (ls : Array Slot), lv_has ls 4 [(0, .ref (L 1)), (1, .int a1), (2, .int v5), (3, .int v2)] → Wd D cy L shC 52 S s H locs → W p l e (rmk 1 22) s m args below meth c H locs 0 0 Q (F0 m 24 ls [])) ?_ ?_
      · intro v5 hf H locs ls hl hW
        try dsimp only at hf
        obtain ⟨x6, ex6⟩ : ∃ z : Int32, z = (v2 + 1) := ⟨_, rfl⟩
        have hf := bvS hf ex6
        refine lv_iinc (v := x6) (lv' := [(3, .int x6), (0, .ref (L 1)), (1, .int a1), (2, .int v5)]) hx hb dX2_placeInQueue_24 hl (k := 3) rfl (by rw [ex6]; rfl) (by decide) rfl (fun ls hl => ?_)
        refine lv_goto (tgt := 4) hx hb dX2_placeInQueue_27 (by decide) ?_
        exact ih4 _ _ hf _ _ _ (lv_sub hl [1, 2, 3, 0] rfl) hW
      intro j24 J24 hf
      refine lv_if_eq (tgt := 24) hx hb dX2_placeInQueue_18 (by decide) (fun c8 => ?_) (fun c8 => ?_)
      · have hf := xt hf c8
        exact J24 _ hf _ _ _ (lv_sub hl [0, 1, 2, 3] rfl) hW
      · have hf := xf hf c8
        obtain ⟨x7, ex7⟩ : ∃ z : Int32, z = (v1 + 1) := ⟨_, rfl⟩
        have hf := bvS hf ex7
        refine lv_iinc (v := x7) (lv' := [(2, .int x7), (0, .ref (L 1)), (1, .int a1), (3, .int v2)]) hx hb dX2_placeInQueue_21 hl (k := 2) rfl (by rw [ex7]; rfl) (by decide) rfl (fun ls hl => ?_)
        exact J24 _ hf _ _ _ (lv_sub hl [1, 2, 0, 3] rfl) hW
set_option maxRecDepth 100000 in
set_option maxHeartbeats 4000000 in
theorem c_X2_inFirst {l : Launch} {D : va_G} {cy : Nat → ClassId} {L : Nat → Nat} {bA : Nat} (a0 : Int32) (a1 : Int32) (a2 : Int32) (a3 : Int32) (r : Int32) (S : Sg)  (hf : f_X2_inFirst a0 a1 a2 a3 = some r) : MetX l D cy L shC 52 bA yX2_inFirst cX2_inFirst 4 (some .int) 0 0 [.int a0, .int a1, .int a2, .int a3] (some (.int r)) S S := by
  refine x_met (own := RX2) (by decide) rfl (Nat.le_of_ble_eq_true rfl) ?_
  intro p e s m below meth c ls E hC hr hlk hl hW
  generalize hargs : ([.int a0, .int a1, .int a2, .int a3] : List Value).toArray = args at E ⊢
  generalize hQ : MQ below (xQ D cy L shC 52 bA (some (.int r)) S) args s 0 0 (AL L 52) = Q
  have hl : lv_has ls 4 [(0, .int a0), (1, .int a1), (2, .int a2), (3, .int a3)] := hl
  have hx := E.1
  have hb := E.2.1
  have hts := E.2.2.2.2
  unfold f_X2_inFirst at hf
  refine lv_iload_n hx hb dX2_inFirst_0 rfl (lv_at hl 0 rfl) ?_
  by_cases c1 : a0 = 2
  · have hf := xt hf c1
    refine lv_lookup (off := 27) (tgt := 28) hx hb dX2_inFirst_1 (by decide) (by rw [c1]; rfl) (by decide) ?_
    refine lv_iload_n hx hb dX2_inFirst_28 rfl (lv_at hl 2 rfl) ?_
    exact x_iretP E hC hW hr hlk hQ dX2_inFirst_29 hf
  · have hf := xf hf c1
    by_cases c2 : a0 = 4
    · have hf := xt hf c2
      refine lv_lookup (off := 29) (tgt := 30) hx hb dX2_inFirst_1 (by decide) (by rw [c2]; rfl) (by decide) ?_
      refine lv_iload_n hx hb dX2_inFirst_30 rfl (lv_at hl 3 rfl) ?_
      refine lv_if_ne (tgt := 38) hx hb dX2_inFirst_31 (by decide) (fun c3 => ?_) (fun c3 => ?_)
      · have hf := xf hf c3
        refine lv_iload_n hx hb dX2_inFirst_38 rfl (lv_at hl 2 rfl) ?_
        exact x_iretP E hC hW hr hlk hQ dX2_inFirst_39 hf
      · have hf := xt hf c3
        refine lv_iconst (v := 0) hx hb dX2_inFirst_34 (by decide) ?_
        refine lv_goto (tgt := 39) hx hb dX2_inFirst_35 (by decide) ?_
        exact x_iretP E hC hW hr hlk hQ dX2_inFirst_39 hf
    · have hf := xf hf c2
      refine lv_lookup (off := 39) (tgt := 40) hx hb dX2_inFirst_1 (by decide) (by show Op.lookupswitch.offset [(2, 27), (4, 29)] 39 _ = _; rw [lv_osw c1 (by decide), lv_osw c2 (by decide)]; rfl) (by decide) ?_
      refine lv_iload_n hx hb dX2_inFirst_40 rfl (lv_at hl 1 rfl) ?_
      exact x_iretP E hC hW hr hlk hQ dX2_inFirst_41 hf
set_option maxRecDepth 100000 in
set_option maxHeartbeats 4000000 in
theorem c_X2_inSecond {l : Launch} {D : va_G} {cy : Nat → ClassId} {L : Nat → Nat} {bA : Nat} (a0 : Int32) (a1 : Int32) (a2 : Int32) (r : Int32) (S : Sg)  (hf : f_X2_inSecond a0 a1 a2 = some r) : MetX l D cy L shC 52 bA yX2_inSecond cX2_inSecond 3 (some .int) 0 0 [.int a0, .int a1, .int a2] (some (.int r)) S S := by
  refine x_met (own := RX2) (by decide) rfl (Nat.le_of_ble_eq_true rfl) ?_
  intro p e s m below meth c ls E hC hr hlk hl hW
  generalize hargs : ([.int a0, .int a1, .int a2] : List Value).toArray = args at E ⊢
  generalize hQ : MQ below (xQ D cy L shC 52 bA (some (.int r)) S) args s 0 0 (AL L 52) = Q
  have hl : lv_has ls 3 [(0, .int a0), (1, .int a1), (2, .int a2)] := hl
  have hx := E.1
  have hb := E.2.1
  have hts := E.2.2.2.2
  unfold f_X2_inSecond at hf
  refine lv_iload_n hx hb dX2_inSecond_0 rfl (lv_at hl 0 rfl) ?_
  by_cases c1 : a0 = 1
  · have hf := xt hf c1
    refine lv_tableIn (off := 35) (tgt := 36) hx hb dX2_inSecond_1 (by rw [c1]; decide) (by rw [c1]; decide) (by rw [c1]; rfl) (by decide) ?_
    refine lv_iload_n hx hb dX2_inSecond_36 rfl (lv_at hl 1 rfl) ?_
    refine lv_iload_n hx hb dX2_inSecond_37 rfl (lv_at hl 2 rfl) ?_
    refine lv_iadd hx hb dX2_inSecond_38 ?_
    exact x_iretP E hC hW hr hlk hQ dX2_inSecond_39 hf
  · have hf := xf hf c1
    by_cases c2 : a0 = 2
    · have hf := xt hf c2
      refine lv_tableIn (off := 45) (tgt := 46) hx hb dX2_inSecond_1 (by rw [c2]; decide) (by rw [c2]; decide) (by rw [c2]; rfl) (by decide) ?_
      refine lv_iload_n hx hb dX2_inSecond_46 rfl (lv_at hl 1 rfl) ?_
      exact x_iretP E hC hW hr hlk hQ dX2_inSecond_47 hf
    · have hf := xf hf c2
      by_cases c3 : a0 = 3
      · have hf := xt hf c3
        refine lv_tableIn (off := 39) (tgt := 40) hx hb dX2_inSecond_1 (by rw [c3]; decide) (by rw [c3]; decide) (by rw [c3]; rfl) (by decide) ?_
        refine lv_iload_n hx hb dX2_inSecond_40 rfl (lv_at hl 1 rfl) ?_
        refine lv_iload_n hx hb dX2_inSecond_41 rfl (lv_at hl 2 rfl) ?_
        refine lv_iadd hx hb dX2_inSecond_42 ?_
        refine lv_iload_n hx hb dX2_inSecond_43 rfl (lv_at hl 1 rfl) ?_
        refine lv_iadd hx hb dX2_inSecond_44 ?_
        exact x_iretP E hC hW hr hlk hQ dX2_inSecond_45 hf
      · have hf := xf hf c3
        by_cases c4 : a0 = 4
        · have hf := xt hf c4
          refine lv_tableIn (off := 45) (tgt := 46) hx hb dX2_inSecond_1 (by rw [c4]; decide) (by rw [c4]; decide) (by rw [c4]; rfl) (by decide) ?_
          refine lv_iload_n hx hb dX2_inSecond_46 rfl (lv_at hl 1 rfl) ?_
          exact x_iretP E hC hW hr hlk hQ dX2_inSecond_47 hf
        · have hf := xf hf c4
          by_cases c5 : a0 = 5
          · have hf := xt hf c5
            refine lv_tableIn (off := 45) (tgt := 46) hx hb dX2_inSecond_1 (by rw [c5]; decide) (by rw [c5]; decide) (by rw [c5]; rfl) (by decide) ?_
            refine lv_iload_n hx hb dX2_inSecond_46 rfl (lv_at hl 1 rfl) ?_
            exact x_iretP E hC hW hr hlk hQ dX2_inSecond_47 hf
          · have hf := xf hf c5
            refine lv_tableOut (tgt := 48) hx hb dX2_inSecond_1 (by have q0 := lv_neT c1 (a := 1) (by decide); have q1 := lv_neT c2 (a := 2) (by decide); have q2 := lv_neT c3 (a := 3) (by decide); have q3 := lv_neT c4 (a := 4) (by decide); have q4 := lv_neT c5 (a := 5) (by decide); omega) (by decide) ?_
            refine lv_iload_n hx hb dX2_inSecond_48 rfl (lv_at hl 2 rfl) ?_
            exact x_iretP E hC hW hr hlk hQ dX2_inSecond_49 hf
set_option maxRecDepth 100000 in
set_option maxHeartbeats 4000000 in
theorem c_X2_rowNumber {l : Launch} {D : va_G} {cy : Nat → ClassId} {L : Nat → Nat} {bA : Nat} (a1 : Int32) (a2 : Int32) (a3 : Int32) (r : Int32) (S : Sg)  (hf : f_X2_rowNumber a1 a2 a3 S = some r) : MetX l D cy L shC 52 bA yX2_rowNumber cX2_rowNumber 7 (some .int) 1 23 [.ref (L 1), .int a1, .int a2, .int a3] (some (.int r)) S S := by
  refine x_met (own := RX2) (by decide) rfl (Nat.le_of_ble_eq_true rfl) ?_
  intro p e s m below meth c ls E hC hr hlk hl hW
  generalize hargs : ([.ref (L 1), .int a1, .int a2, .int a3] : List Value).toArray = args at E ⊢
  generalize hQ : MQ below (xQ D cy L shC 52 bA (some (.int r)) S) args s 0 0 (AL L 52) = Q
  have hl : lv_has ls 7 [(0, .ref (L 1)), (1, .int a1), (2, .int a2), (3, .int a3)] := hl
  have hx := E.1
  have hb := E.2.1
  have hts := E.2.2.2.2
  unfold f_X2_rowNumber at hf
  refine lv_aload_n hx hb dX2_rowNumber_0 rfl (lv_at hl 0 rfl) ?_
  refine x_getr (k := 1) (k' := 5) E hC hW fl_X2_32 (by decide) rfl rfl dX2_rowNumber_1 ?_
  refine lv_iload_n hx hb dX2_rowNumber_4 rfl (lv_at hl 1 rfl) ?_
  refine lv_bipush (v := 12) hx hb dX2_rowNumber_5 (by decide) ?_
  refine lv_imul hx hb dX2_rowNumber_7 ?_
  refine lv_iload_n hx hb dX2_rowNumber_8 rfl (lv_at hl 3 rfl) ?_
  refine lv_iadd hx hb dX2_rowNumber_9 ?_
  obtain ⟨hg1, hf⟩ := gdS hf
  refine x_iald (k := 5) E hC hW (by decide) rfl (inbS hg1) dX2_rowNumber_10 ?_
  refine lv_topi (fun x2 ex2 => ?_)
  have hf := bvS hf ex2
  refine lv_istore (lv' := [(4, .int x2), (0, .ref (L 1)), (1, .int a1), (2, .int a2), (3, .int a3)]) hx hb dX2_rowNumber_11 hl (by decide) rfl (fun ls hl => ?_)
  refine lv_aload_n hx hb dX2_rowNumber_13 rfl (lv_at hl 1 rfl) ?_
  refine x_getr (k := 1) (k' := 5) E hC hW fl_X2_32 (by decide) rfl rfl dX2_rowNumber_14 ?_
  refine lv_iload_n hx hb dX2_rowNumber_17 rfl (lv_at hl 2 rfl) ?_
  refine lv_bipush (v := 12) hx hb dX2_rowNumber_18 (by decide) ?_
  refine lv_imul hx hb dX2_rowNumber_20 ?_
  refine lv_bipush (v := 6) hx hb dX2_rowNumber_21 (by decide) ?_
  refine lv_iadd hx hb dX2_rowNumber_23 ?_
  refine lv_iload_n hx hb dX2_rowNumber_24 rfl (lv_at hl 4 rfl) ?_
  refine lv_iadd hx hb dX2_rowNumber_25 ?_
  obtain ⟨hg3, hf⟩ := gdS hf
  refine x_iald (k := 5) E hC hW (by decide) rfl (inbS hg3) dX2_rowNumber_26 ?_
  refine lv_topi (fun x4 ex4 => ?_)
  have hf := bvS hf ex4
  refine lv_istore (lv' := [(5, .int x4), (4, .int x2), (0, .ref (L 1)), (1, .int a1), (2, .int a2), (3, .int a3)]) hx hb dX2_rowNumber_27 hl (by decide) rfl (fun ls hl => ?_)
  refine lv_aload_n hx hb dX2_rowNumber_29 rfl (lv_at hl 2 rfl) ?_
  refine x_getr (k := 1) (k' := 2) E hC hW fl_X2_21 (by decide) rfl rfl dX2_rowNumber_30 ?_
  refine lv_iload_n hx hb dX2_rowNumber_33 rfl (lv_at hl 3 rfl) ?_
  obtain ⟨hg5, hf⟩ := gdS hf
  refine x_iald (k := 2) E hC hW (by decide) rfl (inbS hg5) dX2_rowNumber_34 ?_
  refine lv_topi (fun x6 ex6 => ?_)
  have hf := bvS hf ex6
  refine lv_istore (lv' := [(6, .int x6), (5, .int x4), (4, .int x2), (0, .ref (L 1)), (1, .int a1), (2, .int a2), (3, .int a3)]) hx hb dX2_rowNumber_35 hl (by decide) rfl (fun ls hl => ?_)
  refine lv_iload_n hx hb dX2_rowNumber_37 rfl (lv_at hl 5 rfl) ?_
  refine jnS hf (fun (j : Int64 → Option (Int32)) => ∀ (x7 : Int64), (j x7) = some r → ∀ (H : Heap) (locs : List Loc) (ls : Array Slot), lv_has ls 7 [(0, .ref (L 1))] → Wd D cy L shC 52 S s H locs → W p l e (rmk 1 23) s m args below meth c H locs 0 0 Q (F0 m 65 ls [.long x7])) ?_ ?_
  · intro x7 hf H locs ls hl hW
    try dsimp only at hf
    refine lv_aload_n hx hb dX2_rowNumber_65 rfl (lv_at hl 0 rfl) ?_
    refine x_geti (k := 1) E hC hW fl_X2_9 (by decide) rfl rfl dX2_rowNumber_66 ?_
    obtain ⟨r8, g9, hf⟩ := cl1S hf
    refine x_Nr (As := [.long x7, .int (S.1 1 0)]) (rest := []) E hC hW hl.1 (c_X9_restOf x7 (S.1 1 0) r8 S g9) cn_X2_52 rfl rfl ⟨Nat.le_of_ble_eq_true rfl, Nat.le_of_ble_eq_true rfl⟩ ⟨Nat.le_refl _, Nat.le_refl _⟩ (Nat.le_of_ble_eq_true rfl) dX2_rowNumber_69 (fun H locs hW => ?_)
    exact x_iretP E hC hW hr hlk hQ dX2_rowNumber_72 hf
  intro j65 J65 hf
  refine lv_if_ne (tgt := 55) hx hb dX2_rowNumber_38 (by decide) (fun c14 => ?_) (fun c14 => ?_)
  · have hf := xf hf c14
    refine lv_iload hx hb dX2_rowNumber_55 (lv_at hl 0 rfl) ?_
    refine lv_iload hx hb dX2_rowNumber_57 (lv_at hl 2 rfl) ?_
    refine lv_iload hx hb dX2_rowNumber_59 (lv_at hl 1 rfl) ?_
    obtain ⟨r10, g11, hf⟩ := cl1S hf
    refine x_Sr (As := [.int x6, .int x2, .int x4]) (rest := []) E hC hW hl.1 (c_X2_inSecond x6 x2 x4 r10 S g11) cs_X2_48 rfl rfl ⟨Nat.le_of_ble_eq_true rfl, Nat.le_of_ble_eq_true rfl⟩ ⟨Nat.le_refl _, Nat.le_refl _⟩ (Nat.le_of_ble_eq_true rfl) dX2_rowNumber_61 (fun H locs hW => ?_)
    refine lv_i2l hx hb dX2_rowNumber_64 rfl ?_
    exact J65 _ hf _ _ _ (lv_sub hl [3] rfl) hW
  · have hf := xt hf c14
    refine lv_iload hx hb dX2_rowNumber_41 (lv_at hl 0 rfl) ?_
    refine lv_iload hx hb dX2_rowNumber_43 (lv_at hl 2 rfl) ?_
    refine lv_iload hx hb dX2_rowNumber_45 (lv_at hl 1 rfl) ?_
    refine lv_iload_n hx hb dX2_rowNumber_47 rfl (lv_at hl 6 rfl) ?_
    obtain ⟨r12, g13, hf⟩ := cl1S hf
    refine x_Sr (As := [.int x6, .int x2, .int x4, .int a3]) (rest := []) E hC hW hl.1 (c_X2_inFirst x6 x2 x4 a3 r12 S g13) cs_X2_44 rfl rfl ⟨Nat.le_of_ble_eq_true rfl, Nat.le_of_ble_eq_true rfl⟩ ⟨Nat.le_refl _, Nat.le_refl _⟩ (Nat.le_of_ble_eq_true rfl) dX2_rowNumber_48 (fun H locs hW => ?_)
    refine lv_i2l hx hb dX2_rowNumber_51 rfl ?_
    refine lv_goto (tgt := 65) hx hb dX2_rowNumber_52 (by decide) ?_
    exact J65 _ hf _ _ _ (lv_sub hl [3] rfl) hW
set_option maxRecDepth 100000 in
set_option maxHeartbeats 4000000 in
theorem c_X5_fill {l : Launch} {D : va_G} {cy : Nat → ClassId} {L : Nat → Nat} {bA : Nat}  (S S' : Sg)  (hf : f_X5_fill S = some S') : MetX l D cy L shC 52 bA yX5_fill cX5_fill 4 none 2 49 [.ref (L 13), .ref (L 1)] none S S' := by
  refine x_met (own := RX5) (by decide) rfl (Nat.le_of_ble_eq_true rfl) ?_
  intro p e s m below meth c ls E hC hr hlk hl hW
  generalize hargs : ([.ref (L 13), .ref (L 1)] : List Value).toArray = args at E ⊢
  generalize hQ : MQ below (xQ D cy L shC 52 bA none S') args s 0 0 (AL L 52) = Q
  have hl : lv_has ls 4 [(0, .ref (L 13)), (1, .ref (L 1))] := hl
  have hx := E.1
  have hb := E.2.1
  have hts := E.2.2.2.2
  unfold f_X5_fill at hf
  refine lv_aload_n hx hb dX5_fill_0 rfl (lv_at hl 0 rfl) ?_
  refine lv_aload_n hx hb dX5_fill_1 rfl (lv_at hl 1 rfl) ?_
  refine x_geti (k := 1) E hC hW fl_X5_32 (by decide) rfl rfl dX5_fill_2 ?_
  refine x_put (k := 13) E hC hW fl_X5_9 pl_5_0 (by decide) rfl rfl rfl rfl dX5_fill_5 (fun H locs hW => ?_)
  obtain ⟨S1, eS1⟩ : ∃ z : Sg, z = si S 13 0 (S.1 1 0) := ⟨_, rfl⟩
  have hW : Wd D cy L shC 52 S1 s H locs := by rw [eS1]; exact hW
  have hf := bvS hf eS1
  refine lv_aload_n hx hb dX5_fill_8 rfl (lv_at hl 0 rfl) ?_
  refine lv_aload_n hx hb dX5_fill_9 rfl (lv_at hl 1 rfl) ?_
  refine x_geti (k := 1) E hC hW fl_X5_35 (by decide) rfl rfl dX5_fill_10 ?_
  refine x_put (k := 13) E hC hW fl_X5_15 pl_5_1 (by decide) rfl rfl rfl rfl dX5_fill_13 (fun H locs hW => ?_)
  obtain ⟨S2, eS2⟩ : ∃ z : Sg, z = si S1 13 1 (S1.1 1 1) := ⟨_, rfl⟩
  have hW : Wd D cy L shC 52 S2 s H locs := by rw [eS2]; exact hW
  have hf := bvS hf eS2
  refine lv_aload_n hx hb dX5_fill_16 rfl (lv_at hl 0 rfl) ?_
  refine lv_aload_n hx hb dX5_fill_17 rfl (lv_at hl 1 rfl) ?_
  refine x_geti (k := 1) E hC hW fl_X5_36 (by decide) rfl rfl dX5_fill_18 ?_
  refine x_put (k := 13) E hC hW fl_X5_18 pl_5_2 (by decide) rfl rfl rfl rfl dX5_fill_21 (fun H locs hW => ?_)
  obtain ⟨S3, eS3⟩ : ∃ z : Sg, z = si S2 13 2 (S2.1 1 2) := ⟨_, rfl⟩
  have hW : Wd D cy L shC 52 S3 s H locs := by rw [eS3]; exact hW
  have hf := bvS hf eS3
  refine lv_iconst (v := 0) hx hb dX5_fill_24 (by decide) ?_
  refine lv_istore_n (lv' := [(2, .int (0 : Int32)), (0, .ref (L 13)), (1, .ref (L 1))]) hx hb dX5_fill_25 rfl hl (by decide) rfl (fun ls hl => ?_)
  refine wp2S (fun (v4 : Int32) (S5 : Sg) => ∀ (H : Heap) (locs : List Loc) (ls : Array Slot), lv_has ls 4 [(0, .ref (L 13)), (1, .ref (L 1)), (2, .int v4)] → Wd D cy L shC 52 S5 s H locs → W p l e (rmk 2 49) s m args below meth c H locs 0 0 Q (F0 m 26 ls [])) ?_ hf _ _ _ (lv_sub hl [1, 2, 0] rfl) hW
  · intro self26 ih26 v4 S5 hf H locs ls hl hW
    unfold X5_fill_L26 at hf
    refine lv_iload_n hx hb dX5_fill_26 rfl (lv_at hl 2 rfl) ?_
    refine lv_aload_n hx hb dX5_fill_27 rfl (lv_at hl 0 rfl) ?_
    refine x_geti (k := 13) E hC hW fl_X5_18 (by decide) rfl rfl dX5_fill_28 ?_
    refine lv_icmp_ge (tgt := 95) hx hb dX5_fill_31 (by decide) (fun c20 => ?_) (fun c20 => ?_)
    · have hf := xt hf c20
      exact x_vretI E hC hW hr hlk hQ dX5_fill_95 hf
    · have hf := xf hf c20
      refine lv_iconst (v := 0) hx hb dX5_fill_34 (by decide) ?_
      refine lv_istore_n (lv' := [(3, .int (0 : Int32)), (0, .ref (L 13)), (1, .ref (L 1)), (2, .int v4)]) hx hb dX5_fill_35 rfl hl (by decide) rfl (fun ls hl => ?_)
      refine wp2K hf (fun (v8 : Int32) (S9 : Sg) => ∀ (H : Heap) (locs : List Loc) (ls : Array Slot), lv_has ls 4 [(0, .ref (L 13)), (1, .ref (L 1)), (2, .int v4), (3, .int v8)] → Wd D cy L shC 52 S9 s H locs → W p l e (rmk 2 49) s m args below meth c H locs 0 0 Q (F0 m 36 ls [])) (fun (j : Sg → Option (Sg)) => ∀ (S6 : Sg), (j S6) = some S' → ∀ (H : Heap) (locs : List Loc) (ls : Array Slot), lv_has ls 4 [(0, .ref (L 13)), (1, .ref (L 1)), (2, .int v4)] → Wd D cy L shC 52 S6 s H locs → W p l e (rmk 2 49) s m args below meth c H locs 0 0 Q (F0 m 89 ls [])) ?_ ?_ _ _ _ (lv_sub hl [1, 2, 3, 0] rfl) hW
      · intro S6 hf H locs ls hl hW
        try dsimp only at hf
        obtain ⟨x7, ex7⟩ : ∃ z : Int32, z = (v4 + 1) := ⟨_, rfl⟩
        have hf := bvS hf ex7
        refine lv_iinc (v := x7) (lv' := [(2, .int x7), (0, .ref (L 13)), (1, .ref (L 1))]) hx hb dX5_fill_89 hl (k := 2) rfl (by rw [ex7]; rfl) (by decide) rfl (fun ls hl => ?_)
        refine lv_goto (tgt := 26) hx hb dX5_fill_92 (by decide) ?_
        exact ih26 _ _ hf _ _ _ (lv_sub hl [1, 2, 0] rfl) hW
      · intro k89 K89 self36 ih36 v8 S9 hf H locs ls hl hW
        unfold X5_fill_L36 at hf
        refine lv_iload_n hx hb dX5_fill_36 rfl (lv_at hl 3 rfl) ?_
        refine lv_aload_n hx hb dX5_fill_37 rfl (lv_at hl 0 rfl) ?_
        refine x_geti (k := 13) E hC hW fl_X5_15 (by decide) rfl rfl dX5_fill_38 ?_
        refine lv_icmp_ge (tgt := 89) hx hb dX5_fill_41 (by decide) (fun c19 => ?_) (fun c19 => ?_)
        · have hf := xt hf c19
          exact K89 _ hf _ _ _ (lv_sub hl [0, 1, 2] rfl) hW
        · have hf := xf hf c19
          refine lv_aload_n hx hb dX5_fill_44 rfl (lv_at hl 0 rfl) ?_
          refine x_getr (k := 13) (k' := 14) E hC hW fl_X5_21 (by decide) rfl rfl dX5_fill_45 ?_
          refine lv_iload_n hx hb dX5_fill_48 rfl (lv_at hl 2 rfl) ?_
          refine lv_bipush (v := 12) hx hb dX5_fill_49 (by decide) ?_
          refine lv_imul hx hb dX5_fill_51 ?_
          refine lv_iload_n hx hb dX5_fill_52 rfl (lv_at hl 3 rfl) ?_
          refine lv_iadd hx hb dX5_fill_53 ?_
          refine lv_aload_n hx hb dX5_fill_54 rfl (lv_at hl 1 rfl) ?_
          refine lv_iload_n hx hb dX5_fill_55 rfl (lv_at hl 2 rfl) ?_
          refine lv_iconst (v := 0) hx hb dX5_fill_56 (by decide) ?_
          refine lv_iload_n hx hb dX5_fill_57 rfl (lv_at hl 3 rfl) ?_
          obtain ⟨r10, g11, hf⟩ := cl1S hf
          refine x_Vr (k := 1) (As := [.int v4, .int (0 : Int32), .int v8]) (rest := [.int ((v4 * (12 : Int32)) + v8), .ref (L 14)]) E hC hW hl.1 (c_X2_rowNumber v4 (0 : Int32) v8 r10 S9 g11) cv_X5_37 rfl (by decide) rfl rfl rfl ⟨Nat.le_of_ble_eq_true rfl, Nat.le_of_ble_eq_true rfl⟩ ⟨Nat.le_refl _, Nat.le_refl _⟩ (Nat.le_of_ble_eq_true rfl) dX5_fill_58 (fun H locs hW => ?_)
          obtain ⟨hg12, hf⟩ := gdS hf
          refine x_iast (k := 14) E hC hW (by decide) rfl (inbS hg12) dX5_fill_61 (fun H locs hW => ?_)
          obtain ⟨S13, eS13⟩ : ∃ z : Sg, z = si S9 14 (ix ((v4 * (12 : Int32)) + v8)) r10 := ⟨_, rfl⟩
          have hW : Wd D cy L shC 52 S13 s H locs := by rw [eS13]; exact hW
          have hf := bvS hf eS13
          refine lv_aload_n hx hb dX5_fill_62 rfl (lv_at hl 0 rfl) ?_
          refine x_getr (k := 13) (k' := 14) E hC hW fl_X5_21 (by decide) rfl rfl dX5_fill_63 ?_
          refine lv_iload_n hx hb dX5_fill_66 rfl (lv_at hl 2 rfl) ?_
          refine lv_bipush (v := 12) hx hb dX5_fill_67 (by decide) ?_
          refine lv_imul hx hb dX5_fill_69 ?_
          refine lv_bipush (v := 6) hx hb dX5_fill_70 (by decide) ?_
          refine lv_iadd hx hb dX5_fill_72 ?_
          refine lv_iload_n hx hb dX5_fill_73 rfl (lv_at hl 3 rfl) ?_
          refine lv_iadd hx hb dX5_fill_74 ?_
          refine lv_aload_n hx hb dX5_fill_75 rfl (lv_at hl 1 rfl) ?_
          refine lv_iload_n hx hb dX5_fill_76 rfl (lv_at hl 2 rfl) ?_
          refine lv_iconst (v := 1) hx hb dX5_fill_77 (by decide) ?_
          refine lv_iload_n hx hb dX5_fill_78 rfl (lv_at hl 3 rfl) ?_
          obtain ⟨r14, g15, hf⟩ := cl1S hf
          refine x_Vr (k := 1) (As := [.int v4, .int (1 : Int32), .int v8]) (rest := [.int (((v4 * (12 : Int32)) + (6 : Int32)) + v8), .ref (L 14)]) E hC hW hl.1 (c_X2_rowNumber v4 (1 : Int32) v8 r14 S13 g15) cv_X5_37 rfl (by decide) rfl rfl rfl ⟨Nat.le_of_ble_eq_true rfl, Nat.le_of_ble_eq_true rfl⟩ ⟨Nat.le_refl _, Nat.le_refl _⟩ (Nat.le_of_ble_eq_true rfl) dX5_fill_79 (fun H locs hW => ?_)
          obtain ⟨hg16, hf⟩ := gdS hf
          refine x_iast (k := 14) E hC hW (by decide) rfl (inbS hg16) dX5_fill_82 (fun H locs hW => ?_)
          obtain ⟨S17, eS17⟩ : ∃ z : Sg, z = si S13 14 (ix (((v4 * (12 : Int32)) + (6 : Int32)) + v8)) r14 := ⟨_, rfl⟩
          have hW : Wd D cy L shC 52 S17 s H locs := by rw [eS17]; exact hW
          have hf := bvS hf eS17
          obtain ⟨x18, ex18⟩ : ∃ z : Int32, z = (v8 + 1) := ⟨_, rfl⟩
          have hf := bvS hf ex18
          refine lv_iinc (v := x18) (lv' := [(3, .int x18), (0, .ref (L 13)), (1, .ref (L 1)), (2, .int v4)]) hx hb dX5_fill_83 hl (k := 3) rfl (by rw [ex18]; rfl) (by decide) rfl (fun ls hl => ?_)
          refine lv_goto (tgt := 36) hx hb dX5_fill_86 (by decide) ?_
          exact ih36 _ _ hf _ _ _ (lv_sub hl [1, 2, 3, 0] rfl) hW
set_option maxRecDepth 100000 in
set_option maxHeartbeats 4000000 in
theorem c_X0_clearPlace {l : Launch} {D : va_G} {cy : Nat → ClassId} {L : Nat → Nat} {bA : Nat} (k : Nat) (a1 : Int32) (S S' : Sg) (hk : okB k) (hf : f_X0_clearPlace k a1 S = some S') : MetX l D cy L shC 52 bA yX0_clearPlace cX0_clearPlace 5 none 0 0 [.ref (L k), .int a1] none S S' := by
  refine x_met (own := RX0) (by decide) rfl (Nat.le_of_ble_eq_true rfl) ?_
  intro p e s m below meth c ls E hC hr hlk hl hW
  generalize hargs : ([.ref (L k), .int a1] : List Value).toArray = args at E ⊢
  generalize hQ : MQ below (xQ D cy L shC 52 bA none S') args s 0 0 (AL L 52) = Q
  have hl : lv_has ls 5 [(0, .ref (L k)), (1, .int a1)] := hl
  have hx := E.1
  have hb := E.2.1
  have hts := E.2.2.2.2
  unfold f_X0_clearPlace at hf
  refine lv_aload_n hx hb dX0_clearPlace_0 rfl (lv_at hl 0 rfl) ?_
  refine x_geti (k := k) E hC hW fl_X0_15 hk.1 hk.2.1 rfl dX0_clearPlace_1 ?_
  refine lv_aload_n hx hb dX0_clearPlace_4 rfl (lv_at hl 0 rfl) ?_
  refine x_getr (k := k) (k' := (k + 3)) E hC hW fl_X0_32 hk.1 hk.2.1 rfl dX0_clearPlace_5 ?_
  refine lv_iload_n hx hb dX0_clearPlace_8 rfl (lv_at hl 1 rfl) ?_
  obtain ⟨hg1, hf⟩ := gdS hf
  refine x_iald (k := (k + 3)) E hC hW hk.2.2.2.2.2.2.1 hk.2.2.2.2.2.2.2 (inbS hg1) dX0_clearPlace_9 ?_
  refine lv_isub hx hb dX0_clearPlace_10 ?_
  refine lv_topi (fun x2 ex2 => ?_)
  have hf := bvS hf ex2
  refine lv_istore_n (lv' := [(2, .int x2), (0, .ref (L k)), (1, .int a1)]) hx hb dX0_clearPlace_11 rfl hl (by decide) rfl (fun ls hl => ?_)
  refine lv_aload_n hx hb dX0_clearPlace_12 rfl (lv_at hl 1 rfl) ?_
  refine x_getr (k := k) (k' := (k + 1)) E hC hW fl_X0_24 hk.1 hk.2.1 rfl dX0_clearPlace_13 ?_
  refine lv_iload_n hx hb dX0_clearPlace_16 rfl (lv_at hl 2 rfl) ?_
  refine lv_bipush (v := 6) hx hb dX0_clearPlace_17 (by decide) ?_
  refine lv_imul hx hb dX0_clearPlace_19 ?_
  refine lv_iload_n hx hb dX0_clearPlace_20 rfl (lv_at hl 2 rfl) ?_
  refine lv_iadd hx hb dX0_clearPlace_21 ?_
  obtain ⟨hg3, hf⟩ := gdS hf
  refine x_iald (k := (k + 1)) E hC hW hk.2.2.1 hk.2.2.2.1 (inbS hg3) dX0_clearPlace_22 ?_
  refine lv_topi (fun x4 ex4 => ?_)
  have hf := bvS hf ex4
  refine lv_istore_n (lv' := [(3, .int x4), (2, .int x2), (0, .ref (L k)), (1, .int a1)]) hx hb dX0_clearPlace_23 rfl hl (by decide) rfl (fun ls hl => ?_)
  refine lv_iload_n hx hb dX0_clearPlace_24 rfl (lv_at hl 3 rfl) ?_
  refine lv_istore (lv' := [(4, .int a1), (3, .int x4), (2, .int x2), (0, .ref (L k)), (1, .int a1)]) hx hb dX0_clearPlace_25 hl (by decide) rfl (fun ls hl => ?_)
  refine wp2S (fun (v5 : Int32) (S6 : Sg) => ∀ (H : Heap) (locs : List Loc) (ls : Array Slot), lv_has ls 5 [(0, .ref (L k)), (1, .int a1), (2, .int x2), (3, .int x4), (4, .int v5)] → Wd D cy L shC 52 S6 s H locs → W p l e (rmk 0 0) s m args below meth c H locs 0 0 Q (F0 m 27 ls [])) ?_ hf _ _ _ (lv_sub hl [3, 4, 2, 1, 0] rfl) hW
  · intro self27 ih27 v5 S6 hf H locs ls hl hW
    unfold X0_clearPlace_L27 at hf
    refine lv_iload hx hb dX0_clearPlace_27 (lv_at hl 4 rfl) ?_
    refine lv_aload_n hx hb dX0_clearPlace_29 rfl (lv_at hl 0 rfl) ?_
    refine x_geti (k := k) E hC hW fl_X0_18 hk.1 hk.2.1 rfl dX0_clearPlace_30 ?_
    refine lv_icmp_ge (tgt := 78) hx hb dX0_clearPlace_33 (by decide) (fun c13 => ?_) (fun c13 => ?_)
    · have hf := xt hf c13
      exact x_vretI E hC hW hr hlk hQ dX0_clearPlace_78 hf
    · have hf := xf hf c13
      refine lv_aload_n hx hb dX0_clearPlace_36 rfl (lv_at hl 0 rfl) ?_
      refine x_getr (k := k) (k' := (k + 3)) E hC hW fl_X0_32 hk.1 hk.2.1 rfl dX0_clearPlace_37 ?_
      refine lv_iload hx hb dX0_clearPlace_40 (lv_at hl 4 rfl) ?_
      refine lv_aload_n hx hb dX0_clearPlace_42 rfl (lv_at hl 0 rfl) ?_
      refine x_getr (k := k) (k' := (k + 3)) E hC hW fl_X0_32 hk.1 hk.2.1 rfl dX0_clearPlace_43 ?_
      refine lv_iload hx hb dX0_clearPlace_46 (lv_at hl 4 rfl) ?_
      obtain ⟨hg7, hf⟩ := gdS hf
      refine x_iald (k := (k + 3)) E hC hW hk.2.2.2.2.2.2.1 hk.2.2.2.2.2.2.2 (inbS hg7) dX0_clearPlace_48 ?_
      refine lv_iload_n hx hb dX0_clearPlace_49 rfl (lv_at hl 3 rfl) ?_
      refine lv_imul hx hb dX0_clearPlace_50 ?_
      refine lv_iload_n hx hb dX0_clearPlace_51 rfl (lv_at hl 2 rfl) ?_
      refine lv_aload_n hx hb dX0_clearPlace_52 rfl (lv_at hl 0 rfl) ?_
      refine x_getr (k := k) (k' := (k + 1)) E hC hW fl_X0_24 hk.1 hk.2.1 rfl dX0_clearPlace_53 ?_
      refine lv_iload_n hx hb dX0_clearPlace_56 rfl (lv_at hl 1 rfl) ?_
      refine lv_bipush (v := 6) hx hb dX0_clearPlace_57 (by decide) ?_
      refine lv_imul hx hb dX0_clearPlace_59 ?_
      refine lv_iload hx hb dX0_clearPlace_60 (lv_at hl 4 rfl) ?_
      refine lv_iadd hx hb dX0_clearPlace_62 ?_
      obtain ⟨hg8, hf⟩ := gdS hf
      refine x_iald (k := (k + 1)) E hC hW hk.2.2.1 hk.2.2.2.1 (inbS hg8) dX0_clearPlace_63 ?_
      refine lv_imul hx hb dX0_clearPlace_64 ?_
      refine lv_iadd hx hb dX0_clearPlace_65 ?_
      refine lv_aload_n hx hb dX0_clearPlace_66 rfl (lv_at hl 0 rfl) ?_
      refine x_geti (k := k) E hC hW fl_X0_15 hk.1 hk.2.1 rfl dX0_clearPlace_67 ?_
      obtain ⟨hg9, hf⟩ := gdS hf
      refine lv_irem hx hb dX0_clearPlace_70 (nzS hg9) ?_
      obtain ⟨hg10, hf⟩ := gdS hf
      refine x_iast (k := (k + 3)) E hC hW hk.2.2.2.2.2.2.1 hk.2.2.2.2.2.2.2 (inbS hg10) dX0_clearPlace_71 (fun H locs hW => ?_)
      obtain ⟨S11, eS11⟩ : ∃ z : Sg, z = si S6 (k + 3) (ix v5) (irm (((S6.1 (k + 3) (ix v5)) * x4) + (x2 * (S6.1 (k + 1) (ix ((a1 * (6 : Int32)) + v5))))) (S6.1 k 1)) := ⟨_, rfl⟩
      have hW : Wd D cy L shC 52 S11 s H locs := by rw [eS11]; exact hW
      have hf := bvS hf eS11
      obtain ⟨x12, ex12⟩ : ∃ z : Int32, z = (v5 + 1) := ⟨_, rfl⟩
      have hf := bvS hf ex12
      refine lv_iinc (v := x12) (lv' := [(4, .int x12), (0, .ref (L k)), (1, .int a1), (2, .int x2), (3, .int x4)]) hx hb dX0_clearPlace_72 hl (k := 4) rfl (by rw [ex12]; rfl) (by decide) rfl (fun ls hl => ?_)
      refine lv_goto (tgt := 27) hx hb dX0_clearPlace_75 (by decide) ?_
      exact ih27 _ _ hf _ _ _ (lv_sub hl [1, 2, 3, 4, 0] rfl) hW
set_option maxRecDepth 100000 in
set_option maxHeartbeats 4000000 in
theorem c_X0_keepWork {l : Launch} {D : va_G} {cy : Nat → ClassId} {L : Nat → Nat} {bA : Nat} (k : Nat) (a1 : Int32) (S S' : Sg) (hk : okB k) (hf : f_X0_keepWork k a1 S = some S') : MetX l D cy L shC 52 bA yX0_keepWork cX0_keepWork 3 none 0 0 [.ref (L k), .int a1] none S S' := by
  refine x_met (own := RX0) (by decide) rfl (Nat.le_of_ble_eq_true rfl) ?_
  intro p e s m below meth c ls E hC hr hlk hl hW
  generalize hargs : ([.ref (L k), .int a1] : List Value).toArray = args at E ⊢
  generalize hQ : MQ below (xQ D cy L shC 52 bA none S') args s 0 0 (AL L 52) = Q
  have hl : lv_has ls 3 [(0, .ref (L k)), (1, .int a1)] := hl
  have hx := E.1
  have hb := E.2.1
  have hts := E.2.2.2.2
  unfold f_X0_keepWork at hf
  refine lv_aload_n hx hb dX0_keepWork_0 rfl (lv_at hl 0 rfl) ?_
  refine x_getr (k := k) (k' := (k + 2)) E hC hW fl_X0_28 hk.1 hk.2.1 rfl dX0_keepWork_1 ?_
  refine lv_iload_n hx hb dX0_keepWork_4 rfl (lv_at hl 1 rfl) ?_
  refine lv_iconst (v := 1) hx hb dX0_keepWork_5 (by decide) ?_
  obtain ⟨hg1, hf⟩ := gdS hf
  refine x_zast (k := (k + 2)) E hC hW hk.2.2.2.2.1 hk.2.2.2.2.2.1 (inbS hg1) dX0_keepWork_6 (fun H locs hW => ?_)
  obtain ⟨S2, eS2⟩ : ∃ z : Sg, z = si S (k + 2) (ix a1) (zb (1 : Int32)) := ⟨_, rfl⟩
  have hW : Wd D cy L shC 52 S2 s H locs := by rw [eS2]; exact hW
  have hf := bvS hf eS2
  refine lv_aload_n hx hb dX0_keepWork_7 rfl (lv_at hl 0 rfl) ?_
  refine lv_dup hx hb dX0_keepWork_8 rfl ?_
  refine x_geti (k := k) E hC hW fl_X0_9 hk.1 hk.2.1 rfl dX0_keepWork_9 ?_
  refine lv_iconst (v := 1) hx hb dX0_keepWork_12 (by decide) ?_
  refine lv_iadd hx hb dX0_keepWork_13 ?_
  refine x_put (k := k) E hC hW fl_X0_9 pl_0_0 hk.1 hk.2.1 rfl rfl rfl dX0_keepWork_14 (fun H locs hW => ?_)
  obtain ⟨S3, eS3⟩ : ∃ z : Sg, z = si S2 k 0 ((S2.1 k 0) + (1 : Int32)) := ⟨_, rfl⟩
  have hW : Wd D cy L shC 52 S3 s H locs := by rw [eS3]; exact hW
  have hf := bvS hf eS3
  refine lv_iconst (v := 0) hx hb dX0_keepWork_17 (by decide) ?_
  refine lv_istore_n (lv' := [(2, .int (0 : Int32)), (0, .ref (L k)), (1, .int a1)]) hx hb dX0_keepWork_18 rfl hl (by decide) rfl (fun ls hl => ?_)
  refine wp2S (fun (v4 : Int32) (S5 : Sg) => ∀ (H : Heap) (locs : List Loc) (ls : Array Slot), lv_has ls 3 [(0, .ref (L k)), (1, .int a1), (2, .int v4)] → Wd D cy L shC 52 S5 s H locs → W p l e (rmk 0 0) s m args below meth c H locs 0 0 Q (F0 m 19 ls [])) ?_ hf _ _ _ (lv_sub hl [1, 2, 0] rfl) hW
  · intro self19 ih19 v4 S5 hf H locs ls hl hW
    unfold X0_keepWork_L19 at hf
    refine lv_iload_n hx hb dX0_keepWork_19 rfl (lv_at hl 2 rfl) ?_
    refine lv_aload_n hx hb dX0_keepWork_20 rfl (lv_at hl 0 rfl) ?_
    refine x_geti (k := k) E hC hW fl_X0_18 hk.1 hk.2.1 rfl dX0_keepWork_21 ?_
    refine lv_icmp_ge (tgt := 50) hx hb dX0_keepWork_24 (by decide) (fun c10 => ?_) (fun c10 => ?_)
    · have hf := xt hf c10
      exact x_vretI E hC hW hr hlk hQ dX0_keepWork_50 hf
    · have hf := xf hf c10
      refine lv_aload_n hx hb dX0_keepWork_27 rfl (lv_at hl 0 rfl) ?_
      refine x_getr (k := k) (k' := (k + 1)) E hC hW fl_X0_24 hk.1 hk.2.1 rfl dX0_keepWork_28 ?_
      refine lv_iload_n hx hb dX0_keepWork_31 rfl (lv_at hl 1 rfl) ?_
      refine lv_bipush (v := 6) hx hb dX0_keepWork_32 (by decide) ?_
      refine lv_imul hx hb dX0_keepWork_34 ?_
      refine lv_iload_n hx hb dX0_keepWork_35 rfl (lv_at hl 2 rfl) ?_
      refine lv_iadd hx hb dX0_keepWork_36 ?_
      refine lv_aload_n hx hb dX0_keepWork_37 rfl (lv_at hl 0 rfl) ?_
      refine x_getr (k := k) (k' := (k + 3)) E hC hW fl_X0_32 hk.1 hk.2.1 rfl dX0_keepWork_38 ?_
      refine lv_iload_n hx hb dX0_keepWork_41 rfl (lv_at hl 2 rfl) ?_
      obtain ⟨hg6, hf⟩ := gdS hf
      refine x_iald (k := (k + 3)) E hC hW hk.2.2.2.2.2.2.1 hk.2.2.2.2.2.2.2 (inbS hg6) dX0_keepWork_42 ?_
      obtain ⟨hg7, hf⟩ := gdS hf
      refine x_iast (k := (k + 1)) E hC hW hk.2.2.1 hk.2.2.2.1 (inbS hg7) dX0_keepWork_43 (fun H locs hW => ?_)
      obtain ⟨S8, eS8⟩ : ∃ z : Sg, z = si S5 (k + 1) (ix ((a1 * (6 : Int32)) + v4)) (S5.1 (k + 3) (ix v4)) := ⟨_, rfl⟩
      have hW : Wd D cy L shC 52 S8 s H locs := by rw [eS8]; exact hW
      have hf := bvS hf eS8
      obtain ⟨x9, ex9⟩ : ∃ z : Int32, z = (v4 + 1) := ⟨_, rfl⟩
      have hf := bvS hf ex9
      refine lv_iinc (v := x9) (lv' := [(2, .int x9), (0, .ref (L k)), (1, .int a1)]) hx hb dX0_keepWork_44 hl (k := 2) rfl (by rw [ex9]; rfl) (by decide) rfl (fun ls hl => ?_)
      refine lv_goto (tgt := 19) hx hb dX0_keepWork_47 (by decide) ?_
      exact ih19 _ _ hf _ _ _ (lv_sub hl [1, 2, 0] rfl) hW
set_option maxRecDepth 100000 in
set_option maxHeartbeats 4000000 in
theorem c_X0_add {l : Launch} {D : va_G} {cy : Nat → ClassId} {L : Nat → Nat} {bA : Nat} (k : Nat) (ka : Nat) (na : Nat) (a2 : Int32) (S S' : Sg) (hk : okB k) (hka : okA ka na) (hf : f_X0_add k ka na a2 S = some S') : MetX l D cy L shC 52 bA yX0_add cX0_add 4 none 1 24 [.ref (L k), .ref (L ka), .int a2] none S S' := by
  refine x_met (own := RX0) (by decide) rfl (Nat.le_of_ble_eq_true rfl) ?_
  intro p e s m below meth c ls E hC hr hlk hl hW
  generalize hargs : ([.ref (L k), .ref (L ka), .int a2] : List Value).toArray = args at E ⊢
  generalize hQ : MQ below (xQ D cy L shC 52 bA none S') args s 0 0 (AL L 52) = Q
  have hl : lv_has ls 4 [(0, .ref (L k)), (1, .ref (L ka)), (2, .int a2)] := hl
  have hx := E.1
  have hb := E.2.1
  have hts := E.2.2.2.2
  unfold f_X0_add at hf
  refine lv_iconst (v := 0) hx hb dX0_add_0 (by decide) ?_
  refine lv_istore_n (lv' := [(3, .int (0 : Int32)), (0, .ref (L k)), (1, .ref (L ka)), (2, .int a2)]) hx hb dX0_add_1 rfl hl (by decide) rfl (fun ls hl => ?_)
  refine wp2K hf (fun (v15 : Int32) (S16 : Sg) => ∀ (H : Heap) (locs : List Loc) (ls : Array Slot), lv_has ls 4 [(0, .ref (L k)), (1, .ref (L ka)), (2, .int a2), (3, .int v15)] → Wd D cy L shC 52 S16 s H locs → W p l e (rmk 1 24) s m args below meth c H locs 0 0 Q (F0 m 2 ls [])) (fun (j : Sg → Option (Sg)) => ∀ (S1 : Sg), (j S1) = some S' → ∀ (H : Heap) (locs : List Loc) (ls : Array Slot), lv_has ls 4 [(0, .ref (L k))] → Wd D cy L shC 52 S1 s H locs → W p l e (rmk 1 24) s m args below meth c H locs 0 0 Q (F0 m 43 ls [])) ?_ ?_ _ _ _ (lv_sub hl [1, 2, 3, 0] rfl) hW
  · intro S1 hf H locs ls hl hW
    try dsimp only at hf
    refine lv_iconst (v := 0) hx hb dX0_add_43 (by decide) ?_
    refine lv_istore_n (lv' := [(3, .int (0 : Int32)), (0, .ref (L k))]) hx hb dX0_add_44 rfl hl (by decide) rfl (fun ls hl => ?_)
    refine wp2S (fun (v2 : Int32) (S3 : Sg) => ∀ (H : Heap) (locs : List Loc) (ls : Array Slot), lv_has ls 4 [(0, .ref (L k)), (3, .int v2)] → Wd D cy L shC 52 S3 s H locs → W p l e (rmk 1 24) s m args below meth c H locs 0 0 Q (F0 m 45 ls [])) ?_ hf _ _ _ (lv_sub hl [1, 0] rfl) hW
    · intro self45 ih45 v2 S3 hf H locs ls hl hW
      unfold X0_add_L45 at hf
      refine lv_iload_n hx hb dX0_add_45 rfl (lv_at hl 1 rfl) ?_
      refine lv_aload_n hx hb dX0_add_46 rfl (lv_at hl 0 rfl) ?_
      refine x_geti (k := k) E hC hW fl_X0_18 hk.1 hk.2.1 rfl dX0_add_47 ?_
      refine lv_icmp_ge (tgt := 88) hx hb dX0_add_50 (by decide) (fun c14 => ?_) (fun c14 => ?_)
      · have hf := xt hf c14
        exact x_vretI E hC hW hr hlk hQ dX0_add_88 hf
      · have hf := xf hf c14
        refine lv_aload_n hx hb dX0_add_53 rfl (lv_at hl 0 rfl) ?_
        refine x_getr (k := k) (k' := (k + 3)) E hC hW fl_X0_32 hk.1 hk.2.1 rfl dX0_add_54 ?_
        refine lv_iload_n hx hb dX0_add_57 rfl (lv_at hl 1 rfl) ?_
        obtain ⟨hg4, hf⟩ := gdS hf
        refine x_iald (k := (k + 3)) E hC hW hk.2.2.2.2.2.2.1 hk.2.2.2.2.2.2.2 (inbS hg4) dX0_add_58 ?_
        refine jnS hf (fun (j : Sg → Option (Sg)) => ∀ (S5 : Sg), (j S5) = some S' → ∀ (H : Heap) (locs : List Loc) (ls : Array Slot), lv_has ls 4 [(0, .ref (L k)), (3, .int v2)] → Wd D cy L shC 52 S5 s H locs → W p l e (rmk 1 24) s m args below meth c H locs 0 0 Q (F0 m 82 ls [])) ?_ ?_
        · intro S5 hf H locs ls hl hW
          try dsimp only at hf
          obtain ⟨x6, ex6⟩ : ∃ z : Int32, z = (v2 + 1) := ⟨_, rfl⟩
          have hf := bvS hf ex6
          refine lv_iinc (v := x6) (lv' := [(3, .int x6), (0, .ref (L k))]) hx hb dX0_add_82 hl (k := 1) rfl (by rw [ex6]; rfl) (by decide) rfl (fun ls hl => ?_)
          refine lv_goto (tgt := 45) hx hb dX0_add_85 (by decide) ?_
          exact ih45 _ _ hf _ _ _ (lv_sub hl [1, 0] rfl) hW
        intro j82 J82 hf
        refine lv_if_eq (tgt := 82) hx hb dX0_add_59 (by decide) (fun c13 => ?_) (fun c13 => ?_)
        · have hf := xt hf c13
          exact J82 _ hf _ _ _ (lv_sub hl [0, 1] rfl) hW
        · have hf := xf hf c13
          refine lv_aload_n hx hb dX0_add_62 rfl (lv_at hl 0 rfl) ?_
          refine x_getr (k := k) (k' := (k + 2)) E hC hW fl_X0_28 hk.1 hk.2.1 rfl dX0_add_63 ?_
          refine lv_iload_n hx hb dX0_add_66 rfl (lv_at hl 1 rfl) ?_
          obtain ⟨hg7, hf⟩ := gdS hf
          refine x_zald (k := (k + 2)) E hC hW hk.2.2.2.2.1 hk.2.2.2.2.2.1 (inbS hg7) dX0_add_67 ?_
          refine lv_if_ne (tgt := 77) hx hb dX0_add_68 (by decide) (fun c12 => ?_) (fun c12 => ?_)
          · have hf := xf hf c12
            refine lv_aload_n hx hb dX0_add_77 rfl (lv_at hl 0 rfl) ?_
            refine lv_iload_n hx hb dX0_add_78 rfl (lv_at hl 1 rfl) ?_
            obtain ⟨S9, g8, hf⟩ := cl1S hf
            refine x_Vv (k := k) (As := [.int v2]) (rest := []) E hC hW hl.1 (c_X0_clearPlace k v2 S3 S9 hk g8) cv_X0_39 rfl hk.1 hk.2.1 rfl rfl ⟨Nat.le_of_ble_eq_true rfl, Nat.le_of_ble_eq_true rfl⟩ ⟨Nat.le_refl _, Nat.le_refl _⟩ (Nat.le_of_ble_eq_true rfl) dX0_add_79 (fun H locs hW => ?_)
            exact J82 _ hf _ _ _ (lv_sub hl [0, 1] rfl) hW
          · have hf := xt hf c12
            refine lv_aload_n hx hb dX0_add_71 rfl (lv_at hl 0 rfl) ?_
            refine lv_iload_n hx hb dX0_add_72 rfl (lv_at hl 1 rfl) ?_
            obtain ⟨S11, g10, hf⟩ := cl1S hf
            refine x_Vv (k := k) (As := [.int v2]) (rest := []) E hC hW hl.1 (c_X0_keepWork k v2 S3 S11 hk g10) cv_X0_35 rfl hk.1 hk.2.1 rfl rfl ⟨Nat.le_of_ble_eq_true rfl, Nat.le_of_ble_eq_true rfl⟩ ⟨Nat.le_refl _, Nat.le_refl _⟩ (Nat.le_of_ble_eq_true rfl) dX0_add_73 (fun H locs hW => ?_)
            exact x_vretI E hC hW hr hlk hQ dX0_add_76 hf
  · intro k43 K43 self2 ih2 v15 S16 hf H locs ls hl hW
    unfold X0_add_L2 at hf
    refine lv_iload_n hx hb dX0_add_2 rfl (lv_at hl 3 rfl) ?_
    refine lv_aload_n hx hb dX0_add_3 rfl (lv_at hl 0 rfl) ?_
    refine x_geti (k := k) E hC hW fl_X0_18 hk.1 hk.2.1 rfl dX0_add_4 ?_
    refine lv_icmp_ge (tgt := 43) hx hb dX0_add_7 (by decide) (fun c23 => ?_) (fun c23 => ?_)
    · have hf := xt hf c23
      exact K43 _ hf _ _ _ (lv_sub hl [0] rfl) hW
    · have hf := xf hf c23
      refine lv_aload_n hx hb dX0_add_10 rfl (lv_at hl 0 rfl) ?_
      refine x_getr (k := k) (k' := (k + 3)) E hC hW fl_X0_32 hk.1 hk.2.1 rfl dX0_add_11 ?_
      refine lv_iload_n hx hb dX0_add_14 rfl (lv_at hl 3 rfl) ?_
      refine lv_aload_n hx hb dX0_add_15 rfl (lv_at hl 0 rfl) ?_
      refine x_geti (k := k) E hC hW fl_X0_21 hk.1 hk.2.1 rfl dX0_add_16 ?_
      refine lv_iload_n hx hb dX0_add_19 rfl (lv_at hl 3 rfl) ?_
      refine lv_ishr hx hb dX0_add_20 ?_
      refine lv_iconst (v := 1) hx hb dX0_add_21 (by decide) ?_
      refine lv_iand hx hb dX0_add_22 ?_
      refine lv_iconst (v := 1) hx hb dX0_add_23 (by decide) ?_
      refine jnS hf (fun (j : Int32 → Option (Sg)) => ∀ (x17 : Int32), (j x17) = some S' → ∀ (H : Heap) (locs : List Loc) (ls : Array Slot), lv_has ls 4 [(0, .ref (L k)), (1, .ref (L ka)), (2, .int a2), (3, .int v15)] → Wd D cy L shC 52 S16 s H locs → W p l e (rmk 1 24) s m args below meth c H locs 0 0 Q (F0 m 36 ls [.int x17, .int v15, .ref (L (k + 3))])) ?_ ?_
      · intro x17 hf H locs ls hl hW
        try dsimp only at hf
        obtain ⟨hg18, hf⟩ := gdS hf
        refine x_iast (k := (k + 3)) E hC hW hk.2.2.2.2.2.2.1 hk.2.2.2.2.2.2.2 (inbS hg18) dX0_add_36 (fun H locs hW => ?_)
        obtain ⟨S19, eS19⟩ : ∃ z : Sg, z = si S16 (k + 3) (ix v15) x17 := ⟨_, rfl⟩
        have hW : Wd D cy L shC 52 S19 s H locs := by rw [eS19]; exact hW
        have hf := bvS hf eS19
        obtain ⟨x20, ex20⟩ : ∃ z : Int32, z = (v15 + 1) := ⟨_, rfl⟩
        have hf := bvS hf ex20
        refine lv_iinc (v := x20) (lv' := [(3, .int x20), (0, .ref (L k)), (1, .ref (L ka)), (2, .int a2)]) hx hb dX0_add_37 hl (k := 3) rfl (by rw [ex20]; rfl) (by decide) rfl (fun ls hl => ?_)
        refine lv_goto (tgt := 2) hx hb dX0_add_40 (by decide) ?_
        exact ih2 _ _ hf _ _ _ (lv_sub hl [1, 2, 3, 0] rfl) hW
      intro j36 J36 hf
      refine lv_icmp_ne (tgt := 31) hx hb dX0_add_24 (by decide) (fun c22 => ?_) (fun c22 => ?_)
      · have hf := xf hf c22
        refine lv_aload_n hx hb dX0_add_31 rfl (lv_at hl 1 rfl) ?_
        refine lv_iload_n hx hb dX0_add_32 rfl (lv_at hl 2 rfl) ?_
        refine lv_iload_n hx hb dX0_add_33 rfl (lv_at hl 3 rfl) ?_
        refine lv_iadd hx hb dX0_add_34 ?_
        obtain ⟨hg21, hf⟩ := gdS hf
        refine x_iald (k := ka) E hC hW hka.1 hka.2 (inbS hg21) dX0_add_35 ?_
        exact J36 _ hf _ _ _ (lv_sub hl [0, 1, 2, 3] rfl) hW
      · have hf := xt hf c22
        refine lv_iconst (v := 0) hx hb dX0_add_27 (by decide) ?_
        refine lv_goto (tgt := 36) hx hb dX0_add_28 (by decide) ?_
        exact J36 _ hf _ _ _ (lv_sub hl [0, 1, 2, 3] rfl) hW
set_option maxRecDepth 100000 in
set_option maxHeartbeats 4000000 in
theorem c_X0_clear {l : Launch} {D : va_G} {cy : Nat → ClassId} {L : Nat → Nat} {bA : Nat} (k : Nat) (a1 : Int32) (a2 : Int32) (a3 : Int32) (S S' : Sg) (hk : okB k) (hf : f_X0_clear k a1 a2 a3 S = some S') : MetX l D cy L shC 52 bA yX0_clear cX0_clear 5 none 0 0 [.ref (L k), .int a1, .int a2, .int a3] none S S' := by
  refine x_met (own := RX0) (by decide) rfl (Nat.le_of_ble_eq_true rfl) ?_
  intro p e s m below meth c ls E hC hr hlk hl hW
  generalize hargs : ([.ref (L k), .int a1, .int a2, .int a3] : List Value).toArray = args at E ⊢
  generalize hQ : MQ below (xQ D cy L shC 52 bA none S') args s 0 0 (AL L 52) = Q
  have hl : lv_has ls 5 [(0, .ref (L k)), (1, .int a1), (2, .int a2), (3, .int a3)] := hl
  have hx := E.1
  have hb := E.2.1
  have hts := E.2.2.2.2
  unfold f_X0_clear at hf
  refine lv_aload_n hx hb dX0_clear_0 rfl (lv_at hl 0 rfl) ?_
  refine lv_iload_n hx hb dX0_clear_1 rfl (lv_at hl 1 rfl) ?_
  refine x_put (k := k) E hC hW fl_X0_15 pl_0_1 hk.1 hk.2.1 rfl rfl rfl dX0_clear_2 (fun H locs hW => ?_)
  obtain ⟨S1, eS1⟩ : ∃ z : Sg, z = si S k 1 a1 := ⟨_, rfl⟩
  have hW : Wd D cy L shC 52 S1 s H locs := by rw [eS1]; exact hW
  have hf := bvS hf eS1
  refine lv_aload_n hx hb dX0_clear_5 rfl (lv_at hl 0 rfl) ?_
  refine lv_iload_n hx hb dX0_clear_6 rfl (lv_at hl 2 rfl) ?_
  refine x_put (k := k) E hC hW fl_X0_18 pl_0_2 hk.1 hk.2.1 rfl rfl rfl dX0_clear_7 (fun H locs hW => ?_)
  obtain ⟨S2, eS2⟩ : ∃ z : Sg, z = si S1 k 2 a2 := ⟨_, rfl⟩
  have hW : Wd D cy L shC 52 S2 s H locs := by rw [eS2]; exact hW
  have hf := bvS hf eS2
  refine lv_aload_n hx hb dX0_clear_10 rfl (lv_at hl 0 rfl) ?_
  refine lv_iload_n hx hb dX0_clear_11 rfl (lv_at hl 3 rfl) ?_
  refine x_put (k := k) E hC hW fl_X0_21 pl_0_3 hk.1 hk.2.1 rfl rfl rfl dX0_clear_12 (fun H locs hW => ?_)
  obtain ⟨S3, eS3⟩ : ∃ z : Sg, z = si S2 k 3 a3 := ⟨_, rfl⟩
  have hW : Wd D cy L shC 52 S3 s H locs := by rw [eS3]; exact hW
  have hf := bvS hf eS3
  refine lv_aload_n hx hb dX0_clear_15 rfl (lv_at hl 0 rfl) ?_
  refine lv_iconst (v := 0) hx hb dX0_clear_16 (by decide) ?_
  refine x_put (k := k) E hC hW fl_X0_9 pl_0_0 hk.1 hk.2.1 rfl rfl rfl dX0_clear_17 (fun H locs hW => ?_)
  obtain ⟨S4, eS4⟩ : ∃ z : Sg, z = si S3 k 0 (0 : Int32) := ⟨_, rfl⟩
  have hW : Wd D cy L shC 52 S4 s H locs := by rw [eS4]; exact hW
  have hf := bvS hf eS4
  refine lv_iconst (v := 0) hx hb dX0_clear_20 (by decide) ?_
  refine lv_istore (lv' := [(4, .int (0 : Int32)), (0, .ref (L k)), (1, .int a1), (2, .int a2), (3, .int a3)]) hx hb dX0_clear_21 hl (by decide) rfl (fun ls hl => ?_)
  refine wp2S (fun (v5 : Int32) (S6 : Sg) => ∀ (H : Heap) (locs : List Loc) (ls : Array Slot), lv_has ls 5 [(0, .ref (L k)), (4, .int v5)] → Wd D cy L shC 52 S6 s H locs → W p l e (rmk 0 0) s m args below meth c H locs 0 0 Q (F0 m 23 ls [])) ?_ hf _ _ _ (lv_sub hl [1, 0] rfl) hW
  · intro self23 ih23 v5 S6 hf H locs ls hl hW
    unfold X0_clear_L23 at hf
    refine lv_iload hx hb dX0_clear_23 (lv_at hl 1 rfl) ?_
    refine lv_bipush (v := 6) hx hb dX0_clear_25 (by decide) ?_
    refine lv_icmp_ge (tgt := 44) hx hb dX0_clear_27 (by decide) (fun c10 => ?_) (fun c10 => ?_)
    · have hf := xt hf c10
      exact x_vretI E hC hW hr hlk hQ dX0_clear_44 hf
    · have hf := xf hf c10
      refine lv_aload_n hx hb dX0_clear_30 rfl (lv_at hl 0 rfl) ?_
      refine x_getr (k := k) (k' := (k + 2)) E hC hW fl_X0_28 hk.1 hk.2.1 rfl dX0_clear_31 ?_
      refine lv_iload hx hb dX0_clear_34 (lv_at hl 1 rfl) ?_
      refine lv_iconst (v := 0) hx hb dX0_clear_36 (by decide) ?_
      obtain ⟨hg7, hf⟩ := gdS hf
      refine x_zast (k := (k + 2)) E hC hW hk.2.2.2.2.1 hk.2.2.2.2.2.1 (inbS hg7) dX0_clear_37 (fun H locs hW => ?_)
      obtain ⟨S8, eS8⟩ : ∃ z : Sg, z = si S6 (k + 2) (ix v5) (zb (0 : Int32)) := ⟨_, rfl⟩
      have hW : Wd D cy L shC 52 S8 s H locs := by rw [eS8]; exact hW
      have hf := bvS hf eS8
      obtain ⟨x9, ex9⟩ : ∃ z : Int32, z = (v5 + 1) := ⟨_, rfl⟩
      have hf := bvS hf ex9
      refine lv_iinc (v := x9) (lv' := [(4, .int x9), (0, .ref (L k))]) hx hb dX0_clear_38 hl (k := 1) rfl (by rw [ex9]; rfl) (by decide) rfl (fun ls hl => ?_)
      refine lv_goto (tgt := 23) hx hb dX0_clear_41 (by decide) ?_
      exact ih23 _ _ hf _ _ _ (lv_sub hl [1, 0] rfl) hW
set_option maxRecDepth 100000 in
set_option maxHeartbeats 4000000 in
theorem c_X5_rankOf {l : Launch} {D : va_G} {cy : Nat → ClassId} {L : Nat → Nat} {bA : Nat} (a1 : Int32) (a2 : Int32) (r : Int32) (S S' : Sg)  (hf : f_X5_rankOf a1 a2 S = some (r, S')) : MetX l D cy L shC 52 bA yX5_rankOf cX5_rankOf 4 (some .int) 2 47 [.ref (L 13), .int a1, .int a2] (some (.int r)) S S' := by
  refine x_met (own := RX5) (by decide) rfl (Nat.le_of_ble_eq_true rfl) ?_
  intro p e s m below meth c ls E hC hr hlk hl hW
  generalize hargs : ([.ref (L 13), .int a1, .int a2] : List Value).toArray = args at E ⊢
  generalize hQ : MQ below (xQ D cy L shC 52 bA (some (.int r)) S') args s 0 0 (AL L 52) = Q
  have hl : lv_has ls 4 [(0, .ref (L 13)), (1, .int a1), (2, .int a2)] := hl
  have hx := E.1
  have hb := E.2.1
  have hts := E.2.2.2.2
  unfold f_X5_rankOf at hf
  refine lv_aload_n hx hb dX5_rankOf_0 rfl (lv_at hl 0 rfl) ?_
  refine x_getr (k := 13) (k' := 15) E hC hW fl_X5_28 (by decide) rfl rfl dX5_rankOf_1 ?_
  refine lv_aload_n hx hb dX5_rankOf_4 rfl (lv_at hl 0 rfl) ?_
  refine x_geti (k := 13) E hC hW fl_X5_9 (by decide) rfl rfl dX5_rankOf_5 ?_
  refine lv_aload_n hx hb dX5_rankOf_8 rfl (lv_at hl 0 rfl) ?_
  refine x_geti (k := 13) E hC hW fl_X5_15 (by decide) rfl rfl dX5_rankOf_9 ?_
  refine lv_iload_n hx hb dX5_rankOf_12 rfl (lv_at hl 2 rfl) ?_
  obtain ⟨S2, g1, hf⟩ := cl1S hf
  refine x_Vv (k := 15) (As := [.int (S.1 13 0), .int (S.1 13 1), .int a2]) (rest := []) E hC hW hl.1 (c_X0_clear 15 (S.1 13 0) (S.1 13 1) a2 S S2 okB_15 g1) cv_X5_41 rfl (by decide) rfl rfl rfl ⟨Nat.le_of_ble_eq_true rfl, Nat.le_of_ble_eq_true rfl⟩ ⟨Nat.le_refl _, Nat.le_refl _⟩ (Nat.le_of_ble_eq_true rfl) dX5_rankOf_13 (fun H locs hW => ?_)
  refine lv_iconst (v := 0) hx hb dX5_rankOf_16 (by decide) ?_
  refine lv_istore_n (lv' := [(3, .int (0 : Int32)), (0, .ref (L 13)), (1, .int a1), (2, .int a2)]) hx hb dX5_rankOf_17 rfl hl (by decide) rfl (fun ls hl => ?_)
  refine wp2K hf (fun (v4 : Int32) (S5 : Sg) => ∀ (H : Heap) (locs : List Loc) (ls : Array Slot), lv_has ls 4 [(0, .ref (L 13)), (1, .int a1), (3, .int v4)] → Wd D cy L shC 52 S5 s H locs → W p l e (rmk 2 47) s m args below meth c H locs 0 0 Q (F0 m 18 ls [])) (fun (j : Sg → Option (Int32 × Sg)) => ∀ (S3 : Sg), (j S3) = some (r, S') → ∀ (H : Heap) (locs : List Loc) (ls : Array Slot), lv_has ls 4 [(0, .ref (L 13))] → Wd D cy L shC 52 S3 s H locs → W p l e (rmk 2 47) s m args below meth c H locs 0 0 Q (F0 m 74 ls [])) ?_ ?_ _ _ _ (lv_sub hl [1, 2, 0] rfl) hW
  · intro S3 hf H locs ls hl hW
    try dsimp only at hf
    refine lv_aload_n hx hb dX5_rankOf_74 rfl (lv_at hl 0 rfl) ?_
    refine x_getr (k := 13) (k' := 15) E hC hW fl_X5_28 (by decide) rfl rfl dX5_rankOf_75 ?_
    refine x_geti (k := 15) E hC hW fl_X5_49 (by decide) rfl rfl dX5_rankOf_78 ?_
    exact x_iretI E hC hW hr hlk hQ dX5_rankOf_81 hf
  · intro k74 K74 self18 ih18 v4 S5 hf H locs ls hl hW
    unfold X5_rankOf_L18 at hf
    refine lv_iload_n hx hb dX5_rankOf_18 rfl (lv_at hl 2 rfl) ?_
    refine lv_aload_n hx hb dX5_rankOf_19 rfl (lv_at hl 0 rfl) ?_
    refine x_geti (k := 13) E hC hW fl_X5_18 (by decide) rfl rfl dX5_rankOf_20 ?_
    refine lv_icmp_ge (tgt := 74) hx hb dX5_rankOf_23 (by decide) (fun c13 => ?_) (fun c13 => ?_)
    · have hf := xt hf c13
      exact K74 _ hf _ _ _ (lv_sub hl [0] rfl) hW
    · have hf := xf hf c13
      refine lv_iload_n hx hb dX5_rankOf_26 rfl (lv_at hl 1 rfl) ?_
      refine lv_iload_n hx hb dX5_rankOf_27 rfl (lv_at hl 2 rfl) ?_
      refine lv_ishr hx hb dX5_rankOf_28 ?_
      refine lv_iconst (v := 1) hx hb dX5_rankOf_29 (by decide) ?_
      refine lv_iand hx hb dX5_rankOf_30 ?_
      refine lv_iconst (v := 1) hx hb dX5_rankOf_31 (by decide) ?_
      refine jnS hf (fun (j : Sg → Option (Int32 × Sg)) => ∀ (S6 : Sg), (j S6) = some (r, S') → ∀ (H : Heap) (locs : List Loc) (ls : Array Slot), lv_has ls 4 [(0, .ref (L 13)), (1, .int a1), (3, .int v4)] → Wd D cy L shC 52 S6 s H locs → W p l e (rmk 2 47) s m args below meth c H locs 0 0 Q (F0 m 68 ls [])) ?_ ?_
      · intro S6 hf H locs ls hl hW
        try dsimp only at hf
        obtain ⟨x7, ex7⟩ : ∃ z : Int32, z = (v4 + 1) := ⟨_, rfl⟩
        have hf := bvS hf ex7
        refine lv_iinc (v := x7) (lv' := [(3, .int x7), (0, .ref (L 13)), (1, .int a1)]) hx hb dX5_rankOf_68 hl (k := 2) rfl (by rw [ex7]; rfl) (by decide) rfl (fun ls hl => ?_)
        refine lv_goto (tgt := 18) hx hb dX5_rankOf_71 (by decide) ?_
        exact ih18 _ _ hf _ _ _ (lv_sub hl [1, 2, 0] rfl) hW
      intro j68 J68 hf
      refine lv_icmp_ne (tgt := 68) hx hb dX5_rankOf_32 (by decide) (fun c12 => ?_) (fun c12 => ?_)
      · have hf := xf hf c12
        exact J68 _ hf _ _ _ (lv_sub hl [0, 1, 2] rfl) hW
      · have hf := xt hf c12
        refine lv_aload_n hx hb dX5_rankOf_35 rfl (lv_at hl 0 rfl) ?_
        refine x_getr (k := 13) (k' := 15) E hC hW fl_X5_28 (by decide) rfl rfl dX5_rankOf_36 ?_
        refine lv_aload_n hx hb dX5_rankOf_39 rfl (lv_at hl 0 rfl) ?_
        refine x_getr (k := 13) (k' := 14) E hC hW fl_X5_21 (by decide) rfl rfl dX5_rankOf_40 ?_
        refine lv_iload_n hx hb dX5_rankOf_43 rfl (lv_at hl 2 rfl) ?_
        refine lv_bipush (v := 12) hx hb dX5_rankOf_44 (by decide) ?_
        refine lv_imul hx hb dX5_rankOf_46 ?_
        obtain ⟨S9, g8, hf⟩ := cl1S hf
        refine x_Vv (k := 15) (As := [.ref (L 14), .int (v4 * (12 : Int32))]) (rest := []) E hC hW hl.1 (c_X0_add 15 14 120 (v4 * (12 : Int32)) S5 S9 okB_15 ⟨(by decide), rfl⟩ g8) cv_X5_45 rfl (by decide) rfl rfl rfl ⟨Nat.le_of_ble_eq_true rfl, Nat.le_of_ble_eq_true rfl⟩ ⟨Nat.le_refl _, Nat.le_refl _⟩ (Nat.le_of_ble_eq_true rfl) dX5_rankOf_47 (fun H locs hW => ?_)
        refine lv_aload_n hx hb dX5_rankOf_50 rfl (lv_at hl 0 rfl) ?_
        refine x_getr (k := 13) (k' := 15) E hC hW fl_X5_28 (by decide) rfl rfl dX5_rankOf_51 ?_
        refine lv_aload_n hx hb dX5_rankOf_54 rfl (lv_at hl 0 rfl) ?_
        refine x_getr (k := 13) (k' := 14) E hC hW fl_X5_21 (by decide) rfl rfl dX5_rankOf_55 ?_
        refine lv_iload_n hx hb dX5_rankOf_58 rfl (lv_at hl 2 rfl) ?_
        refine lv_bipush (v := 12) hx hb dX5_rankOf_59 (by decide) ?_
        refine lv_imul hx hb dX5_rankOf_61 ?_
        refine lv_bipush (v := 6) hx hb dX5_rankOf_62 (by decide) ?_
        refine lv_iadd hx hb dX5_rankOf_64 ?_
        obtain ⟨S11, g10, hf⟩ := cl1S hf
        refine x_Vv (k := 15) (As := [.ref (L 14), .int ((v4 * (12 : Int32)) + (6 : Int32))]) (rest := []) E hC hW hl.1 (c_X0_add 15 14 120 ((v4 * (12 : Int32)) + (6 : Int32)) S9 S11 okB_15 ⟨(by decide), rfl⟩ g10) cv_X5_45 rfl (by decide) rfl rfl rfl ⟨Nat.le_of_ble_eq_true rfl, Nat.le_of_ble_eq_true rfl⟩ ⟨Nat.le_refl _, Nat.le_refl _⟩ (Nat.le_of_ble_eq_true rfl) dX5_rankOf_65 (fun H locs hW => ?_)
        exact J68 _ hf _ _ _ (lv_sub hl [0, 1, 2] rfl) hW
