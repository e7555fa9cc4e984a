set_option maxRecDepth 100000 in
set_option maxHeartbeats 4000000 in
theorem c_X9_asPair {l : Launch} {D : va_G} {cy : Nat → ClassId} {L : Nat → Nat} {bA : Nat} (a1 : Int32) (a2 : Int32) (r : Int32) (S : Sg)  (hf : f_X9_asPair a1 a2 S = some r) : MetX l D cy L shC 52 bA yX9_asPair cX9_asPair 4 (some .int) 2 43 [.ref (L 0), .int a1, .int a2] (some (.int r)) S S := by
  refine x_met (own := RX9) (by decide) rfl (Nat.le_of_ble_eq_true rfl) ?_
  intro p e s m below meth c ls E hC hr hlk hl hW
  generalize hargs : ([.ref (L 0), .int a1, .int a2] : List Value).toArray = args at E ⊢
  generalize hQ : MQ below (xQ D cy L shC 52 bA (some (.int r)) S) args s 0 0 (AL L 52) = Q
  have hl : lv_has ls 4 [(0, .ref (L 0)), (1, .int a1), (2, .int a2)] := hl
  have hx := E.1
  have hb := E.2.1
  have hts := E.2.2.2.2
  unfold f_X9_asPair at hf
  refine lv_iload_n hx hb dX9_asPair_0 rfl (lv_at hl 1 rfl) ?_
  obtain ⟨r1, g2, hf⟩ := cl1S hf
  refine x_Sr (As := [.int a1]) (rest := []) E hC hW hl.1 (c_X9_isHand a1 r1 S g2) cs_X9_267 rfl rfl ⟨Nat.le_of_ble_eq_true rfl, Nat.le_of_ble_eq_true rfl⟩ ⟨Nat.le_refl _, Nat.le_refl _⟩ (Nat.le_of_ble_eq_true rfl) dX9_asPair_1 (fun H locs hW => ?_)
  refine lv_if_eq (tgt := 14) hx hb dX9_asPair_4 (by decide) (fun c13 => ?_) (fun c13 => ?_)
  · have hf := xt hf c13
    refine lv_bipush (v := (-2)) hx hb dX9_asPair_14 (by decide) ?_
    exact x_iretP E hC hW hr hlk hQ dX9_asPair_16 hf
  · have hf := xf hf c13
    refine lv_iload_n hx hb dX9_asPair_7 rfl (lv_at hl 2 rfl) ?_
    obtain ⟨r3, g4, hf⟩ := cl1S hf
    refine x_Sr (As := [.int a2]) (rest := []) E hC hW hl.1 (c_X9_isKind a2 r3 S g4) cs_X9_101 rfl rfl ⟨Nat.le_of_ble_eq_true rfl, Nat.le_of_ble_eq_true rfl⟩ ⟨Nat.le_refl _, Nat.le_refl _⟩ (Nat.le_of_ble_eq_true rfl) dX9_asPair_8 (fun H locs hW => ?_)
    refine lv_if_ne (tgt := 17) hx hb dX9_asPair_11 (by decide) (fun c12 => ?_) (fun c12 => ?_)
    · have hf := xf hf c12
      refine lv_aload_n hx hb dX9_asPair_17 rfl (lv_at hl 0 rfl) ?_
      refine x_getr (k := 0) (k' := 40) E hC hW fl_X9_66 (by decide) rfl rfl dX9_asPair_18 ?_
      refine lv_iload_n hx hb dX9_asPair_21 rfl (lv_at hl 1 rfl) ?_
      obtain ⟨hg5, hf⟩ := gdS hf
      refine x_aald (k := 40) (b := 41) E hC hW (by decide) rfl rfl (inbS hg5) dX9_asPair_22 ?_
      have ho6 := okH_ix hg5
      refine lv_astore_n (lv' := [(3, .ref (L (41 + 2 * ix a1))), (0, .ref (L 0)), (1, .int a1), (2, .int a2)]) hx hb dX9_asPair_23 rfl hl (by decide) rfl (fun ls hl => ?_)
      refine lv_aload_n hx hb dX9_asPair_24 rfl (lv_at hl 0 rfl) ?_
      refine x_geti (k := (41 + 2 * ix a1)) E hC hW fl_X9_270 ho6.1 ho6.2.1 rfl dX9_asPair_25 ?_
      refine lv_if_ne (tgt := 34) hx hb dX9_asPair_28 (by decide) (fun c11 => ?_) (fun c11 => ?_)
      · have hf := xf hf c11
        refine lv_aload_n hx hb dX9_asPair_34 rfl (lv_at hl 0 rfl) ?_
        refine x_geti (k := (41 + 2 * ix a1)) E hC hW fl_X9_270 ho6.1 ho6.2.1 rfl dX9_asPair_35 ?_
        refine lv_iconst (v := 1) hx hb dX9_asPair_38 (by decide) ?_
        refine lv_icmp_ne (tgt := 60) hx hb dX9_asPair_39 (by decide) (fun c10 => ?_) (fun c10 => ?_)
        · have hf := xf hf c10
          refine lv_bipush (v := (-13)) hx hb dX9_asPair_60 (by decide) ?_
          exact x_iretP E hC hW hr hlk hQ dX9_asPair_62 hf
        · have hf := xt hf c10
          refine lv_aload_n hx hb dX9_asPair_42 rfl (lv_at hl 0 rfl) ?_
          refine x_geti (k := (41 + 2 * ix a1)) E hC hW fl_X9_281 ho6.1 ho6.2.1 rfl dX9_asPair_43 ?_
          refine lv_iload_n hx hb dX9_asPair_46 rfl (lv_at hl 3 rfl) ?_
          obtain ⟨r7, g8, hf⟩ := cl1S hf
          refine x_Sr (As := [.int (S.1 (41 + 2 * ix a1) 1), .int a2]) (rest := []) E hC hW hl.1 (c_X9_isUnder (S.1 (41 + 2 * ix a1) 1) a2 r7 S g8) cs_X9_284 rfl rfl ⟨Nat.le_of_ble_eq_true rfl, Nat.le_of_ble_eq_true rfl⟩ ⟨Nat.le_refl _, Nat.le_refl _⟩ (Nat.le_of_ble_eq_true rfl) dX9_asPair_47 (fun H locs hW => ?_)
          refine lv_if_eq (tgt := 60) hx hb dX9_asPair_50 (by decide) (fun c9 => ?_) (fun c9 => ?_)
          · have hf := xt hf c9
            refine lv_bipush (v := (-13)) hx hb dX9_asPair_60 (by decide) ?_
            exact x_iretP E hC hW hr hlk hQ dX9_asPair_62 hf
          · have hf := xf hf c9
            refine lv_aload_n hx hb dX9_asPair_53 rfl (lv_at hl 0 rfl) ?_
            refine x_geti (k := (41 + 2 * ix a1)) E hC hW fl_X9_288 ho6.1 ho6.2.1 rfl dX9_asPair_54 ?_
            refine lv_goto (tgt := 62) hx hb dX9_asPair_57 (by decide) ?_
            exact x_iretP E hC hW hr hlk hQ dX9_asPair_62 hf
      · have hf := xt hf c11
        refine lv_bipush (v := (-11)) hx hb dX9_asPair_31 (by decide) ?_
        exact x_iretP E hC hW hr hlk hQ dX9_asPair_33 hf
    · have hf := xt hf c12
      refine lv_bipush (v := (-2)) hx hb dX9_asPair_14 (by decide) ?_
      exact x_iretP E hC hW hr hlk hQ dX9_asPair_16 hf
set_option maxRecDepth 100000 in
set_option maxHeartbeats 4000000 in
theorem c_X9_asRay {l : Launch} {D : va_G} {cy : Nat → ClassId} {L : Nat → Nat} {bA : Nat} (a1 : Int32) (a2 : Int32) (r : Int32) (S : Sg)  (hf : f_X9_asRay a1 a2 S = some r) : MetX l D cy L shC 52 bA yX9_asRay cX9_asRay 4 (some .int) 1 20 [.ref (L 0), .int a1, .int a2] (some (.int r)) S S := by
  refine x_met (own := RX9) (by decide) rfl (Nat.le_of_ble_eq_true rfl) ?_
  intro p e s m below meth c ls E hC hr hlk hl hW
  generalize hargs : ([.ref (L 0), .int a1, .int a2] : List Value).toArray = args at E ⊢
  generalize hQ : MQ below (xQ D cy L shC 52 bA (some (.int r)) S) args s 0 0 (AL L 52) = Q
  have hl : lv_has ls 4 [(0, .ref (L 0)), (1, .int a1), (2, .int a2)] := hl
  have hx := E.1
  have hb := E.2.1
  have hts := E.2.2.2.2
  unfold f_X9_asRay at hf
  refine lv_iload_n hx hb dX9_asRay_0 rfl (lv_at hl 1 rfl) ?_
  obtain ⟨r1, g2, hf⟩ := cl1S hf
  refine x_Sr (As := [.int a1]) (rest := []) E hC hW hl.1 (c_X9_isHand a1 r1 S g2) cs_X9_267 rfl rfl ⟨Nat.le_of_ble_eq_true rfl, Nat.le_of_ble_eq_true rfl⟩ ⟨Nat.le_refl _, Nat.le_refl _⟩ (Nat.le_of_ble_eq_true rfl) dX9_asRay_1 (fun H locs hW => ?_)
  refine lv_if_ne (tgt := 10) hx hb dX9_asRay_4 (by decide) (fun c10 => ?_) (fun c10 => ?_)
  · have hf := xf hf c10
    refine lv_aload_n hx hb dX9_asRay_10 rfl (lv_at hl 0 rfl) ?_
    refine x_getr (k := 0) (k' := 40) E hC hW fl_X9_66 (by decide) rfl rfl dX9_asRay_11 ?_
    refine lv_iload_n hx hb dX9_asRay_14 rfl (lv_at hl 1 rfl) ?_
    obtain ⟨hg3, hf⟩ := gdS hf
    refine x_aald (k := 40) (b := 41) E hC hW (by decide) rfl rfl (inbS hg3) dX9_asRay_15 ?_
    have ho4 := okH_ix hg3
    refine lv_astore_n (lv' := [(3, .ref (L (41 + 2 * ix a1))), (0, .ref (L 0)), (1, .int a1), (2, .int a2)]) hx hb dX9_asRay_16 rfl hl (by decide) rfl (fun ls hl => ?_)
    refine lv_aload_n hx hb dX9_asRay_17 rfl (lv_at hl 0 rfl) ?_
    refine x_geti (k := (41 + 2 * ix a1)) E hC hW fl_X9_270 ho4.1 ho4.2.1 rfl dX9_asRay_18 ?_
    refine lv_if_ne (tgt := 27) hx hb dX9_asRay_21 (by decide) (fun c9 => ?_) (fun c9 => ?_)
    · have hf := xf hf c9
      refine lv_aload_n hx hb dX9_asRay_27 rfl (lv_at hl 0 rfl) ?_
      refine x_geti (k := (41 + 2 * ix a1)) E hC hW fl_X9_270 ho4.1 ho4.2.1 rfl dX9_asRay_28 ?_
      refine lv_iconst (v := 2) hx hb dX9_asRay_31 (by decide) ?_
      refine lv_icmp_eq (tgt := 38) hx hb dX9_asRay_32 (by decide) (fun c8 => ?_) (fun c8 => ?_)
      · have hf := xt hf c8
        refine lv_iload_n hx hb dX9_asRay_38 rfl (lv_at hl 3 rfl) ?_
        refine lv_if_lt (tgt := 50) hx hb dX9_asRay_39 (by decide) (fun c7 => ?_) (fun c7 => ?_)
        · have hf := xt hf c7
          refine lv_bipush (v := (-12)) hx hb dX9_asRay_50 (by decide) ?_
          refine lv_goto (tgt := 61) hx hb dX9_asRay_52 (by decide) ?_
          exact x_iretP E hC hW hr hlk hQ dX9_asRay_61 hf
        · have hf := xf hf c7
          refine lv_iload_n hx hb dX9_asRay_42 rfl (lv_at hl 3 rfl) ?_
          refine lv_aload_n hx hb dX9_asRay_43 rfl (lv_at hl 0 rfl) ?_
          refine x_geti (k := (41 + 2 * ix a1)) E hC hW fl_X9_291 ho4.1 ho4.2.1 rfl dX9_asRay_44 ?_
          refine lv_icmp_lt (tgt := 55) hx hb dX9_asRay_47 (by decide) (fun c6 => ?_) (fun c6 => ?_)
          · have hf := xt hf c6
            refine lv_aload_n hx hb dX9_asRay_55 rfl (lv_at hl 0 rfl) ?_
            refine x_getr (k := (41 + 2 * ix a1)) (k' := ((41 + 2 * ix a1) + 1)) E hC hW fl_X9_292 ho4.1 ho4.2.1 rfl dX9_asRay_56 ?_
            refine lv_iload_n hx hb dX9_asRay_59 rfl (lv_at hl 3 rfl) ?_
            obtain ⟨hg5, hf⟩ := gdS hf
            refine x_iald (k := ((41 + 2 * ix a1) + 1)) E hC hW ho4.2.2.1 ho4.2.2.2 (inbS hg5) dX9_asRay_60 ?_
            exact x_iretP E hC hW hr hlk hQ dX9_asRay_61 hf
          · have hf := xf hf c6
            refine lv_bipush (v := (-12)) hx hb dX9_asRay_50 (by decide) ?_
            refine lv_goto (tgt := 61) hx hb dX9_asRay_52 (by decide) ?_
            exact x_iretP E hC hW hr hlk hQ dX9_asRay_61 hf
      · have hf := xf hf c8
        refine lv_bipush (v := (-13)) hx hb dX9_asRay_35 (by decide) ?_
        exact x_iretP E hC hW hr hlk hQ dX9_asRay_37 hf
    · have hf := xt hf c9
      refine lv_bipush (v := (-11)) hx hb dX9_asRay_24 (by decide) ?_
      exact x_iretP E hC hW hr hlk hQ dX9_asRay_26 hf
  · have hf := xt hf c10
    refine lv_bipush (v := (-2)) hx hb dX9_asRay_7 (by decide) ?_
    exact x_iretP E hC hW hr hlk hQ dX9_asRay_9 hf
set_option maxRecDepth 100000 in
set_option maxHeartbeats 4000000 in
theorem c_J6_compare_7cf53 {l : Launch} {D : va_G} {cy : Nat → ClassId} {L : Nat → Nat} {bA : Nat} (a0 : Int32) (a1 : Int32) (r : Int32) (S : Sg)  (hf : f_J6_compare_7cf53 a0 a1 = some r) : MetX l D cy L shC 52 bA yJ6_compare_7cf53 cJ6_compare_7cf53 2 (some .int) 0 0 [.int a0, .int a1] (some (.int r)) S S := by
  refine x_met (own := RJ6) (by decide) rfl (Nat.le_of_ble_eq_true rfl) ?_
  intro p e s m below meth c ls E hC hr hlk hl hW
  generalize hargs : ([.int a0, .int a1] : List Value).toArray = args at E ⊢
  generalize hQ : MQ below (xQ D cy L shC 52 bA (some (.int r)) S) args s 0 0 (AL L 52) = Q
  have hl : lv_has ls 2 [(0, .int a0), (1, .int a1)] := hl
  have hx := E.1
  have hb := E.2.1
  have hts := E.2.2.2.2
  unfold f_J6_compare_7cf53 at hf
  refine lv_iload_n hx hb dJ6_compare_7cf53_0 rfl (lv_at hl 0 rfl) ?_
  refine lv_iload_n hx hb dJ6_compare_7cf53_1 rfl (lv_at hl 1 rfl) ?_
  refine lv_icmp_ge (tgt := 9) hx hb dJ6_compare_7cf53_2 (by decide) (fun c2 => ?_) (fun c2 => ?_)
  · have hf := xt hf c2
    refine lv_iload_n hx hb dJ6_compare_7cf53_9 rfl (lv_at hl 0 rfl) ?_
    refine lv_iload_n hx hb dJ6_compare_7cf53_10 rfl (lv_at hl 1 rfl) ?_
    refine lv_icmp_ne (tgt := 18) hx hb dJ6_compare_7cf53_11 (by decide) (fun c1 => ?_) (fun c1 => ?_)
    · have hf := xf hf c1
      refine lv_iconst (v := 1) hx hb dJ6_compare_7cf53_18 (by decide) ?_
      exact x_iretP E hC hW hr hlk hQ dJ6_compare_7cf53_19 hf
    · have hf := xt hf c1
      refine lv_iconst (v := 0) hx hb dJ6_compare_7cf53_14 (by decide) ?_
      refine lv_goto (tgt := 19) hx hb dJ6_compare_7cf53_15 (by decide) ?_
      exact x_iretP E hC hW hr hlk hQ dJ6_compare_7cf53_19 hf
  · have hf := xf hf c2
    refine lv_iconst (v := (-1)) hx hb dJ6_compare_7cf53_5 (by decide) ?_
    refine lv_goto (tgt := 19) hx hb dJ6_compare_7cf53_6 (by decide) ?_
    exact x_iretP E hC hW hr hlk hQ dJ6_compare_7cf53_19 hf
set_option maxRecDepth 100000 in
set_option maxHeartbeats 4000000 in
theorem c_X1_orderTo {l : Launch} {D : va_G} {cy : Nat → ClassId} {L : Nat → Nat} {bA : Nat} (k : Nat) (k2 : Nat) (r : Int32) (S : Sg) (hk : okH k) (hk2 : okH k2) (hf : f_X1_orderTo k k2 S = some r) : MetX l D cy L shC 52 bA yX1_orderTo cX1_orderTo 4 (some .int) 1 21 [.ref (L k), .ref (L k2)] (some (.int r)) S S := by
  refine x_met (own := RX1) (by decide) rfl (Nat.le_of_ble_eq_true rfl) ?_
  intro p e s m below meth c ls E hC hr hlk hl hW
  generalize hargs : ([.ref (L k), .ref (L k2)] : List Value).toArray = args at E ⊢
  generalize hQ : MQ below (xQ D cy L shC 52 bA (some (.int r)) S) args s 0 0 (AL L 52) = Q
  have hl : lv_has ls 4 [(0, .ref (L k)), (1, .ref (L k2))] := hl
  have hx := E.1
  have hb := E.2.1
  have hts := E.2.2.2.2
  unfold f_X1_orderTo at hf
  refine lv_aload_n hx hb dX1_orderTo_0 rfl (lv_at hl 0 rfl) ?_
  refine x_geti (k := k) E hC hW fl_X1_21 hk.1 hk.2.1 rfl dX1_orderTo_1 ?_
  refine lv_aload_n hx hb dX1_orderTo_4 rfl (lv_at hl 1 rfl) ?_
  refine x_geti (k := k2) E hC hW fl_X1_21 hk2.1 hk2.2.1 rfl dX1_orderTo_5 ?_
  refine va_mmin (x := (S.1 k 3)) (y := (S.1 k2 3)) (rest := []) hx hb (E.2.2.1.trans hl.1.symm) E.2.2.2.1 (hts _ ww_773) (hts _ ww_774) (hts _ ww_69) (hts _ ww_775) (Nat.le_of_ble_eq_true rfl) (Nat.le_of_ble_eq_true rfl) (Nat.le_refl _) (Nat.le_refl _) dX1_orderTo_8 ?_
  refine lv_topi (fun x1 ex1 => ?_)
  have hf := bvS hf ex1
  refine lv_istore_n (lv' := [(2, .int x1), (0, .ref (L k)), (1, .ref (L k2))]) hx hb dX1_orderTo_11 rfl hl (by decide) rfl (fun ls hl => ?_)
  refine lv_iconst (v := 0) hx hb dX1_orderTo_12 (by decide) ?_
  refine lv_istore_n (lv' := [(3, .int (0 : Int32)), (2, .int x1), (0, .ref (L k)), (1, .ref (L k2))]) hx hb dX1_orderTo_13 rfl hl (by decide) rfl (fun ls hl => ?_)
  refine wp1K hf (fun (v4 : Int32) => ∀ (H : Heap) (locs : List Loc) (ls : Array Slot), lv_has ls 4 [(0, .ref (L k)), (1, .ref (L k2)), (2, .int x1), (3, .int v4)] → Wd D cy L shC 52 S s H locs → W p l e (rmk 1 21) s m args below meth c H locs 0 0 Q (F0 m 14 ls [])) (fun (j : Option (Int32)) => (j) = some r → ∀ (H : Heap) (locs : List Loc) (ls : Array Slot), lv_has ls 4 [(0, .ref (L k)), (1, .ref (L k2))] → Wd D cy L shC 52 S s H locs → W p l e (rmk 1 21) s m args below meth c H locs 0 0 Q (F0 m 61 ls [])) ?_ ?_ _ _ _ (lv_sub hl [2, 3, 1, 0] rfl) hW
  · intro hf H locs ls hl hW
    try dsimp only at hf
    refine lv_aload_n hx hb dX1_orderTo_61 rfl (lv_at hl 0 rfl) ?_
    refine x_geti (k := k) E hC hW fl_X1_21 hk.1 hk.2.1 rfl dX1_orderTo_62 ?_
    refine lv_aload_n hx hb dX1_orderTo_65 rfl (lv_at hl 1 rfl) ?_
    refine x_geti (k := k2) E hC hW fl_X1_21 hk2.1 hk2.2.1 rfl dX1_orderTo_66 ?_
    obtain ⟨r2, g3, hf⟩ := cl1S hf
    refine x_Sr (As := [.int (S.1 k 3), .int (S.1 k2 3)]) (rest := []) E hC hW hl.1 (c_J6_compare_7cf53 (S.1 k 3) (S.1 k2 3) r2 S g3) cs_X1_34 rfl rfl ⟨Nat.le_of_ble_eq_true rfl, Nat.le_of_ble_eq_true rfl⟩ ⟨Nat.le_refl _, Nat.le_refl _⟩ (Nat.le_of_ble_eq_true rfl) dX1_orderTo_69 (fun H locs hW => ?_)
    exact x_iretP E hC hW hr hlk hQ dX1_orderTo_72 hf
  · intro k61 K61 self14 ih14 v4 hf H locs ls hl hW
    unfold X1_orderTo_L14 at hf
    refine lv_iload_n hx hb dX1_orderTo_14 rfl (lv_at hl 3 rfl) ?_
    refine lv_iload_n hx hb dX1_orderTo_15 rfl (lv_at hl 2 rfl) ?_
    refine lv_icmp_ge (tgt := 61) hx hb dX1_orderTo_16 (by decide) (fun c12 => ?_) (fun c12 => ?_)
    · have hf := xt hf c12
      exact K61 hf _ _ _ (lv_sub hl [0, 1] rfl) hW
    · have hf := xf hf c12
      refine lv_aload_n hx hb dX1_orderTo_19 rfl (lv_at hl 0 rfl) ?_
      refine x_getr (k := k) (k' := (k + 1)) E hC hW fl_X1_24 hk.1 hk.2.1 rfl dX1_orderTo_20 ?_
      refine lv_iload_n hx hb dX1_orderTo_23 rfl (lv_at hl 3 rfl) ?_
      obtain ⟨hg5, hf⟩ := gdS hf
      refine x_iald (k := (k + 1)) E hC hW hk.2.2.1 hk.2.2.2 (inbS hg5) dX1_orderTo_24 ?_
      refine lv_aload_n hx hb dX1_orderTo_25 rfl (lv_at hl 1 rfl) ?_
      refine x_getr (k := k2) (k' := (k2 + 1)) E hC hW fl_X1_24 hk2.1 hk2.2.1 rfl dX1_orderTo_26 ?_
      refine lv_iload_n hx hb dX1_orderTo_29 rfl (lv_at hl 3 rfl) ?_
      obtain ⟨hg6, hf⟩ := gdS hf
      refine x_iald (k := (k2 + 1)) E hC hW hk2.2.2.1 hk2.2.2.2 (inbS hg6) dX1_orderTo_30 ?_
      refine lv_icmp_eq (tgt := 55) hx hb dX1_orderTo_31 (by decide) (fun c11 => ?_) (fun c11 => ?_)
      · have hf := xt hf c11
        obtain ⟨x7, ex7⟩ : ∃ z : Int32, z = (v4 + 1) := ⟨_, rfl⟩
        have hf := bvS hf ex7
        refine lv_iinc (v := x7) (lv' := [(3, .int x7), (0, .ref (L k)), (1, .ref (L k2)), (2, .int x1)]) hx hb dX1_orderTo_55 hl (k := 3) rfl (by rw [ex7]; rfl) (by decide) rfl (fun ls hl => ?_)
        refine lv_goto (tgt := 14) hx hb dX1_orderTo_58 (by decide) ?_
        exact ih14 _ hf _ _ _ (lv_sub hl [1, 2, 3, 0] rfl) hW
      · have hf := xf hf c11
        refine lv_aload_n hx hb dX1_orderTo_34 rfl (lv_at hl 0 rfl) ?_
        refine x_getr (k := k) (k' := (k + 1)) E hC hW fl_X1_24 hk.1 hk.2.1 rfl dX1_orderTo_35 ?_
        refine lv_iload_n hx hb dX1_orderTo_38 rfl (lv_at hl 3 rfl) ?_
        obtain ⟨hg8, hf⟩ := gdS hf
        refine x_iald (k := (k + 1)) E hC hW hk.2.2.1 hk.2.2.2 (inbS hg8) dX1_orderTo_39 ?_
        refine lv_aload_n hx hb dX1_orderTo_40 rfl (lv_at hl 1 rfl) ?_
        refine x_getr (k := k2) (k' := (k2 + 1)) E hC hW fl_X1_24 hk2.1 hk2.2.1 rfl dX1_orderTo_41 ?_
        refine lv_iload_n hx hb dX1_orderTo_44 rfl (lv_at hl 3 rfl) ?_
        obtain ⟨hg9, hf⟩ := gdS hf
        refine x_iald (k := (k2 + 1)) E hC hW hk2.2.2.1 hk2.2.2.2 (inbS hg9) dX1_orderTo_45 ?_
        refine lv_icmp_ge (tgt := 53) hx hb dX1_orderTo_46 (by decide) (fun c10 => ?_) (fun c10 => ?_)
        · have hf := xt hf c10
          refine lv_iconst (v := 1) hx hb dX1_orderTo_53 (by decide) ?_
          exact x_iretP E hC hW hr hlk hQ dX1_orderTo_54 hf
        · have hf := xf hf c10
          refine lv_iconst (v := (-1)) hx hb dX1_orderTo_49 (by decide) ?_
          refine lv_goto (tgt := 54) hx hb dX1_orderTo_50 (by decide) ?_
          exact x_iretP E hC hW hr hlk hQ dX1_orderTo_54 hf
set_option maxRecDepth 100000 in
set_option maxHeartbeats 4000000 in
theorem c_X9_compare {l : Launch} {D : va_G} {cy : Nat → ClassId} {L : Nat → Nat} {bA : Nat} (a1 : Int32) (a2 : Int32) (r : Int32) (S : Sg)  (hf : f_X9_compare a1 a2 S = some r) : MetX l D cy L shC 52 bA yX9_compare cX9_compare 5 (some .int) 2 44 [.ref (L 0), .int a1, .int a2] (some (.int r)) S S := by
  refine x_met (own := RX9) (by decide) rfl (Nat.le_of_ble_eq_true rfl) ?_
  intro p e s m below meth c ls E hC hr hlk hl hW
  generalize hargs : ([.ref (L 0), .int a1, .int a2] : List Value).toArray = args at E ⊢
  generalize hQ : MQ below (xQ D cy L shC 52 bA (some (.int r)) S) args s 0 0 (AL L 52) = Q
  have hl : lv_has ls 5 [(0, .ref (L 0)), (1, .int a1), (2, .int a2)] := hl
  have hx := E.1
  have hb := E.2.1
  have hts := E.2.2.2.2
  unfold f_X9_compare at hf
  refine lv_iload_n hx hb dX9_compare_0 rfl (lv_at hl 1 rfl) ?_
  obtain ⟨r1, g2, hf⟩ := cl1S hf
  refine x_Sr (As := [.int a1]) (rest := []) E hC hW hl.1 (c_X9_isHand a1 r1 S g2) cs_X9_267 rfl rfl ⟨Nat.le_of_ble_eq_true rfl, Nat.le_of_ble_eq_true rfl⟩ ⟨Nat.le_refl _, Nat.le_refl _⟩ (Nat.le_of_ble_eq_true rfl) dX9_compare_1 (fun H locs hW => ?_)
  refine lv_if_eq (tgt := 14) hx hb dX9_compare_4 (by decide) (fun c16 => ?_) (fun c16 => ?_)
  · have hf := xt hf c16
    refine lv_bipush (v := (-2)) hx hb dX9_compare_14 (by decide) ?_
    exact x_iretP E hC hW hr hlk hQ dX9_compare_16 hf
  · have hf := xf hf c16
    refine lv_iload_n hx hb dX9_compare_7 rfl (lv_at hl 2 rfl) ?_
    obtain ⟨r3, g4, hf⟩ := cl1S hf
    refine x_Sr (As := [.int a2]) (rest := []) E hC hW hl.1 (c_X9_isHand a2 r3 S g4) cs_X9_267 rfl rfl ⟨Nat.le_of_ble_eq_true rfl, Nat.le_of_ble_eq_true rfl⟩ ⟨Nat.le_refl _, Nat.le_refl _⟩ (Nat.le_of_ble_eq_true rfl) dX9_compare_8 (fun H locs hW => ?_)
    refine lv_if_ne (tgt := 17) hx hb dX9_compare_11 (by decide) (fun c15 => ?_) (fun c15 => ?_)
    · have hf := xf hf c15
      refine lv_aload_n hx hb dX9_compare_17 rfl (lv_at hl 0 rfl) ?_
      refine x_getr (k := 0) (k' := 40) E hC hW fl_X9_66 (by decide) rfl rfl dX9_compare_18 ?_
      refine lv_iload_n hx hb dX9_compare_21 rfl (lv_at hl 1 rfl) ?_
      obtain ⟨hg5, hf⟩ := gdS hf
      refine x_aald (k := 40) (b := 41) E hC hW (by decide) rfl rfl (inbS hg5) dX9_compare_22 ?_
      have ho6 := okH_ix hg5
      refine lv_astore_n (lv' := [(3, .ref (L (41 + 2 * ix a1))), (0, .ref (L 0)), (1, .int a1), (2, .int a2)]) hx hb dX9_compare_23 rfl hl (by decide) rfl (fun ls hl => ?_)
      refine lv_aload_n hx hb dX9_compare_24 rfl (lv_at hl 1 rfl) ?_
      refine x_getr (k := 0) (k' := 40) E hC hW fl_X9_66 (by decide) rfl rfl dX9_compare_25 ?_
      refine lv_iload_n hx hb dX9_compare_28 rfl (lv_at hl 3 rfl) ?_
      obtain ⟨hg7, hf⟩ := gdS hf
      refine x_aald (k := 40) (b := 41) E hC hW (by decide) rfl rfl (inbS hg7) dX9_compare_29 ?_
      have ho8 := okH_ix hg7
      refine lv_astore (lv' := [(4, .ref (L (41 + 2 * ix a2))), (3, .ref (L (41 + 2 * ix a1))), (0, .ref (L 0)), (1, .int a1), (2, .int a2)]) hx hb dX9_compare_30 hl (by decide) rfl (fun ls hl => ?_)
      refine lv_aload_n hx hb dX9_compare_32 rfl (lv_at hl 1 rfl) ?_
      refine x_geti (k := (41 + 2 * ix a1)) E hC hW fl_X9_270 ho6.1 ho6.2.1 rfl dX9_compare_33 ?_
      refine lv_if_eq (tgt := 47) hx hb dX9_compare_36 (by decide) (fun c14 => ?_) (fun c14 => ?_)
      · have hf := xt hf c14
        refine lv_bipush (v := (-11)) hx hb dX9_compare_47 (by decide) ?_
        exact x_iretP E hC hW hr hlk hQ dX9_compare_49 hf
      · have hf := xf hf c14
        refine lv_aload hx hb dX9_compare_39 (lv_at hl 0 rfl) ?_
        refine x_geti (k := (41 + 2 * ix a2)) E hC hW fl_X9_270 ho8.1 ho8.2.1 rfl dX9_compare_41 ?_
        refine lv_if_ne (tgt := 50) hx hb dX9_compare_44 (by decide) (fun c13 => ?_) (fun c13 => ?_)
        · have hf := xf hf c13
          refine lv_aload_n hx hb dX9_compare_50 rfl (lv_at hl 1 rfl) ?_
          refine x_geti (k := (41 + 2 * ix a1)) E hC hW fl_X9_270 ho6.1 ho6.2.1 rfl dX9_compare_51 ?_
          refine lv_iconst (v := 2) hx hb dX9_compare_54 (by decide) ?_
          refine lv_icmp_ne (tgt := 76) hx hb dX9_compare_55 (by decide) (fun c12 => ?_) (fun c12 => ?_)
          · have hf := xf hf c12
            refine lv_bipush (v := (-13)) hx hb dX9_compare_76 (by decide) ?_
            exact x_iretP E hC hW hr hlk hQ dX9_compare_78 hf
          · have hf := xt hf c12
            refine lv_aload hx hb dX9_compare_58 (lv_at hl 0 rfl) ?_
            refine x_geti (k := (41 + 2 * ix a2)) E hC hW fl_X9_270 ho8.1 ho8.2.1 rfl dX9_compare_60 ?_
            refine lv_iconst (v := 2) hx hb dX9_compare_63 (by decide) ?_
            refine lv_icmp_ne (tgt := 76) hx hb dX9_compare_64 (by decide) (fun c11 => ?_) (fun c11 => ?_)
            · have hf := xf hf c11
              refine lv_bipush (v := (-13)) hx hb dX9_compare_76 (by decide) ?_
              exact x_iretP E hC hW hr hlk hQ dX9_compare_78 hf
            · have hf := xt hf c11
              refine lv_aload_n hx hb dX9_compare_67 rfl (lv_at hl 1 rfl) ?_
              refine lv_aload hx hb dX9_compare_68 (lv_at hl 0 rfl) ?_
              obtain ⟨r9, g10, hf⟩ := cl1S hf
              refine x_Vr (k := (41 + 2 * ix a1)) (As := [.ref (L (41 + 2 * ix a2))]) (rest := []) E hC hW hl.1 (c_X1_orderTo (41 + 2 * ix a1) (41 + 2 * ix a2) r9 S ho6 ho8 g10) cv_X9_295 rfl ho6.1 ho6.2.1 rfl rfl ⟨Nat.le_of_ble_eq_true rfl, Nat.le_of_ble_eq_true rfl⟩ ⟨Nat.le_refl _, Nat.le_refl _⟩ (Nat.le_of_ble_eq_true rfl) dX9_compare_70 (fun H locs hW => ?_)
              refine lv_goto (tgt := 78) hx hb dX9_compare_73 (by decide) ?_
              exact x_iretP E hC hW hr hlk hQ dX9_compare_78 hf
        · have hf := xt hf c13
          refine lv_bipush (v := (-11)) hx hb dX9_compare_47 (by decide) ?_
          exact x_iretP E hC hW hr hlk hQ dX9_compare_49 hf
    · have hf := xt hf c15
      refine lv_bipush (v := (-2)) hx hb dX9_compare_14 (by decide) ?_
      exact x_iretP E hC hW hr hlk hQ dX9_compare_16 hf
set_option maxRecDepth 100000 in
set_option maxHeartbeats 4000000 in
theorem c_X6_become {l : Launch} {D : va_G} {cy : Nat → ClassId} {L : Nat → Nat} {bA : Nat} (k : Nat) (a1 : Int32) (a2 : Int32) (S S' : Sg) (hk : okS k) (hf : f_X6_become k a1 a2 S = some S') : MetX l D cy L shC 52 bA yX6_become cX6_become 4 none 0 0 [.ref (L k), .int a1, .int a2] none S S' := by
  refine x_met (own := RX6) (by decide) rfl (Nat.le_of_ble_eq_true rfl) ?_
  intro p e s m below meth c ls E hC hr hlk hl hW
  generalize hargs : ([.ref (L k), .int a1, .int a2] : List Value).toArray = args at E ⊢
  generalize hQ : MQ below (xQ D cy L shC 52 bA none S') args s 0 0 (AL L 52) = Q
  have hl : lv_has ls 4 [(0, .ref (L k)), (1, .int a1), (2, .int a2)] := hl
  have hx := E.1
  have hb := E.2.1
  have hts := E.2.2.2.2
  unfold f_X6_become at hf
  refine lv_aload_n hx hb dX6_become_0 rfl (lv_at hl 0 rfl) ?_
  refine lv_iload_n hx hb dX6_become_1 rfl (lv_at hl 1 rfl) ?_
  refine x_put (k := k) E hC hW fl_X6_9 pl_6_0 hk.1 hk.2.1 rfl rfl rfl dX6_become_2 (fun H locs hW => ?_)
  obtain ⟨S1, eS1⟩ : ∃ z : Sg, z = si S k 0 a1 := ⟨_, rfl⟩
  have hW : Wd D cy L shC 52 S1 s H locs := by rw [eS1]; exact hW
  have hf := bvS hf eS1
  refine lv_aload_n hx hb dX6_become_5 rfl (lv_at hl 0 rfl) ?_
  refine lv_iload_n hx hb dX6_become_6 rfl (lv_at hl 2 rfl) ?_
  refine x_put (k := k) E hC hW fl_X6_15 pl_6_1 hk.1 hk.2.1 rfl rfl rfl dX6_become_7 (fun H locs hW => ?_)
  obtain ⟨S2, eS2⟩ : ∃ z : Sg, z = si S1 k 1 a2 := ⟨_, rfl⟩
  have hW : Wd D cy L shC 52 S2 s H locs := by rw [eS2]; exact hW
  have hf := bvS hf eS2
  refine lv_iconst (v := 0) hx hb dX6_become_10 (by decide) ?_
  refine lv_istore_n (lv' := [(3, .int (0 : Int32)), (0, .ref (L k)), (1, .int a1), (2, .int a2)]) hx hb dX6_become_11 rfl hl (by decide) rfl (fun ls hl => ?_)
  refine wp2S (fun (v3 : Int32) (S4 : Sg) => ∀ (H : Heap) (locs : List Loc) (ls : Array Slot), lv_has ls 4 [(0, .ref (L k)), (3, .int v3)] → Wd D cy L shC 52 S4 s H locs → W p l e (rmk 0 0) s m args below meth c H locs 0 0 Q (F0 m 12 ls [])) ?_ hf _ _ _ (lv_sub hl [1, 0] rfl) hW
  · intro self12 ih12 v3 S4 hf H locs ls hl hW
    unfold X6_become_L12 at hf
    refine lv_iload_n hx hb dX6_become_12 rfl (lv_at hl 1 rfl) ?_
    refine lv_aload_n hx hb dX6_become_13 rfl (lv_at hl 0 rfl) ?_
    refine x_geti (k := k) E hC hW fl_X6_15 hk.1 hk.2.1 rfl dX6_become_14 ?_
    refine lv_icmp_ge (tgt := 33) hx hb dX6_become_17 (by decide) (fun c8 => ?_) (fun c8 => ?_)
    · have hf := xt hf c8
      exact x_vretI E hC hW hr hlk hQ dX6_become_33 hf
    · have hf := xf hf c8
      refine lv_aload_n hx hb dX6_become_20 rfl (lv_at hl 0 rfl) ?_
      refine x_getr (k := k) (k' := (k + 1)) E hC hW fl_X6_18 hk.1 hk.2.1 rfl dX6_become_21 ?_
      refine lv_iload_n hx hb dX6_become_24 rfl (lv_at hl 1 rfl) ?_
      refine lv_lconst (v := 0) hx hb dX6_become_25 (by decide) ?_
      obtain ⟨hg5, hf⟩ := gdS hf
      refine x_last (k := (k + 1)) E hC hW hk.2.2.1 hk.2.2.2 (inbS hg5) dX6_become_26 (fun H locs hW => ?_)
      obtain ⟨S6, eS6⟩ : ∃ z : Sg, z = sl S4 (k + 1) (ix v3) (0 : Int64) := ⟨_, rfl⟩
      have hW : Wd D cy L shC 52 S6 s H locs := by rw [eS6]; exact hW
      have hf := bvS hf eS6
      obtain ⟨x7, ex7⟩ : ∃ z : Int32, z = (v3 + 1) := ⟨_, rfl⟩
      have hf := bvS hf ex7
      refine lv_iinc (v := x7) (lv' := [(3, .int x7), (0, .ref (L k))]) hx hb dX6_become_27 hl (k := 1) rfl (by rw [ex7]; rfl) (by decide) rfl (fun ls hl => ?_)
      refine lv_goto (tgt := 12) hx hb dX6_become_30 (by decide) ?_
      exact ih12 _ _ hf _ _ _ (lv_sub hl [1, 0] rfl) hW
set_option maxRecDepth 100000 in
set_option maxHeartbeats 4000000 in
theorem c_X9_sheet {l : Launch} {D : va_G} {cy : Nat → ClassId} {L : Nat → Nat} {bA : Nat} (a1 : Int32) (a2 : Int32) (a3 : Int32) (r : Int32) (S S' : Sg)  (hf : f_X9_sheet a1 a2 a3 S = some (r, S')) : MetX l D cy L shC 52 bA yX9_sheet cX9_sheet 4 (some .int) 1 23 [.ref (L 0), .int a1, .int a2, .int a3] (some (.int r)) S S' := by
  refine x_met (own := RX9) (by decide) rfl (Nat.le_of_ble_eq_true rfl) ?_
  intro p e s m below meth c ls E hC hr hlk hl hW
  generalize hargs : ([.ref (L 0), .int a1, .int a2, .int a3] : List Value).toArray = args at E ⊢
  generalize hQ : MQ below (xQ D cy L shC 52 bA (some (.int r)) S') args s 0 0 (AL L 52) = Q
  have hl : lv_has ls 4 [(0, .ref (L 0)), (1, .int a1), (2, .int a2), (3, .int a3)] := hl
  have hx := E.1
  have hb := E.2.1
  have hts := E.2.2.2.2
  unfold f_X9_sheet at hf
  refine lv_iload_n hx hb dX9_sheet_0 rfl (lv_at hl 1 rfl) ?_
  obtain ⟨r1, g2, hf⟩ := cl1S hf
  refine x_Sr (As := [.int a1]) (rest := []) E hC hW hl.1 (c_X9_isSheet a1 r1 S g2) cs_X9_194 rfl rfl ⟨Nat.le_of_ble_eq_true rfl, Nat.le_of_ble_eq_true rfl⟩ ⟨Nat.le_refl _, Nat.le_refl _⟩ (Nat.le_of_ble_eq_true rfl) dX9_sheet_1 (fun H locs hW => ?_)
  refine lv_if_eq (tgt := 17) hx hb dX9_sheet_4 (by decide) (fun c15 => ?_) (fun c15 => ?_)
  · have hf := xt hf c15
    refine lv_bipush (v := (-2)) hx hb dX9_sheet_17 (by decide) ?_
    exact x_iretI E hC hW hr hlk hQ dX9_sheet_19 hf
  · have hf := xf hf c15
    refine lv_iload_n hx hb dX9_sheet_7 rfl (lv_at hl 2 rfl) ?_
    refine lv_iconst (v := (-1)) hx hb dX9_sheet_8 (by decide) ?_
    refine lv_icmp_lt (tgt := 17) hx hb dX9_sheet_9 (by decide) (fun c14 => ?_) (fun c14 => ?_)
    · have hf := xt hf c14
      refine lv_bipush (v := (-2)) hx hb dX9_sheet_17 (by decide) ?_
      exact x_iretI E hC hW hr hlk hQ dX9_sheet_19 hf
    · have hf := xf hf c14
      refine lv_iload_n hx hb dX9_sheet_12 rfl (lv_at hl 2 rfl) ?_
      refine lv_iconst (v := 1) hx hb dX9_sheet_13 (by decide) ?_
      refine lv_icmp_le (tgt := 20) hx hb dX9_sheet_14 (by decide) (fun c13 => ?_) (fun c13 => ?_)
      · have hf := xt hf c13
        refine lv_iload_n hx hb dX9_sheet_20 rfl (lv_at hl 2 rfl) ?_
        refine lv_iconst (v := (-1)) hx hb dX9_sheet_21 (by decide) ?_
        refine jnS hf (fun (j : Option (Int32 × Sg)) => (j) = some (r, S') → ∀ (H : Heap) (locs : List Loc) (ls : Array Slot), lv_has ls 4 [(0, .ref (L 0)), (1, .int a1), (2, .int a2), (3, .int a3)] → Wd D cy L shC 52 S s H locs → W p l e (rmk 1 23) s m args below meth c H locs 0 0 Q (F0 m 34 ls [])) ?_ ?_
        · intro hf H locs ls hl hW
          try dsimp only at hf
          refine lv_iload_n hx hb dX9_sheet_34 rfl (lv_at hl 2 rfl) ?_
          refine lv_iconst (v := (-1)) hx hb dX9_sheet_35 (by decide) ?_
          refine jnS hf (fun (j : Option (Int32 × Sg)) => (j) = some (r, S') → ∀ (H : Heap) (locs : List Loc) (ls : Array Slot), lv_has ls 4 [(0, .ref (L 0)), (1, .int a1), (2, .int a2), (3, .int a3)] → Wd D cy L shC 52 S s H locs → W p l e (rmk 1 23) s m args below meth c H locs 0 0 Q (F0 m 46 ls [])) ?_ ?_
          · intro hf H locs ls hl hW
            try dsimp only at hf
            refine lv_aload_n hx hb dX9_sheet_46 rfl (lv_at hl 0 rfl) ?_
            refine x_getr (k := 0) (k' := 31) E hC hW fl_X9_60 (by decide) rfl rfl dX9_sheet_47 ?_
            refine lv_iload_n hx hb dX9_sheet_50 rfl (lv_at hl 1 rfl) ?_
            obtain ⟨hg3, hf⟩ := gdS hf
            refine x_aald (k := 31) (b := 32) E hC hW (by decide) rfl rfl (inbS hg3) dX9_sheet_51 ?_
            have ho4 := okS_ix hg3
            refine lv_iload_n hx hb dX9_sheet_52 rfl (lv_at hl 2 rfl) ?_
            refine lv_iload_n hx hb dX9_sheet_53 rfl (lv_at hl 2 rfl) ?_
            refine lv_iconst (v := (-1)) hx hb dX9_sheet_54 (by decide) ?_
            refine jnS hf (fun (j : Int32 → Option (Int32 × Sg)) => ∀ (x5 : Int32), (j x5) = some (r, S') → ∀ (H : Heap) (locs : List Loc) (ls : Array Slot), lv_has ls 4 [] → Wd D cy L shC 52 S s H locs → W p l e (rmk 1 23) s m args below meth c H locs 0 0 Q (F0 m 63 ls [.int x5, .int a2, .ref (L (32 + 2 * ix a1))])) ?_ ?_
            · intro x5 hf H locs ls hl hW
              try dsimp only at hf
              obtain ⟨S7, g6, hf⟩ := cl1S hf
              refine x_Vv (k := (32 + 2 * ix a1)) (As := [.int a2, .int x5]) (rest := []) E hC hW hl.1 (c_X6_become (32 + 2 * ix a1) a2 x5 S S7 ho4 g6) cv_X9_299 rfl ho4.1 ho4.2.1 rfl rfl ⟨Nat.le_of_ble_eq_true rfl, Nat.le_of_ble_eq_true rfl⟩ ⟨Nat.le_refl _, Nat.le_refl _⟩ (Nat.le_of_ble_eq_true rfl) dX9_sheet_63 (fun H locs hW => ?_)
              refine lv_iconst (v := 1) hx hb dX9_sheet_66 (by decide) ?_
              exact x_iretI E hC hW hr hlk hQ dX9_sheet_67 hf
            intro j63 J63 hf
            refine lv_icmp_ne (tgt := 62) hx hb dX9_sheet_55 (by decide) (fun c8 => ?_) (fun c8 => ?_)
            · have hf := xf hf c8
              refine lv_iload_n hx hb dX9_sheet_62 rfl (lv_at hl 3 rfl) ?_
              exact J63 _ hf _ _ _ (lv_sub hl [] rfl) hW
            · have hf := xt hf c8
              refine lv_iconst (v := 0) hx hb dX9_sheet_58 (by decide) ?_
              refine lv_goto (tgt := 63) hx hb dX9_sheet_59 (by decide) ?_
              exact J63 _ hf _ _ _ (lv_sub hl [] rfl) hW
          intro j46 J46 hf
          refine lv_icmp_eq (tgt := 46) hx hb dX9_sheet_36 (by decide) (fun c10 => ?_) (fun c10 => ?_)
          · have hf := xt hf c10
            exact J46 hf _ _ _ (lv_sub hl [0, 1, 2, 3] rfl) hW
          · have hf := xf hf c10
            refine lv_iload_n hx hb dX9_sheet_39 rfl (lv_at hl 3 rfl) ?_
            refine lv_if_ge (tgt := 46) hx hb dX9_sheet_40 (by decide) (fun c9 => ?_) (fun c9 => ?_)
            · have hf := xt hf c9
              exact J46 hf _ _ _ (lv_sub hl [0, 1, 2, 3] rfl) hW
            · have hf := xf hf c9
              refine lv_bipush (v := (-14)) hx hb dX9_sheet_43 (by decide) ?_
              exact x_iretI E hC hW hr hlk hQ dX9_sheet_45 hf
        intro j34 J34 hf
        refine lv_icmp_eq (tgt := 34) hx hb dX9_sheet_22 (by decide) (fun c12 => ?_) (fun c12 => ?_)
        · have hf := xt hf c12
          exact J34 hf _ _ _ (lv_sub hl [0, 1, 2, 3] rfl) hW
        · have hf := xf hf c12
          refine lv_iload_n hx hb dX9_sheet_25 rfl (lv_at hl 3 rfl) ?_
          refine lv_bipush (v := 30) hx hb dX9_sheet_26 (by decide) ?_
          refine lv_icmp_le (tgt := 34) hx hb dX9_sheet_28 (by decide) (fun c11 => ?_) (fun c11 => ?_)
          · have hf := xt hf c11
            exact J34 hf _ _ _ (lv_sub hl [0, 1, 2, 3] rfl) hW
          · have hf := xf hf c11
            refine lv_bipush (v := (-2)) hx hb dX9_sheet_31 (by decide) ?_
            exact x_iretI E hC hW hr hlk hQ dX9_sheet_33 hf
      · have hf := xf hf c13
        refine lv_bipush (v := (-2)) hx hb dX9_sheet_17 (by decide) ?_
        exact x_iretI E hC hW hr hlk hQ dX9_sheet_19 hf
set_option maxRecDepth 100000 in
set_option maxHeartbeats 4000000 in
theorem c_X9_cell {l : Launch} {D : va_G} {cy : Nat → ClassId} {L : Nat → Nat} {bA : Nat} (a1 : Int32) (a2 : Int32) (a3 : Int64) (r : Int32) (S S' : Sg)  (hf : f_X9_cell a1 a2 a3 S = some (r, S')) : MetX l D cy L shC 52 bA yX9_cell cX9_cell 6 (some .int) 1 21 [.ref (L 0), .int a1, .int a2, .long a3] (some (.int r)) S S' := by
  refine x_met (own := RX9) (by decide) rfl (Nat.le_of_ble_eq_true rfl) ?_
  intro p e s m below meth c ls E hC hr hlk hl hW
  generalize hargs : ([.ref (L 0), .int a1, .int a2, .long a3] : List Value).toArray = args at E ⊢
  generalize hQ : MQ below (xQ D cy L shC 52 bA (some (.int r)) S') args s 0 0 (AL L 52) = Q
  have hl : lv_has ls 6 [(0, .ref (L 0)), (1, .int a1), (2, .int a2), (3, .long a3)] := hl
  have hx := E.1
  have hb := E.2.1
  have hts := E.2.2.2.2
  unfold f_X9_cell at hf
  refine lv_iload_n hx hb dX9_cell_0 rfl (lv_at hl 1 rfl) ?_
  obtain ⟨r1, g2, hf⟩ := cl1S hf
  refine x_Sr (As := [.int a1]) (rest := []) E hC hW hl.1 (c_X9_isSheet a1 r1 S g2) cs_X9_194 rfl rfl ⟨Nat.le_of_ble_eq_true rfl, Nat.le_of_ble_eq_true rfl⟩ ⟨Nat.le_refl _, Nat.le_refl _⟩ (Nat.le_of_ble_eq_true rfl) dX9_cell_1 (fun H locs hW => ?_)
  refine lv_if_ne (tgt := 10) hx hb dX9_cell_4 (by decide) (fun c17 => ?_) (fun c17 => ?_)
  · have hf := xf hf c17
    refine lv_aload_n hx hb dX9_cell_10 rfl (lv_at hl 0 rfl) ?_
    refine x_getr (k := 0) (k' := 31) E hC hW fl_X9_60 (by decide) rfl rfl dX9_cell_11 ?_
    refine lv_iload_n hx hb dX9_cell_14 rfl (lv_at hl 1 rfl) ?_
    obtain ⟨hg3, hf⟩ := gdS hf
    refine x_aald (k := 31) (b := 32) E hC hW (by decide) rfl rfl (inbS hg3) dX9_cell_15 ?_
    have ho4 := okS_ix hg3
    refine lv_astore (lv' := [(5, .ref (L (32 + 2 * ix a1))), (0, .ref (L 0)), (1, .int a1), (2, .int a2), (3, .long a3)]) hx hb dX9_cell_16 hl (by decide) rfl (fun ls hl => ?_)
    refine lv_aload hx hb dX9_cell_18 (lv_at hl 0 rfl) ?_
    obtain ⟨r5, g6, hf⟩ := cl1S hf
    refine x_Vr (k := (32 + 2 * ix a1)) (As := []) (rest := []) E hC hW hl.1 (c_X6_isMissing (32 + 2 * ix a1) r5 S ho4 g6) cv_X9_197 rfl ho4.1 ho4.2.1 rfl rfl ⟨Nat.le_of_ble_eq_true rfl, Nat.le_of_ble_eq_true rfl⟩ ⟨Nat.le_refl _, Nat.le_refl _⟩ (Nat.le_of_ble_eq_true rfl) dX9_cell_20 (fun H locs hW => ?_)
    refine lv_if_eq (tgt := 29) hx hb dX9_cell_23 (by decide) (fun c16 => ?_) (fun c16 => ?_)
    · have hf := xt hf c16
      refine lv_aload hx hb dX9_cell_29 (lv_at hl 0 rfl) ?_
      refine lv_iload_n hx hb dX9_cell_31 rfl (lv_at hl 3 rfl) ?_
      obtain ⟨r7, g8, hf⟩ := cl1S hf
      refine x_Vr (k := (32 + 2 * ix a1)) (As := [.int a2]) (rest := []) E hC hW hl.1 (c_X6_has (32 + 2 * ix a1) a2 r7 S ho4 g8) cv_X9_302 rfl ho4.1 ho4.2.1 rfl rfl ⟨Nat.le_of_ble_eq_true rfl, Nat.le_of_ble_eq_true rfl⟩ ⟨Nat.le_refl _, Nat.le_refl _⟩ (Nat.le_of_ble_eq_true rfl) dX9_cell_32 (fun H locs hW => ?_)
      refine lv_if_ne (tgt := 41) hx hb dX9_cell_35 (by decide) (fun c15 => ?_) (fun c15 => ?_)
      · have hf := xf hf c15
        refine lv_aload hx hb dX9_cell_41 (lv_at hl 0 rfl) ?_
        refine x_geti (k := (32 + 2 * ix a1)) E hC hW fl_X9_303 ho4.1 ho4.2.1 rfl dX9_cell_43 ?_
        refine jnS hf (fun (j : Option (Int32 × Sg)) => (j) = some (r, S') → ∀ (H : Heap) (locs : List Loc) (ls : Array Slot), lv_has ls 6 [(2, .int a2), (3, .long a3), (5, .ref (L (32 + 2 * ix a1)))] → Wd D cy L shC 52 S s H locs → W p l e (rmk 1 21) s m args below meth c H locs 0 0 Q (F0 m 59 ls [])) ?_ ?_
        · intro hf H locs ls hl hW
          try dsimp only at hf
          refine lv_aload hx hb dX9_cell_59 (lv_at hl 2 rfl) ?_
          refine x_getr (k := (32 + 2 * ix a1)) (k' := ((32 + 2 * ix a1) + 1)) E hC hW fl_X9_307 ho4.1 ho4.2.1 rfl dX9_cell_61 ?_
          refine lv_iload_n hx hb dX9_cell_64 rfl (lv_at hl 0 rfl) ?_
          refine lv_lload_n hx hb dX9_cell_65 rfl (lv_at hl 1 rfl) ?_
          obtain ⟨hg9, hf⟩ := gdS hf
          refine x_last (k := ((32 + 2 * ix a1) + 1)) E hC hW ho4.2.2.1 ho4.2.2.2 (inbS hg9) dX9_cell_66 (fun H locs hW => ?_)
          obtain ⟨S10, eS10⟩ : ∃ z : Sg, z = sl S ((32 + 2 * ix a1) + 1) (ix a2) a3 := ⟨_, rfl⟩
          have hW : Wd D cy L shC 52 S10 s H locs := by rw [eS10]; exact hW
          have hf := bvS hf eS10
          refine lv_iconst (v := 1) hx hb dX9_cell_67 (by decide) ?_
          exact x_iretI E hC hW hr hlk hQ dX9_cell_68 hf
        intro j59 J59 hf
        refine lv_if_ne (tgt := 59) hx hb dX9_cell_46 (by decide) (fun c14 => ?_) (fun c14 => ?_)
        · have hf := xf hf c14
          exact J59 hf _ _ _ (lv_sub hl [3, 4, 0] rfl) hW
        · have hf := xt hf c14
          refine lv_lload_n hx hb dX9_cell_49 rfl (lv_at hl 4 rfl) ?_
          obtain ⟨r11, g12, hf⟩ := cl1S hf
          refine x_Sr (As := [.long a3]) (rest := []) E hC hW hl.1 (c_X9_isInt a3 r11 S g12) cs_X9_304 rfl rfl ⟨Nat.le_of_ble_eq_true rfl, Nat.le_of_ble_eq_true rfl⟩ ⟨Nat.le_refl _, Nat.le_refl _⟩ (Nat.le_of_ble_eq_true rfl) dX9_cell_50 (fun H locs hW => ?_)
          refine lv_if_ne (tgt := 59) hx hb dX9_cell_53 (by decide) (fun c13 => ?_) (fun c13 => ?_)
          · have hf := xf hf c13
            exact J59 hf _ _ _ (lv_sub hl [3, 4, 0] rfl) hW
          · have hf := xt hf c13
            refine lv_bipush (v := (-5)) hx hb dX9_cell_56 (by decide) ?_
            exact x_iretI E hC hW hr hlk hQ dX9_cell_58 hf
      · have hf := xt hf c15
        refine lv_bipush (v := (-12)) hx hb dX9_cell_38 (by decide) ?_
        exact x_iretI E hC hW hr hlk hQ dX9_cell_40 hf
    · have hf := xf hf c16
      refine lv_bipush (v := (-11)) hx hb dX9_cell_26 (by decide) ?_
      exact x_iretI E hC hW hr hlk hQ dX9_cell_28 hf
  · have hf := xt hf c17
    refine lv_bipush (v := (-2)) hx hb dX9_cell_7 (by decide) ?_
    exact x_iretI E hC hW hr hlk hQ dX9_cell_9 hf
set_option maxRecDepth 100000 in
set_option maxHeartbeats 4000000 in
theorem c_X9_read {l : Launch} {D : va_G} {cy : Nat → ClassId} {L : Nat → Nat} {bA : Nat} (a1 : Int32) (a2 : Int32) (r : Int64) (S : Sg)  (hf : f_X9_read a1 a2 S = some r) : MetX l D cy L shC 52 bA yX9_read cX9_read 4 (some .long) 1 21 [.ref (L 0), .int a1, .int a2] (some (.long r)) S S := by
  refine x_met (own := RX9) (by decide) rfl (Nat.le_of_ble_eq_true rfl) ?_
  intro p e s m below meth c ls E hC hr hlk hl hW
  generalize hargs : ([.ref (L 0), .int a1, .int a2] : List Value).toArray = args at E ⊢
  generalize hQ : MQ below (xQ D cy L shC 52 bA (some (.long r)) S) args s 0 0 (AL L 52) = Q
  have hl : lv_has ls 4 [(0, .ref (L 0)), (1, .int a1), (2, .int a2)] := hl
  have hx := E.1
  have hb := E.2.1
  have hts := E.2.2.2.2
  unfold f_X9_read at hf
  refine lv_iload_n hx hb dX9_read_0 rfl (lv_at hl 1 rfl) ?_
  obtain ⟨r1, g2, hf⟩ := cl1S hf
  refine x_Sr (As := [.int a1]) (rest := []) E hC hW hl.1 (c_X9_isSheet a1 r1 S g2) cs_X9_194 rfl rfl ⟨Nat.le_of_ble_eq_true rfl, Nat.le_of_ble_eq_true rfl⟩ ⟨Nat.le_refl _, Nat.le_refl _⟩ (Nat.le_of_ble_eq_true rfl) dX9_read_1 (fun H locs hW => ?_)
  refine lv_if_ne (tgt := 11) hx hb dX9_read_4 (by decide) (fun c12 => ?_) (fun c12 => ?_)
  · have hf := xf hf c12
    refine lv_aload_n hx hb dX9_read_11 rfl (lv_at hl 0 rfl) ?_
    refine x_getr (k := 0) (k' := 31) E hC hW fl_X9_60 (by decide) rfl rfl dX9_read_12 ?_
    refine lv_iload_n hx hb dX9_read_15 rfl (lv_at hl 1 rfl) ?_
    obtain ⟨hg3, hf⟩ := gdS hf
    refine x_aald (k := 31) (b := 32) E hC hW (by decide) rfl rfl (inbS hg3) dX9_read_16 ?_
    have ho4 := okS_ix hg3
    refine lv_astore_n (lv' := [(3, .ref (L (32 + 2 * ix a1))), (0, .ref (L 0)), (1, .int a1), (2, .int a2)]) hx hb dX9_read_17 rfl hl (by decide) rfl (fun ls hl => ?_)
    refine lv_aload_n hx hb dX9_read_18 rfl (lv_at hl 0 rfl) ?_
    obtain ⟨r5, g6, hf⟩ := cl1S hf
    refine x_Vr (k := (32 + 2 * ix a1)) (As := []) (rest := []) E hC hW hl.1 (c_X6_isMissing (32 + 2 * ix a1) r5 S ho4 g6) cv_X9_197 rfl ho4.1 ho4.2.1 rfl rfl ⟨Nat.le_of_ble_eq_true rfl, Nat.le_of_ble_eq_true rfl⟩ ⟨Nat.le_refl _, Nat.le_refl _⟩ (Nat.le_of_ble_eq_true rfl) dX9_read_19 (fun H locs hW => ?_)
    refine lv_if_eq (tgt := 29) hx hb dX9_read_22 (by decide) (fun c11 => ?_) (fun c11 => ?_)
    · have hf := xt hf c11
      refine lv_aload_n hx hb dX9_read_29 rfl (lv_at hl 0 rfl) ?_
      refine lv_iload_n hx hb dX9_read_30 rfl (lv_at hl 3 rfl) ?_
      obtain ⟨r7, g8, hf⟩ := cl1S hf
      refine x_Vr (k := (32 + 2 * ix a1)) (As := [.int a2]) (rest := []) E hC hW hl.1 (c_X6_has (32 + 2 * ix a1) a2 r7 S ho4 g8) cv_X9_302 rfl ho4.1 ho4.2.1 rfl rfl ⟨Nat.le_of_ble_eq_true rfl, Nat.le_of_ble_eq_true rfl⟩ ⟨Nat.le_refl _, Nat.le_refl _⟩ (Nat.le_of_ble_eq_true rfl) dX9_read_31 (fun H locs hW => ?_)
      refine lv_if_eq (tgt := 46) hx hb dX9_read_34 (by decide) (fun c10 => ?_) (fun c10 => ?_)
      · have hf := xt hf c10
        refine lv_ldc2 hx hb E.2.2.2.1 (hts _ ww_470) dX9_read_46 ?_
        exact x_lretP E hC hW hr hlk hQ dX9_read_49 hf
      · have hf := xf hf c10
        refine lv_aload_n hx hb dX9_read_37 rfl (lv_at hl 0 rfl) ?_
        refine x_getr (k := (32 + 2 * ix a1)) (k' := ((32 + 2 * ix a1) + 1)) E hC hW fl_X9_307 ho4.1 ho4.2.1 rfl dX9_read_38 ?_
        refine lv_iload_n hx hb dX9_read_41 rfl (lv_at hl 3 rfl) ?_
        obtain ⟨hg9, hf⟩ := gdS hf
        refine x_lald (k := ((32 + 2 * ix a1) + 1)) E hC hW ho4.2.2.1 ho4.2.2.2 (inbS hg9) dX9_read_42 ?_
        refine lv_goto (tgt := 49) hx hb dX9_read_43 (by decide) ?_
        exact x_lretP E hC hW hr hlk hQ dX9_read_49 hf
    · have hf := xf hf c11
      refine lv_ldc2 hx hb E.2.2.2.1 (hts _ ww_608) dX9_read_25 ?_
      exact x_lretP E hC hW hr hlk hQ dX9_read_28 hf
  · have hf := xt hf c12
    refine lv_ldc2 hx hb E.2.2.2.1 (hts _ ww_607) dX9_read_7 ?_
    exact x_lretP E hC hW hr hlk hQ dX9_read_10 hf
set_option maxRecDepth 100000 in
set_option maxHeartbeats 4000000 in
theorem c_X9_load {l : Launch} {D : va_G} {cy : Nat → ClassId} {L : Nat → Nat} {bA : Nat} (a1 : Int32) (a2 : Int32) (a3 : Int32) (r : Int32) (S S' : Sg)  (hf : f_X9_load a1 a2 a3 S = some (r, S')) : MetX l D cy L shC 52 bA yX9_load cX9_load 6 (some .int) 1 21 [.ref (L 0), .int a1, .int a2, .int a3] (some (.int r)) S S' := by
  refine x_met (own := RX9) (by decide) rfl (Nat.le_of_ble_eq_true rfl) ?_
  intro p e s m below meth c ls E hC hr hlk hl hW
  generalize hargs : ([.ref (L 0), .int a1, .int a2, .int a3] : List Value).toArray = args at E ⊢
  generalize hQ : MQ below (xQ D cy L shC 52 bA (some (.int r)) S') args s 0 0 (AL L 52) = Q
  have hl : lv_has ls 6 [(0, .ref (L 0)), (1, .int a1), (2, .int a2), (3, .int a3)] := hl
  have hx := E.1
  have hb := E.2.1
  have hts := E.2.2.2.2
  unfold f_X9_load at hf
  refine lv_iload_n hx hb dX9_load_0 rfl (lv_at hl 1 rfl) ?_
  obtain ⟨r1, g2, hf⟩ := cl1S hf
  refine x_Sr (As := [.int a1]) (rest := []) E hC hW hl.1 (c_X9_isSheet a1 r1 S g2) cs_X9_194 rfl rfl ⟨Nat.le_of_ble_eq_true rfl, Nat.le_of_ble_eq_true rfl⟩ ⟨Nat.le_refl _, Nat.le_refl _⟩ (Nat.le_of_ble_eq_true rfl) dX9_load_1 (fun H locs hW => ?_)
  refine lv_if_eq (tgt := 18) hx hb dX9_load_4 (by decide) (fun c20 => ?_) (fun c20 => ?_)
  · have hf := xt hf c20
    refine lv_bipush (v := (-2)) hx hb dX9_load_18 (by decide) ?_
    exact x_iretI E hC hW hr hlk hQ dX9_load_20 hf
  · have hf := xf hf c20
    refine lv_aload_n hx hb dX9_load_7 rfl (lv_at hl 0 rfl) ?_
    refine x_getr (k := 0) (k' := 1) E hC hW fl_X9_12 (by decide) rfl rfl dX9_load_8 ?_
    refine lv_iload_n hx hb dX9_load_11 rfl (lv_at hl 2 rfl) ?_
    obtain ⟨r3, g4, hf⟩ := cl1S hf
    refine x_Vr (k := 1) (As := [.int a2]) (rest := []) E hC hW hl.1 (c_X2_has a2 r3 S g4) cv_X9_114 rfl (by decide) rfl rfl rfl ⟨Nat.le_of_ble_eq_true rfl, Nat.le_of_ble_eq_true rfl⟩ ⟨Nat.le_refl _, Nat.le_refl _⟩ (Nat.le_of_ble_eq_true rfl) dX9_load_12 (fun H locs hW => ?_)
    refine lv_if_ne (tgt := 21) hx hb dX9_load_15 (by decide) (fun c19 => ?_) (fun c19 => ?_)
    · have hf := xf hf c19
      refine lv_aload_n hx hb dX9_load_21 rfl (lv_at hl 0 rfl) ?_
      refine x_getr (k := 0) (k' := 31) E hC hW fl_X9_60 (by decide) rfl rfl dX9_load_22 ?_
      refine lv_iload_n hx hb dX9_load_25 rfl (lv_at hl 1 rfl) ?_
      obtain ⟨hg5, hf⟩ := gdS hf
      refine x_aald (k := 31) (b := 32) E hC hW (by decide) rfl rfl (inbS hg5) dX9_load_26 ?_
      have ho6 := okS_ix hg5
      refine lv_astore (lv' := [(4, .ref (L (32 + 2 * ix a1))), (0, .ref (L 0)), (1, .int a1), (2, .int a2), (3, .int a3)]) hx hb dX9_load_27 hl (by decide) rfl (fun ls hl => ?_)
      refine lv_aload hx hb dX9_load_29 (lv_at hl 0 rfl) ?_
      obtain ⟨r7, g8, hf⟩ := cl1S hf
      refine x_Vr (k := (32 + 2 * ix a1)) (As := []) (rest := []) E hC hW hl.1 (c_X6_isMissing (32 + 2 * ix a1) r7 S ho6 g8) cv_X9_197 rfl ho6.1 ho6.2.1 rfl rfl ⟨Nat.le_of_ble_eq_true rfl, Nat.le_of_ble_eq_true rfl⟩ ⟨Nat.le_refl _, Nat.le_refl _⟩ (Nat.le_of_ble_eq_true rfl) dX9_load_31 (fun H locs hW => ?_)
      refine lv_if_eq (tgt := 40) hx hb dX9_load_34 (by decide) (fun c18 => ?_) (fun c18 => ?_)
      · have hf := xt hf c18
        refine lv_iload_n hx hb dX9_load_40 rfl (lv_at hl 4 rfl) ?_
        refine lv_if_lt (tgt := 56) hx hb dX9_load_41 (by decide) (fun c17 => ?_) (fun c17 => ?_)
        · have hf := xt hf c17
          refine lv_bipush (v := (-12)) hx hb dX9_load_56 (by decide) ?_
          exact x_iretI E hC hW hr hlk hQ dX9_load_58 hf
        · have hf := xf hf c17
          refine lv_iload_n hx hb dX9_load_44 rfl (lv_at hl 4 rfl) ?_
          refine lv_aload hx hb dX9_load_45 (lv_at hl 0 rfl) ?_
          refine x_geti (k := (32 + 2 * ix a1)) E hC hW fl_X9_310 ho6.1 ho6.2.1 rfl dX9_load_47 ?_
          refine lv_bipush (v := 12) hx hb dX9_load_50 (by decide) ?_
          refine lv_isub hx hb dX9_load_52 ?_
          refine lv_icmp_le (tgt := 59) hx hb dX9_load_53 (by decide) (fun c16 => ?_) (fun c16 => ?_)
          · have hf := xt hf c16
            refine lv_iconst (v := 0) hx hb dX9_load_59 (by decide) ?_
            refine lv_istore (lv' := [(5, .int (0 : Int32)), (4, .ref (L (32 + 2 * ix a1))), (0, .ref (L 0)), (1, .int a1), (2, .int a2), (3, .int a3)]) hx hb dX9_load_60 hl (by decide) rfl (fun ls hl => ?_)
            refine wp2S (fun (v9 : Int32) (S10 : Sg) => ∀ (H : Heap) (locs : List Loc) (ls : Array Slot), lv_has ls 6 [(0, .ref (L 0)), (2, .int a2), (3, .int a3), (4, .ref (L (32 + 2 * ix a1))), (5, .int v9)] → Wd D cy L shC 52 S10 s H locs → W p l e (rmk 1 21) s m args below meth c H locs 0 0 Q (F0 m 62 ls [])) ?_ hf _ _ _ (lv_sub hl [2, 4, 5, 1, 0] rfl) hW
            · intro self62 ih62 v9 S10 hf H locs ls hl hW
              unfold X9_load_L62 at hf
              refine lv_iload hx hb dX9_load_62 (lv_at hl 4 rfl) ?_
              refine lv_bipush (v := 12) hx hb dX9_load_64 (by decide) ?_
              refine lv_icmp_ge (tgt := 105) hx hb dX9_load_66 (by decide) (fun c15 => ?_) (fun c15 => ?_)
              · have hf := xt hf c15
                refine lv_bipush (v := 12) hx hb dX9_load_105 (by decide) ?_
                exact x_iretI E hC hW hr hlk hQ dX9_load_107 hf
              · have hf := xf hf c15
                refine lv_aload_n hx hb dX9_load_69 rfl (lv_at hl 0 rfl) ?_
                refine x_getr (k := 0) (k' := 1) E hC hW fl_X9_12 (by decide) rfl rfl dX9_load_70 ?_
                refine x_getr (k := 1) (k' := 5) E hC hW fl_X9_120 (by decide) rfl rfl dX9_load_73 ?_
                refine lv_iload_n hx hb dX9_load_76 rfl (lv_at hl 1 rfl) ?_
                refine lv_bipush (v := 12) hx hb dX9_load_77 (by decide) ?_
                refine lv_imul hx hb dX9_load_79 ?_
                refine lv_iload hx hb dX9_load_80 (lv_at hl 4 rfl) ?_
                refine lv_iadd hx hb dX9_load_82 ?_
                refine lv_aload hx hb dX9_load_83 (lv_at hl 3 rfl) ?_
                refine x_getr (k := (32 + 2 * ix a1)) (k' := ((32 + 2 * ix a1) + 1)) E hC hW fl_X9_307 ho6.1 ho6.2.1 rfl dX9_load_85 ?_
                refine lv_iload_n hx hb dX9_load_88 rfl (lv_at hl 2 rfl) ?_
                refine lv_iload hx hb dX9_load_89 (lv_at hl 4 rfl) ?_
                refine lv_iadd hx hb dX9_load_91 ?_
                obtain ⟨hg11, hf⟩ := gdS hf
                refine x_lald (k := ((32 + 2 * ix a1) + 1)) E hC hW ho6.2.2.1 ho6.2.2.2 (inbS hg11) dX9_load_92 ?_
                refine lv_ldc2 hx hb E.2.2.2.1 (hts _ ww_800) dX9_load_93 ?_
                refine lv_lrem hx hb dX9_load_96 (by decide) ?_
                refine lv_l2i hx hb dX9_load_97 rfl ?_
                obtain ⟨hg12, hf⟩ := gdS hf
                refine x_iast (k := 5) E hC hW (by decide) rfl (inbS hg12) dX9_load_98 (fun H locs hW => ?_)
                obtain ⟨S13, eS13⟩ : ∃ z : Sg, z = si S10 5 (ix ((a2 * (12 : Int32)) + v9)) ((lrm (S10.2 ((32 + 2 * ix a1) + 1) (ix (a3 + v9))) (100 : Int64)).toInt32) := ⟨_, rfl⟩
                have hW : Wd D cy L shC 52 S13 s H locs := by rw [eS13]; exact hW
                have hf := bvS hf eS13
                obtain ⟨x14, ex14⟩ : ∃ z : Int32, z = (v9 + 1) := ⟨_, rfl⟩
                have hf := bvS hf ex14
                refine lv_iinc (v := x14) (lv' := [(5, .int x14), (0, .ref (L 0)), (2, .int a2), (3, .int a3), (4, .ref (L (32 + 2 * ix a1)))]) hx hb dX9_load_99 hl (k := 4) rfl (by rw [ex14]; rfl) (by decide) rfl (fun ls hl => ?_)
                refine lv_goto (tgt := 62) hx hb dX9_load_102 (by decide) ?_
                exact ih62 _ _ hf _ _ _ (lv_sub hl [1, 2, 3, 4, 0] rfl) hW
          · have hf := xf hf c16
            refine lv_bipush (v := (-12)) hx hb dX9_load_56 (by decide) ?_
            exact x_iretI E hC hW hr hlk hQ dX9_load_58 hf
      · have hf := xf hf c18
        refine lv_bipush (v := (-11)) hx hb dX9_load_37 (by decide) ?_
        exact x_iretI E hC hW hr hlk hQ dX9_load_39 hf
    · have hf := xt hf c19
      refine lv_bipush (v := (-2)) hx hb dX9_load_18 (by decide) ?_
      exact x_iretI E hC hW hr hlk hQ dX9_load_20 hf
set_option maxRecDepth 100000 in
set_option maxHeartbeats 4000000 in
theorem c_X2_become {l : Launch} {D : va_G} {cy : Nat → ClassId} {L : Nat → Nat} {bA : Nat} (k : Nat) (k2 : Nat) (S S' : Sg) (hk : okK k) (hk2 : okK k2) (hf : f_X2_become k k2 S = some S') : MetX l D cy L shC 52 bA yX2_become cX2_become 2 none 1 60 [.ref (L k), .ref (L k2)] none S S' := by
  refine x_met (own := RX2) (by decide) rfl (Nat.le_of_ble_eq_true rfl) ?_
  intro p e s m below meth c ls E hC hr hlk hl hW
  generalize hargs : ([.ref (L k), .ref (L k2)] : List Value).toArray = args at E ⊢
  generalize hQ : MQ below (xQ D cy L shC 52 bA none S') args s 0 0 (AL L 52) = Q
  have hl : lv_has ls 2 [(0, .ref (L k)), (1, .ref (L k2))] := hl
  have hx := E.1
  have hb := E.2.1
  have hts := E.2.2.2.2
  unfold f_X2_become at hf
  refine lv_aload_n hx hb dX2_become_0 rfl (lv_at hl 0 rfl) ?_
  refine lv_aload_n hx hb dX2_become_1 rfl (lv_at hl 1 rfl) ?_
  refine x_geti (k := k2) E hC hW fl_X2_9 hk2.1 hk2.2.1 rfl dX2_become_2 ?_
  refine x_put (k := k) E hC hW fl_X2_9 pl_2_0 hk.1 hk.2.1 rfl rfl rfl dX2_become_5 (fun H locs hW => ?_)
  obtain ⟨S1, eS1⟩ : ∃ z : Sg, z = si S k 0 (S.1 k2 0) := ⟨_, rfl⟩
  have hW : Wd D cy L shC 52 S1 s H locs := by rw [eS1]; exact hW
  have hf := bvS hf eS1
  refine lv_aload_n hx hb dX2_become_8 rfl (lv_at hl 0 rfl) ?_
  refine lv_aload_n hx hb dX2_become_9 rfl (lv_at hl 1 rfl) ?_
  refine x_geti (k := k2) E hC hW fl_X2_15 hk2.1 hk2.2.1 rfl dX2_become_10 ?_
  refine x_put (k := k) E hC hW fl_X2_15 pl_2_1 hk.1 hk.2.1 rfl rfl rfl dX2_become_13 (fun H locs hW => ?_)
  obtain ⟨S2, eS2⟩ : ∃ z : Sg, z = si S1 k 1 (S1.1 k2 1) := ⟨_, rfl⟩
  have hW : Wd D cy L shC 52 S2 s H locs := by rw [eS2]; exact hW
  have hf := bvS hf eS2
  refine lv_aload_n hx hb dX2_become_16 rfl (lv_at hl 0 rfl) ?_
  refine lv_aload_n hx hb dX2_become_17 rfl (lv_at hl 1 rfl) ?_
  refine x_geti (k := k2) E hC hW fl_X2_18 hk2.1 hk2.2.1 rfl dX2_become_18 ?_
  refine x_put (k := k) E hC hW fl_X2_18 pl_2_2 hk.1 hk.2.1 rfl rfl rfl dX2_become_21 (fun H locs hW => ?_)
  obtain ⟨S3, eS3⟩ : ∃ z : Sg, z = si S2 k 2 (S2.1 k2 2) := ⟨_, rfl⟩
  have hW : Wd D cy L shC 52 S3 s H locs := by rw [eS3]; exact hW
  have hf := bvS hf eS3
  refine lv_aload_n hx hb dX2_become_24 rfl (lv_at hl 1 rfl) ?_
  refine x_getr (k := k2) (k' := (k2 + 1)) E hC hW fl_X2_21 hk2.1 hk2.2.1 rfl dX2_become_25 ?_
  refine lv_iconst (v := 0) hx hb dX2_become_28 (by decide) ?_
  refine lv_aload_n hx hb dX2_become_29 rfl (lv_at hl 0 rfl) ?_
  refine x_getr (k := k) (k' := (k + 1)) E hC hW fl_X2_21 hk.1 hk.2.1 rfl dX2_become_30 ?_
  refine lv_iconst (v := 0) hx hb dX2_become_33 (by decide) ?_
  refine lv_bipush (v := 10) hx hb dX2_become_34 (by decide) ?_
  refine x_copyi (k0 := (k2 + 1)) (k1 := (k + 1)) E hC hW hl.1 cp_X2_38 hk2.2.2.1 hk2.2.2.2.1 hk.2.2.1 hk.2.2.2.1 (by decide) (by decide) (Nat.le_of_ble_eq_true rfl) (Nat.le_of_ble_eq_true rfl) dX2_become_36 (fun H locs hW => ?_)
  obtain ⟨S4, eS4⟩ : ∃ z : Sg, z = cpI S3 (k2 + 1) (k + 1) (ix (10 : Int32)) := ⟨_, rfl⟩
  have hW : Wd D cy L shC 52 S4 s H locs := by rw [eS4]; exact hW
  have hf := bvS hf eS4
  refine lv_aload_n hx hb dX2_become_39 rfl (lv_at hl 1 rfl) ?_
  refine x_getr (k := k2) (k' := (k2 + 2)) E hC hW fl_X2_25 hk2.1 hk2.2.1 rfl dX2_become_40 ?_
  refine lv_iconst (v := 0) hx hb dX2_become_43 (by decide) ?_
  refine lv_aload_n hx hb dX2_become_44 rfl (lv_at hl 0 rfl) ?_
  refine x_getr (k := k) (k' := (k + 2)) E hC hW fl_X2_25 hk.1 hk.2.1 rfl dX2_become_45 ?_
  refine lv_iconst (v := 0) hx hb dX2_become_48 (by decide) ?_
  refine lv_bipush (v := 10) hx hb dX2_become_49 (by decide) ?_
  refine x_copyi (k0 := (k2 + 2)) (k1 := (k + 2)) E hC hW hl.1 cp_X2_38 hk2.2.2.2.2.1 hk2.2.2.2.2.2.1 hk.2.2.2.2.1 hk.2.2.2.2.2.1 (by decide) (by decide) (Nat.le_of_ble_eq_true rfl) (Nat.le_of_ble_eq_true rfl) dX2_become_51 (fun H locs hW => ?_)
  obtain ⟨S5, eS5⟩ : ∃ z : Sg, z = cpI S4 (k2 + 2) (k + 2) (ix (10 : Int32)) := ⟨_, rfl⟩
  have hW : Wd D cy L shC 52 S5 s H locs := by rw [eS5]; exact hW
  have hf := bvS hf eS5
  refine lv_aload_n hx hb dX2_become_54 rfl (lv_at hl 1 rfl) ?_
  refine x_getr (k := k2) (k' := (k2 + 3)) E hC hW fl_X2_28 hk2.1 hk2.2.1 rfl dX2_become_55 ?_
  refine lv_iconst (v := 0) hx hb dX2_become_58 (by decide) ?_
  refine lv_aload_n hx hb dX2_become_59 rfl (lv_at hl 0 rfl) ?_
  refine x_getr (k := k) (k' := (k + 3)) E hC hW fl_X2_28 hk.1 hk.2.1 rfl dX2_become_60 ?_
  refine lv_iconst (v := 0) hx hb dX2_become_63 (by decide) ?_
  refine lv_bipush (v := 10) hx hb dX2_become_64 (by decide) ?_
  refine x_copyl (k0 := (k2 + 3)) (k1 := (k + 3)) E hC hW hl.1 cp_X2_38 hk2.2.2.2.2.2.2.1 hk2.2.2.2.2.2.2.2.1 hk.2.2.2.2.2.2.1 hk.2.2.2.2.2.2.2.1 (by decide) (by decide) (Nat.le_of_ble_eq_true rfl) (Nat.le_of_ble_eq_true rfl) dX2_become_66 (fun H locs hW => ?_)
  obtain ⟨S6, eS6⟩ : ∃ z : Sg, z = cpL S5 (k2 + 3) (k + 3) (ix (10 : Int32)) := ⟨_, rfl⟩
  have hW : Wd D cy L shC 52 S6 s H locs := by rw [eS6]; exact hW
  have hf := bvS hf eS6
  refine lv_aload_n hx hb dX2_become_69 rfl (lv_at hl 1 rfl) ?_
  refine x_getr (k := k2) (k' := (k2 + 4)) E hC hW fl_X2_32 hk2.1 hk2.2.1 rfl dX2_become_70 ?_
  refine lv_iconst (v := 0) hx hb dX2_become_73 (by decide) ?_
  refine lv_aload_n hx hb dX2_become_74 rfl (lv_at hl 0 rfl) ?_
  refine x_getr (k := k) (k' := (k + 4)) E hC hW fl_X2_32 hk.1 hk.2.1 rfl dX2_become_75 ?_
  refine lv_iconst (v := 0) hx hb dX2_become_78 (by decide) ?_
  refine lv_bipush (v := 120) hx hb dX2_become_79 (by decide) ?_
  refine x_copyi (k0 := (k2 + 4)) (k1 := (k + 4)) E hC hW hl.1 cp_X2_38 hk2.2.2.2.2.2.2.2.2.1 hk2.2.2.2.2.2.2.2.2.2.1 hk.2.2.2.2.2.2.2.2.1 hk.2.2.2.2.2.2.2.2.2.1 (by decide) (by decide) (Nat.le_of_ble_eq_true rfl) (Nat.le_of_ble_eq_true rfl) dX2_become_81 (fun H locs hW => ?_)
  obtain ⟨S7, eS7⟩ : ∃ z : Sg, z = cpI S6 (k2 + 4) (k + 4) (ix (120 : Int32)) := ⟨_, rfl⟩
  have hW : Wd D cy L shC 52 S7 s H locs := by rw [eS7]; exact hW
  have hf := bvS hf eS7
  refine lv_aload_n hx hb dX2_become_84 rfl (lv_at hl 1 rfl) ?_
  refine x_getr (k := k2) (k' := (k2 + 5)) E hC hW fl_X2_35 hk2.1 hk2.2.1 rfl dX2_become_85 ?_
  refine lv_iconst (v := 0) hx hb dX2_become_88 (by decide) ?_
  refine lv_aload_n hx hb dX2_become_89 rfl (lv_at hl 0 rfl) ?_
  refine x_getr (k := k) (k' := (k + 5)) E hC hW fl_X2_35 hk.1 hk.2.1 rfl dX2_become_90 ?_
  refine lv_iconst (v := 0) hx hb dX2_become_93 (by decide) ?_
  refine lv_bipush (v := 8) hx hb dX2_become_94 (by decide) ?_
  refine x_copyi (k0 := (k2 + 5)) (k1 := (k + 5)) E hC hW hl.1 cp_X2_38 hk2.2.2.2.2.2.2.2.2.2.2.1 hk2.2.2.2.2.2.2.2.2.2.2.2 hk.2.2.2.2.2.2.2.2.2.2.1 hk.2.2.2.2.2.2.2.2.2.2.2 (by decide) (by decide) (Nat.le_of_ble_eq_true rfl) (Nat.le_of_ble_eq_true rfl) dX2_become_96 (fun H locs hW => ?_)
  obtain ⟨S8, eS8⟩ : ∃ z : Sg, z = cpI S7 (k2 + 5) (k + 5) (ix (8 : Int32)) := ⟨_, rfl⟩
  have hW : Wd D cy L shC 52 S8 s H locs := by rw [eS8]; exact hW
  have hf := bvS hf eS8
  exact x_vretI E hC hW hr hlk hQ dX2_become_99 hf
set_option maxRecDepth 100000 in
set_option maxHeartbeats 4000000 in
theorem c_X9_image {l : Launch} {D : va_G} {cy : Nat → ClassId} {L : Nat → Nat} {bA : Nat}  (r : Int32) (S S' : Sg)  (hf : f_X9_image S = some (r, S')) : MetX l D cy L shC 52 bA yX9_image cX9_image 1 (some .int) 2 81 [.ref (L 0)] (some (.int r)) S S' := by
  refine x_met (own := RX9) (by decide) rfl (Nat.le_of_ble_eq_true rfl) ?_
  intro p e s m below meth c ls E hC hr hlk hl hW
  generalize hargs : ([.ref (L 0)] : List Value).toArray = args at E ⊢
  generalize hQ : MQ below (xQ D cy L shC 52 bA (some (.int r)) S') args s 0 0 (AL L 52) = Q
  have hl : lv_has ls 1 [(0, .ref (L 0))] := hl
  have hx := E.1
  have hb := E.2.1
  have hts := E.2.2.2.2
  unfold f_X9_image at hf
  refine lv_aload_n hx hb dX9_image_0 rfl (lv_at hl 0 rfl) ?_
  refine x_getr (k := 0) (k' := 7) E hC hW fl_X9_16 (by decide) rfl rfl dX9_image_1 ?_
  refine lv_aload_n hx hb dX9_image_4 rfl (lv_at hl 0 rfl) ?_
  refine x_getr (k := 0) (k' := 1) E hC hW fl_X9_12 (by decide) rfl rfl dX9_image_5 ?_
  obtain ⟨S2, g1, hf⟩ := cl1S hf
  refine x_Vv (k := 7) (As := [.ref (L 1)]) (rest := []) E hC hW hl.1 (c_X2_become 7 1 S S2 okK_7 okK_1 g1) cv_X9_313 rfl (by decide) rfl rfl rfl ⟨Nat.le_of_ble_eq_true rfl, Nat.le_of_ble_eq_true rfl⟩ ⟨Nat.le_refl _, Nat.le_refl _⟩ (Nat.le_of_ble_eq_true rfl) dX9_image_8 (fun H locs hW => ?_)
  refine lv_aload_n hx hb dX9_image_11 rfl (lv_at hl 0 rfl) ?_
  refine lv_iconst (v := 1) hx hb dX9_image_12 (by decide) ?_
  refine x_put (k := 0) E hC hW fl_X9_19 pl_9_2 (by decide) rfl rfl (isB_narrow (by decide)) (isB_fits (by decide)) dX9_image_13 (fun H locs hW => ?_)
  obtain ⟨S3, eS3⟩ : ∃ z : Sg, z = si S2 0 2 (1 : Int32) := ⟨_, rfl⟩
  have hW : Wd D cy L shC 52 S3 s H locs := by rw [eS3]; exact hW
  have hf := bvS hf eS3
  refine lv_aload_n hx hb dX9_image_16 rfl (lv_at hl 0 rfl) ?_
  refine x_getr (k := 0) (k' := 1) E hC hW fl_X9_12 (by decide) rfl rfl dX9_image_17 ?_
  refine x_geti (k := 1) E hC hW fl_X9_107 (by decide) rfl rfl dX9_image_20 ?_
  exact x_iretI E hC hW hr hlk hQ dX9_image_23 hf
set_option maxRecDepth 100000 in
set_option maxHeartbeats 4000000 in
theorem c_X9_back {l : Launch} {D : va_G} {cy : Nat → ClassId} {L : Nat → Nat} {bA : Nat}  (r : Int32) (S S' : Sg)  (hf : f_X9_back S = some (r, S')) : MetX l D cy L shC 52 bA yX9_back cX9_back 1 (some .int) 2 81 [.ref (L 0)] (some (.int r)) S S' := by
  refine x_met (own := RX9) (by decide) rfl (Nat.le_of_ble_eq_true rfl) ?_
  intro p e s m below meth c ls E hC hr hlk hl hW
  generalize hargs : ([.ref (L 0)] : List Value).toArray = args at E ⊢
  generalize hQ : MQ below (xQ D cy L shC 52 bA (some (.int r)) S') args s 0 0 (AL L 52) = Q
  have hl : lv_has ls 1 [(0, .ref (L 0))] := hl
  have hx := E.1
  have hb := E.2.1
  have hts := E.2.2.2.2
  unfold f_X9_back at hf
  refine lv_aload_n hx hb dX9_back_0 rfl (lv_at hl 0 rfl) ?_
  refine x_geti (k := 0) E hC hW fl_X9_19 (by decide) rfl rfl dX9_back_1 ?_
  refine lv_if_ne (tgt := 10) hx hb dX9_back_4 (by decide) (fun c3 => ?_) (fun c3 => ?_)
  · have hf := xf hf c3
    refine lv_aload_n hx hb dX9_back_10 rfl (lv_at hl 0 rfl) ?_
    refine x_getr (k := 0) (k' := 1) E hC hW fl_X9_12 (by decide) rfl rfl dX9_back_11 ?_
    refine lv_aload_n hx hb dX9_back_14 rfl (lv_at hl 0 rfl) ?_
    refine x_getr (k := 0) (k' := 7) E hC hW fl_X9_16 (by decide) rfl rfl dX9_back_15 ?_
    obtain ⟨S2, g1, hf⟩ := cl1S hf
    refine x_Vv (k := 1) (As := [.ref (L 7)]) (rest := []) E hC hW hl.1 (c_X2_become 1 7 S S2 okK_1 okK_7 g1) cv_X9_313 rfl (by decide) rfl rfl rfl ⟨Nat.le_of_ble_eq_true rfl, Nat.le_of_ble_eq_true rfl⟩ ⟨Nat.le_refl _, Nat.le_refl _⟩ (Nat.le_of_ble_eq_true rfl) dX9_back_18 (fun H locs hW => ?_)
    refine lv_aload_n hx hb dX9_back_21 rfl (lv_at hl 0 rfl) ?_
    refine x_getr (k := 0) (k' := 1) E hC hW fl_X9_12 (by decide) rfl rfl dX9_back_22 ?_
    refine x_geti (k := 1) E hC hW fl_X9_107 (by decide) rfl rfl dX9_back_25 ?_
    exact x_iretI E hC hW hr hlk hQ dX9_back_28 hf
  · have hf := xt hf c3
    refine lv_bipush (v := (-3)) hx hb dX9_back_7 (by decide) ?_
    exact x_iretI E hC hW hr hlk hQ dX9_back_9 hf
set_option maxRecDepth 100000 in
set_option maxHeartbeats 4000000 in
theorem c_X2_linesInAll {l : Launch} {D : va_G} {cy : Nat → ClassId} {L : Nat → Nat} {bA : Nat}  (r : Int32) (S : Sg)  (hf : f_X2_linesInAll S = some r) : MetX l D cy L shC 52 bA yX2_linesInAll cX2_linesInAll 3 (some .int) 2 41 [.ref (L 1)] (some (.int r)) S S := by
  refine x_met (own := RX2) (by decide) rfl (Nat.le_of_ble_eq_true rfl) ?_
  intro p e s m below meth c ls E hC hr hlk hl hW
  generalize hargs : ([.ref (L 1)] : List Value).toArray = args at E ⊢
  generalize hQ : MQ below (xQ D cy L shC 52 bA (some (.int r)) S) args s 0 0 (AL L 52) = Q
  have hl : lv_has ls 3 [(0, .ref (L 1))] := hl
  have hx := E.1
  have hb := E.2.1
  have hts := E.2.2.2.2
  unfold f_X2_linesInAll at hf
  refine lv_iconst (v := 0) hx hb dX2_linesInAll_0 (by decide) ?_
  refine lv_istore_n (lv' := [(1, .int (0 : Int32)), (0, .ref (L 1))]) hx hb dX2_linesInAll_1 rfl hl (by decide) rfl (fun ls hl => ?_)
  refine lv_iconst (v := 0) hx hb dX2_linesInAll_2 (by decide) ?_
  refine lv_istore_n (lv' := [(2, .int (0 : Int32)), (1, .int (0 : Int32)), (0, .ref (L 1))]) hx hb dX2_linesInAll_3 rfl hl (by decide) rfl (fun ls hl => ?_)
  refine wp2K hf (fun (v2 : Int32) (v3 : Int32) => ∀ (H : Heap) (locs : List Loc) (ls : Array Slot), lv_has ls 3 [(0, .ref (L 1)), (1, .int v2), (2, .int v3)] → Wd D cy L shC 52 S s H locs → W p l e (rmk 2 41) s m args below meth c H locs 0 0 Q (F0 m 4 ls [])) (fun (j : Int32 → Option (Int32)) => ∀ (v1 : Int32), (j v1) = some r → ∀ (H : Heap) (locs : List Loc) (ls : Array Slot), lv_has ls 3 [(1, .int v1)] → Wd D cy L shC 52 S s H locs → W p l e (rmk 2 41) s m args below meth c H locs 0 0 Q (F0 m 24 ls [])) ?_ ?_ _ _ _ (lv_sub hl [2, 1, 0] rfl) hW
  · intro v1 hf H locs ls hl hW
    try dsimp only at hf
    refine lv_iload_n hx hb dX2_linesInAll_24 rfl (lv_at hl 0 rfl) ?_
    refine lv_iconst (v := 2) hx hb dX2_linesInAll_25 (by decide) ?_
    refine lv_idiv hx hb dX2_linesInAll_26 (by decide) ?_
    exact x_iretP E hC hW hr hlk hQ dX2_linesInAll_27 hf
  · intro k24 K24 self4 ih4 v2 v3 hf H locs ls hl hW
    unfold X2_linesInAll_L4 at hf
    refine lv_iload_n hx hb dX2_linesInAll_4 rfl (lv_at hl 2 rfl) ?_
    refine lv_bipush (v := 8) hx hb dX2_linesInAll_5 (by decide) ?_
    refine lv_icmp_ge (tgt := 24) hx hb dX2_linesInAll_7 (by decide) (fun c8 => ?_) (fun c8 => ?_)
    · have hf := xt hf c8
      exact K24 _ hf _ _ _ (lv_sub hl [1] rfl) hW
    · have hf := xf hf c8
      refine lv_iload_n hx hb dX2_linesInAll_10 rfl (lv_at hl 1 rfl) ?_
      refine lv_aload_n hx hb dX2_linesInAll_11 rfl (lv_at hl 0 rfl) ?_
      refine lv_iload_n hx hb dX2_linesInAll_12 rfl (lv_at hl 2 rfl) ?_
      obtain ⟨r4, g5, hf⟩ := cl1S hf
      refine x_Vr (k := 1) (As := [.int v3]) (rest := [.int v2]) E hC hW hl.1 (c_X2_linesAt v3 r4 S g5) cv_X2_66 rfl (by decide) rfl rfl rfl ⟨Nat.le_of_ble_eq_true rfl, Nat.le_of_ble_eq_true rfl⟩ ⟨Nat.le_refl _, Nat.le_refl _⟩ (Nat.le_of_ble_eq_true rfl) dX2_linesInAll_13 (fun H locs hW => ?_)
      refine lv_iadd hx hb dX2_linesInAll_16 ?_
      refine lv_topi (fun x6 ex6 => ?_)
      have hf := bvS hf ex6
      refine lv_istore_n (lv' := [(1, .int x6), (0, .ref (L 1)), (2, .int v3)]) hx hb dX2_linesInAll_17 rfl hl (by decide) rfl (fun ls hl => ?_)
      obtain ⟨x7, ex7⟩ : ∃ z : Int32, z = (v3 + 1) := ⟨_, rfl⟩
      have hf := bvS hf ex7
      refine lv_iinc (v := x7) (lv' := [(2, .int x7), (1, .int x6), (0, .ref (L 1))]) hx hb dX2_linesInAll_18 hl (k := 2) rfl (by rw [ex7]; rfl) (by decide) rfl (fun ls hl => ?_)
      refine lv_goto (tgt := 4) hx hb dX2_linesInAll_21 (by decide) ?_
      exact ih4 _ _ hf _ _ _ (lv_sub hl [2, 1, 0] rfl) hW
set_option maxRecDepth 100000 in
set_option maxHeartbeats 4000000 in
theorem c_X2_namesInAll {l : Launch} {D : va_G} {cy : Nat → ClassId} {L : Nat → Nat} {bA : Nat}  (r : Int32) (S : Sg)  (hf : f_X2_namesInAll S = some r) : MetX l D cy L shC 52 bA yX2_namesInAll cX2_namesInAll 3 (some .int) 0 0 [.ref (L 1)] (some (.int r)) S S := by
  refine x_met (own := RX2) (by decide) rfl (Nat.le_of_ble_eq_true rfl) ?_
  intro p e s m below meth c ls E hC hr hlk hl hW
  generalize hargs : ([.ref (L 1)] : List Value).toArray = args at E ⊢
  generalize hQ : MQ below (xQ D cy L shC 52 bA (some (.int r)) S) args s 0 0 (AL L 52) = Q
  have hl : lv_has ls 3 [(0, .ref (L 1))] := hl
  have hx := E.1
  have hb := E.2.1
  have hts := E.2.2.2.2
  unfold f_X2_namesInAll at hf
  refine lv_iconst (v := 0) hx hb dX2_namesInAll_0 (by decide) ?_
  refine lv_istore_n (lv' := [(1, .int (0 : Int32)), (0, .ref (L 1))]) hx hb dX2_namesInAll_1 rfl hl (by decide) rfl (fun ls hl => ?_)
  refine lv_iconst (v := 0) hx hb dX2_namesInAll_2 (by decide) ?_
  refine lv_istore_n (lv' := [(2, .int (0 : Int32)), (1, .int (0 : Int32)), (0, .ref (L 1))]) hx hb dX2_namesInAll_3 rfl hl (by decide) rfl (fun ls hl => ?_)
  refine wp2S (fun (v1 : Int32) (v2 : Int32) => ∀ (H : Heap) (locs : List Loc) (ls : Array Slot), lv_has ls 3 [(0, .ref (L 1)), (1, .int v1), (2, .int v2)] → Wd D cy L shC 52 S s H locs → W p l e (rmk 0 0) s m args below meth c H locs 0 0 Q (F0 m 4 ls [])) ?_ hf _ _ _ (lv_sub hl [2, 1, 0] rfl) hW
  · intro self4 ih4 v1 v2 hf H locs ls hl hW
    unfold X2_namesInAll_L4 at hf
    refine lv_iload_n hx hb dX2_namesInAll_4 rfl (lv_at hl 2 rfl) ?_
    refine lv_aload_n hx hb dX2_namesInAll_5 rfl (lv_at hl 0 rfl) ?_
    refine x_geti (k := 1) E hC hW fl_X2_18 (by decide) rfl rfl dX2_namesInAll_6 ?_
    refine lv_icmp_ge (tgt := 32) hx hb dX2_namesInAll_9 (by decide) (fun c8 => ?_) (fun c8 => ?_)
    · have hf := xt hf c8
      refine lv_iload_n hx hb dX2_namesInAll_32 rfl (lv_at hl 1 rfl) ?_
      exact x_iretP E hC hW hr hlk hQ dX2_namesInAll_33 hf
    · have hf := xf hf c8
      refine lv_aload_n hx hb dX2_namesInAll_12 rfl (lv_at hl 0 rfl) ?_
      refine x_getr (k := 1) (k' := 4) E hC hW fl_X2_28 (by decide) rfl rfl dX2_namesInAll_13 ?_
      refine lv_iload_n hx hb dX2_namesInAll_16 rfl (lv_at hl 2 rfl) ?_
      obtain ⟨hg3, hf⟩ := gdS hf
      refine x_lald (k := 4) E hC hW (by decide) rfl (inbS hg3) dX2_namesInAll_17 ?_
      refine lv_lconst (v := 0) hx hb dX2_namesInAll_18 (by decide) ?_
      refine W.lcmp hx hb dX2_namesInAll_19 ?_
      refine jnS hf (fun (j : Int32 → Option (Int32)) => ∀ (v4 : Int32), (j v4) = some r → ∀ (H : Heap) (locs : List Loc) (ls : Array Slot), lv_has ls 3 [(0, .ref (L 1)), (1, .int v4), (2, .int v2)] → Wd D cy L shC 52 S s H locs → W p l e (rmk 0 0) s m args below meth c H locs 0 0 Q (F0 m 26 ls [])) ?_ ?_
      · intro v4 hf H locs ls hl hW
        try dsimp only at hf
        obtain ⟨x5, ex5⟩ : ∃ z : Int32, z = (v2 + 1) := ⟨_, rfl⟩
        have hf := bvS hf ex5
        refine lv_iinc (v := x5) (lv' := [(2, .int x5), (0, .ref (L 1)), (1, .int v4)]) hx hb dX2_namesInAll_26 hl (k := 2) rfl (by rw [ex5]; rfl) (by decide) rfl (fun ls hl => ?_)
        refine lv_goto (tgt := 4) hx hb dX2_namesInAll_29 (by decide) ?_
        exact ih4 _ _ hf _ _ _ (lv_sub hl [1, 2, 0] rfl) hW
      intro j26 J26 hf
      refine lv_if_eq (tgt := 26) hx hb dX2_namesInAll_20 (by decide) (fun c7 => ?_) (fun c7 => ?_)
      · have hf := xt hf c7
        exact J26 _ hf _ _ _ (lv_sub hl [0, 1, 2] rfl) hW
      · have hf := xf hf c7
        obtain ⟨x6, ex6⟩ : ∃ z : Int32, z = (v1 + 1) := ⟨_, rfl⟩
        have hf := bvS hf ex6
        refine lv_iinc (v := x6) (lv' := [(1, .int x6), (0, .ref (L 1)), (2, .int v2)]) hx hb dX2_namesInAll_23 hl (k := 1) rfl (by rw [ex6]; rfl) (by decide) rfl (fun ls hl => ?_)
        exact J26 _ hf _ _ _ (lv_sub hl [1, 0, 2] rfl) hW
set_option maxRecDepth 100000 in
set_option maxHeartbeats 4000000 in
theorem c_X9_count {l : Launch} {D : va_G} {cy : Nat → ClassId} {L : Nat → Nat} {bA : Nat} (a1 : Int32) (r : Int32) (S : Sg)  (hf : f_X9_count a1 S = some r) : MetX l D cy L shC 52 bA yX9_count cX9_count 2 (some .int) 3 63 [.ref (L 0), .int a1] (some (.int r)) S S := by
  refine x_met (own := RX9) (by decide) rfl (Nat.le_of_ble_eq_true rfl) ?_
  intro p e s m below meth c ls E hC hr hlk hl hW
  generalize hargs : ([.ref (L 0), .int a1] : List Value).toArray = args at E ⊢
  generalize hQ : MQ below (xQ D cy L shC 52 bA (some (.int r)) S) args s 0 0 (AL L 52) = Q
  have hl : lv_has ls 2 [(0, .ref (L 0)), (1, .int a1)] := hl
  have hx := E.1
  have hb := E.2.1
  have hts := E.2.2.2.2
  unfold f_X9_count at hf
  refine lv_iload_n hx hb dX9_count_0 rfl (lv_at hl 1 rfl) ?_
  by_cases c1 : a1 = 0
  · have hf := xt hf c1
    refine lv_tableIn (off := 35) (tgt := 36) hx hb dX9_count_1 (by rw [c1]; decide) (by rw [c1]; decide) (by rw [c1]; rfl) (by decide) ?_
    refine lv_aload_n hx hb dX9_count_36 rfl (lv_at hl 0 rfl) ?_
    refine x_getr (k := 0) (k' := 1) E hC hW fl_X9_12 (by decide) rfl rfl dX9_count_37 ?_
    refine x_geti (k := 1) E hC hW fl_X9_107 (by decide) rfl rfl dX9_count_40 ?_
    exact x_iretP E hC hW hr hlk hQ dX9_count_43 hf
  · have hf := xf hf c1
    by_cases c2 : a1 = 1
    · have hf := xt hf c2
      refine lv_tableIn (off := 43) (tgt := 44) hx hb dX9_count_1 (by rw [c2]; decide) (by rw [c2]; decide) (by rw [c2]; rfl) (by decide) ?_
      refine lv_aload_n hx hb dX9_count_44 rfl (lv_at hl 0 rfl) ?_
      refine x_getr (k := 0) (k' := 1) E hC hW fl_X9_12 (by decide) rfl rfl dX9_count_45 ?_
      refine x_geti (k := 1) E hC hW fl_X9_86 (by decide) rfl rfl dX9_count_48 ?_
      exact x_iretP E hC hW hr hlk hQ dX9_count_51 hf
    · have hf := xf hf c2
      by_cases c3 : a1 = 2
      · have hf := xt hf c3
        refine lv_tableIn (off := 51) (tgt := 52) hx hb dX9_count_1 (by rw [c3]; decide) (by rw [c3]; decide) (by rw [c3]; rfl) (by decide) ?_
        refine lv_aload_n hx hb dX9_count_52 rfl (lv_at hl 0 rfl) ?_
        refine x_getr (k := 0) (k' := 1) E hC hW fl_X9_12 (by decide) rfl rfl dX9_count_53 ?_
        refine x_geti (k := 1) E hC hW fl_X9_90 (by decide) rfl rfl dX9_count_56 ?_
        exact x_iretP E hC hW hr hlk hQ dX9_count_59 hf
      · have hf := xf hf c3
        by_cases c4 : a1 = 3
        · have hf := xt hf c4
          refine lv_tableIn (off := 59) (tgt := 60) hx hb dX9_count_1 (by rw [c4]; decide) (by rw [c4]; decide) (by rw [c4]; rfl) (by decide) ?_
          refine lv_aload_n hx hb dX9_count_60 rfl (lv_at hl 0 rfl) ?_
          refine x_getr (k := 0) (k' := 1) E hC hW fl_X9_12 (by decide) rfl rfl dX9_count_61 ?_
          obtain ⟨r5, g6, hf⟩ := cl1S hf
          refine x_Vr (k := 1) (As := []) (rest := []) E hC hW hl.1 (c_X2_namesInAll r5 S g6) cv_X9_315 rfl (by decide) rfl rfl rfl ⟨Nat.le_of_ble_eq_true rfl, Nat.le_of_ble_eq_true rfl⟩ ⟨Nat.le_refl _, Nat.le_refl _⟩ (Nat.le_of_ble_eq_true rfl) dX9_count_64 (fun H locs hW => ?_)
          exact x_iretP E hC hW hr hlk hQ dX9_count_67 hf
        · have hf := xf hf c4
          by_cases c7 : a1 = 4
          · have hf := xt hf c7
            refine lv_tableIn (off := 67) (tgt := 68) hx hb dX9_count_1 (by rw [c7]; decide) (by rw [c7]; decide) (by rw [c7]; rfl) (by decide) ?_
            refine lv_aload_n hx hb dX9_count_68 rfl (lv_at hl 0 rfl) ?_
            refine x_getr (k := 0) (k' := 1) E hC hW fl_X9_12 (by decide) rfl rfl dX9_count_69 ?_
            obtain ⟨r8, g9, hf⟩ := cl1S hf
            refine x_Vr (k := 1) (As := []) (rest := []) E hC hW hl.1 (c_X2_linesInAll r8 S g9) cv_X9_318 rfl (by decide) rfl rfl rfl ⟨Nat.le_of_ble_eq_true rfl, Nat.le_of_ble_eq_true rfl⟩ ⟨Nat.le_refl _, Nat.le_refl _⟩ (Nat.le_of_ble_eq_true rfl) dX9_count_72 (fun H locs hW => ?_)
            exact x_iretP E hC hW hr hlk hQ dX9_count_75 hf
          · have hf := xf hf c7
            refine lv_tableOut (tgt := 76) hx hb dX9_count_1 (by have q0 := lv_neT c1 (a := 0) (by decide); have q1 := lv_neT c2 (a := 1) (by decide); have q2 := lv_neT c3 (a := 2) (by decide); have q3 := lv_neT c4 (a := 3) (by decide); have q4 := lv_neT c7 (a := 4) (by decide); omega) (by decide) ?_
            refine lv_bipush (v := (-2)) hx hb dX9_count_76 (by decide) ?_
            exact x_iretP E hC hW hr hlk hQ dX9_count_78 hf
set_option maxRecDepth 100000 in
set_option maxHeartbeats 4000000 in
theorem c_X10_in {l : Launch} {D : va_G} {cy : Nat → ClassId} {L : Nat → Nat} {bA : Nat} (a0 : Int64) (a2 : Int64) (a4 : Int64) (r : Int32) (S : Sg)  (hf : f_X10_in a0 a2 a4 = some r) : MetX l D cy L shM 20 bA yX10_in cX10_in 6 (some .boolean) 0 0 [.long a0, .long a2, .long a4] (some (.int r)) S S := by
  refine x_met (own := RX10) (by decide) rfl (Nat.le_of_ble_eq_true rfl) ?_
  intro p e s m below meth c ls E hC hr hlk hl hW
  generalize hargs : ([.long a0, .long a2, .long a4] : List Value).toArray = args at E ⊢
  generalize hQ : MQ below (xQ D cy L shM 20 bA (some (.int r)) S) args s 0 0 (AL L 20) = Q
  have hl : lv_has ls 6 [(0, .long a0), (2, .long a2), (4, .long a4)] := hl
  have hx := E.1
  have hb := E.2.1
  have hts := E.2.2.2.2
  unfold f_X10_in at hf
  refine lv_lload_n hx hb dX10_in_0 rfl (lv_at hl 0 rfl) ?_
  refine lv_lload_n hx hb dX10_in_1 rfl (lv_at hl 1 rfl) ?_
  refine W.lcmp hx hb dX10_in_2 ?_
  refine lv_if_lt (tgt := 17) hx hb dX10_in_3 (by decide) (fun c2 => ?_) (fun c2 => ?_)
  · have hf := xt hf c2
    refine lv_iconst (v := 0) hx hb dX10_in_17 (by decide) ?_
    exact x_zretP E hC hW hr hlk hQ (by decide) dX10_in_18 hf
  · have hf := xf hf c2
    refine lv_lload_n hx hb dX10_in_6 rfl (lv_at hl 0 rfl) ?_
    refine lv_lload hx hb dX10_in_7 (lv_at hl 2 rfl) ?_
    refine W.lcmp hx hb dX10_in_9 ?_
    refine lv_if_gt (tgt := 17) hx hb dX10_in_10 (by decide) (fun c1 => ?_) (fun c1 => ?_)
    · have hf := xt hf c1
      refine lv_iconst (v := 0) hx hb dX10_in_17 (by decide) ?_
      exact x_zretP E hC hW hr hlk hQ (by decide) dX10_in_18 hf
    · have hf := xf hf c1
      refine lv_iconst (v := 1) hx hb dX10_in_13 (by decide) ?_
      refine lv_goto (tgt := 18) hx hb dX10_in_14 (by decide) ?_
      exact x_zretP E hC hW hr hlk hQ (by decide) dX10_in_18 hf
set_option maxRecDepth 100000 in
set_option maxHeartbeats 4000000 in
theorem c_X10_has {l : Launch} {D : va_G} {cy : Nat → ClassId} {L : Nat → Nat} {bA : Nat} (a0 : Int32) (a1 : Int32) (r : Int32) (S : Sg)  (hf : f_X10_has a0 a1 = some r) : MetX l D cy L shM 20 bA yX10_has cX10_has 2 (some .boolean) 0 0 [.int a0, .int a1] (some (.int r)) S S := by
  refine x_met (own := RX10) (by decide) rfl (Nat.le_of_ble_eq_true rfl) ?_
  intro p e s m below meth c ls E hC hr hlk hl hW
  generalize hargs : ([.int a0, .int a1] : List Value).toArray = args at E ⊢
  generalize hQ : MQ below (xQ D cy L shM 20 bA (some (.int r)) S) args s 0 0 (AL L 20) = Q
  have hl : lv_has ls 2 [(0, .int a0), (1, .int a1)] := hl
  have hx := E.1
  have hb := E.2.1
  have hts := E.2.2.2.2
  unfold f_X10_has at hf
  refine lv_iload_n hx hb dX10_has_0 rfl (lv_at hl 0 rfl) ?_
  refine lv_iload_n hx hb dX10_has_1 rfl (lv_at hl 1 rfl) ?_
  refine lv_ishr hx hb dX10_has_2 ?_
  refine lv_iconst (v := 1) hx hb dX10_has_3 (by decide) ?_
  refine lv_iand hx hb dX10_has_4 ?_
  refine lv_iconst (v := 1) hx hb dX10_has_5 (by decide) ?_
  refine lv_icmp_ne (tgt := 13) hx hb dX10_has_6 (by decide) (fun c1 => ?_) (fun c1 => ?_)
  · have hf := xf hf c1
    refine lv_iconst (v := 0) hx hb dX10_has_13 (by decide) ?_
    exact x_zretP E hC hW hr hlk hQ (by decide) dX10_has_14 hf
  · have hf := xt hf c1
    refine lv_iconst (v := 1) hx hb dX10_has_9 (by decide) ?_
    refine lv_goto (tgt := 14) hx hb dX10_has_10 (by decide) ?_
    exact x_zretP E hC hW hr hlk hQ (by decide) dX10_has_14 hf
set_option maxRecDepth 100000 in
set_option maxHeartbeats 4000000 in
theorem c_X10_many {l : Launch} {D : va_G} {cy : Nat → ClassId} {L : Nat → Nat} {bA : Nat} (a0 : Int32) (r : Int32) (S : Sg)  (hf : f_X10_many a0 = some r) : MetX l D cy L shM 20 bA yX10_many cX10_many 3 (some .int) 0 0 [.int a0] (some (.int r)) S S := by
  refine x_met (own := RX10) (by decide) rfl (Nat.le_of_ble_eq_true rfl) ?_
  intro p e s m below meth c ls E hC hr hlk hl hW
  generalize hargs : ([.int a0] : List Value).toArray = args at E ⊢
  generalize hQ : MQ below (xQ D cy L shM 20 bA (some (.int r)) S) args s 0 0 (AL L 20) = Q
  have hl : lv_has ls 3 [(0, .int a0)] := hl
  have hx := E.1
  have hb := E.2.1
  have hts := E.2.2.2.2
  unfold f_X10_many at hf
  refine lv_iconst (v := 0) hx hb dX10_many_0 (by decide) ?_
  refine lv_istore_n (lv' := [(1, .int (0 : Int32)), (0, .int a0)]) hx hb dX10_many_1 rfl hl (by decide) rfl (fun ls hl => ?_)
  refine lv_iload_n hx hb dX10_many_2 rfl (lv_at hl 1 rfl) ?_
  refine lv_istore_n (lv' := [(2, .int a0), (1, .int (0 : Int32)), (0, .int a0)]) hx hb dX10_many_3 rfl hl (by decide) rfl (fun ls hl => ?_)
  refine wp2S (fun (v1 : Int32) (v2 : Int32) => ∀ (H : Heap) (locs : List Loc) (ls : Array Slot), lv_has ls 3 [(1, .int v1), (2, .int v2)] → Wd D cy L shM 20 S s H locs → W p l e (rmk 0 0) s m args below meth c H locs 0 0 Q (F0 m 4 ls [])) ?_ hf _ _ _ (lv_sub hl [1, 0] rfl) hW
  · intro self4 ih4 v1 v2 hf H locs ls hl hW
    unfold X10_many_L4 at hf
    refine lv_iload_n hx hb dX10_many_4 rfl (lv_at hl 1 rfl) ?_
    refine lv_if_eq (tgt := 20) hx hb dX10_many_5 (by decide) (fun c5 => ?_) (fun c5 => ?_)
    · have hf := xt hf c5
      refine lv_iload_n hx hb dX10_many_20 rfl (lv_at hl 0 rfl) ?_
      exact x_iretP E hC hW hr hlk hQ dX10_many_21 hf
    · have hf := xf hf c5
      obtain ⟨x3, ex3⟩ : ∃ z : Int32, z = (v1 + 1) := ⟨_, rfl⟩
      have hf := bvS hf ex3
      refine lv_iinc (v := x3) (lv' := [(1, .int x3), (2, .int v2)]) hx hb dX10_many_8 hl (k := 0) rfl (by rw [ex3]; rfl) (by decide) rfl (fun ls hl => ?_)
      refine lv_iload_n hx hb dX10_many_11 rfl (lv_at hl 1 rfl) ?_
      refine lv_iload_n hx hb dX10_many_12 rfl (lv_at hl 1 rfl) ?_
      refine lv_iconst (v := 1) hx hb dX10_many_13 (by decide) ?_
      refine lv_isub hx hb dX10_many_14 ?_
      refine lv_iand hx hb dX10_many_15 ?_
      refine lv_topi (fun x4 ex4 => ?_)
      have hf := bvS hf ex4
      refine lv_istore_n (lv' := [(2, .int x4), (1, .int x3)]) hx hb dX10_many_16 rfl hl (by decide) rfl (fun ls hl => ?_)
      refine lv_goto (tgt := 4) hx hb dX10_many_17 (by decide) ?_
      exact ih4 _ _ hf _ _ _ (lv_sub hl [1, 0] rfl) hW
set_option maxRecDepth 100000 in
set_option maxHeartbeats 4000000 in
theorem c_X10_isPair {l : Launch} {D : va_G} {cy : Nat → ClassId} {L : Nat → Nat} {bA : Nat} (a1 : Int32) (r : Int32) (S : Sg)  (hf : f_X10_isPair a1 S = some r) : MetX l D cy L shM 20 bA yX10_isPair cX10_isPair 2 (some .boolean) 1 25 [.ref (L 0), .int a1] (some (.int r)) S S := by
  refine x_met (own := RX10) (by decide) rfl (Nat.le_of_ble_eq_true rfl) ?_
  intro p e s m below meth c ls E hC hr hlk hl hW
  generalize hargs : ([.ref (L 0), .int a1] : List Value).toArray = args at E ⊢
  generalize hQ : MQ below (xQ D cy L shM 20 bA (some (.int r)) S) args s 0 0 (AL L 20) = Q
  have hl : lv_has ls 2 [(0, .ref (L 0)), (1, .int a1)] := hl
  have hx := E.1
  have hb := E.2.1
  have hts := E.2.2.2.2
  unfold f_X10_isPair at hf
  refine lv_iload_n hx hb dX10_isPair_0 rfl (lv_at hl 1 rfl) ?_
  refine lv_i2l hx hb dX10_isPair_1 rfl ?_
  refine lv_lconst (v := 0) hx hb dX10_isPair_2 (by decide) ?_
  refine lv_aload_n hx hb dX10_isPair_3 rfl (lv_at hl 0 rfl) ?_
  refine x_geti (k := 0) E hC hW fl_X10_75 (by decide) rfl rfl dX10_isPair_4 ?_
  refine lv_iconst (v := 1) hx hb dX10_isPair_7 (by decide) ?_
  refine lv_isub hx hb dX10_isPair_8 ?_
  refine lv_i2l hx hb dX10_isPair_9 rfl ?_
  obtain ⟨r1, g2, hf⟩ := cl1S hf
  refine x_Sr (As := [.long a1.toInt64, .long (0 : Int64), .long (((S.1 0 2) - (1 : Int32)).toInt64)]) (rest := []) E hC hW hl.1 (c_X10_in a1.toInt64 (0 : Int64) (((S.1 0 2) - (1 : Int32)).toInt64) r1 S g2) cs_X10_78 rfl rfl ⟨Nat.le_of_ble_eq_true rfl, Nat.le_of_ble_eq_true rfl⟩ ⟨Nat.le_refl _, Nat.le_refl _⟩ (Nat.le_of_ble_eq_true rfl) dX10_isPair_10 (fun H locs hW => ?_)
  obtain ⟨hg, hf⟩ := gdS hf
  exact x_zretP E hC hW hr hlk hQ hg dX10_isPair_13 hf
set_option maxRecDepth 100000 in
set_option maxHeartbeats 4000000 in
theorem c_X10_isSet {l : Launch} {D : va_G} {cy : Nat → ClassId} {L : Nat → Nat} {bA : Nat} (a1 : Int32) (r : Int32) (S : Sg)  (hf : f_X10_isSet a1 S = some r) : MetX l D cy L shM 20 bA yX10_isSet cX10_isSet 2 (some .boolean) 1 25 [.ref (L 0), .int a1] (some (.int r)) S S := by
  refine x_met (own := RX10) (by decide) rfl (Nat.le_of_ble_eq_true rfl) ?_
  intro p e s m below meth c ls E hC hr hlk hl hW
  generalize hargs : ([.ref (L 0), .int a1] : List Value).toArray = args at E ⊢
  generalize hQ : MQ below (xQ D cy L shM 20 bA (some (.int r)) S) args s 0 0 (AL L 20) = Q
  have hl : lv_has ls 2 [(0, .ref (L 0)), (1, .int a1)] := hl
  have hx := E.1
  have hb := E.2.1
  have hts := E.2.2.2.2
  unfold f_X10_isSet at hf
  refine lv_iload_n hx hb dX10_isSet_0 rfl (lv_at hl 1 rfl) ?_
  refine lv_i2l hx hb dX10_isSet_1 rfl ?_
  refine lv_lconst (v := 0) hx hb dX10_isSet_2 (by decide) ?_
  refine lv_iconst (v := 1) hx hb dX10_isSet_3 (by decide) ?_
  refine lv_aload_n hx hb dX10_isSet_4 rfl (lv_at hl 0 rfl) ?_
  refine x_geti (k := 0) E hC hW fl_X10_75 (by decide) rfl rfl dX10_isSet_5 ?_
  refine lv_ishl hx hb dX10_isSet_8 ?_
  refine lv_iconst (v := 1) hx hb dX10_isSet_9 (by decide) ?_
  refine lv_isub hx hb dX10_isSet_10 ?_
  refine lv_i2l hx hb dX10_isSet_11 rfl ?_
  obtain ⟨r1, g2, hf⟩ := cl1S hf
  refine x_Sr (As := [.long a1.toInt64, .long (0 : Int64), .long ((((1 : Int32) <<< ((S.1 0 2) &&& 31)) - (1 : Int32)).toInt64)]) (rest := []) E hC hW hl.1 (c_X10_in a1.toInt64 (0 : Int64) ((((1 : Int32) <<< ((S.1 0 2) &&& 31)) - (1 : Int32)).toInt64) r1 S g2) cs_X10_78 rfl rfl ⟨Nat.le_of_ble_eq_true rfl, Nat.le_of_ble_eq_true rfl⟩ ⟨Nat.le_refl _, Nat.le_refl _⟩ (Nat.le_of_ble_eq_true rfl) dX10_isSet_12 (fun H locs hW => ?_)
  obtain ⟨hg, hf⟩ := gdS hf
  exact x_zretP E hC hW hr hlk hQ hg dX10_isSet_15 hf
set_option maxRecDepth 100000 in
set_option maxHeartbeats 4000000 in
theorem c_X10_rest {l : Launch} {D : va_G} {cy : Nat → ClassId} {L : Nat → Nat} {bA : Nat} (a1 : Int64) (r : Int32) (S : Sg)  (hf : f_X10_rest a1 S = some r) : MetX l D cy L shM 20 bA yX10_rest cX10_rest 4 (some .int) 0 0 [.ref (L 0), .long a1] (some (.int r)) S S := by
  refine x_met (own := RX10) (by decide) rfl (Nat.le_of_ble_eq_true rfl) ?_
  intro p e s m below meth c ls E hC hr hlk hl hW
  generalize hargs : ([.ref (L 0), .long a1] : List Value).toArray = args at E ⊢
  generalize hQ : MQ below (xQ D cy L shM 20 bA (some (.int r)) S) args s 0 0 (AL L 20) = Q
  have hl : lv_has ls 4 [(0, .ref (L 0)), (1, .long a1)] := hl
  have hx := E.1
  have hb := E.2.1
  have hts := E.2.2.2.2
  unfold f_X10_rest at hf
  refine lv_lload_n hx hb dX10_rest_0 rfl (lv_at hl 1 rfl) ?_
  refine lv_aload_n hx hb dX10_rest_1 rfl (lv_at hl 0 rfl) ?_
  refine x_geti (k := 0) E hC hW fl_X10_7 (by decide) rfl rfl dX10_rest_2 ?_
  refine lv_i2l hx hb dX10_rest_5 rfl ?_
  obtain ⟨hg1, hf⟩ := gdS hf
  refine lv_lrem hx hb dX10_rest_6 (nzlS hg1) ?_
  refine lv_l2i hx hb dX10_rest_7 rfl ?_
  refine lv_topi (fun x2 ex2 => ?_)
  have hf := bvS hf ex2
  refine lv_istore_n (lv' := [(3, .int x2), (0, .ref (L 0)), (1, .long a1)]) hx hb dX10_rest_8 rfl hl (by decide) rfl (fun ls hl => ?_)
  refine lv_iload_n hx hb dX10_rest_9 rfl (lv_at hl 0 rfl) ?_
  refine lv_if_ge (tgt := 22) hx hb dX10_rest_10 (by decide) (fun c3 => ?_) (fun c3 => ?_)
  · have hf := xt hf c3
    refine lv_iload_n hx hb dX10_rest_22 rfl (lv_at hl 0 rfl) ?_
    exact x_iretP E hC hW hr hlk hQ dX10_rest_23 hf
  · have hf := xf hf c3
    refine lv_iload_n hx hb dX10_rest_13 rfl (lv_at hl 0 rfl) ?_
    refine lv_aload_n hx hb dX10_rest_14 rfl (lv_at hl 1 rfl) ?_
    refine x_geti (k := 0) E hC hW fl_X10_7 (by decide) rfl rfl dX10_rest_15 ?_
    refine lv_iadd hx hb dX10_rest_18 ?_
    refine lv_goto (tgt := 23) hx hb dX10_rest_19 (by decide) ?_
    exact x_iretP E hC hW hr hlk hQ dX10_rest_23 hf
set_option maxRecDepth 100000 in
set_option maxHeartbeats 4000000 in
theorem c_X10_over {l : Launch} {D : va_G} {cy : Nat → ClassId} {L : Nat → Nat} {bA : Nat} (a1 : Int32) (a2 : Int32) (r : Int32) (S : Sg)  (hf : f_X10_over a1 a2 S = some r) : MetX l D cy L shM 20 bA yX10_over cX10_over 4 (some .int) 1 23 [.ref (L 0), .int a1, .int a2] (some (.int r)) S S := by
  refine x_met (own := RX10) (by decide) rfl (Nat.le_of_ble_eq_true rfl) ?_
  intro p e s m below meth c ls E hC hr hlk hl hW
  generalize hargs : ([.ref (L 0), .int a1, .int a2] : List Value).toArray = args at E ⊢
  generalize hQ : MQ below (xQ D cy L shM 20 bA (some (.int r)) S) args s 0 0 (AL L 20) = Q
  have hl : lv_has ls 4 [(0, .ref (L 0)), (1, .int a1), (2, .int a2)] := hl
  have hx := E.1
  have hb := E.2.1
  have hts := E.2.2.2.2
  unfold f_X10_over at hf
  refine lv_iconst (v := 0) hx hb dX10_over_0 (by decide) ?_
  refine lv_istore_n (lv' := [(3, .int (0 : Int32)), (0, .ref (L 0)), (1, .int a1), (2, .int a2)]) hx hb dX10_over_1 rfl hl (by decide) rfl (fun ls hl => ?_)
  refine wp1S (fun (v1 : Int32) => ∀ (H : Heap) (locs : List Loc) (ls : Array Slot), lv_has ls 4 [(0, .ref (L 0)), (1, .int a1), (2, .int a2), (3, .int v1)] → Wd D cy L shM 20 S s H locs → W p l e (rmk 1 23) s m args below meth c H locs 0 0 Q (F0 m 2 ls [])) ?_ hf _ _ _ (lv_sub hl [1, 2, 3, 0] rfl) hW
  · intro self2 ih2 v1 hf H locs ls hl hW
    unfold X10_over_L2 at hf
    refine lv_aload_n hx hb dX10_over_2 rfl (lv_at hl 0 rfl) ?_
    refine lv_iload_n hx hb dX10_over_3 rfl (lv_at hl 3 rfl) ?_
    refine lv_i2l hx hb dX10_over_4 rfl ?_
    refine lv_iload_n hx hb dX10_over_5 rfl (lv_at hl 2 rfl) ?_
    refine lv_i2l hx hb dX10_over_6 rfl ?_
    refine lv_lmul hx hb dX10_over_7 ?_
    obtain ⟨r2, g3, hf⟩ := cl1S hf
    refine x_Vr (k := 0) (As := [.long (v1.toInt64 * a2.toInt64)]) (rest := []) E hC hW hl.1 (c_X10_rest (v1.toInt64 * a2.toInt64) r2 S g3) cv_X10_82 rfl (by decide) rfl rfl rfl ⟨Nat.le_of_ble_eq_true rfl, Nat.le_of_ble_eq_true rfl⟩ ⟨Nat.le_refl _, Nat.le_refl _⟩ (Nat.le_of_ble_eq_true rfl) dX10_over_8 (fun H locs hW => ?_)
    refine lv_aload_n hx hb dX10_over_11 rfl (lv_at hl 0 rfl) ?_
    refine lv_iload_n hx hb dX10_over_12 rfl (lv_at hl 1 rfl) ?_
    refine lv_i2l hx hb dX10_over_13 rfl ?_
    obtain ⟨r4, g5, hf⟩ := cl1S hf
    refine x_Vr (k := 0) (As := [.long a1.toInt64]) (rest := [.int r2]) E hC hW hl.1 (c_X10_rest a1.toInt64 r4 S g5) cv_X10_82 rfl (by decide) rfl rfl rfl ⟨Nat.le_of_ble_eq_true rfl, Nat.le_of_ble_eq_true rfl⟩ ⟨Nat.le_refl _, Nat.le_refl _⟩ (Nat.le_of_ble_eq_true rfl) dX10_over_14 (fun H locs hW => ?_)
    refine lv_icmp_eq (tgt := 26) hx hb dX10_over_17 (by decide) (fun c7 => ?_) (fun c7 => ?_)
    · have hf := xt hf c7
      refine lv_iload_n hx hb dX10_over_26 rfl (lv_at hl 3 rfl) ?_
      exact x_iretP E hC hW hr hlk hQ dX10_over_27 hf
    · have hf := xf hf c7
      obtain ⟨x6, ex6⟩ : ∃ z : Int32, z = (v1 + 1) := ⟨_, rfl⟩
      have hf := bvS hf ex6
      refine lv_iinc (v := x6) (lv' := [(3, .int x6), (0, .ref (L 0)), (1, .int a1), (2, .int a2)]) hx hb dX10_over_20 hl (k := 3) rfl (by rw [ex6]; rfl) (by decide) rfl (fun ls hl => ?_)
      refine lv_goto (tgt := 2) hx hb dX10_over_23 (by decide) ?_
      exact ih2 _ hf _ _ _ (lv_sub hl [1, 2, 3, 0] rfl) hW
set_option maxRecDepth 100000 in
set_option maxHeartbeats 4000000 in
theorem c_X10_isPrime {l : Launch} {D : va_G} {cy : Nat → ClassId} {L : Nat → Nat} {bA : Nat} (a0 : Int32) (r : Int32) (S : Sg)  (hf : f_X10_isPrime a0 = some r) : MetX l D cy L shM 20 bA yX10_isPrime cX10_isPrime 2 (some .boolean) 1 25 [.int a0] (some (.int r)) S S := by
  refine x_met (own := RX10) (by decide) rfl (Nat.le_of_ble_eq_true rfl) ?_
  intro p e s m below meth c ls E hC hr hlk hl hW
  generalize hargs : ([.int a0] : List Value).toArray = args at E ⊢
  generalize hQ : MQ below (xQ D cy L shM 20 bA (some (.int r)) S) args s 0 0 (AL L 20) = Q
  have hl : lv_has ls 2 [(0, .int a0)] := hl
  have hx := E.1
  have hb := E.2.1
  have hts := E.2.2.2.2
  unfold f_X10_isPrime at hf
  refine lv_iconst (v := 2) hx hb dX10_isPrime_0 (by decide) ?_
  refine lv_istore_n (lv' := [(1, .int (2 : Int32)), (0, .int a0)]) hx hb dX10_isPrime_1 rfl hl (by decide) rfl (fun ls hl => ?_)
  refine wp1K hf (fun (v3 : Int32) => ∀ (H : Heap) (locs : List Loc) (ls : Array Slot), lv_has ls 2 [(0, .int a0), (1, .int v3)] → Wd D cy L shM 20 S s H locs → W p l e (rmk 1 25) s m args below meth c H locs 0 0 Q (F0 m 2 ls [])) (fun (j : Option (Int32)) => (j) = some r → ∀ (H : Heap) (locs : List Loc) (ls : Array Slot), lv_has ls 2 [(0, .int a0)] → Wd D cy L shM 20 S s H locs → W p l e (rmk 1 25) s m args below meth c H locs 0 0 Q (F0 m 21 ls [])) ?_ ?_ _ _ _ (lv_sub hl [1, 0] rfl) hW
  · intro hf H locs ls hl hW
    try dsimp only at hf
    refine lv_iload_n hx hb dX10_isPrime_21 rfl (lv_at hl 0 rfl) ?_
    refine lv_i2l hx hb dX10_isPrime_22 rfl ?_
    refine lv_ldc2 hx hb E.2.2.2.1 (hts _ ww_921) dX10_isPrime_23 ?_
    refine lv_ldc2 hx hb E.2.2.2.1 (hts _ ww_922) dX10_isPrime_26 ?_
    obtain ⟨r1, g2, hf⟩ := cl1S hf
    refine x_Sr (As := [.long a0.toInt64, .long (2 : Int64), .long (97 : Int64)]) (rest := []) E hC hW hl.1 (c_X10_in a0.toInt64 (2 : Int64) (97 : Int64) r1 S g2) cs_X10_78 rfl rfl ⟨Nat.le_of_ble_eq_true rfl, Nat.le_of_ble_eq_true rfl⟩ ⟨Nat.le_refl _, Nat.le_refl _⟩ (Nat.le_of_ble_eq_true rfl) dX10_isPrime_29 (fun H locs hW => ?_)
    obtain ⟨hg, hf⟩ := gdS hf
    exact x_zretP E hC hW hr hlk hQ hg dX10_isPrime_32 hf
  · intro k21 K21 self2 ih2 v3 hf H locs ls hl hW
    unfold X10_isPrime_L2 at hf
    refine lv_iload_n hx hb dX10_isPrime_2 rfl (lv_at hl 1 rfl) ?_
    refine lv_iload_n hx hb dX10_isPrime_3 rfl (lv_at hl 0 rfl) ?_
    refine lv_icmp_ge (tgt := 21) hx hb dX10_isPrime_4 (by decide) (fun c7 => ?_) (fun c7 => ?_)
    · have hf := xt hf c7
      exact K21 hf _ _ _ (lv_sub hl [0] rfl) hW
    · have hf := xf hf c7
      refine lv_iload_n hx hb dX10_isPrime_7 rfl (lv_at hl 0 rfl) ?_
      refine lv_iload_n hx hb dX10_isPrime_8 rfl (lv_at hl 1 rfl) ?_
      obtain ⟨hg4, hf⟩ := gdS hf
      refine lv_irem hx hb dX10_isPrime_9 (nzS hg4) ?_
      refine lv_if_ne (tgt := 15) hx hb dX10_isPrime_10 (by decide) (fun c6 => ?_) (fun c6 => ?_)
      · have hf := xf hf c6
        obtain ⟨x5, ex5⟩ : ∃ z : Int32, z = (v3 + 1) := ⟨_, rfl⟩
        have hf := bvS hf ex5
        refine lv_iinc (v := x5) (lv' := [(1, .int x5), (0, .int a0)]) hx hb dX10_isPrime_15 hl (k := 1) rfl (by rw [ex5]; rfl) (by decide) rfl (fun ls hl => ?_)
        refine lv_goto (tgt := 2) hx hb dX10_isPrime_18 (by decide) ?_
        exact ih2 _ hf _ _ _ (lv_sub hl [1, 0] rfl) hW
      · have hf := xt hf c6
        refine lv_iconst (v := 0) hx hb dX10_isPrime_13 (by decide) ?_
        exact x_zretP E hC hW hr hlk hQ (by decide) dX10_isPrime_14 hf
set_option maxRecDepth 100000 in
set_option maxHeartbeats 4000000 in
theorem c_X10_field {l : Launch} {D : va_G} {cy : Nat → ClassId} {L : Nat → Nat} {bA : Nat} (a1 : Int32) (a2 : Int32) (r : Int32) (S S' : Sg)  (hf : f_X10_field a1 a2 S = some (r, S')) : MetX l D cy L shM 20 bA yX10_field cX10_field 4 (some .int) 2 46 [.ref (L 0), .int a1, .int a2] (some (.int r)) S S' := by
  refine x_met (own := RX10) (by decide) rfl (Nat.le_of_ble_eq_true rfl) ?_
  intro p e s m below meth c ls E hC hr hlk hl hW
  generalize hargs : ([.ref (L 0), .int a1, .int a2] : List Value).toArray = args at E ⊢
  generalize hQ : MQ below (xQ D cy L shM 20 bA (some (.int r)) S') args s 0 0 (AL L 20) = Q
  have hl : lv_has ls 4 [(0, .ref (L 0)), (1, .int a1), (2, .int a2)] := hl
  have hx := E.1
  have hb := E.2.1
  have hts := E.2.2.2.2
  unfold f_X10_field at hf
  refine lv_iload_n hx hb dX10_field_0 rfl (lv_at hl 1 rfl) ?_
  refine lv_i2l hx hb dX10_field_1 rfl ?_
  refine lv_ldc2 hx hb E.2.2.2.1 (hts _ ww_921) dX10_field_2 ?_
  refine lv_ldc2 hx hb E.2.2.2.1 (hts _ ww_922) dX10_field_5 ?_
  obtain ⟨r1, g2, hf⟩ := cl1S hf
  refine x_Sr (As := [.long a1.toInt64, .long (2 : Int64), .long (97 : Int64)]) (rest := []) E hC hW hl.1 (c_X10_in a1.toInt64 (2 : Int64) (97 : Int64) r1 S g2) cs_X10_78 rfl rfl ⟨Nat.le_of_ble_eq_true rfl, Nat.le_of_ble_eq_true rfl⟩ ⟨Nat.le_refl _, Nat.le_refl _⟩ (Nat.le_of_ble_eq_true rfl) dX10_field_8 (fun H locs hW => ?_)
  refine lv_if_eq (tgt := 33) hx hb dX10_field_11 (by decide) (fun c12 => ?_) (fun c12 => ?_)
  · have hf := xt hf c12
    refine lv_bipush (v := (-2)) hx hb dX10_field_33 (by decide) ?_
    exact x_iretI E hC hW hr hlk hQ dX10_field_35 hf
  · have hf := xf hf c12
    refine lv_iload_n hx hb dX10_field_14 rfl (lv_at hl 1 rfl) ?_
    obtain ⟨r3, g4, hf⟩ := cl1S hf
    refine x_Sr (As := [.int a1]) (rest := []) E hC hW hl.1 (c_X10_isPrime a1 r3 S g4) cs_X10_90 rfl rfl ⟨Nat.le_of_ble_eq_true rfl, Nat.le_of_ble_eq_true rfl⟩ ⟨Nat.le_refl _, Nat.le_refl _⟩ (Nat.le_of_ble_eq_true rfl) dX10_field_15 (fun H locs hW => ?_)
    refine lv_if_eq (tgt := 33) hx hb dX10_field_18 (by decide) (fun c11 => ?_) (fun c11 => ?_)
    · have hf := xt hf c11
      refine lv_bipush (v := (-2)) hx hb dX10_field_33 (by decide) ?_
      exact x_iretI E hC hW hr hlk hQ dX10_field_35 hf
    · have hf := xf hf c11
      refine lv_iload_n hx hb dX10_field_21 rfl (lv_at hl 2 rfl) ?_
      refine lv_i2l hx hb dX10_field_22 rfl ?_
      refine lv_lconst (v := 1) hx hb dX10_field_23 (by decide) ?_
      refine lv_ldc2 hx hb E.2.2.2.1 (hts _ ww_929) dX10_field_24 ?_
      obtain ⟨r5, g6, hf⟩ := cl1S hf
      refine x_Sr (As := [.long a2.toInt64, .long (1 : Int64), .long (6 : Int64)]) (rest := []) E hC hW hl.1 (c_X10_in a2.toInt64 (1 : Int64) (6 : Int64) r5 S g6) cs_X10_78 rfl rfl ⟨Nat.le_of_ble_eq_true rfl, Nat.le_of_ble_eq_true rfl⟩ ⟨Nat.le_refl _, Nat.le_refl _⟩ (Nat.le_of_ble_eq_true rfl) dX10_field_27 (fun H locs hW => ?_)
      refine lv_if_ne (tgt := 36) hx hb dX10_field_30 (by decide) (fun c10 => ?_) (fun c10 => ?_)
      · have hf := xf hf c10
        refine lv_aload_n hx hb dX10_field_36 rfl (lv_at hl 0 rfl) ?_
        refine x_geti (k := 0) E hC hW fl_X10_7 (by decide) rfl rfl dX10_field_37 ?_
        refine lv_topi (fun x7 ex7 => ?_)
        have hf := bvS hf ex7
        refine lv_istore_n (lv' := [(3, .int x7), (0, .ref (L 0)), (1, .int a1), (2, .int a2)]) hx hb dX10_field_40 rfl hl (by decide) rfl (fun ls hl => ?_)
        refine lv_aload_n hx hb dX10_field_41 rfl (lv_at hl 1 rfl) ?_
        refine lv_iload_n hx hb dX10_field_42 rfl (lv_at hl 2 rfl) ?_
        refine x_put (k := 0) E hC hW fl_X10_7 pl_10_0 (by decide) rfl rfl rfl rfl dX10_field_43 (fun H locs hW => ?_)
        obtain ⟨S8, eS8⟩ : ∃ z : Sg, z = si S 0 0 a1 := ⟨_, rfl⟩
        have hW : Wd D cy L shM 20 S8 s H locs := by rw [eS8]; exact hW
        have hf := bvS hf eS8
        refine lv_aload_n hx hb dX10_field_46 rfl (lv_at hl 1 rfl) ?_
        refine lv_iload_n hx hb dX10_field_47 rfl (lv_at hl 3 rfl) ?_
        refine x_put (k := 0) E hC hW fl_X10_13 pl_10_1 (by decide) rfl rfl rfl rfl dX10_field_48 (fun H locs hW => ?_)
        obtain ⟨S9, eS9⟩ : ∃ z : Sg, z = si S8 0 1 a2 := ⟨_, rfl⟩
        have hW : Wd D cy L shM 20 S9 s H locs := by rw [eS9]; exact hW
        have hf := bvS hf eS9
        refine lv_iload_n hx hb dX10_field_51 rfl (lv_at hl 0 rfl) ?_
        exact x_iretI E hC hW hr hlk hQ dX10_field_52 hf
      · have hf := xt hf c10
        refine lv_bipush (v := (-2)) hx hb dX10_field_33 (by decide) ?_
        exact x_iretI E hC hW hr hlk hQ dX10_field_35 hf
set_option maxRecDepth 100000 in
set_option maxHeartbeats 4000000 in
theorem c_X10_divided {l : Launch} {D : va_G} {cy : Nat → ClassId} {L : Nat → Nat} {bA : Nat} (a1 : Int32) (a2 : Int32) (r : Int32) (S : Sg)  (hf : f_X10_divided a1 a2 S = some r) : MetX l D cy L shM 20 bA yX10_divided cX10_divided 3 (some .int) 2 46 [.ref (L 0), .int a1, .int a2] (some (.int r)) S S := by
  refine x_met (own := RX10) (by decide) rfl (Nat.le_of_ble_eq_true rfl) ?_
  intro p e s m below meth c ls E hC hr hlk hl hW
  generalize hargs : ([.ref (L 0), .int a1, .int a2] : List Value).toArray = args at E ⊢
  generalize hQ : MQ below (xQ D cy L shM 20 bA (some (.int r)) S) args s 0 0 (AL L 20) = Q
  have hl : lv_has ls 3 [(0, .ref (L 0)), (1, .int a1), (2, .int a2)] := hl
  have hx := E.1
  have hb := E.2.1
  have hts := E.2.2.2.2
  unfold f_X10_divided at hf
  refine lv_aload_n hx hb dX10_divided_0 rfl (lv_at hl 0 rfl) ?_
  refine lv_iload_n hx hb dX10_divided_1 rfl (lv_at hl 2 rfl) ?_
  refine lv_i2l hx hb dX10_divided_2 rfl ?_
  obtain ⟨r1, g2, hf⟩ := cl1S hf
  refine x_Vr (k := 0) (As := [.long a2.toInt64]) (rest := []) E hC hW hl.1 (c_X10_rest a2.toInt64 r1 S g2) cv_X10_82 rfl (by decide) rfl rfl rfl ⟨Nat.le_of_ble_eq_true rfl, Nat.le_of_ble_eq_true rfl⟩ ⟨Nat.le_refl _, Nat.le_refl _⟩ (Nat.le_of_ble_eq_true rfl) dX10_divided_3 (fun H locs hW => ?_)
  refine lv_if_ne (tgt := 14) hx hb dX10_divided_6 (by decide) (fun c9 => ?_) (fun c9 => ?_)
  · have hf := xf hf c9
    refine lv_aload_n hx hb dX10_divided_14 rfl (lv_at hl 0 rfl) ?_
    refine lv_aload_n hx hb dX10_divided_15 rfl (lv_at hl 0 rfl) ?_
    refine lv_iload_n hx hb dX10_divided_16 rfl (lv_at hl 1 rfl) ?_
    refine lv_i2l hx hb dX10_divided_17 rfl ?_
    obtain ⟨r3, g4, hf⟩ := cl1S hf
    refine x_Vr (k := 0) (As := [.long a1.toInt64]) (rest := [.ref (L 0)]) E hC hW hl.1 (c_X10_rest a1.toInt64 r3 S g4) cv_X10_82 rfl (by decide) rfl rfl rfl ⟨Nat.le_of_ble_eq_true rfl, Nat.le_of_ble_eq_true rfl⟩ ⟨Nat.le_refl _, Nat.le_refl _⟩ (Nat.le_of_ble_eq_true rfl) dX10_divided_18 (fun H locs hW => ?_)
    refine lv_aload_n hx hb dX10_divided_21 rfl (lv_at hl 0 rfl) ?_
    refine lv_iload_n hx hb dX10_divided_22 rfl (lv_at hl 2 rfl) ?_
    refine lv_i2l hx hb dX10_divided_23 rfl ?_
    obtain ⟨r5, g6, hf⟩ := cl1S hf
    refine x_Vr (k := 0) (As := [.long a2.toInt64]) (rest := [.int r3, .ref (L 0)]) E hC hW hl.1 (c_X10_rest a2.toInt64 r5 S g6) cv_X10_82 rfl (by decide) rfl rfl rfl ⟨Nat.le_of_ble_eq_true rfl, Nat.le_of_ble_eq_true rfl⟩ ⟨Nat.le_refl _, Nat.le_refl _⟩ (Nat.le_of_ble_eq_true rfl) dX10_divided_24 (fun H locs hW => ?_)
    obtain ⟨r7, g8, hf⟩ := cl1S hf
    refine x_Vr (k := 0) (As := [.int r3, .int r5]) (rest := []) E hC hW hl.1 (c_X10_over r3 r5 r7 S g8) cv_X10_96 rfl (by decide) rfl rfl rfl ⟨Nat.le_of_ble_eq_true rfl, Nat.le_of_ble_eq_true rfl⟩ ⟨Nat.le_refl _, Nat.le_refl _⟩ (Nat.le_of_ble_eq_true rfl) dX10_divided_27 (fun H locs hW => ?_)
    exact x_iretP E hC hW hr hlk hQ dX10_divided_30 hf
  · have hf := xt hf c9
    refine lv_bipush (v := (-2)) hx hb dX10_divided_9 (by decide) ?_
    refine lv_goto (tgt := 30) hx hb dX10_divided_11 (by decide) ?_
    exact x_iretP E hC hW hr hlk hQ dX10_divided_30 hf
set_option maxRecDepth 100000 in
set_option maxHeartbeats 4000000 in
theorem c_X10_pair {l : Launch} {D : va_G} {cy : Nat → ClassId} {L : Nat → Nat} {bA : Nat} (a1 : Int32) (a2 : Int32) (r : Int32) (S S' : Sg)  (hf : f_X10_pair a1 a2 S = some (r, S')) : MetX l D cy L shM 20 bA yX10_pair cX10_pair 4 (some .int) 1 25 [.ref (L 0), .int a1, .int a2] (some (.int r)) S S' := by
  refine x_met (own := RX10) (by decide) rfl (Nat.le_of_ble_eq_true rfl) ?_
  intro p e s m below meth c ls E hC hr hlk hl hW
  generalize hargs : ([.ref (L 0), .int a1, .int a2] : List Value).toArray = args at E ⊢
  generalize hQ : MQ below (xQ D cy L shM 20 bA (some (.int r)) S') args s 0 0 (AL L 20) = Q
  have hl : lv_has ls 4 [(0, .ref (L 0)), (1, .int a1), (2, .int a2)] := hl
  have hx := E.1
  have hb := E.2.1
  have hts := E.2.2.2.2
  unfold f_X10_pair at hf
  refine lv_iload_n hx hb dX10_pair_0 rfl (lv_at hl 1 rfl) ?_
  refine lv_i2l hx hb dX10_pair_1 rfl ?_
  refine lv_lconst (v := 0) hx hb dX10_pair_2 (by decide) ?_
  refine lv_ldc2 hx hb E.2.2.2.1 (hts _ ww_946) dX10_pair_3 ?_
  obtain ⟨r1, g2, hf⟩ := cl1S hf
  refine x_Sr (As := [.long a1.toInt64, .long (0 : Int64), .long (5 : Int64)]) (rest := []) E hC hW hl.1 (c_X10_in a1.toInt64 (0 : Int64) (5 : Int64) r1 S g2) cs_X10_78 rfl rfl ⟨Nat.le_of_ble_eq_true rfl, Nat.le_of_ble_eq_true rfl⟩ ⟨Nat.le_refl _, Nat.le_refl _⟩ (Nat.le_of_ble_eq_true rfl) dX10_pair_6 (fun H locs hW => ?_)
  refine lv_if_eq (tgt := 24) hx hb dX10_pair_9 (by decide) (fun c21 => ?_) (fun c21 => ?_)
  · have hf := xt hf c21
    refine lv_bipush (v := (-2)) hx hb dX10_pair_24 (by decide) ?_
    exact x_iretI E hC hW hr hlk hQ dX10_pair_26 hf
  · have hf := xf hf c21
    refine lv_iload_n hx hb dX10_pair_12 rfl (lv_at hl 2 rfl) ?_
    refine lv_i2l hx hb dX10_pair_13 rfl ?_
    refine lv_lconst (v := 0) hx hb dX10_pair_14 (by decide) ?_
    refine lv_ldc2 hx hb E.2.2.2.1 (hts _ ww_947) dX10_pair_15 ?_
    obtain ⟨r3, g4, hf⟩ := cl1S hf
    refine x_Sr (As := [.long a2.toInt64, .long (0 : Int64), .long (999 : Int64)]) (rest := []) E hC hW hl.1 (c_X10_in a2.toInt64 (0 : Int64) (999 : Int64) r3 S g4) cs_X10_78 rfl rfl ⟨Nat.le_of_ble_eq_true rfl, Nat.le_of_ble_eq_true rfl⟩ ⟨Nat.le_refl _, Nat.le_refl _⟩ (Nat.le_of_ble_eq_true rfl) dX10_pair_18 (fun H locs hW => ?_)
    refine lv_if_ne (tgt := 27) hx hb dX10_pair_21 (by decide) (fun c20 => ?_) (fun c20 => ?_)
    · have hf := xf hf c20
      refine lv_aload_n hx hb dX10_pair_27 rfl (lv_at hl 0 rfl) ?_
      refine x_geti (k := 0) E hC hW fl_X10_75 (by decide) rfl rfl dX10_pair_28 ?_
      refine lv_bipush (v := 10) hx hb dX10_pair_31 (by decide) ?_
      refine lv_icmp_ne (tgt := 39) hx hb dX10_pair_33 (by decide) (fun c19 => ?_) (fun c19 => ?_)
      · have hf := xf hf c19
        refine lv_aload_n hx hb dX10_pair_39 rfl (lv_at hl 0 rfl) ?_
        refine x_getr (k := 0) (k' := 1) E hC hW fl_X10_16 (by decide) rfl rfl dX10_pair_40 ?_
        refine lv_aload_n hx hb dX10_pair_43 rfl (lv_at hl 0 rfl) ?_
        refine x_geti (k := 0) E hC hW fl_X10_75 (by decide) rfl rfl dX10_pair_44 ?_
        refine lv_iload_n hx hb dX10_pair_47 rfl (lv_at hl 1 rfl) ?_
        obtain ⟨hg5, hf⟩ := gdS hf
        refine x_iast (k := 1) E hC hW (by decide) rfl (inbS hg5) dX10_pair_48 (fun H locs hW => ?_)
        obtain ⟨S6, eS6⟩ : ∃ z : Sg, z = si S 1 (ix (S.1 0 2)) a1 := ⟨_, rfl⟩
        have hW : Wd D cy L shM 20 S6 s H locs := by rw [eS6]; exact hW
        have hf := bvS hf eS6
        refine lv_aload_n hx hb dX10_pair_49 rfl (lv_at hl 0 rfl) ?_
        refine x_getr (k := 0) (k' := 2) E hC hW fl_X10_20 (by decide) rfl rfl dX10_pair_50 ?_
        refine lv_aload_n hx hb dX10_pair_53 rfl (lv_at hl 0 rfl) ?_
        refine x_geti (k := 0) E hC hW fl_X10_75 (by decide) rfl rfl dX10_pair_54 ?_
        refine lv_iload_n hx hb dX10_pair_57 rfl (lv_at hl 2 rfl) ?_
        obtain ⟨hg7, hf⟩ := gdS hf
        refine x_iast (k := 2) E hC hW (by decide) rfl (inbS hg7) dX10_pair_58 (fun H locs hW => ?_)
        obtain ⟨S8, eS8⟩ : ∃ z : Sg, z = si S6 2 (ix (S6.1 0 2)) a2 := ⟨_, rfl⟩
        have hW : Wd D cy L shM 20 S8 s H locs := by rw [eS8]; exact hW
        have hf := bvS hf eS8
        refine lv_aload_n hx hb dX10_pair_59 rfl (lv_at hl 0 rfl) ?_
        refine x_getr (k := 0) (k' := 3) E hC hW fl_X10_23 (by decide) rfl rfl dX10_pair_60 ?_
        refine lv_aload_n hx hb dX10_pair_63 rfl (lv_at hl 0 rfl) ?_
        refine x_geti (k := 0) E hC hW fl_X10_75 (by decide) rfl rfl dX10_pair_64 ?_
        refine lv_lconst (v := 0) hx hb dX10_pair_67 (by decide) ?_
        obtain ⟨hg9, hf⟩ := gdS hf
        refine x_last (k := 3) E hC hW (by decide) rfl (inbS hg9) dX10_pair_68 (fun H locs hW => ?_)
        obtain ⟨S10, eS10⟩ : ∃ z : Sg, z = sl S8 3 (ix (S8.1 0 2)) (0 : Int64) := ⟨_, rfl⟩
        have hW : Wd D cy L shM 20 S10 s H locs := by rw [eS10]; exact hW
        have hf := bvS hf eS10
        refine lv_iconst (v := 0) hx hb dX10_pair_69 (by decide) ?_
        refine lv_istore_n (lv' := [(3, .int (0 : Int32)), (0, .ref (L 0)), (1, .int a1), (2, .int a2)]) hx hb dX10_pair_70 rfl hl (by decide) rfl (fun ls hl => ?_)
        refine wp2K hf (fun (v13 : Int32) (S14 : Sg) => ∀ (H : Heap) (locs : List Loc) (ls : Array Slot), lv_has ls 4 [(0, .ref (L 0)), (3, .int v13)] → Wd D cy L shM 20 S14 s H locs → W p l e (rmk 1 25) s m args below meth c H locs 0 0 Q (F0 m 71 ls [])) (fun (j : Sg → Option (Int32 × Sg)) => ∀ (S11 : Sg), (j S11) = some (r, S') → ∀ (H : Heap) (locs : List Loc) (ls : Array Slot), lv_has ls 4 [(0, .ref (L 0))] → Wd D cy L shM 20 S11 s H locs → W p l e (rmk 1 25) s m args below meth c H locs 0 0 Q (F0 m 98 ls [])) ?_ ?_ _ _ _ (lv_sub hl [1, 0] rfl) hW
        · intro S11 hf H locs ls hl hW
          try dsimp only at hf
          refine lv_aload_n hx hb dX10_pair_98 rfl (lv_at hl 0 rfl) ?_
          refine lv_dup hx hb dX10_pair_99 rfl ?_
          refine x_geti (k := 0) E hC hW fl_X10_75 (by decide) rfl rfl dX10_pair_100 ?_
          refine lv_iconst (v := 1) hx hb dX10_pair_103 (by decide) ?_
          refine lv_iadd hx hb dX10_pair_104 ?_
          refine x_put (k := 0) E hC hW fl_X10_75 pl_10_2 (by decide) rfl rfl rfl rfl dX10_pair_105 (fun H locs hW => ?_)
          obtain ⟨S12, eS12⟩ : ∃ z : Sg, z = si S11 0 2 ((S11.1 0 2) + (1 : Int32)) := ⟨_, rfl⟩
          have hW : Wd D cy L shM 20 S12 s H locs := by rw [eS12]; exact hW
          have hf := bvS hf eS12
          refine lv_aload_n hx hb dX10_pair_108 rfl (lv_at hl 0 rfl) ?_
          refine x_geti (k := 0) E hC hW fl_X10_75 (by decide) rfl rfl dX10_pair_109 ?_
          refine lv_iconst (v := 1) hx hb dX10_pair_112 (by decide) ?_
          refine lv_isub hx hb dX10_pair_113 ?_
          exact x_iretI E hC hW hr hlk hQ dX10_pair_114 hf
        · intro k98 K98 self71 ih71 v13 S14 hf H locs ls hl hW
          unfold X10_pair_L71 at hf
          refine lv_iload_n hx hb dX10_pair_71 rfl (lv_at hl 1 rfl) ?_
          refine lv_bipush (v := 12) hx hb dX10_pair_72 (by decide) ?_
          refine lv_icmp_ge (tgt := 98) hx hb dX10_pair_74 (by decide) (fun c18 => ?_) (fun c18 => ?_)
          · have hf := xt hf c18
            exact K98 _ hf _ _ _ (lv_sub hl [0] rfl) hW
          · have hf := xf hf c18
            refine lv_aload_n hx hb dX10_pair_77 rfl (lv_at hl 0 rfl) ?_
            refine x_getr (k := 0) (k' := 4) E hC hW fl_X10_27 (by decide) rfl rfl dX10_pair_78 ?_
            refine lv_bipush (v := 12) hx hb dX10_pair_81 (by decide) ?_
            refine lv_aload_n hx hb dX10_pair_83 rfl (lv_at hl 0 rfl) ?_
            refine x_geti (k := 0) E hC hW fl_X10_75 (by decide) rfl rfl dX10_pair_84 ?_
            refine lv_imul hx hb dX10_pair_87 ?_
            refine lv_iload_n hx hb dX10_pair_88 rfl (lv_at hl 1 rfl) ?_
            refine lv_iadd hx hb dX10_pair_89 ?_
            refine lv_iconst (v := 0) hx hb dX10_pair_90 (by decide) ?_
            obtain ⟨hg15, hf⟩ := gdS hf
            refine x_iast (k := 4) E hC hW (by decide) rfl (inbS hg15) dX10_pair_91 (fun H locs hW => ?_)
            obtain ⟨S16, eS16⟩ : ∃ z : Sg, z = si S14 4 (ix (((12 : Int32) * (S14.1 0 2)) + v13)) (0 : Int32) := ⟨_, rfl⟩
            have hW : Wd D cy L shM 20 S16 s H locs := by rw [eS16]; exact hW
            have hf := bvS hf eS16
            obtain ⟨x17, ex17⟩ : ∃ z : Int32, z = (v13 + 1) := ⟨_, rfl⟩
            have hf := bvS hf ex17
            refine lv_iinc (v := x17) (lv' := [(3, .int x17), (0, .ref (L 0))]) hx hb dX10_pair_92 hl (k := 1) rfl (by rw [ex17]; rfl) (by decide) rfl (fun ls hl => ?_)
            refine lv_goto (tgt := 71) hx hb dX10_pair_95 (by decide) ?_
            exact ih71 _ _ hf _ _ _ (lv_sub hl [1, 0] rfl) hW
      · have hf := xt hf c19
        refine lv_bipush (v := (-4)) hx hb dX10_pair_36 (by decide) ?_
        exact x_iretI E hC hW hr hlk hQ dX10_pair_38 hf
    · have hf := xt hf c20
      refine lv_bipush (v := (-2)) hx hb dX10_pair_24 (by decide) ?_
      exact x_iretI E hC hW hr hlk hQ dX10_pair_26 hf
set_option maxRecDepth 100000 in
set_option maxHeartbeats 4000000 in
theorem c_X10_entry {l : Launch} {D : va_G} {cy : Nat → ClassId} {L : Nat → Nat} {bA : Nat} (a1 : Int32) (a2 : Int32) (a3 : Int32) (a4 : Int32) (r : Int32) (S S' : Sg)  (hf : f_X10_entry a1 a2 a3 a4 S = some (r, S')) : MetX l D cy L shM 20 bA yX10_entry cX10_entry 7 (some .int) 2 46 [.ref (L 0), .int a1, .int a2, .int a3, .int a4] (some (.int r)) S S' := by
  refine x_met (own := RX10) (by decide) rfl (Nat.le_of_ble_eq_true rfl) ?_
  intro p e s m below meth c ls E hC hr hlk hl hW
  generalize hargs : ([.ref (L 0), .int a1, .int a2, .int a3, .int a4] : List Value).toArray = args at E ⊢
  generalize hQ : MQ below (xQ D cy L shM 20 bA (some (.int r)) S') args s 0 0 (AL L 20) = Q
  have hl : lv_has ls 7 [(0, .ref (L 0)), (1, .int a1), (2, .int a2), (3, .int a3), (4, .int a4)] := hl
  have hx := E.1
  have hb := E.2.1
  have hts := E.2.2.2.2
  unfold f_X10_entry at hf
  refine lv_aload_n hx hb dX10_entry_0 rfl (lv_at hl 0 rfl) ?_
  refine lv_iload_n hx hb dX10_entry_1 rfl (lv_at hl 1 rfl) ?_
  obtain ⟨r1, g2, hf⟩ := cl1S hf
  refine x_Vr (k := 0) (As := [.int a1]) (rest := []) E hC hW hl.1 (c_X10_isPair a1 r1 S g2) cv_X10_104 rfl (by decide) rfl rfl rfl ⟨Nat.le_of_ble_eq_true rfl, Nat.le_of_ble_eq_true rfl⟩ ⟨Nat.le_refl _, Nat.le_refl _⟩ (Nat.le_of_ble_eq_true rfl) dX10_entry_2 (fun H locs hW => ?_)
  refine lv_if_eq (tgt := 45) hx hb dX10_entry_5 (by decide) (fun c17 => ?_) (fun c17 => ?_)
  · have hf := xt hf c17
    refine lv_bipush (v := (-2)) hx hb dX10_entry_45 (by decide) ?_
    exact x_iretI E hC hW hr hlk hQ dX10_entry_47 hf
  · have hf := xf hf c17
    refine lv_iload_n hx hb dX10_entry_8 rfl (lv_at hl 2 rfl) ?_
    refine lv_i2l hx hb dX10_entry_9 rfl ?_
    refine lv_lconst (v := 0) hx hb dX10_entry_10 (by decide) ?_
    refine lv_lconst (v := 1) hx hb dX10_entry_11 (by decide) ?_
    obtain ⟨r3, g4, hf⟩ := cl1S hf
    refine x_Sr (As := [.long a2.toInt64, .long (0 : Int64), .long (1 : Int64)]) (rest := []) E hC hW hl.1 (c_X10_in a2.toInt64 (0 : Int64) (1 : Int64) r3 S g4) cs_X10_78 rfl rfl ⟨Nat.le_of_ble_eq_true rfl, Nat.le_of_ble_eq_true rfl⟩ ⟨Nat.le_refl _, Nat.le_refl _⟩ (Nat.le_of_ble_eq_true rfl) dX10_entry_12 (fun H locs hW => ?_)
    refine lv_if_eq (tgt := 45) hx hb dX10_entry_15 (by decide) (fun c16 => ?_) (fun c16 => ?_)
    · have hf := xt hf c16
      refine lv_bipush (v := (-2)) hx hb dX10_entry_45 (by decide) ?_
      exact x_iretI E hC hW hr hlk hQ dX10_entry_47 hf
    · have hf := xf hf c16
      refine lv_iload_n hx hb dX10_entry_18 rfl (lv_at hl 3 rfl) ?_
      refine lv_i2l hx hb dX10_entry_19 rfl ?_
      refine lv_lconst (v := 0) hx hb dX10_entry_20 (by decide) ?_
      refine lv_ldc2 hx hb E.2.2.2.1 (hts _ ww_946) dX10_entry_21 ?_
      obtain ⟨r5, g6, hf⟩ := cl1S hf
      refine x_Sr (As := [.long a3.toInt64, .long (0 : Int64), .long (5 : Int64)]) (rest := []) E hC hW hl.1 (c_X10_in a3.toInt64 (0 : Int64) (5 : Int64) r5 S g6) cs_X10_78 rfl rfl ⟨Nat.le_of_ble_eq_true rfl, Nat.le_of_ble_eq_true rfl⟩ ⟨Nat.le_refl _, Nat.le_refl _⟩ (Nat.le_of_ble_eq_true rfl) dX10_entry_24 (fun H locs hW => ?_)
      refine lv_if_eq (tgt := 45) hx hb dX10_entry_27 (by decide) (fun c15 => ?_) (fun c15 => ?_)
      · have hf := xt hf c15
        refine lv_bipush (v := (-2)) hx hb dX10_entry_45 (by decide) ?_
        exact x_iretI E hC hW hr hlk hQ dX10_entry_47 hf
      · have hf := xf hf c15
        refine lv_iload hx hb dX10_entry_30 (lv_at hl 4 rfl) ?_
        refine lv_i2l hx hb dX10_entry_32 rfl ?_
        refine lv_ldc2 hx hb E.2.2.2.1 (hts _ ww_956) dX10_entry_33 ?_
        refine lv_ldc2 hx hb E.2.2.2.1 (hts _ ww_957) dX10_entry_36 ?_
        obtain ⟨r7, g8, hf⟩ := cl1S hf
        refine x_Sr (As := [.long a4.toInt64, .long (-99 : Int64), .long (99 : Int64)]) (rest := []) E hC hW hl.1 (c_X10_in a4.toInt64 (-99 : Int64) (99 : Int64) r7 S g8) cs_X10_78 rfl rfl ⟨Nat.le_of_ble_eq_true rfl, Nat.le_of_ble_eq_true rfl⟩ ⟨Nat.le_refl _, Nat.le_refl _⟩ (Nat.le_of_ble_eq_true rfl) dX10_entry_39 (fun H locs hW => ?_)
        refine lv_if_ne (tgt := 48) hx hb dX10_entry_42 (by decide) (fun c14 => ?_) (fun c14 => ?_)
        · have hf := xf hf c14
          refine lv_bipush (v := 12) hx hb dX10_entry_48 (by decide) ?_
          refine lv_iload_n hx hb dX10_entry_50 rfl (lv_at hl 1 rfl) ?_
          refine lv_imul hx hb dX10_entry_51 ?_
          refine lv_bipush (v := 6) hx hb dX10_entry_52 (by decide) ?_
          refine lv_iload_n hx hb dX10_entry_54 rfl (lv_at hl 2 rfl) ?_
          refine lv_imul hx hb dX10_entry_55 ?_
          refine lv_iadd hx hb dX10_entry_56 ?_
          refine lv_iload_n hx hb dX10_entry_57 rfl (lv_at hl 3 rfl) ?_
          refine lv_iadd hx hb dX10_entry_58 ?_
          refine lv_topi (fun x9 ex9 => ?_)
          have hf := bvS hf ex9
          refine lv_istore (lv' := [(5, .int x9), (0, .ref (L 0)), (1, .int a1), (2, .int a2), (3, .int a3), (4, .int a4)]) hx hb dX10_entry_59 hl (by decide) rfl (fun ls hl => ?_)
          refine lv_aload_n hx hb dX10_entry_61 rfl (lv_at hl 1 rfl) ?_
          refine x_getr (k := 0) (k' := 4) E hC hW fl_X10_27 (by decide) rfl rfl dX10_entry_62 ?_
          refine lv_iload hx hb dX10_entry_65 (lv_at hl 0 rfl) ?_
          obtain ⟨hg10, hf⟩ := gdS hf
          refine x_iald (k := 4) E hC hW (by decide) rfl (inbS hg10) dX10_entry_67 ?_
          refine lv_topi (fun x11 ex11 => ?_)
          have hf := bvS hf ex11
          refine lv_istore (lv' := [(6, .int x11), (5, .int x9), (0, .ref (L 0)), (1, .int a1), (2, .int a2), (3, .int a3), (4, .int a4)]) hx hb dX10_entry_68 hl (by decide) rfl (fun ls hl => ?_)
          refine lv_aload_n hx hb dX10_entry_70 rfl (lv_at hl 2 rfl) ?_
          refine x_getr (k := 0) (k' := 4) E hC hW fl_X10_27 (by decide) rfl rfl dX10_entry_71 ?_
          refine lv_iload hx hb dX10_entry_74 (lv_at hl 1 rfl) ?_
          refine lv_iload hx hb dX10_entry_76 (lv_at hl 6 rfl) ?_
          obtain ⟨hg12, hf⟩ := gdS hf
          refine x_iast (k := 4) E hC hW (by decide) rfl (inbS hg12) dX10_entry_78 (fun H locs hW => ?_)
          obtain ⟨S13, eS13⟩ : ∃ z : Sg, z = si S 4 (ix x9) a4 := ⟨_, rfl⟩
          have hW : Wd D cy L shM 20 S13 s H locs := by rw [eS13]; exact hW
          have hf := bvS hf eS13
          refine lv_iload hx hb dX10_entry_79 (lv_at hl 0 rfl) ?_
          exact x_iretI E hC hW hr hlk hQ dX10_entry_81 hf
        · have hf := xt hf c14
          refine lv_bipush (v := (-2)) hx hb dX10_entry_45 (by decide) ?_
          exact x_iretI E hC hW hr hlk hQ dX10_entry_47 hf
