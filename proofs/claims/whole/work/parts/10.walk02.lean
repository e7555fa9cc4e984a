set_option maxRecDepth 100000 in
set_option maxHeartbeats 4000000 in
theorem c_X9_told {l : Launch} {D : va_G} {cy : Nat → ClassId} {L : Nat → Nat} {bA : Nat} (a1 : Int32) (a2 : Int32) (r : Int32) (S S' : Sg)  (hf : f_X9_told a1 a2 S = some (r, S')) : MetX l D cy L shC 52 bA yX9_told cX9_told 3 (some .int) 3 72 [.ref (L 0), .int a1, .int a2] (some (.int r)) S S' := by
  refine x_met (own := RX9) (by decide) rfl (Nat.le_of_ble_eq_true rfl) ?_
  intro p e s m below meth c ls E hC hr hlk hl hW
  generalize hargs : ([.ref (L 0), .int a1, .int a2] : List Value).toArray = args at E ⊢
  generalize hQ : MQ below (xQ D cy L shC 52 bA (some (.int r)) S') args s 0 0 (AL L 52) = Q
  have hl : lv_has ls 3 [(0, .ref (L 0)), (1, .int a1), (2, .int a2)] := hl
  have hx := E.1
  have hb := E.2.1
  have hts := E.2.2.2.2
  unfold f_X9_told at hf
  refine lv_aload_n hx hb dX9_told_0 rfl (lv_at hl 0 rfl) ?_
  refine x_getr (k := 0) (k' := 1) E hC hW fl_X9_12 (by decide) rfl rfl dX9_told_1 ?_
  refine lv_iload_n hx hb dX9_told_4 rfl (lv_at hl 1 rfl) ?_
  obtain ⟨r1, g2, hf⟩ := cl1S hf
  refine x_Vr (k := 1) (As := [.int a1]) (rest := []) E hC hW hl.1 (c_X2_has a1 r1 S g2) cv_X9_114 rfl (by decide) rfl rfl rfl ⟨Nat.le_of_ble_eq_true rfl, Nat.le_of_ble_eq_true rfl⟩ ⟨Nat.le_refl _, Nat.le_refl _⟩ (Nat.le_of_ble_eq_true rfl) dX9_told_5 (fun H locs hW => ?_)
  refine lv_if_ne (tgt := 14) hx hb dX9_told_8 (by decide) (fun c22 => ?_) (fun c22 => ?_)
  · have hf := xf hf c22
    refine lv_iload_n hx hb dX9_told_14 rfl (lv_at hl 2 rfl) ?_
    by_cases c3 : a2 = 0
    · have hf := xt hf c3
      refine lv_tableIn (off := 33) (tgt := 48) hx hb dX9_told_15 (by rw [c3]; decide) (by rw [c3]; decide) (by rw [c3]; rfl) (by decide) ?_
      refine lv_aload_n hx hb dX9_told_48 rfl (lv_at hl 0 rfl) ?_
      refine x_getr (k := 0) (k' := 1) E hC hW fl_X9_12 (by decide) rfl rfl dX9_told_49 ?_
      refine x_getr (k := 1) (k' := 2) E hC hW fl_X9_123 (by decide) rfl rfl dX9_told_52 ?_
      refine lv_iload_n hx hb dX9_told_55 rfl (lv_at hl 1 rfl) ?_
      obtain ⟨hg4, hf⟩ := gdS hf
      refine x_iald (k := 2) E hC hW (by decide) rfl (inbS hg4) dX9_told_56 ?_
      exact x_iretI E hC hW hr hlk hQ dX9_told_57 hf
    · have hf := xf hf c3
      by_cases c5 : a2 = 1
      · have hf := xt hf c5
        refine lv_tableIn (off := 43) (tgt := 58) hx hb dX9_told_15 (by rw [c5]; decide) (by rw [c5]; decide) (by rw [c5]; rfl) (by decide) ?_
        refine lv_aload_n hx hb dX9_told_58 rfl (lv_at hl 0 rfl) ?_
        refine x_getr (k := 0) (k' := 1) E hC hW fl_X9_12 (by decide) rfl rfl dX9_told_59 ?_
        refine x_getr (k := 1) (k' := 3) E hC hW fl_X9_126 (by decide) rfl rfl dX9_told_62 ?_
        refine lv_iload_n hx hb dX9_told_65 rfl (lv_at hl 1 rfl) ?_
        obtain ⟨hg6, hf⟩ := gdS hf
        refine x_iald (k := 3) E hC hW (by decide) rfl (inbS hg6) dX9_told_66 ?_
        exact x_iretI E hC hW hr hlk hQ dX9_told_67 hf
      · have hf := xf hf c5
        by_cases c7 : a2 = 2
        · have hf := xt hf c7
          refine lv_tableIn (off := 53) (tgt := 68) hx hb dX9_told_15 (by rw [c7]; decide) (by rw [c7]; decide) (by rw [c7]; rfl) (by decide) ?_
          refine lv_aload_n hx hb dX9_told_68 rfl (lv_at hl 0 rfl) ?_
          refine x_getr (k := 0) (k' := 1) E hC hW fl_X9_12 (by decide) rfl rfl dX9_told_69 ?_
          refine lv_iload_n hx hb dX9_told_72 rfl (lv_at hl 1 rfl) ?_
          obtain ⟨r8, g9, hf⟩ := cl1S hf
          refine x_Vr (k := 1) (As := [.int a1]) (rest := []) E hC hW hl.1 (c_X2_placeInQueue a1 r8 S g9) cv_X9_129 rfl (by decide) rfl rfl rfl ⟨Nat.le_of_ble_eq_true rfl, Nat.le_of_ble_eq_true rfl⟩ ⟨Nat.le_refl _, Nat.le_refl _⟩ (Nat.le_of_ble_eq_true rfl) dX9_told_73 (fun H locs hW => ?_)
          exact x_iretI E hC hW hr hlk hQ dX9_told_76 hf
        · have hf := xf hf c7
          by_cases c10 : a2 = 3
          · have hf := xt hf c10
            refine lv_tableIn (off := 62) (tgt := 77) hx hb dX9_told_15 (by rw [c10]; decide) (by rw [c10]; decide) (by rw [c10]; rfl) (by decide) ?_
            refine lv_aload_n hx hb dX9_told_77 rfl (lv_at hl 0 rfl) ?_
            refine x_getr (k := 0) (k' := 1) E hC hW fl_X9_12 (by decide) rfl rfl dX9_told_78 ?_
            refine x_getr (k := 1) (k' := 4) E hC hW fl_X9_133 (by decide) rfl rfl dX9_told_81 ?_
            refine lv_iload_n hx hb dX9_told_84 rfl (lv_at hl 1 rfl) ?_
            obtain ⟨hg11, hf⟩ := gdS hf
            refine x_lald (k := 4) E hC hW (by decide) rfl (inbS hg11) dX9_told_85 ?_
            refine lv_lconst (v := 0) hx hb dX9_told_86 (by decide) ?_
            refine W.lcmp hx hb dX9_told_87 ?_
            refine lv_if_ne (tgt := 95) hx hb dX9_told_88 (by decide) (fun c15 => ?_) (fun c15 => ?_)
            · have hf := xf hf c15
              refine lv_aload_n hx hb dX9_told_95 rfl (lv_at hl 0 rfl) ?_
              refine x_getr (k := 0) (k' := 1) E hC hW fl_X9_12 (by decide) rfl rfl dX9_told_96 ?_
              refine lv_aload_n hx hb dX9_told_99 rfl (lv_at hl 0 rfl) ?_
              refine x_getr (k := 0) (k' := 1) E hC hW fl_X9_12 (by decide) rfl rfl dX9_told_100 ?_
              refine x_getr (k := 1) (k' := 4) E hC hW fl_X9_133 (by decide) rfl rfl dX9_told_103 ?_
              refine lv_iload_n hx hb dX9_told_106 rfl (lv_at hl 1 rfl) ?_
              obtain ⟨hg12, hf⟩ := gdS hf
              refine x_lald (k := 4) E hC hW (by decide) rfl (inbS hg12) dX9_told_107 ?_
              obtain ⟨r13, g14, hf⟩ := cl1S hf
              refine x_Vr (k := 1) (As := [.long (S.2 4 (ix a1))]) (rest := []) E hC hW hl.1 (c_X2_namesBelow (S.2 4 (ix a1)) r13 S g14) cv_X9_137 rfl (by decide) rfl rfl rfl ⟨Nat.le_of_ble_eq_true rfl, Nat.le_of_ble_eq_true rfl⟩ ⟨Nat.le_refl _, Nat.le_refl _⟩ (Nat.le_of_ble_eq_true rfl) dX9_told_108 (fun H locs hW => ?_)
              exact x_iretI E hC hW hr hlk hQ dX9_told_111 hf
            · have hf := xt hf c15
              refine lv_iconst (v := (-1)) hx hb dX9_told_91 (by decide) ?_
              refine lv_goto (tgt := 111) hx hb dX9_told_92 (by decide) ?_
              exact x_iretI E hC hW hr hlk hQ dX9_told_111 hf
          · have hf := xf hf c10
            by_cases c16 : a2 = 4
            · have hf := xt hf c16
              refine lv_tableIn (off := 97) (tgt := 112) hx hb dX9_told_15 (by rw [c16]; decide) (by rw [c16]; decide) (by rw [c16]; rfl) (by decide) ?_
              refine lv_aload_n hx hb dX9_told_112 rfl (lv_at hl 0 rfl) ?_
              refine x_getr (k := 0) (k' := 13) E hC hW fl_X9_26 (by decide) rfl rfl dX9_told_113 ?_
              refine lv_aload_n hx hb dX9_told_116 rfl (lv_at hl 0 rfl) ?_
              refine x_getr (k := 0) (k' := 1) E hC hW fl_X9_12 (by decide) rfl rfl dX9_told_117 ?_
              obtain ⟨S18, g17, hf⟩ := cl1S hf
              refine x_Vv (k := 13) (As := [.ref (L 1)]) (rest := []) E hC hW hl.1 (c_X5_fill S S18 g17) cv_X9_141 rfl (by decide) rfl rfl rfl ⟨Nat.le_of_ble_eq_true rfl, Nat.le_of_ble_eq_true rfl⟩ ⟨Nat.le_refl _, Nat.le_refl _⟩ (Nat.le_of_ble_eq_true rfl) dX9_told_120 (fun H locs hW => ?_)
              refine lv_aload_n hx hb dX9_told_123 rfl (lv_at hl 0 rfl) ?_
              refine x_getr (k := 0) (k' := 13) E hC hW fl_X9_26 (by decide) rfl rfl dX9_told_124 ?_
              refine lv_iconst (v := 1) hx hb dX9_told_127 (by decide) ?_
              refine lv_iload_n hx hb dX9_told_128 rfl (lv_at hl 1 rfl) ?_
              refine lv_ishl hx hb dX9_told_129 ?_
              refine lv_iconst (v := 0) hx hb dX9_told_130 (by decide) ?_
              obtain ⟨r19, S21, g20, hf⟩ := clS hf
              refine x_Vr (k := 13) (As := [.int ((1 : Int32) <<< (a1 &&& 31)), .int (0 : Int32)]) (rest := []) E hC hW hl.1 (c_X5_rankOf ((1 : Int32) <<< (a1 &&& 31)) (0 : Int32) r19 S18 S21 g20) cv_X9_145 rfl (by decide) rfl rfl rfl ⟨Nat.le_of_ble_eq_true rfl, Nat.le_of_ble_eq_true rfl⟩ ⟨Nat.le_refl _, Nat.le_refl _⟩ (Nat.le_of_ble_eq_true rfl) dX9_told_131 (fun H locs hW => ?_)
              exact x_iretI E hC hW hr hlk hQ dX9_told_134 hf
            · have hf := xf hf c16
              refine lv_tableOut (tgt := 135) hx hb dX9_told_15 (by have q0 := lv_neT c3 (a := 0) (by decide); have q1 := lv_neT c5 (a := 1) (by decide); have q2 := lv_neT c7 (a := 2) (by decide); have q3 := lv_neT c10 (a := 3) (by decide); have q4 := lv_neT c16 (a := 4) (by decide); omega) (by decide) ?_
              refine lv_bipush (v := (-2)) hx hb dX9_told_135 (by decide) ?_
              exact x_iretI E hC hW hr hlk hQ dX9_told_137 hf
  · have hf := xt hf c22
    refine lv_bipush (v := (-2)) hx hb dX9_told_11 (by decide) ?_
    exact x_iretI E hC hW hr hlk hQ dX9_told_13 hf
set_option maxRecDepth 100000 in
set_option maxHeartbeats 4000000 in
theorem c_X9_number {l : Launch} {D : va_G} {cy : Nat → ClassId} {L : Nat → Nat} {bA : Nat} (a1 : Int32) (a2 : Int32) (a3 : Int32) (r : Int32) (S : Sg)  (hf : f_X9_number a1 a2 a3 S = some r) : MetX l D cy L shC 52 bA yX9_number cX9_number 4 (some .int) 2 49 [.ref (L 0), .int a1, .int a2, .int a3] (some (.int r)) S S := by
  refine x_met (own := RX9) (by decide) rfl (Nat.le_of_ble_eq_true rfl) ?_
  intro p e s m below meth c ls E hC hr hlk hl hW
  generalize hargs : ([.ref (L 0), .int a1, .int a2, .int a3] : List Value).toArray = args at E ⊢
  generalize hQ : MQ below (xQ D cy L shC 52 bA (some (.int r)) S) args s 0 0 (AL L 52) = Q
  have hl : lv_has ls 4 [(0, .ref (L 0)), (1, .int a1), (2, .int a2), (3, .int a3)] := hl
  have hx := E.1
  have hb := E.2.1
  have hts := E.2.2.2.2
  unfold f_X9_number at hf
  refine lv_aload_n hx hb dX9_number_0 rfl (lv_at hl 0 rfl) ?_
  refine x_getr (k := 0) (k' := 1) E hC hW fl_X9_12 (by decide) rfl rfl dX9_number_1 ?_
  refine lv_iload_n hx hb dX9_number_4 rfl (lv_at hl 1 rfl) ?_
  obtain ⟨r1, g2, hf⟩ := cl1S hf
  refine x_Vr (k := 1) (As := [.int a1]) (rest := []) E hC hW hl.1 (c_X2_has a1 r1 S g2) cv_X9_114 rfl (by decide) rfl rfl rfl ⟨Nat.le_of_ble_eq_true rfl, Nat.le_of_ble_eq_true rfl⟩ ⟨Nat.le_refl _, Nat.le_refl _⟩ (Nat.le_of_ble_eq_true rfl) dX9_number_5 (fun H locs hW => ?_)
  refine lv_if_eq (tgt := 33) hx hb dX9_number_8 (by decide) (fun c10 => ?_) (fun c10 => ?_)
  · have hf := xt hf c10
    refine lv_bipush (v := (-2)) hx hb dX9_number_33 (by decide) ?_
    exact x_iretP E hC hW hr hlk hQ dX9_number_35 hf
  · have hf := xf hf c10
    refine lv_iload_n hx hb dX9_number_11 rfl (lv_at hl 2 rfl) ?_
    obtain ⟨r3, g4, hf⟩ := cl1S hf
    refine x_Sr (As := [.int a2]) (rest := []) E hC hW hl.1 (c_X9_isBit a2 r3 S g4) cs_X9_117 rfl rfl ⟨Nat.le_of_ble_eq_true rfl, Nat.le_of_ble_eq_true rfl⟩ ⟨Nat.le_refl _, Nat.le_refl _⟩ (Nat.le_of_ble_eq_true rfl) dX9_number_12 (fun H locs hW => ?_)
    refine lv_if_eq (tgt := 33) hx hb dX9_number_15 (by decide) (fun c9 => ?_) (fun c9 => ?_)
    · have hf := xt hf c9
      refine lv_bipush (v := (-2)) hx hb dX9_number_33 (by decide) ?_
      exact x_iretP E hC hW hr hlk hQ dX9_number_35 hf
    · have hf := xf hf c9
      refine lv_iload_n hx hb dX9_number_18 rfl (lv_at hl 3 rfl) ?_
      refine lv_if_lt (tgt := 33) hx hb dX9_number_19 (by decide) (fun c8 => ?_) (fun c8 => ?_)
      · have hf := xt hf c8
        refine lv_bipush (v := (-2)) hx hb dX9_number_33 (by decide) ?_
        exact x_iretP E hC hW hr hlk hQ dX9_number_35 hf
      · have hf := xf hf c8
        refine lv_iload_n hx hb dX9_number_22 rfl (lv_at hl 3 rfl) ?_
        refine lv_aload_n hx hb dX9_number_23 rfl (lv_at hl 0 rfl) ?_
        refine x_getr (k := 0) (k' := 1) E hC hW fl_X9_12 (by decide) rfl rfl dX9_number_24 ?_
        refine x_geti (k := 1) E hC hW fl_X9_90 (by decide) rfl rfl dX9_number_27 ?_
        refine lv_icmp_lt (tgt := 36) hx hb dX9_number_30 (by decide) (fun c7 => ?_) (fun c7 => ?_)
        · have hf := xt hf c7
          refine lv_aload_n hx hb dX9_number_36 rfl (lv_at hl 0 rfl) ?_
          refine x_getr (k := 0) (k' := 1) E hC hW fl_X9_12 (by decide) rfl rfl dX9_number_37 ?_
          refine lv_iload_n hx hb dX9_number_40 rfl (lv_at hl 1 rfl) ?_
          refine lv_iload_n hx hb dX9_number_41 rfl (lv_at hl 2 rfl) ?_
          refine lv_iload_n hx hb dX9_number_42 rfl (lv_at hl 3 rfl) ?_
          obtain ⟨r5, g6, hf⟩ := cl1S hf
          refine x_Vr (k := 1) (As := [.int a1, .int a2, .int a3]) (rest := []) E hC hW hl.1 (c_X2_rowNumber a1 a2 a3 r5 S g6) cv_X9_148 rfl (by decide) rfl rfl rfl ⟨Nat.le_of_ble_eq_true rfl, Nat.le_of_ble_eq_true rfl⟩ ⟨Nat.le_refl _, Nat.le_refl _⟩ (Nat.le_of_ble_eq_true rfl) dX9_number_43 (fun H locs hW => ?_)
          exact x_iretP E hC hW hr hlk hQ dX9_number_46 hf
        · have hf := xf hf c7
          refine lv_bipush (v := (-2)) hx hb dX9_number_33 (by decide) ?_
          exact x_iretP E hC hW hr hlk hQ dX9_number_35 hf
set_option maxRecDepth 100000 in
set_option maxHeartbeats 4000000 in
theorem c_X9_drop {l : Launch} {D : va_G} {cy : Nat → ClassId} {L : Nat → Nat} {bA : Nat}  (r : Int32) (S S' : Sg)  (hf : f_X9_drop S = some (r, S')) : MetX l D cy L shC 52 bA yX9_drop cX9_drop 1 (some .int) 0 0 [.ref (L 0)] (some (.int r)) S S' := by
  refine x_met (own := RX9) (by decide) rfl (Nat.le_of_ble_eq_true rfl) ?_
  intro p e s m below meth c ls E hC hr hlk hl hW
  generalize hargs : ([.ref (L 0)] : List Value).toArray = args at E ⊢
  generalize hQ : MQ below (xQ D cy L shC 52 bA (some (.int r)) S') args s 0 0 (AL L 52) = Q
  have hl : lv_has ls 1 [(0, .ref (L 0))] := hl
  have hx := E.1
  have hb := E.2.1
  have hts := E.2.2.2.2
  unfold f_X9_drop at hf
  refine lv_aload_n hx hb dX9_drop_0 rfl (lv_at hl 0 rfl) ?_
  refine x_getr (k := 0) (k' := 1) E hC hW fl_X9_12 (by decide) rfl rfl dX9_drop_1 ?_
  refine x_geti (k := 1) E hC hW fl_X9_107 (by decide) rfl rfl dX9_drop_4 ?_
  refine lv_if_ne (tgt := 13) hx hb dX9_drop_7 (by decide) (fun c2 => ?_) (fun c2 => ?_)
  · have hf := xf hf c2
    refine lv_aload_n hx hb dX9_drop_13 rfl (lv_at hl 0 rfl) ?_
    refine x_getr (k := 0) (k' := 1) E hC hW fl_X9_12 (by decide) rfl rfl dX9_drop_14 ?_
    refine lv_dup hx hb dX9_drop_17 rfl ?_
    refine x_geti (k := 1) E hC hW fl_X9_107 (by decide) rfl rfl dX9_drop_18 ?_
    refine lv_iconst (v := 1) hx hb dX9_drop_21 (by decide) ?_
    refine lv_isub hx hb dX9_drop_22 ?_
    refine x_put (k := 1) E hC hW fl_X9_107 pl_2_2 (by decide) rfl rfl rfl rfl dX9_drop_23 (fun H locs hW => ?_)
    obtain ⟨S1, eS1⟩ : ∃ z : Sg, z = si S 1 2 ((S.1 1 2) - (1 : Int32)) := ⟨_, rfl⟩
    have hW : Wd D cy L shC 52 S1 s H locs := by rw [eS1]; exact hW
    have hf := bvS hf eS1
    refine lv_aload_n hx hb dX9_drop_26 rfl (lv_at hl 0 rfl) ?_
    refine x_getr (k := 0) (k' := 1) E hC hW fl_X9_12 (by decide) rfl rfl dX9_drop_27 ?_
    refine x_geti (k := 1) E hC hW fl_X9_107 (by decide) rfl rfl dX9_drop_30 ?_
    exact x_iretI E hC hW hr hlk hQ dX9_drop_33 hf
  · have hf := xt hf c2
    refine lv_bipush (v := (-3)) hx hb dX9_drop_10 (by decide) ?_
    exact x_iretI E hC hW hr hlk hQ dX9_drop_12 hf
set_option maxRecDepth 100000 in
set_option maxHeartbeats 4000000 in
theorem c_X9_isName {l : Launch} {D : va_G} {cy : Nat → ClassId} {L : Nat → Nat} {bA : Nat} (a0 : Int64) (r : Int32) (S : Sg)  (hf : f_X9_isName a0 = some r) : MetX l D cy L shC 52 bA yX9_isName cX9_isName 5 (some .boolean) 0 0 [.long a0] (some (.int r)) S S := by
  refine x_met (own := RX9) (by decide) rfl (Nat.le_of_ble_eq_true rfl) ?_
  intro p e s m below meth c ls E hC hr hlk hl hW
  generalize hargs : ([.long a0] : List Value).toArray = args at E ⊢
  generalize hQ : MQ below (xQ D cy L shC 52 bA (some (.int r)) S) args s 0 0 (AL L 52) = Q
  have hl : lv_has ls 5 [(0, .long a0)] := hl
  have hx := E.1
  have hb := E.2.1
  have hts := E.2.2.2.2
  unfold f_X9_isName at hf
  refine lv_iconst (v := 0) hx hb dX9_isName_0 (by decide) ?_
  refine lv_istore_n (lv' := [(2, .int (0 : Int32)), (0, .long a0)]) hx hb dX9_isName_1 rfl hl (by decide) rfl (fun ls hl => ?_)
  refine lv_bipush (v := 56) hx hb dX9_isName_2 (by decide) ?_
  refine lv_istore_n (lv' := [(3, .int (56 : Int32)), (2, .int (0 : Int32)), (0, .long a0)]) hx hb dX9_isName_4 rfl hl (by decide) rfl (fun ls hl => ?_)
  refine wp2K hf (fun (v4 : Int32) (v5 : Int32) => ∀ (H : Heap) (locs : List Loc) (ls : Array Slot), lv_has ls 5 [(0, .long a0), (2, .int v4), (3, .int v5)] → Wd D cy L shC 52 S s H locs → W p l e (rmk 0 0) s m args below meth c H locs 0 0 Q (F0 m 5 ls [])) (fun (j : Int32 → Option (Int32)) => ∀ (v1 : Int32), (j v1) = some r → ∀ (H : Heap) (locs : List Loc) (ls : Array Slot), lv_has ls 5 [(0, .long a0), (2, .int v1)] → Wd D cy L shC 52 S s H locs → W p l e (rmk 0 0) s m args below meth c H locs 0 0 Q (F0 m 55 ls [])) ?_ ?_ _ _ _ (lv_sub hl [2, 1, 0] rfl) hW
  · intro v1 hf H locs ls hl hW
    try dsimp only at hf
    refine lv_iload_n hx hb dX9_isName_55 rfl (lv_at hl 1 rfl) ?_
    refine lv_if_eq (tgt := 69) hx hb dX9_isName_56 (by decide) (fun c3 => ?_) (fun c3 => ?_)
    · have hf := xt hf c3
      refine lv_iconst (v := 0) hx hb dX9_isName_69 (by decide) ?_
      exact x_zretP E hC hW hr hlk hQ (by decide) dX9_isName_70 hf
    · have hf := xf hf c3
      refine lv_lload_n hx hb dX9_isName_59 rfl (lv_at hl 0 rfl) ?_
      refine lv_lconst (v := 0) hx hb dX9_isName_60 (by decide) ?_
      refine W.lcmp hx hb dX9_isName_61 ?_
      refine lv_if_eq (tgt := 69) hx hb dX9_isName_62 (by decide) (fun c2 => ?_) (fun c2 => ?_)
      · have hf := xt hf c2
        refine lv_iconst (v := 0) hx hb dX9_isName_69 (by decide) ?_
        exact x_zretP E hC hW hr hlk hQ (by decide) dX9_isName_70 hf
      · have hf := xf hf c2
        refine lv_iconst (v := 1) hx hb dX9_isName_65 (by decide) ?_
        refine lv_goto (tgt := 70) hx hb dX9_isName_66 (by decide) ?_
        exact x_zretP E hC hW hr hlk hQ (by decide) dX9_isName_70 hf
  · intro k55 K55 self5 ih5 v4 v5 hf H locs ls hl hW
    unfold X9_isName_L5 at hf
    refine lv_iload_n hx hb dX9_isName_5 rfl (lv_at hl 2 rfl) ?_
    refine lv_if_lt (tgt := 55) hx hb dX9_isName_6 (by decide) (fun c13 => ?_) (fun c13 => ?_)
    · have hf := xt hf c13
      exact K55 _ hf _ _ _ (lv_sub hl [0, 1] rfl) hW
    · have hf := xf hf c13
      refine lv_lload_n hx hb dX9_isName_9 rfl (lv_at hl 0 rfl) ?_
      refine lv_iload_n hx hb dX9_isName_10 rfl (lv_at hl 2 rfl) ?_
      refine lv_lushr (v := lush a0 v5) hx hb dX9_isName_11 rfl ?_
      refine lv_ldc2 hx hb E.2.2.2.1 (hts _ ww_453) dX9_isName_12 ?_
      refine lv_land hx hb dX9_isName_15 ?_
      refine lv_l2i hx hb dX9_isName_16 rfl ?_
      refine lv_topi (fun x6 ex6 => ?_)
      have hf := bvS hf ex6
      refine lv_istore (lv' := [(4, .int x6), (0, .long a0), (2, .int v4), (3, .int v5)]) hx hb dX9_isName_17 hl (by decide) rfl (fun ls hl => ?_)
      refine lv_iload hx hb dX9_isName_19 (lv_at hl 0 rfl) ?_
      refine jnS hf (fun (j : Int32 → Option (Int32)) => ∀ (v7 : Int32), (j v7) = some r → ∀ (H : Heap) (locs : List Loc) (ls : Array Slot), lv_has ls 5 [(0, .long a0), (2, .int v7), (3, .int v5)] → Wd D cy L shC 52 S s H locs → W p l e (rmk 0 0) s m args below meth c H locs 0 0 Q (F0 m 49 ls [])) ?_ ?_
      · intro v7 hf H locs ls hl hW
        try dsimp only at hf
        obtain ⟨x8, ex8⟩ : ∃ z : Int32, z = (v5 + (-8)) := ⟨_, rfl⟩
        have hf := bvS hf ex8
        refine lv_iinc (v := x8) (lv' := [(3, .int x8), (0, .long a0), (2, .int v7)]) hx hb dX9_isName_49 hl (k := 2) rfl (by rw [ex8]; rfl) (by decide) rfl (fun ls hl => ?_)
        refine lv_goto (tgt := 5) hx hb dX9_isName_52 (by decide) ?_
        exact ih5 _ _ hf _ _ _ (lv_sub hl [1, 2, 0] rfl) hW
      intro j49 J49 hf
      refine lv_if_ne (tgt := 29) hx hb dX9_isName_21 (by decide) (fun c12 => ?_) (fun c12 => ?_)
      · have hf := xf hf c12
        refine lv_iload_n hx hb dX9_isName_29 rfl (lv_at hl 2 rfl) ?_
        refine lv_if_ne (tgt := 47) hx hb dX9_isName_30 (by decide) (fun c11 => ?_) (fun c11 => ?_)
        · have hf := xf hf c11
          refine lv_iconst (v := 0) hx hb dX9_isName_47 (by decide) ?_
          exact x_zretP E hC hW hr hlk hQ (by decide) dX9_isName_48 hf
        · have hf := xt hf c11
          refine lv_iload hx hb dX9_isName_33 (lv_at hl 0 rfl) ?_
          refine lv_bipush (v := 97) hx hb dX9_isName_35 (by decide) ?_
          refine lv_icmp_lt (tgt := 47) hx hb dX9_isName_37 (by decide) (fun c10 => ?_) (fun c10 => ?_)
          · have hf := xt hf c10
            refine lv_iconst (v := 0) hx hb dX9_isName_47 (by decide) ?_
            exact x_zretP E hC hW hr hlk hQ (by decide) dX9_isName_48 hf
          · have hf := xf hf c10
            refine lv_iload hx hb dX9_isName_40 (lv_at hl 0 rfl) ?_
            refine lv_bipush (v := 122) hx hb dX9_isName_42 (by decide) ?_
            refine lv_icmp_le (tgt := 49) hx hb dX9_isName_44 (by decide) (fun c9 => ?_) (fun c9 => ?_)
            · have hf := xt hf c9
              exact J49 _ hf _ _ _ (lv_sub hl [1, 2, 3] rfl) hW
            · have hf := xf hf c9
              refine lv_iconst (v := 0) hx hb dX9_isName_47 (by decide) ?_
              exact x_zretP E hC hW hr hlk hQ (by decide) dX9_isName_48 hf
      · have hf := xt hf c12
        refine lv_iconst (v := 1) hx hb dX9_isName_24 (by decide) ?_
        refine lv_istore_n (lv' := [(2, .int (1 : Int32)), (4, .int x6), (0, .long a0), (3, .int v5)]) hx hb dX9_isName_25 rfl hl (by decide) rfl (fun ls hl => ?_)
        refine lv_goto (tgt := 49) hx hb dX9_isName_26 (by decide) ?_
        exact J49 _ hf _ _ _ (lv_sub hl [2, 0, 3] rfl) hW
set_option maxRecDepth 100000 in
set_option maxHeartbeats 4000000 in
theorem c_X2_ownerOf {l : Launch} {D : va_G} {cy : Nat → ClassId} {L : Nat → Nat} {bA : Nat} (a1 : Int64) (r : Int32) (S : Sg)  (hf : f_X2_ownerOf a1 S = some r) : MetX l D cy L shC 52 bA yX2_ownerOf cX2_ownerOf 4 (some .int) 0 0 [.ref (L 1), .long a1] (some (.int r)) S S := by
  refine x_met (own := RX2) (by decide) rfl (Nat.le_of_ble_eq_true rfl) ?_
  intro p e s m below meth c ls E hC hr hlk hl hW
  generalize hargs : ([.ref (L 1), .long a1] : List Value).toArray = args at E ⊢
  generalize hQ : MQ below (xQ D cy L shC 52 bA (some (.int r)) S) args s 0 0 (AL L 52) = Q
  have hl : lv_has ls 4 [(0, .ref (L 1)), (1, .long a1)] := hl
  have hx := E.1
  have hb := E.2.1
  have hts := E.2.2.2.2
  unfold f_X2_ownerOf at hf
  refine lv_iconst (v := 0) hx hb dX2_ownerOf_0 (by decide) ?_
  refine lv_istore_n (lv' := [(3, .int (0 : Int32)), (0, .ref (L 1)), (1, .long a1)]) hx hb dX2_ownerOf_1 rfl hl (by decide) rfl (fun ls hl => ?_)
  refine wp1S (fun (v1 : Int32) => ∀ (H : Heap) (locs : List Loc) (ls : Array Slot), lv_has ls 4 [(0, .ref (L 1)), (1, .long a1), (3, .int v1)] → Wd D cy L shC 52 S s H locs → W p l e (rmk 0 0) s m args below meth c H locs 0 0 Q (F0 m 2 ls [])) ?_ hf _ _ _ (lv_sub hl [1, 2, 0] rfl) hW
  · intro self2 ih2 v1 hf H locs ls hl hW
    unfold X2_ownerOf_L2 at hf
    refine lv_iload_n hx hb dX2_ownerOf_2 rfl (lv_at hl 2 rfl) ?_
    refine lv_aload_n hx hb dX2_ownerOf_3 rfl (lv_at hl 0 rfl) ?_
    refine x_geti (k := 1) E hC hW fl_X2_18 (by decide) rfl rfl dX2_ownerOf_4 ?_
    refine lv_icmp_ge (tgt := 29) hx hb dX2_ownerOf_7 (by decide) (fun c5 => ?_) (fun c5 => ?_)
    · have hf := xt hf c5
      refine lv_iconst (v := (-1)) hx hb dX2_ownerOf_29 (by decide) ?_
      exact x_iretP E hC hW hr hlk hQ dX2_ownerOf_30 hf
    · have hf := xf hf c5
      refine lv_aload_n hx hb dX2_ownerOf_10 rfl (lv_at hl 0 rfl) ?_
      refine x_getr (k := 1) (k' := 4) E hC hW fl_X2_28 (by decide) rfl rfl dX2_ownerOf_11 ?_
      refine lv_iload_n hx hb dX2_ownerOf_14 rfl (lv_at hl 2 rfl) ?_
      obtain ⟨hg2, hf⟩ := gdS hf
      refine x_lald (k := 4) E hC hW (by decide) rfl (inbS hg2) dX2_ownerOf_15 ?_
      refine lv_lload_n hx hb dX2_ownerOf_16 rfl (lv_at hl 1 rfl) ?_
      refine W.lcmp hx hb dX2_ownerOf_17 ?_
      refine lv_if_ne (tgt := 23) hx hb dX2_ownerOf_18 (by decide) (fun c4 => ?_) (fun c4 => ?_)
      · have hf := xf hf c4
        obtain ⟨x3, ex3⟩ : ∃ z : Int32, z = (v1 + 1) := ⟨_, rfl⟩
        have hf := bvS hf ex3
        refine lv_iinc (v := x3) (lv' := [(3, .int x3), (0, .ref (L 1)), (1, .long a1)]) hx hb dX2_ownerOf_23 hl (k := 2) rfl (by rw [ex3]; rfl) (by decide) rfl (fun ls hl => ?_)
        refine lv_goto (tgt := 2) hx hb dX2_ownerOf_26 (by decide) ?_
        exact ih2 _ hf _ _ _ (lv_sub hl [1, 2, 0] rfl) hW
      · have hf := xt hf c4
        refine lv_iload_n hx hb dX2_ownerOf_21 rfl (lv_at hl 2 rfl) ?_
        exact x_iretP E hC hW hr hlk hQ dX2_ownerOf_22 hf
set_option maxRecDepth 100000 in
set_option maxHeartbeats 4000000 in
theorem c_X9_name {l : Launch} {D : va_G} {cy : Nat → ClassId} {L : Nat → Nat} {bA : Nat} (a1 : Int32) (a2 : Int64) (r : Int32) (S S' : Sg)  (hf : f_X9_name a1 a2 S = some (r, S')) : MetX l D cy L shC 52 bA yX9_name cX9_name 5 (some .int) 1 24 [.ref (L 0), .int a1, .long a2] (some (.int r)) S S' := by
  refine x_met (own := RX9) (by decide) rfl (Nat.le_of_ble_eq_true rfl) ?_
  intro p e s m below meth c ls E hC hr hlk hl hW
  generalize hargs : ([.ref (L 0), .int a1, .long a2] : List Value).toArray = args at E ⊢
  generalize hQ : MQ below (xQ D cy L shC 52 bA (some (.int r)) S') args s 0 0 (AL L 52) = Q
  have hl : lv_has ls 5 [(0, .ref (L 0)), (1, .int a1), (2, .long a2)] := hl
  have hx := E.1
  have hb := E.2.1
  have hts := E.2.2.2.2
  unfold f_X9_name at hf
  refine lv_aload_n hx hb dX9_name_0 rfl (lv_at hl 0 rfl) ?_
  refine x_getr (k := 0) (k' := 1) E hC hW fl_X9_12 (by decide) rfl rfl dX9_name_1 ?_
  refine lv_iload_n hx hb dX9_name_4 rfl (lv_at hl 1 rfl) ?_
  obtain ⟨r1, g2, hf⟩ := cl1S hf
  refine x_Vr (k := 1) (As := [.int a1]) (rest := []) E hC hW hl.1 (c_X2_has a1 r1 S g2) cv_X9_114 rfl (by decide) rfl rfl rfl ⟨Nat.le_of_ble_eq_true rfl, Nat.le_of_ble_eq_true rfl⟩ ⟨Nat.le_refl _, Nat.le_refl _⟩ (Nat.le_of_ble_eq_true rfl) dX9_name_5 (fun H locs hW => ?_)
  refine lv_if_eq (tgt := 18) hx hb dX9_name_8 (by decide) (fun c12 => ?_) (fun c12 => ?_)
  · have hf := xt hf c12
    refine lv_bipush (v := (-2)) hx hb dX9_name_18 (by decide) ?_
    exact x_iretI E hC hW hr hlk hQ dX9_name_20 hf
  · have hf := xf hf c12
    refine lv_lload_n hx hb dX9_name_11 rfl (lv_at hl 2 rfl) ?_
    obtain ⟨r3, g4, hf⟩ := cl1S hf
    refine x_Sr (As := [.long a2]) (rest := []) E hC hW hl.1 (c_X9_isName a2 r3 S g4) cs_X9_151 rfl rfl ⟨Nat.le_of_ble_eq_true rfl, Nat.le_of_ble_eq_true rfl⟩ ⟨Nat.le_refl _, Nat.le_refl _⟩ (Nat.le_of_ble_eq_true rfl) dX9_name_12 (fun H locs hW => ?_)
    refine lv_if_ne (tgt := 21) hx hb dX9_name_15 (by decide) (fun c11 => ?_) (fun c11 => ?_)
    · have hf := xf hf c11
      refine lv_aload_n hx hb dX9_name_21 rfl (lv_at hl 0 rfl) ?_
      refine x_getr (k := 0) (k' := 1) E hC hW fl_X9_12 (by decide) rfl rfl dX9_name_22 ?_
      refine lv_lload_n hx hb dX9_name_25 rfl (lv_at hl 2 rfl) ?_
      obtain ⟨r5, g6, hf⟩ := cl1S hf
      refine x_Vr (k := 1) (As := [.long a2]) (rest := []) E hC hW hl.1 (c_X2_ownerOf a2 r5 S g6) cv_X9_155 rfl (by decide) rfl rfl rfl ⟨Nat.le_of_ble_eq_true rfl, Nat.le_of_ble_eq_true rfl⟩ ⟨Nat.le_refl _, Nat.le_refl _⟩ (Nat.le_of_ble_eq_true rfl) dX9_name_26 (fun H locs hW => ?_)
      refine lv_istore (lv' := [(4, .int r5), (0, .ref (L 0)), (1, .int a1), (2, .long a2)]) hx hb dX9_name_29 hl (by decide) rfl (fun ls hl => ?_)
      refine lv_iload hx hb dX9_name_31 (lv_at hl 0 rfl) ?_
      refine lv_iconst (v := (-1)) hx hb dX9_name_33 (by decide) ?_
      refine jnS hf (fun (j : Option (Int32 × Sg)) => (j) = some (r, S') → ∀ (H : Heap) (locs : List Loc) (ls : Array Slot), lv_has ls 5 [(0, .ref (L 0)), (1, .int a1), (2, .long a2)] → Wd D cy L shC 52 S s H locs → W p l e (rmk 1 24) s m args below meth c H locs 0 0 Q (F0 m 46 ls [])) ?_ ?_
      · intro hf H locs ls hl hW
        try dsimp only at hf
        refine lv_aload_n hx hb dX9_name_46 rfl (lv_at hl 0 rfl) ?_
        refine x_getr (k := 0) (k' := 1) E hC hW fl_X9_12 (by decide) rfl rfl dX9_name_47 ?_
        refine x_getr (k := 1) (k' := 4) E hC hW fl_X9_133 (by decide) rfl rfl dX9_name_50 ?_
        refine lv_iload_n hx hb dX9_name_53 rfl (lv_at hl 1 rfl) ?_
        refine lv_lload_n hx hb dX9_name_54 rfl (lv_at hl 2 rfl) ?_
        obtain ⟨hg7, hf⟩ := gdS hf
        refine x_last (k := 4) E hC hW (by decide) rfl (inbS hg7) dX9_name_55 (fun H locs hW => ?_)
        obtain ⟨S8, eS8⟩ : ∃ z : Sg, z = sl S 4 (ix a1) a2 := ⟨_, rfl⟩
        have hW : Wd D cy L shC 52 S8 s H locs := by rw [eS8]; exact hW
        have hf := bvS hf eS8
        refine lv_iconst (v := 1) hx hb dX9_name_56 (by decide) ?_
        exact x_iretI E hC hW hr hlk hQ dX9_name_57 hf
      intro j46 J46 hf
      refine lv_icmp_eq (tgt := 46) hx hb dX9_name_34 (by decide) (fun c10 => ?_) (fun c10 => ?_)
      · have hf := xt hf c10
        exact J46 hf _ _ _ (lv_sub hl [1, 2, 3] rfl) hW
      · have hf := xf hf c10
        refine lv_iload hx hb dX9_name_37 (lv_at hl 0 rfl) ?_
        refine lv_iload_n hx hb dX9_name_39 rfl (lv_at hl 2 rfl) ?_
        refine lv_icmp_eq (tgt := 46) hx hb dX9_name_40 (by decide) (fun c9 => ?_) (fun c9 => ?_)
        · have hf := xt hf c9
          exact J46 hf _ _ _ (lv_sub hl [1, 2, 3] rfl) hW
        · have hf := xf hf c9
          refine lv_bipush (v := (-3)) hx hb dX9_name_43 (by decide) ?_
          exact x_iretI E hC hW hr hlk hQ dX9_name_45 hf
    · have hf := xt hf c11
      refine lv_bipush (v := (-2)) hx hb dX9_name_18 (by decide) ?_
      exact x_iretI E hC hW hr hlk hQ dX9_name_20 hf
set_option maxRecDepth 100000 in
set_option maxHeartbeats 4000000 in
theorem c_X9_named {l : Launch} {D : va_G} {cy : Nat → ClassId} {L : Nat → Nat} {bA : Nat} (a1 : Int64) (r : Int32) (S : Sg)  (hf : f_X9_named a1 S = some r) : MetX l D cy L shC 52 bA yX9_named cX9_named 3 (some .int) 1 24 [.ref (L 0), .long a1] (some (.int r)) S S := by
  refine x_met (own := RX9) (by decide) rfl (Nat.le_of_ble_eq_true rfl) ?_
  intro p e s m below meth c ls E hC hr hlk hl hW
  generalize hargs : ([.ref (L 0), .long a1] : List Value).toArray = args at E ⊢
  generalize hQ : MQ below (xQ D cy L shC 52 bA (some (.int r)) S) args s 0 0 (AL L 52) = Q
  have hl : lv_has ls 3 [(0, .ref (L 0)), (1, .long a1)] := hl
  have hx := E.1
  have hb := E.2.1
  have hts := E.2.2.2.2
  unfold f_X9_named at hf
  refine lv_lload_n hx hb dX9_named_0 rfl (lv_at hl 1 rfl) ?_
  obtain ⟨r1, g2, hf⟩ := cl1S hf
  refine x_Sr (As := [.long a1]) (rest := []) E hC hW hl.1 (c_X9_isName a1 r1 S g2) cs_X9_151 rfl rfl ⟨Nat.le_of_ble_eq_true rfl, Nat.le_of_ble_eq_true rfl⟩ ⟨Nat.le_refl _, Nat.le_refl _⟩ (Nat.le_of_ble_eq_true rfl) dX9_named_1 (fun H locs hW => ?_)
  refine lv_if_eq (tgt := 18) hx hb dX9_named_4 (by decide) (fun c5 => ?_) (fun c5 => ?_)
  · have hf := xt hf c5
    refine lv_bipush (v := (-2)) hx hb dX9_named_18 (by decide) ?_
    exact x_iretP E hC hW hr hlk hQ dX9_named_20 hf
  · have hf := xf hf c5
    refine lv_aload_n hx hb dX9_named_7 rfl (lv_at hl 0 rfl) ?_
    refine x_getr (k := 0) (k' := 1) E hC hW fl_X9_12 (by decide) rfl rfl dX9_named_8 ?_
    refine lv_lload_n hx hb dX9_named_11 rfl (lv_at hl 1 rfl) ?_
    obtain ⟨r3, g4, hf⟩ := cl1S hf
    refine x_Vr (k := 1) (As := [.long a1]) (rest := []) E hC hW hl.1 (c_X2_ownerOf a1 r3 S g4) cv_X9_155 rfl (by decide) rfl rfl rfl ⟨Nat.le_of_ble_eq_true rfl, Nat.le_of_ble_eq_true rfl⟩ ⟨Nat.le_refl _, Nat.le_refl _⟩ (Nat.le_of_ble_eq_true rfl) dX9_named_12 (fun H locs hW => ?_)
    refine lv_goto (tgt := 20) hx hb dX9_named_15 (by decide) ?_
    exact x_iretP E hC hW hr hlk hQ dX9_named_20 hf
set_option maxRecDepth 100000 in
set_option maxHeartbeats 4000000 in
theorem c_X9_unname {l : Launch} {D : va_G} {cy : Nat → ClassId} {L : Nat → Nat} {bA : Nat} (a1 : Int32) (r : Int32) (S S' : Sg)  (hf : f_X9_unname a1 S = some (r, S')) : MetX l D cy L shC 52 bA yX9_unname cX9_unname 3 (some .int) 1 21 [.ref (L 0), .int a1] (some (.int r)) S S' := by
  refine x_met (own := RX9) (by decide) rfl (Nat.le_of_ble_eq_true rfl) ?_
  intro p e s m below meth c ls E hC hr hlk hl hW
  generalize hargs : ([.ref (L 0), .int a1] : List Value).toArray = args at E ⊢
  generalize hQ : MQ below (xQ D cy L shC 52 bA (some (.int r)) S') args s 0 0 (AL L 52) = Q
  have hl : lv_has ls 3 [(0, .ref (L 0)), (1, .int a1)] := hl
  have hx := E.1
  have hb := E.2.1
  have hts := E.2.2.2.2
  unfold f_X9_unname at hf
  refine lv_aload_n hx hb dX9_unname_0 rfl (lv_at hl 0 rfl) ?_
  refine x_getr (k := 0) (k' := 1) E hC hW fl_X9_12 (by decide) rfl rfl dX9_unname_1 ?_
  refine lv_iload_n hx hb dX9_unname_4 rfl (lv_at hl 1 rfl) ?_
  obtain ⟨r1, g2, hf⟩ := cl1S hf
  refine x_Vr (k := 1) (As := [.int a1]) (rest := []) E hC hW hl.1 (c_X2_has a1 r1 S g2) cv_X9_114 rfl (by decide) rfl rfl rfl ⟨Nat.le_of_ble_eq_true rfl, Nat.le_of_ble_eq_true rfl⟩ ⟨Nat.le_refl _, Nat.le_refl _⟩ (Nat.le_of_ble_eq_true rfl) dX9_unname_5 (fun H locs hW => ?_)
  refine lv_if_ne (tgt := 14) hx hb dX9_unname_8 (by decide) (fun c8 => ?_) (fun c8 => ?_)
  · have hf := xf hf c8
    refine lv_aload_n hx hb dX9_unname_14 rfl (lv_at hl 0 rfl) ?_
    refine x_getr (k := 0) (k' := 1) E hC hW fl_X9_12 (by decide) rfl rfl dX9_unname_15 ?_
    refine x_getr (k := 1) (k' := 4) E hC hW fl_X9_133 (by decide) rfl rfl dX9_unname_18 ?_
    refine lv_iload_n hx hb dX9_unname_21 rfl (lv_at hl 1 rfl) ?_
    obtain ⟨hg3, hf⟩ := gdS hf
    refine x_lald (k := 4) E hC hW (by decide) rfl (inbS hg3) dX9_unname_22 ?_
    refine lv_lconst (v := 0) hx hb dX9_unname_23 (by decide) ?_
    refine W.lcmp hx hb dX9_unname_24 ?_
    refine jnS hf (fun (j : Int32 → Option (Int32 × Sg)) => ∀ (x4 : Int32), (j x4) = some (r, S') → ∀ (H : Heap) (locs : List Loc) (ls : Array Slot), lv_has ls 3 [(0, .ref (L 0)), (1, .int a1)] → Wd D cy L shC 52 S s H locs → W p l e (rmk 1 21) s m args below meth c H locs 0 0 Q (F0 m 33 ls [.int x4])) ?_ ?_
    · intro x4 hf H locs ls hl hW
      try dsimp only at hf
      refine lv_istore_n (lv' := [(2, .int x4), (0, .ref (L 0)), (1, .int a1)]) hx hb dX9_unname_33 rfl hl (by decide) rfl (fun ls hl => ?_)
      refine lv_aload_n hx hb dX9_unname_34 rfl (lv_at hl 1 rfl) ?_
      refine x_getr (k := 0) (k' := 1) E hC hW fl_X9_12 (by decide) rfl rfl dX9_unname_35 ?_
      refine x_getr (k := 1) (k' := 4) E hC hW fl_X9_133 (by decide) rfl rfl dX9_unname_38 ?_
      refine lv_iload_n hx hb dX9_unname_41 rfl (lv_at hl 2 rfl) ?_
      refine lv_lconst (v := 0) hx hb dX9_unname_42 (by decide) ?_
      obtain ⟨hg5, hf⟩ := gdS hf
      refine x_last (k := 4) E hC hW (by decide) rfl (inbS hg5) dX9_unname_43 (fun H locs hW => ?_)
      obtain ⟨S6, eS6⟩ : ∃ z : Sg, z = sl S 4 (ix a1) (0 : Int64) := ⟨_, rfl⟩
      have hW : Wd D cy L shC 52 S6 s H locs := by rw [eS6]; exact hW
      have hf := bvS hf eS6
      refine lv_iload_n hx hb dX9_unname_44 rfl (lv_at hl 0 rfl) ?_
      exact x_iretI E hC hW hr hlk hQ dX9_unname_45 hf
    intro j33 J33 hf
    refine lv_if_ne (tgt := 32) hx hb dX9_unname_25 (by decide) (fun c7 => ?_) (fun c7 => ?_)
    · have hf := xf hf c7
      refine lv_iconst (v := 1) hx hb dX9_unname_32 (by decide) ?_
      exact J33 _ hf _ _ _ (lv_sub hl [0, 1] rfl) hW
    · have hf := xt hf c7
      refine lv_iconst (v := 0) hx hb dX9_unname_28 (by decide) ?_
      refine lv_goto (tgt := 33) hx hb dX9_unname_29 (by decide) ?_
      exact J33 _ hf _ _ _ (lv_sub hl [0, 1] rfl) hW
  · have hf := xt hf c8
    refine lv_bipush (v := (-2)) hx hb dX9_unname_11 (by decide) ?_
    exact x_iretI E hC hW hr hlk hQ dX9_unname_13 hf
set_option maxRecDepth 100000 in
set_option maxHeartbeats 4000000 in
theorem c_X9_nameAt {l : Launch} {D : va_G} {cy : Nat → ClassId} {L : Nat → Nat} {bA : Nat} (a1 : Int32) (r : Int64) (S : Sg)  (hf : f_X9_nameAt a1 S = some r) : MetX l D cy L shC 52 bA yX9_nameAt cX9_nameAt 5 (some .long) 1 24 [.ref (L 0), .int a1] (some (.long r)) S S := by
  refine x_met (own := RX9) (by decide) rfl (Nat.le_of_ble_eq_true rfl) ?_
  intro p e s m below meth c ls E hC hr hlk hl hW
  generalize hargs : ([.ref (L 0), .int a1] : List Value).toArray = args at E ⊢
  generalize hQ : MQ below (xQ D cy L shC 52 bA (some (.long r)) S) args s 0 0 (AL L 52) = Q
  have hl : lv_has ls 5 [(0, .ref (L 0)), (1, .int a1)] := hl
  have hx := E.1
  have hb := E.2.1
  have hts := E.2.2.2.2
  unfold f_X9_nameAt at hf
  refine lv_iconst (v := 0) hx hb dX9_nameAt_0 (by decide) ?_
  refine lv_istore_n (lv' := [(2, .int (0 : Int32)), (0, .ref (L 0)), (1, .int a1)]) hx hb dX9_nameAt_1 rfl hl (by decide) rfl (fun ls hl => ?_)
  refine wp1S (fun (v1 : Int32) => ∀ (H : Heap) (locs : List Loc) (ls : Array Slot), lv_has ls 5 [(0, .ref (L 0)), (1, .int a1), (2, .int v1)] → Wd D cy L shC 52 S s H locs → W p l e (rmk 1 24) s m args below meth c H locs 0 0 Q (F0 m 2 ls [])) ?_ hf _ _ _ (lv_sub hl [1, 2, 0] rfl) hW
  · intro self2 ih2 v1 hf H locs ls hl hW
    unfold X9_nameAt_L2 at hf
    refine lv_iload_n hx hb dX9_nameAt_2 rfl (lv_at hl 2 rfl) ?_
    refine lv_aload_n hx hb dX9_nameAt_3 rfl (lv_at hl 0 rfl) ?_
    refine x_getr (k := 0) (k' := 1) E hC hW fl_X9_12 (by decide) rfl rfl dX9_nameAt_4 ?_
    refine x_geti (k := 1) E hC hW fl_X9_107 (by decide) rfl rfl dX9_nameAt_7 ?_
    refine lv_icmp_ge (tgt := 49) hx hb dX9_nameAt_10 (by decide) (fun c9 => ?_) (fun c9 => ?_)
    · have hf := xt hf c9
      refine lv_ldc2 hx hb E.2.2.2.1 (hts _ ww_470) dX9_nameAt_49 ?_
      exact x_lretP E hC hW hr hlk hQ dX9_nameAt_52 hf
    · have hf := xf hf c9
      refine lv_aload_n hx hb dX9_nameAt_13 rfl (lv_at hl 0 rfl) ?_
      refine x_getr (k := 0) (k' := 1) E hC hW fl_X9_12 (by decide) rfl rfl dX9_nameAt_14 ?_
      refine x_getr (k := 1) (k' := 4) E hC hW fl_X9_133 (by decide) rfl rfl dX9_nameAt_17 ?_
      refine lv_iload_n hx hb dX9_nameAt_20 rfl (lv_at hl 2 rfl) ?_
      obtain ⟨hg2, hf⟩ := gdS hf
      refine x_lald (k := 4) E hC hW (by decide) rfl (inbS hg2) dX9_nameAt_21 ?_
      refine lv_topl (fun x3 ex3 => ?_)
      have hf := bvS hf ex3
      refine lv_lstore_n (lv' := [(3, .long x3), (0, .ref (L 0)), (1, .int a1), (2, .int v1)]) hx hb dX9_nameAt_22 rfl hl (by decide) rfl (fun ls hl => ?_)
      refine lv_lload_n hx hb dX9_nameAt_23 rfl (lv_at hl 0 rfl) ?_
      refine lv_lconst (v := 0) hx hb dX9_nameAt_24 (by decide) ?_
      refine W.lcmp hx hb dX9_nameAt_25 ?_
      refine jnS hf (fun (j : Option (Int64)) => (j) = some r → ∀ (H : Heap) (locs : List Loc) (ls : Array Slot), lv_has ls 5 [(0, .ref (L 0)), (1, .int a1), (2, .int v1)] → Wd D cy L shC 52 S s H locs → W p l e (rmk 1 24) s m args below meth c H locs 0 0 Q (F0 m 43 ls [])) ?_ ?_
      · intro hf H locs ls hl hW
        try dsimp only at hf
        obtain ⟨x4, ex4⟩ : ∃ z : Int32, z = (v1 + 1) := ⟨_, rfl⟩
        have hf := bvS hf ex4
        refine lv_iinc (v := x4) (lv' := [(2, .int x4), (0, .ref (L 0)), (1, .int a1)]) hx hb dX9_nameAt_43 hl (k := 2) rfl (by rw [ex4]; rfl) (by decide) rfl (fun ls hl => ?_)
        refine lv_goto (tgt := 2) hx hb dX9_nameAt_46 (by decide) ?_
        exact ih2 _ hf _ _ _ (lv_sub hl [1, 2, 0] rfl) hW
      intro j43 J43 hf
      refine lv_if_eq (tgt := 43) hx hb dX9_nameAt_26 (by decide) (fun c8 => ?_) (fun c8 => ?_)
      · have hf := xt hf c8
        exact J43 hf _ _ _ (lv_sub hl [1, 2, 3] rfl) hW
      · have hf := xf hf c8
        refine lv_aload_n hx hb dX9_nameAt_29 rfl (lv_at hl 1 rfl) ?_
        refine x_getr (k := 0) (k' := 1) E hC hW fl_X9_12 (by decide) rfl rfl dX9_nameAt_30 ?_
        refine lv_lload_n hx hb dX9_nameAt_33 rfl (lv_at hl 0 rfl) ?_
        obtain ⟨r5, g6, hf⟩ := cl1S hf
        refine x_Vr (k := 1) (As := [.long x3]) (rest := []) E hC hW hl.1 (c_X2_namesBelow x3 r5 S g6) cv_X9_137 rfl (by decide) rfl rfl rfl ⟨Nat.le_of_ble_eq_true rfl, Nat.le_of_ble_eq_true rfl⟩ ⟨Nat.le_refl _, Nat.le_refl _⟩ (Nat.le_of_ble_eq_true rfl) dX9_nameAt_34 (fun H locs hW => ?_)
        refine lv_iload_n hx hb dX9_nameAt_37 rfl (lv_at hl 2 rfl) ?_
        refine lv_icmp_ne (tgt := 43) hx hb dX9_nameAt_38 (by decide) (fun c7 => ?_) (fun c7 => ?_)
        · have hf := xf hf c7
          exact J43 hf _ _ _ (lv_sub hl [1, 2, 3] rfl) hW
        · have hf := xt hf c7
          refine lv_lload_n hx hb dX9_nameAt_41 rfl (lv_at hl 0 rfl) ?_
          exact x_lretP E hC hW hr hlk hQ dX9_nameAt_42 hf
set_option maxRecDepth 100000 in
set_option maxHeartbeats 4000000 in
theorem c_X2_hasAll {l : Launch} {D : va_G} {cy : Nat → ClassId} {L : Nat → Nat} {bA : Nat} (a1 : Int32) (r : Int32) (S : Sg)  (hf : f_X2_hasAll a1 S = some r) : MetX l D cy L shC 52 bA yX2_hasAll cX2_hasAll 2 (some .boolean) 0 0 [.ref (L 1), .int a1] (some (.int r)) S S := by
  refine x_met (own := RX2) (by decide) rfl (Nat.le_of_ble_eq_true rfl) ?_
  intro p e s m below meth c ls E hC hr hlk hl hW
  generalize hargs : ([.ref (L 1), .int a1] : List Value).toArray = args at E ⊢
  generalize hQ : MQ below (xQ D cy L shC 52 bA (some (.int r)) S) args s 0 0 (AL L 52) = Q
  have hl : lv_has ls 2 [(0, .ref (L 1)), (1, .int a1)] := hl
  have hx := E.1
  have hb := E.2.1
  have hts := E.2.2.2.2
  unfold f_X2_hasAll at hf
  refine lv_iload_n hx hb dX2_hasAll_0 rfl (lv_at hl 1 rfl) ?_
  refine lv_if_lt (tgt := 18) hx hb dX2_hasAll_1 (by decide) (fun c2 => ?_) (fun c2 => ?_)
  · have hf := xt hf c2
    refine lv_iconst (v := 0) hx hb dX2_hasAll_18 (by decide) ?_
    exact x_zretP E hC hW hr hlk hQ (by decide) dX2_hasAll_19 hf
  · have hf := xf hf c2
    refine lv_iload_n hx hb dX2_hasAll_4 rfl (lv_at hl 1 rfl) ?_
    refine lv_iconst (v := 1) hx hb dX2_hasAll_5 (by decide) ?_
    refine lv_aload_n hx hb dX2_hasAll_6 rfl (lv_at hl 0 rfl) ?_
    refine x_geti (k := 1) E hC hW fl_X2_18 (by decide) rfl rfl dX2_hasAll_7 ?_
    refine lv_ishl hx hb dX2_hasAll_10 ?_
    refine lv_icmp_ge (tgt := 18) hx hb dX2_hasAll_11 (by decide) (fun c1 => ?_) (fun c1 => ?_)
    · have hf := xt hf c1
      refine lv_iconst (v := 0) hx hb dX2_hasAll_18 (by decide) ?_
      exact x_zretP E hC hW hr hlk hQ (by decide) dX2_hasAll_19 hf
    · have hf := xf hf c1
      refine lv_iconst (v := 1) hx hb dX2_hasAll_14 (by decide) ?_
      refine lv_goto (tgt := 19) hx hb dX2_hasAll_15 (by decide) ?_
      exact x_zretP E hC hW hr hlk hQ (by decide) dX2_hasAll_19 hf
set_option maxRecDepth 100000 in
set_option maxHeartbeats 4000000 in
theorem c_X9_rank {l : Launch} {D : va_G} {cy : Nat → ClassId} {L : Nat → Nat} {bA : Nat} (a1 : Int32) (r : Int32) (S S' : Sg)  (hf : f_X9_rank a1 S = some (r, S')) : MetX l D cy L shC 52 bA yX9_rank cX9_rank 2 (some .int) 3 72 [.ref (L 0), .int a1] (some (.int r)) S S' := by
  refine x_met (own := RX9) (by decide) rfl (Nat.le_of_ble_eq_true rfl) ?_
  intro p e s m below meth c ls E hC hr hlk hl hW
  generalize hargs : ([.ref (L 0), .int a1] : List Value).toArray = args at E ⊢
  generalize hQ : MQ below (xQ D cy L shC 52 bA (some (.int r)) S') args s 0 0 (AL L 52) = Q
  have hl : lv_has ls 2 [(0, .ref (L 0)), (1, .int a1)] := hl
  have hx := E.1
  have hb := E.2.1
  have hts := E.2.2.2.2
  unfold f_X9_rank at hf
  refine lv_aload_n hx hb dX9_rank_0 rfl (lv_at hl 0 rfl) ?_
  refine x_getr (k := 0) (k' := 1) E hC hW fl_X9_12 (by decide) rfl rfl dX9_rank_1 ?_
  refine lv_iload_n hx hb dX9_rank_4 rfl (lv_at hl 1 rfl) ?_
  obtain ⟨r1, g2, hf⟩ := cl1S hf
  refine x_Vr (k := 1) (As := [.int a1]) (rest := []) E hC hW hl.1 (c_X2_hasAll a1 r1 S g2) cv_X9_160 rfl (by decide) rfl rfl rfl ⟨Nat.le_of_ble_eq_true rfl, Nat.le_of_ble_eq_true rfl⟩ ⟨Nat.le_refl _, Nat.le_refl _⟩ (Nat.le_of_ble_eq_true rfl) dX9_rank_5 (fun H locs hW => ?_)
  refine lv_if_ne (tgt := 14) hx hb dX9_rank_8 (by decide) (fun c8 => ?_) (fun c8 => ?_)
  · have hf := xf hf c8
    refine lv_aload_n hx hb dX9_rank_14 rfl (lv_at hl 0 rfl) ?_
    refine x_getr (k := 0) (k' := 13) E hC hW fl_X9_26 (by decide) rfl rfl dX9_rank_15 ?_
    refine lv_aload_n hx hb dX9_rank_18 rfl (lv_at hl 0 rfl) ?_
    refine x_getr (k := 0) (k' := 1) E hC hW fl_X9_12 (by decide) rfl rfl dX9_rank_19 ?_
    obtain ⟨S4, g3, hf⟩ := cl1S hf
    refine x_Vv (k := 13) (As := [.ref (L 1)]) (rest := []) E hC hW hl.1 (c_X5_fill S S4 g3) cv_X9_141 rfl (by decide) rfl rfl rfl ⟨Nat.le_of_ble_eq_true rfl, Nat.le_of_ble_eq_true rfl⟩ ⟨Nat.le_refl _, Nat.le_refl _⟩ (Nat.le_of_ble_eq_true rfl) dX9_rank_22 (fun H locs hW => ?_)
    refine lv_aload_n hx hb dX9_rank_25 rfl (lv_at hl 0 rfl) ?_
    refine x_getr (k := 0) (k' := 13) E hC hW fl_X9_26 (by decide) rfl rfl dX9_rank_26 ?_
    refine lv_iload_n hx hb dX9_rank_29 rfl (lv_at hl 1 rfl) ?_
    refine lv_iconst (v := 0) hx hb dX9_rank_30 (by decide) ?_
    obtain ⟨r5, S7, g6, hf⟩ := clS hf
    refine x_Vr (k := 13) (As := [.int a1, .int (0 : Int32)]) (rest := []) E hC hW hl.1 (c_X5_rankOf a1 (0 : Int32) r5 S4 S7 g6) cv_X9_145 rfl (by decide) rfl rfl rfl ⟨Nat.le_of_ble_eq_true rfl, Nat.le_of_ble_eq_true rfl⟩ ⟨Nat.le_refl _, Nat.le_refl _⟩ (Nat.le_of_ble_eq_true rfl) dX9_rank_31 (fun H locs hW => ?_)
    exact x_iretI E hC hW hr hlk hQ dX9_rank_34 hf
  · have hf := xt hf c8
    refine lv_bipush (v := (-2)) hx hb dX9_rank_11 (by decide) ?_
    exact x_iretI E hC hW hr hlk hQ dX9_rank_13 hf
set_option maxRecDepth 100000 in
set_option maxHeartbeats 4000000 in
theorem c_J6_bitCount_0f7a4 {l : Launch} {D : va_G} {cy : Nat → ClassId} {L : Nat → Nat} {bA : Nat} (a0 : Int32) (r : Int32) (S : Sg)  (hf : f_J6_bitCount_0f7a4 a0 = some r) : MetX l D cy L shC 52 bA yJ6_bitCount_0f7a4 cJ6_bitCount_0f7a4 1 (some .int) 0 0 [.int a0] (some (.int r)) S S := by
  refine x_met (own := RJ6) (by decide) rfl (Nat.le_of_ble_eq_true rfl) ?_
  intro p e s m below meth c ls E hC hr hlk hl hW
  generalize hargs : ([.int a0] : List Value).toArray = args at E ⊢
  generalize hQ : MQ below (xQ D cy L shC 52 bA (some (.int r)) S) args s 0 0 (AL L 52) = Q
  have hl : lv_has ls 1 [(0, .int a0)] := hl
  have hx := E.1
  have hb := E.2.1
  have hts := E.2.2.2.2
  unfold f_J6_bitCount_0f7a4 at hf
  refine lv_iload_n hx hb dJ6_bitCount_0f7a4_0 rfl (lv_at hl 0 rfl) ?_
  refine lv_iload_n hx hb dJ6_bitCount_0f7a4_1 rfl (lv_at hl 0 rfl) ?_
  refine lv_iconst (v := 1) hx hb dJ6_bitCount_0f7a4_2 (by decide) ?_
  refine lv_iushr (v := ush a0 (1 : Int32)) hx hb dJ6_bitCount_0f7a4_3 rfl ?_
  refine lv_ldcw hx hb E.2.2.2.1 (hts _ ww_490) dJ6_bitCount_0f7a4_4 ?_
  refine lv_iand hx hb dJ6_bitCount_0f7a4_7 ?_
  refine lv_isub hx hb dJ6_bitCount_0f7a4_8 ?_
  refine lv_topi (fun x1 ex1 => ?_)
  have hf := bvS hf ex1
  refine lv_istore_n (lv' := [(0, .int x1)]) hx hb dJ6_bitCount_0f7a4_9 rfl hl (by decide) rfl (fun ls hl => ?_)
  refine lv_iload_n hx hb dJ6_bitCount_0f7a4_10 rfl (lv_at hl 0 rfl) ?_
  refine lv_ldcw hx hb E.2.2.2.1 (hts _ ww_491) dJ6_bitCount_0f7a4_11 ?_
  refine lv_iand hx hb dJ6_bitCount_0f7a4_14 ?_
  refine lv_iload_n hx hb dJ6_bitCount_0f7a4_15 rfl (lv_at hl 0 rfl) ?_
  refine lv_iconst (v := 2) hx hb dJ6_bitCount_0f7a4_16 (by decide) ?_
  refine lv_iushr (v := ush x1 (2 : Int32)) hx hb dJ6_bitCount_0f7a4_17 rfl ?_
  refine lv_ldcw hx hb E.2.2.2.1 (hts _ ww_491) dJ6_bitCount_0f7a4_18 ?_
  refine lv_iand hx hb dJ6_bitCount_0f7a4_21 ?_
  refine lv_iadd hx hb dJ6_bitCount_0f7a4_22 ?_
  refine lv_topi (fun x2 ex2 => ?_)
  have hf := bvS hf ex2
  refine lv_istore_n (lv' := [(0, .int x2)]) hx hb dJ6_bitCount_0f7a4_23 rfl hl (by decide) rfl (fun ls hl => ?_)
  refine lv_iload_n hx hb dJ6_bitCount_0f7a4_24 rfl (lv_at hl 0 rfl) ?_
  refine lv_iload_n hx hb dJ6_bitCount_0f7a4_25 rfl (lv_at hl 0 rfl) ?_
  refine lv_iconst (v := 4) hx hb dJ6_bitCount_0f7a4_26 (by decide) ?_
  refine lv_iushr (v := ush x2 (4 : Int32)) hx hb dJ6_bitCount_0f7a4_27 rfl ?_
  refine lv_iadd hx hb dJ6_bitCount_0f7a4_28 ?_
  refine lv_ldcw hx hb E.2.2.2.1 (hts _ ww_492) dJ6_bitCount_0f7a4_29 ?_
  refine lv_iand hx hb dJ6_bitCount_0f7a4_32 ?_
  refine lv_topi (fun x3 ex3 => ?_)
  have hf := bvS hf ex3
  refine lv_istore_n (lv' := [(0, .int x3)]) hx hb dJ6_bitCount_0f7a4_33 rfl hl (by decide) rfl (fun ls hl => ?_)
  refine lv_iload_n hx hb dJ6_bitCount_0f7a4_34 rfl (lv_at hl 0 rfl) ?_
  refine lv_iload_n hx hb dJ6_bitCount_0f7a4_35 rfl (lv_at hl 0 rfl) ?_
  refine lv_bipush (v := 8) hx hb dJ6_bitCount_0f7a4_36 (by decide) ?_
  refine lv_iushr (v := ush x3 (8 : Int32)) hx hb dJ6_bitCount_0f7a4_38 rfl ?_
  refine lv_iadd hx hb dJ6_bitCount_0f7a4_39 ?_
  refine lv_topi (fun x4 ex4 => ?_)
  have hf := bvS hf ex4
  refine lv_istore_n (lv' := [(0, .int x4)]) hx hb dJ6_bitCount_0f7a4_40 rfl hl (by decide) rfl (fun ls hl => ?_)
  refine lv_iload_n hx hb dJ6_bitCount_0f7a4_41 rfl (lv_at hl 0 rfl) ?_
  refine lv_iload_n hx hb dJ6_bitCount_0f7a4_42 rfl (lv_at hl 0 rfl) ?_
  refine lv_bipush (v := 16) hx hb dJ6_bitCount_0f7a4_43 (by decide) ?_
  refine lv_iushr (v := ush x4 (16 : Int32)) hx hb dJ6_bitCount_0f7a4_45 rfl ?_
  refine lv_iadd hx hb dJ6_bitCount_0f7a4_46 ?_
  refine lv_topi (fun x5 ex5 => ?_)
  have hf := bvS hf ex5
  refine lv_istore_n (lv' := [(0, .int x5)]) hx hb dJ6_bitCount_0f7a4_47 rfl hl (by decide) rfl (fun ls hl => ?_)
  refine lv_iload_n hx hb dJ6_bitCount_0f7a4_48 rfl (lv_at hl 0 rfl) ?_
  refine lv_bipush (v := 63) hx hb dJ6_bitCount_0f7a4_49 (by decide) ?_
  refine lv_iand hx hb dJ6_bitCount_0f7a4_51 ?_
  exact x_iretP E hC hW hr hlk hQ dJ6_bitCount_0f7a4_52 hf
set_option maxRecDepth 100000 in
set_option maxHeartbeats 4000000 in
theorem c_X5_isStanding {l : Launch} {D : va_G} {cy : Nat → ClassId} {L : Nat → Nat} {bA : Nat} (a1 : Int32) (r : Int32) (S S' : Sg)  (hf : f_X5_isStanding a1 S = some (r, S')) : MetX l D cy L shC 52 bA yX5_isStanding cX5_isStanding 3 (some .boolean) 3 70 [.ref (L 13), .int a1] (some (.int r)) S S' := by
  refine x_met (own := RX5) (by decide) rfl (Nat.le_of_ble_eq_true rfl) ?_
  intro p e s m below meth c ls E hC hr hlk hl hW
  generalize hargs : ([.ref (L 13), .int a1] : List Value).toArray = args at E ⊢
  generalize hQ : MQ below (xQ D cy L shC 52 bA (some (.int r)) S') args s 0 0 (AL L 52) = Q
  have hl : lv_has ls 3 [(0, .ref (L 13)), (1, .int a1)] := hl
  have hx := E.1
  have hb := E.2.1
  have hts := E.2.2.2.2
  unfold f_X5_isStanding at hf
  refine lv_iconst (v := 2) hx hb dX5_isStanding_0 (by decide) ?_
  refine lv_iload_n hx hb dX5_isStanding_1 rfl (lv_at hl 1 rfl) ?_
  obtain ⟨r1, g2, hf⟩ := cl1S hf
  refine x_Sr (As := [.int a1]) (rest := [.int (2 : Int32)]) E hC hW hl.1 (c_J6_bitCount_0f7a4 a1 r1 S g2) cs_X5_52 rfl rfl ⟨Nat.le_of_ble_eq_true rfl, Nat.le_of_ble_eq_true rfl⟩ ⟨Nat.le_refl _, Nat.le_refl _⟩ (Nat.le_of_ble_eq_true rfl) dX5_isStanding_2 (fun H locs hW => ?_)
  refine lv_imul hx hb dX5_isStanding_5 ?_
  refine lv_topi (fun x3 ex3 => ?_)
  have hf := bvS hf ex3
  refine lv_istore_n (lv' := [(2, .int x3), (0, .ref (L 13)), (1, .int a1)]) hx hb dX5_isStanding_6 rfl hl (by decide) rfl (fun ls hl => ?_)
  refine lv_iload_n hx hb dX5_isStanding_7 rfl (lv_at hl 0 rfl) ?_
  refine lv_aload_n hx hb dX5_isStanding_8 rfl (lv_at hl 1 rfl) ?_
  refine x_geti (k := 13) E hC hW fl_X5_15 (by decide) rfl rfl dX5_isStanding_9 ?_
  refine lv_icmp_gt (tgt := 29) hx hb dX5_isStanding_12 (by decide) (fun c8 => ?_) (fun c8 => ?_)
  · have hf := xt hf c8
    refine lv_iconst (v := 0) hx hb dX5_isStanding_29 (by decide) ?_
    exact x_zretI E hC hW hr hlk hQ (by decide) dX5_isStanding_30 hf
  · have hf := xf hf c8
    refine lv_aload_n hx hb dX5_isStanding_15 rfl (lv_at hl 1 rfl) ?_
    refine lv_iload_n hx hb dX5_isStanding_16 rfl (lv_at hl 2 rfl) ?_
    refine lv_iconst (v := 0) hx hb dX5_isStanding_17 (by decide) ?_
    obtain ⟨r4, S6, g5, hf⟩ := clS hf
    refine x_Vr (k := 13) (As := [.int a1, .int (0 : Int32)]) (rest := []) E hC hW hl.1 (c_X5_rankOf a1 (0 : Int32) r4 S S6 g5) cv_X5_58 rfl (by decide) rfl rfl rfl ⟨Nat.le_of_ble_eq_true rfl, Nat.le_of_ble_eq_true rfl⟩ ⟨Nat.le_refl _, Nat.le_refl _⟩ (Nat.le_of_ble_eq_true rfl) dX5_isStanding_18 (fun H locs hW => ?_)
    refine lv_iload_n hx hb dX5_isStanding_21 rfl (lv_at hl 0 rfl) ?_
    refine lv_icmp_ne (tgt := 29) hx hb dX5_isStanding_22 (by decide) (fun c7 => ?_) (fun c7 => ?_)
    · have hf := xf hf c7
      refine lv_iconst (v := 0) hx hb dX5_isStanding_29 (by decide) ?_
      exact x_zretI E hC hW hr hlk hQ (by decide) dX5_isStanding_30 hf
    · have hf := xt hf c7
      refine lv_iconst (v := 1) hx hb dX5_isStanding_25 (by decide) ?_
      refine lv_goto (tgt := 30) hx hb dX5_isStanding_26 (by decide) ?_
      exact x_zretI E hC hW hr hlk hQ (by decide) dX5_isStanding_30 hf
set_option maxRecDepth 100000 in
set_option maxHeartbeats 4000000 in
theorem c_X9_stands {l : Launch} {D : va_G} {cy : Nat → ClassId} {L : Nat → Nat} {bA : Nat} (a1 : Int32) (r : Int32) (S S' : Sg)  (hf : f_X9_stands a1 S = some (r, S')) : MetX l D cy L shC 52 bA yX9_stands cX9_stands 2 (some .int) 4 92 [.ref (L 0), .int a1] (some (.int r)) S S' := by
  refine x_met (own := RX9) (by decide) rfl (Nat.le_of_ble_eq_true rfl) ?_
  intro p e s m below meth c ls E hC hr hlk hl hW
  generalize hargs : ([.ref (L 0), .int a1] : List Value).toArray = args at E ⊢
  generalize hQ : MQ below (xQ D cy L shC 52 bA (some (.int r)) S') args s 0 0 (AL L 52) = Q
  have hl : lv_has ls 2 [(0, .ref (L 0)), (1, .int a1)] := hl
  have hx := E.1
  have hb := E.2.1
  have hts := E.2.2.2.2
  unfold f_X9_stands at hf
  refine lv_aload_n hx hb dX9_stands_0 rfl (lv_at hl 0 rfl) ?_
  refine x_getr (k := 0) (k' := 1) E hC hW fl_X9_12 (by decide) rfl rfl dX9_stands_1 ?_
  refine lv_iload_n hx hb dX9_stands_4 rfl (lv_at hl 1 rfl) ?_
  obtain ⟨r1, g2, hf⟩ := cl1S hf
  refine x_Vr (k := 1) (As := [.int a1]) (rest := []) E hC hW hl.1 (c_X2_hasAll a1 r1 S g2) cv_X9_160 rfl (by decide) rfl rfl rfl ⟨Nat.le_of_ble_eq_true rfl, Nat.le_of_ble_eq_true rfl⟩ ⟨Nat.le_refl _, Nat.le_refl _⟩ (Nat.le_of_ble_eq_true rfl) dX9_stands_5 (fun H locs hW => ?_)
  refine lv_if_ne (tgt := 14) hx hb dX9_stands_8 (by decide) (fun c9 => ?_) (fun c9 => ?_)
  · have hf := xf hf c9
    refine lv_aload_n hx hb dX9_stands_14 rfl (lv_at hl 0 rfl) ?_
    refine x_getr (k := 0) (k' := 13) E hC hW fl_X9_26 (by decide) rfl rfl dX9_stands_15 ?_
    refine lv_aload_n hx hb dX9_stands_18 rfl (lv_at hl 0 rfl) ?_
    refine x_getr (k := 0) (k' := 1) E hC hW fl_X9_12 (by decide) rfl rfl dX9_stands_19 ?_
    obtain ⟨S4, g3, hf⟩ := cl1S hf
    refine x_Vv (k := 13) (As := [.ref (L 1)]) (rest := []) E hC hW hl.1 (c_X5_fill S S4 g3) cv_X9_141 rfl (by decide) rfl rfl rfl ⟨Nat.le_of_ble_eq_true rfl, Nat.le_of_ble_eq_true rfl⟩ ⟨Nat.le_refl _, Nat.le_refl _⟩ (Nat.le_of_ble_eq_true rfl) dX9_stands_22 (fun H locs hW => ?_)
    refine lv_aload_n hx hb dX9_stands_25 rfl (lv_at hl 0 rfl) ?_
    refine x_getr (k := 0) (k' := 13) E hC hW fl_X9_26 (by decide) rfl rfl dX9_stands_26 ?_
    refine lv_iload_n hx hb dX9_stands_29 rfl (lv_at hl 1 rfl) ?_
    obtain ⟨r5, S7, g6, hf⟩ := clS hf
    refine x_Vr (k := 13) (As := [.int a1]) (rest := []) E hC hW hl.1 (c_X5_isStanding a1 r5 S4 S7 g6) cv_X9_163 rfl (by decide) rfl rfl rfl ⟨Nat.le_of_ble_eq_true rfl, Nat.le_of_ble_eq_true rfl⟩ ⟨Nat.le_refl _, Nat.le_refl _⟩ (Nat.le_of_ble_eq_true rfl) dX9_stands_30 (fun H locs hW => ?_)
    refine lv_if_eq (tgt := 40) hx hb dX9_stands_33 (by decide) (fun c8 => ?_) (fun c8 => ?_)
    · have hf := xt hf c8
      refine lv_iconst (v := 0) hx hb dX9_stands_40 (by decide) ?_
      exact x_iretI E hC hW hr hlk hQ dX9_stands_41 hf
    · have hf := xf hf c8
      refine lv_iconst (v := 1) hx hb dX9_stands_36 (by decide) ?_
      refine lv_goto (tgt := 41) hx hb dX9_stands_37 (by decide) ?_
      exact x_iretI E hC hW hr hlk hQ dX9_stands_41 hf
  · have hf := xt hf c9
    refine lv_bipush (v := (-2)) hx hb dX9_stands_11 (by decide) ?_
    exact x_iretI E hC hW hr hlk hQ dX9_stands_13 hf
set_option maxRecDepth 100000 in
set_option maxHeartbeats 4000000 in
theorem c_X8_fill {l : Launch} {D : va_G} {cy : Nat → ClassId} {L : Nat → Nat} {bA : Nat}  (S S' : Sg)  (hf : f_X8_fill S = some S') : MetX l D cy L shC 52 bA yX8_fill cX8_fill 3 none 4 92 [.ref (L 19), .ref (L 13)] none S S' := by
  refine x_met (own := RX8) (by decide) rfl (Nat.le_of_ble_eq_true rfl) ?_
  intro p e s m below meth c ls E hC hr hlk hl hW
  generalize hargs : ([.ref (L 19), .ref (L 13)] : List Value).toArray = args at E ⊢
  generalize hQ : MQ below (xQ D cy L shC 52 bA none S') args s 0 0 (AL L 52) = Q
  have hl : lv_has ls 3 [(0, .ref (L 19)), (1, .ref (L 13))] := hl
  have hx := E.1
  have hb := E.2.1
  have hts := E.2.2.2.2
  unfold f_X8_fill at hf
  refine lv_aload_n hx hb dX8_fill_0 rfl (lv_at hl 0 rfl) ?_
  refine lv_aload_n hx hb dX8_fill_1 rfl (lv_at hl 1 rfl) ?_
  refine x_geti (k := 13) E hC hW fl_X8_22 (by decide) rfl rfl dX8_fill_2 ?_
  refine x_put (k := 19) E hC hW fl_X8_15 pl_8_1 (by decide) rfl rfl rfl rfl dX8_fill_5 (fun H locs hW => ?_)
  obtain ⟨S1, eS1⟩ : ∃ z : Sg, z = si S 19 1 (S.1 13 2) := ⟨_, rfl⟩
  have hW : Wd D cy L shC 52 S1 s H locs := by rw [eS1]; exact hW
  have hf := bvS hf eS1
  refine lv_aload_n hx hb dX8_fill_8 rfl (lv_at hl 0 rfl) ?_
  refine lv_iconst (v := 1) hx hb dX8_fill_9 (by decide) ?_
  refine lv_aload_n hx hb dX8_fill_10 rfl (lv_at hl 0 rfl) ?_
  refine x_geti (k := 19) E hC hW fl_X8_15 (by decide) rfl rfl dX8_fill_11 ?_
  refine lv_ishl hx hb dX8_fill_14 ?_
  refine x_put (k := 19) E hC hW fl_X8_9 pl_8_0 (by decide) rfl rfl rfl rfl dX8_fill_15 (fun H locs hW => ?_)
  obtain ⟨S2, eS2⟩ : ∃ z : Sg, z = si S1 19 0 ((1 : Int32) <<< ((S1.1 19 1) &&& 31)) := ⟨_, rfl⟩
  have hW : Wd D cy L shC 52 S2 s H locs := by rw [eS2]; exact hW
  have hf := bvS hf eS2
  refine lv_aload_n hx hb dX8_fill_18 rfl (lv_at hl 0 rfl) ?_
  refine x_getr (k := 19) (k' := 20) E hC hW fl_X8_18 (by decide) rfl rfl dX8_fill_19 ?_
  refine lv_iconst (v := 0) hx hb dX8_fill_22 (by decide) ?_
  refine lv_iconst (v := 1) hx hb dX8_fill_23 (by decide) ?_
  obtain ⟨hg3, hf⟩ := gdS hf
  refine x_zast (k := 20) E hC hW (by decide) rfl (inbS hg3) dX8_fill_24 (fun H locs hW => ?_)
  obtain ⟨S4, eS4⟩ : ∃ z : Sg, z = si S2 20 (ix (0 : Int32)) (zb (1 : Int32)) := ⟨_, rfl⟩
  have hW : Wd D cy L shC 52 S4 s H locs := by rw [eS4]; exact hW
  have hf := bvS hf eS4
  refine lv_iconst (v := 1) hx hb dX8_fill_25 (by decide) ?_
  refine lv_istore_n (lv' := [(2, .int (1 : Int32)), (0, .ref (L 19)), (1, .ref (L 13))]) hx hb dX8_fill_26 rfl hl (by decide) rfl (fun ls hl => ?_)
  refine wp2S (fun (v5 : Int32) (S6 : Sg) => ∀ (H : Heap) (locs : List Loc) (ls : Array Slot), lv_has ls 3 [(0, .ref (L 19)), (1, .ref (L 13)), (2, .int v5)] → Wd D cy L shC 52 S6 s H locs → W p l e (rmk 4 92) s m args below meth c H locs 0 0 Q (F0 m 27 ls [])) ?_ hf _ _ _ (lv_sub hl [1, 2, 0] rfl) hW
  · intro self27 ih27 v5 S6 hf H locs ls hl hW
    unfold X8_fill_L27 at hf
    refine lv_iload_n hx hb dX8_fill_27 rfl (lv_at hl 2 rfl) ?_
    refine lv_aload_n hx hb dX8_fill_28 rfl (lv_at hl 0 rfl) ?_
    refine x_geti (k := 19) E hC hW fl_X8_9 (by decide) rfl rfl dX8_fill_29 ?_
    refine lv_icmp_ge (tgt := 73) hx hb dX8_fill_32 (by decide) (fun c19 => ?_) (fun c19 => ?_)
    · have hf := xt hf c19
      exact x_vretI E hC hW hr hlk hQ dX8_fill_73 hf
    · have hf := xf hf c19
      refine lv_aload_n hx hb dX8_fill_35 rfl (lv_at hl 0 rfl) ?_
      refine x_getr (k := 19) (k' := 20) E hC hW fl_X8_18 (by decide) rfl rfl dX8_fill_36 ?_
      refine lv_iload_n hx hb dX8_fill_39 rfl (lv_at hl 2 rfl) ?_
      refine lv_aload_n hx hb dX8_fill_40 rfl (lv_at hl 0 rfl) ?_
      refine x_getr (k := 19) (k' := 20) E hC hW fl_X8_18 (by decide) rfl rfl dX8_fill_41 ?_
      refine lv_iload_n hx hb dX8_fill_44 rfl (lv_at hl 2 rfl) ?_
      refine lv_iload_n hx hb dX8_fill_45 rfl (lv_at hl 2 rfl) ?_
      refine lv_iconst (v := 1) hx hb dX8_fill_46 (by decide) ?_
      refine lv_isub hx hb dX8_fill_47 ?_
      refine lv_iand hx hb dX8_fill_48 ?_
      obtain ⟨hg7, hf⟩ := gdS hf
      refine x_zald (k := 20) E hC hW (by decide) rfl (inbS hg7) dX8_fill_49 ?_
      refine jnS hf (fun (j : Int32 → Sg → Option (Sg)) => ∀ (x8 : Int32) (S9 : Sg), (j x8 S9) = some S' → ∀ (H : Heap) (locs : List Loc) (ls : Array Slot), lv_has ls 3 [(0, .ref (L 19)), (1, .ref (L 13)), (2, .int v5)] → Wd D cy L shC 52 S9 s H locs → W p l e (rmk 4 92) s m args below meth c H locs 0 0 Q (F0 m 66 ls [.int x8, .int v5, .ref (L 20)])) ?_ ?_
      · intro x8 S9 hf H locs ls hl hW
        try dsimp only at hf
        obtain ⟨hg10, hf⟩ := gdS hf
        refine x_zast (k := 20) E hC hW (by decide) rfl (inbS hg10) dX8_fill_66 (fun H locs hW => ?_)
        obtain ⟨S11, eS11⟩ : ∃ z : Sg, z = si S9 20 (ix v5) (zb x8) := ⟨_, rfl⟩
        have hW : Wd D cy L shC 52 S11 s H locs := by rw [eS11]; exact hW
        have hf := bvS hf eS11
        obtain ⟨x12, ex12⟩ : ∃ z : Int32, z = (v5 + 1) := ⟨_, rfl⟩
        have hf := bvS hf ex12
        refine lv_iinc (v := x12) (lv' := [(2, .int x12), (0, .ref (L 19)), (1, .ref (L 13))]) hx hb dX8_fill_67 hl (k := 2) rfl (by rw [ex12]; rfl) (by decide) rfl (fun ls hl => ?_)
        refine lv_goto (tgt := 27) hx hb dX8_fill_70 (by decide) ?_
        exact ih27 _ _ hf _ _ _ (lv_sub hl [1, 2, 0] rfl) hW
      intro j66 J66 hf
      refine jnS hf (fun (j : Sg → Option (Sg)) => ∀ (S13 : Sg), (j S13) = some S' → ∀ (H : Heap) (locs : List Loc) (ls : Array Slot), lv_has ls 3 [(0, .ref (L 19)), (1, .ref (L 13)), (2, .int v5)] → Wd D cy L shC 52 S13 s H locs → W p l e (rmk 4 92) s m args below meth c H locs 0 0 Q (F0 m 65 ls [.int v5, .ref (L 20)])) ?_ ?_
      · intro S13 hf H locs ls hl hW
        try dsimp only at hf
        refine lv_iconst (v := 0) hx hb dX8_fill_65 (by decide) ?_
        exact J66 _ _ hf _ _ _ (lv_sub hl [0, 1, 2] rfl) hW
      intro j65 J65 hf
      refine lv_if_eq (tgt := 65) hx hb dX8_fill_50 (by decide) (fun c18 => ?_) (fun c18 => ?_)
      · have hf := xt hf c18
        exact J65 _ hf _ _ _ (lv_sub hl [0, 1, 2] rfl) hW
      · have hf := xf hf c18
        refine lv_aload_n hx hb dX8_fill_53 rfl (lv_at hl 1 rfl) ?_
        refine lv_iload_n hx hb dX8_fill_54 rfl (lv_at hl 2 rfl) ?_
        obtain ⟨r14, S16, g15, hf⟩ := clS hf
        refine x_Vr (k := 13) (As := [.int v5]) (rest := [.int v5, .ref (L 20)]) E hC hW hl.1 (c_X5_isStanding v5 r14 S6 S16 g15) cv_X8_25 rfl (by decide) rfl rfl rfl ⟨Nat.le_of_ble_eq_true rfl, Nat.le_of_ble_eq_true rfl⟩ ⟨Nat.le_refl _, Nat.le_refl _⟩ (Nat.le_of_ble_eq_true rfl) dX8_fill_55 (fun H locs hW => ?_)
        refine lv_if_eq (tgt := 65) hx hb dX8_fill_58 (by decide) (fun c17 => ?_) (fun c17 => ?_)
        · have hf := xt hf c17
          exact J65 _ hf _ _ _ (lv_sub hl [0, 1, 2] rfl) hW
        · have hf := xf hf c17
          refine lv_iconst (v := 1) hx hb dX8_fill_61 (by decide) ?_
          refine lv_goto (tgt := 66) hx hb dX8_fill_62 (by decide) ?_
          exact J66 _ _ hf _ _ _ (lv_sub hl [0, 1, 2] rfl) hW
set_option maxRecDepth 100000 in
set_option maxHeartbeats 4000000 in
theorem c_X9_fillStanding {l : Launch} {D : va_G} {cy : Nat → ClassId} {L : Nat → Nat} {bA : Nat}  (S S' : Sg)  (hf : f_X9_fillStanding S = some S') : MetX l D cy L shC 52 bA yX9_fillStanding cX9_fillStanding 1 none 5 114 [.ref (L 0)] none S S' := by
  refine x_met (own := RX9) (by decide) rfl (Nat.le_of_ble_eq_true rfl) ?_
  intro p e s m below meth c ls E hC hr hlk hl hW
  generalize hargs : ([.ref (L 0)] : List Value).toArray = args at E ⊢
  generalize hQ : MQ below (xQ D cy L shC 52 bA none S') args s 0 0 (AL L 52) = Q
  have hl : lv_has ls 1 [(0, .ref (L 0))] := hl
  have hx := E.1
  have hb := E.2.1
  have hts := E.2.2.2.2
  unfold f_X9_fillStanding at hf
  refine lv_aload_n hx hb dX9_fillStanding_0 rfl (lv_at hl 0 rfl) ?_
  refine x_getr (k := 0) (k' := 13) E hC hW fl_X9_26 (by decide) rfl rfl dX9_fillStanding_1 ?_
  refine lv_aload_n hx hb dX9_fillStanding_4 rfl (lv_at hl 0 rfl) ?_
  refine x_getr (k := 0) (k' := 1) E hC hW fl_X9_12 (by decide) rfl rfl dX9_fillStanding_5 ?_
  obtain ⟨S2, g1, hf⟩ := cl1S hf
  refine x_Vv (k := 13) (As := [.ref (L 1)]) (rest := []) E hC hW hl.1 (c_X5_fill S S2 g1) cv_X9_141 rfl (by decide) rfl rfl rfl ⟨Nat.le_of_ble_eq_true rfl, Nat.le_of_ble_eq_true rfl⟩ ⟨Nat.le_refl _, Nat.le_refl _⟩ (Nat.le_of_ble_eq_true rfl) dX9_fillStanding_8 (fun H locs hW => ?_)
  refine lv_aload_n hx hb dX9_fillStanding_11 rfl (lv_at hl 0 rfl) ?_
  refine x_getr (k := 0) (k' := 19) E hC hW fl_X9_33 (by decide) rfl rfl dX9_fillStanding_12 ?_
  refine lv_aload_n hx hb dX9_fillStanding_15 rfl (lv_at hl 0 rfl) ?_
  refine x_getr (k := 0) (k' := 13) E hC hW fl_X9_26 (by decide) rfl rfl dX9_fillStanding_16 ?_
  obtain ⟨S4, g3, hf⟩ := cl1S hf
  refine x_Vv (k := 19) (As := [.ref (L 13)]) (rest := []) E hC hW hl.1 (c_X8_fill S2 S4 g3) cv_X9_321 rfl (by decide) rfl rfl rfl ⟨Nat.le_of_ble_eq_true rfl, Nat.le_of_ble_eq_true rfl⟩ ⟨Nat.le_refl _, Nat.le_refl _⟩ (Nat.le_of_ble_eq_true rfl) dX9_fillStanding_19 (fun H locs hW => ?_)
  exact x_vretI E hC hW hr hlk hQ dX9_fillStanding_22 hf
set_option maxRecDepth 100000 in
set_option maxHeartbeats 4000000 in
theorem c_X8_greatest {l : Launch} {D : va_G} {cy : Nat → ClassId} {L : Nat → Nat} {bA : Nat}  (r : Int32) (S : Sg)  (hf : f_X8_greatest S = some r) : MetX l D cy L shC 52 bA yX8_greatest cX8_greatest 3 (some .int) 1 21 [.ref (L 19)] (some (.int r)) S S := by
  refine x_met (own := RX8) (by decide) rfl (Nat.le_of_ble_eq_true rfl) ?_
  intro p e s m below meth c ls E hC hr hlk hl hW
  generalize hargs : ([.ref (L 19)] : List Value).toArray = args at E ⊢
  generalize hQ : MQ below (xQ D cy L shC 52 bA (some (.int r)) S) args s 0 0 (AL L 52) = Q
  have hl : lv_has ls 3 [(0, .ref (L 19))] := hl
  have hx := E.1
  have hb := E.2.1
  have hts := E.2.2.2.2
  unfold f_X8_greatest at hf
  refine lv_iconst (v := 0) hx hb dX8_greatest_0 (by decide) ?_
  refine lv_istore_n (lv' := [(1, .int (0 : Int32)), (0, .ref (L 19))]) hx hb dX8_greatest_1 rfl hl (by decide) rfl (fun ls hl => ?_)
  refine lv_iconst (v := 0) hx hb dX8_greatest_2 (by decide) ?_
  refine lv_istore_n (lv' := [(2, .int (0 : Int32)), (1, .int (0 : Int32)), (0, .ref (L 19))]) hx hb dX8_greatest_3 rfl hl (by decide) rfl (fun ls hl => ?_)
  refine wp2S (fun (v1 : Int32) (v2 : Int32) => ∀ (H : Heap) (locs : List Loc) (ls : Array Slot), lv_has ls 3 [(0, .ref (L 19)), (1, .int v1), (2, .int v2)] → Wd D cy L shC 52 S s H locs → W p l e (rmk 1 21) s m args below meth c H locs 0 0 Q (F0 m 4 ls [])) ?_ hf _ _ _ (lv_sub hl [2, 1, 0] rfl) hW
  · intro self4 ih4 v1 v2 hf H locs ls hl hW
    unfold X8_greatest_L4 at hf
    refine lv_iload_n hx hb dX8_greatest_4 rfl (lv_at hl 2 rfl) ?_
    refine lv_aload_n hx hb dX8_greatest_5 rfl (lv_at hl 0 rfl) ?_
    refine x_geti (k := 19) E hC hW fl_X8_9 (by decide) rfl rfl dX8_greatest_6 ?_
    refine lv_icmp_ge (tgt := 36) hx hb dX8_greatest_9 (by decide) (fun c10 => ?_) (fun c10 => ?_)
    · have hf := xt hf c10
      refine lv_iload_n hx hb dX8_greatest_36 rfl (lv_at hl 1 rfl) ?_
      exact x_iretP E hC hW hr hlk hQ dX8_greatest_37 hf
    · have hf := xf hf c10
      refine lv_aload_n hx hb dX8_greatest_12 rfl (lv_at hl 0 rfl) ?_
      refine x_getr (k := 19) (k' := 20) E hC hW fl_X8_18 (by decide) rfl rfl dX8_greatest_13 ?_
      refine lv_iload_n hx hb dX8_greatest_16 rfl (lv_at hl 2 rfl) ?_
      obtain ⟨hg3, hf⟩ := gdS hf
      refine x_zald (k := 20) E hC hW (by decide) rfl (inbS hg3) dX8_greatest_17 ?_
      refine jnS hf (fun (j : Int32 → Option (Int32)) => ∀ (v4 : Int32), (j v4) = some r → ∀ (H : Heap) (locs : List Loc) (ls : Array Slot), lv_has ls 3 [(0, .ref (L 19)), (1, .int v4), (2, .int v2)] → Wd D cy L shC 52 S s H locs → W p l e (rmk 1 21) s m args below meth c H locs 0 0 Q (F0 m 30 ls [])) ?_ ?_
      · intro v4 hf H locs ls hl hW
        try dsimp only at hf
        obtain ⟨x5, ex5⟩ : ∃ z : Int32, z = (v2 + 1) := ⟨_, rfl⟩
        have hf := bvS hf ex5
        refine lv_iinc (v := x5) (lv' := [(2, .int x5), (0, .ref (L 19)), (1, .int v4)]) hx hb dX8_greatest_30 hl (k := 2) rfl (by rw [ex5]; rfl) (by decide) rfl (fun ls hl => ?_)
        refine lv_goto (tgt := 4) hx hb dX8_greatest_33 (by decide) ?_
        exact ih4 _ _ hf _ _ _ (lv_sub hl [1, 2, 0] rfl) hW
      intro j30 J30 hf
      refine lv_if_eq (tgt := 30) hx hb dX8_greatest_18 (by decide) (fun c9 => ?_) (fun c9 => ?_)
      · have hf := xt hf c9
        exact J30 _ hf _ _ _ (lv_sub hl [0, 1, 2] rfl) hW
      · have hf := xf hf c9
        refine lv_iload_n hx hb dX8_greatest_21 rfl (lv_at hl 1 rfl) ?_
        refine lv_iload_n hx hb dX8_greatest_22 rfl (lv_at hl 2 rfl) ?_
        obtain ⟨r6, g7, hf⟩ := cl1S hf
        refine x_Sr (As := [.int v2]) (rest := [.int v1]) E hC hW hl.1 (c_J6_bitCount_0f7a4 v2 r6 S g7) cs_X8_29 rfl rfl ⟨Nat.le_of_ble_eq_true rfl, Nat.le_of_ble_eq_true rfl⟩ ⟨Nat.le_refl _, Nat.le_refl _⟩ (Nat.le_of_ble_eq_true rfl) dX8_greatest_23 (fun H locs hW => ?_)
        refine va_mmax (x := v1) (y := r6) (rest := []) hx hb (E.2.2.1.trans hl.1.symm) E.2.2.2.1 (hts _ ww_512) (hts _ ww_513) (hts _ ww_69) (hts _ ww_514) (Nat.le_of_ble_eq_true rfl) (Nat.le_of_ble_eq_true rfl) (Nat.le_refl _) (Nat.le_refl _) dX8_greatest_26 ?_
        refine lv_topi (fun x8 ex8 => ?_)
        have hf := bvS hf ex8
        refine lv_istore_n (lv' := [(1, .int x8), (0, .ref (L 19)), (2, .int v2)]) hx hb dX8_greatest_29 rfl hl (by decide) rfl (fun ls hl => ?_)
        exact J30 _ hf _ _ _ (lv_sub hl [1, 0, 2] rfl) hW
set_option maxRecDepth 100000 in
set_option maxHeartbeats 4000000 in
theorem c_X9_most {l : Launch} {D : va_G} {cy : Nat → ClassId} {L : Nat → Nat} {bA : Nat}  (r : Int32) (S S' : Sg)  (hf : f_X9_most S = some (r, S')) : MetX l D cy L shC 52 bA yX9_most cX9_most 1 (some .int) 6 134 [.ref (L 0)] (some (.int r)) S S' := by
  refine x_met (own := RX9) (by decide) rfl (Nat.le_of_ble_eq_true rfl) ?_
  intro p e s m below meth c ls E hC hr hlk hl hW
  generalize hargs : ([.ref (L 0)] : List Value).toArray = args at E ⊢
  generalize hQ : MQ below (xQ D cy L shC 52 bA (some (.int r)) S') args s 0 0 (AL L 52) = Q
  have hl : lv_has ls 1 [(0, .ref (L 0))] := hl
  have hx := E.1
  have hb := E.2.1
  have hts := E.2.2.2.2
  unfold f_X9_most at hf
  refine lv_aload_n hx hb dX9_most_0 rfl (lv_at hl 0 rfl) ?_
  obtain ⟨S2, g1, hf⟩ := cl1S hf
  refine x_Vv (k := 0) (As := []) (rest := []) E hC hW hl.1 (c_X9_fillStanding S S2 g1) cv_X9_166 rfl (by decide) rfl rfl rfl ⟨Nat.le_of_ble_eq_true rfl, Nat.le_of_ble_eq_true rfl⟩ ⟨Nat.le_refl _, Nat.le_refl _⟩ (Nat.le_of_ble_eq_true rfl) dX9_most_1 (fun H locs hW => ?_)
  refine lv_aload_n hx hb dX9_most_4 rfl (lv_at hl 0 rfl) ?_
  refine x_getr (k := 0) (k' := 19) E hC hW fl_X9_33 (by decide) rfl rfl dX9_most_5 ?_
  obtain ⟨r3, g4, hf⟩ := cl1S hf
  refine x_Vr (k := 19) (As := []) (rest := []) E hC hW hl.1 (c_X8_greatest r3 S2 g4) cv_X9_169 rfl (by decide) rfl rfl rfl ⟨Nat.le_of_ble_eq_true rfl, Nat.le_of_ble_eq_true rfl⟩ ⟨Nat.le_refl _, Nat.le_refl _⟩ (Nat.le_of_ble_eq_true rfl) dX9_most_8 (fun H locs hW => ?_)
  exact x_iretI E hC hW hr hlk hQ dX9_most_11 hf
set_option maxRecDepth 100000 in
set_option maxHeartbeats 4000000 in
theorem c_X9_best {l : Launch} {D : va_G} {cy : Nat → ClassId} {L : Nat → Nat} {bA : Nat} (a1 : Int32) (r : Int32) (S S' : Sg)  (hf : f_X9_best a1 S = some (r, S')) : MetX l D cy L shC 52 bA yX9_best cX9_best 8 (some .int) 6 134 [.ref (L 0), .int a1] (some (.int r)) S S' := by
  refine x_met (own := RX9) (by decide) rfl (Nat.le_of_ble_eq_true rfl) ?_
  intro p e s m below meth c ls E hC hr hlk hl hW
  generalize hargs : ([.ref (L 0), .int a1] : List Value).toArray = args at E ⊢
  generalize hQ : MQ below (xQ D cy L shC 52 bA (some (.int r)) S') args s 0 0 (AL L 52) = Q
  have hl : lv_has ls 8 [(0, .ref (L 0)), (1, .int a1)] := hl
  have hx := E.1
  have hb := E.2.1
  have hts := E.2.2.2.2
  unfold f_X9_best at hf
  refine lv_iload_n hx hb dX9_best_0 rfl (lv_at hl 1 rfl) ?_
  refine lv_if_lt (tgt := 9) hx hb dX9_best_1 (by decide) (fun c34 => ?_) (fun c34 => ?_)
  · have hf := xt hf c34
    refine lv_bipush (v := (-2)) hx hb dX9_best_9 (by decide) ?_
    exact x_iretI E hC hW hr hlk hQ dX9_best_11 hf
  · have hf := xf hf c34
    refine lv_iload_n hx hb dX9_best_4 rfl (lv_at hl 1 rfl) ?_
    refine lv_iconst (v := 3) hx hb dX9_best_5 (by decide) ?_
    refine lv_icmp_le (tgt := 12) hx hb dX9_best_6 (by decide) (fun c33 => ?_) (fun c33 => ?_)
    · have hf := xt hf c33
      refine lv_aload_n hx hb dX9_best_12 rfl (lv_at hl 0 rfl) ?_
      obtain ⟨S2, g1, hf⟩ := cl1S hf
      refine x_Vv (k := 0) (As := []) (rest := []) E hC hW hl.1 (c_X9_fillStanding S S2 g1) cv_X9_166 rfl (by decide) rfl rfl rfl ⟨Nat.le_of_ble_eq_true rfl, Nat.le_of_ble_eq_true rfl⟩ ⟨Nat.le_refl _, Nat.le_refl _⟩ (Nat.le_of_ble_eq_true rfl) dX9_best_13 (fun H locs hW => ?_)
      refine lv_aload_n hx hb dX9_best_16 rfl (lv_at hl 0 rfl) ?_
      refine x_getr (k := 0) (k' := 19) E hC hW fl_X9_33 (by decide) rfl rfl dX9_best_17 ?_
      obtain ⟨r3, g4, hf⟩ := cl1S hf
      refine x_Vr (k := 19) (As := []) (rest := []) E hC hW hl.1 (c_X8_greatest r3 S2 g4) cv_X9_169 rfl (by decide) rfl rfl rfl ⟨Nat.le_of_ble_eq_true rfl, Nat.le_of_ble_eq_true rfl⟩ ⟨Nat.le_refl _, Nat.le_refl _⟩ (Nat.le_of_ble_eq_true rfl) dX9_best_20 (fun H locs hW => ?_)
      refine lv_istore_n (lv' := [(2, .int r3), (0, .ref (L 0)), (1, .int a1)]) hx hb dX9_best_23 rfl hl (by decide) rfl (fun ls hl => ?_)
      refine lv_iconst (v := 0) hx hb dX9_best_24 (by decide) ?_
      refine lv_istore_n (lv' := [(3, .int (0 : Int32)), (2, .int r3), (0, .ref (L 0)), (1, .int a1)]) hx hb dX9_best_25 rfl hl (by decide) rfl (fun ls hl => ?_)
      refine lv_iconst (v := 0) hx hb dX9_best_26 (by decide) ?_
      refine lv_istore (lv' := [(4, .int (0 : Int32)), (3, .int (0 : Int32)), (2, .int r3), (0, .ref (L 0)), (1, .int a1)]) hx hb dX9_best_27 hl (by decide) rfl (fun ls hl => ?_)
      refine lv_aload_n hx hb dX9_best_29 rfl (lv_at hl 3 rfl) ?_
      refine x_getr (k := 0) (k' := 19) E hC hW fl_X9_33 (by decide) rfl rfl dX9_best_30 ?_
      refine x_geti (k := 19) E hC hW fl_X9_173 (by decide) rfl rfl dX9_best_33 ?_
      refine lv_iconst (v := 1) hx hb dX9_best_36 (by decide) ?_
      refine lv_isub hx hb dX9_best_37 ?_
      refine lv_topi (fun x5 ex5 => ?_)
      have hf := bvS hf ex5
      refine lv_istore (lv' := [(5, .int x5), (4, .int (0 : Int32)), (3, .int (0 : Int32)), (2, .int r3), (0, .ref (L 0)), (1, .int a1)]) hx hb dX9_best_38 hl (by decide) rfl (fun ls hl => ?_)
      refine lv_iconst (v := 0) hx hb dX9_best_40 (by decide) ?_
      refine lv_istore (lv' := [(6, .int (0 : Int32)), (5, .int x5), (4, .int (0 : Int32)), (3, .int (0 : Int32)), (2, .int r3), (0, .ref (L 0)), (1, .int a1)]) hx hb dX9_best_41 hl (by decide) rfl (fun ls hl => ?_)
      refine lv_aload_n hx hb dX9_best_43 rfl (lv_at hl 5 rfl) ?_
      refine x_getr (k := 0) (k' := 19) E hC hW fl_X9_33 (by decide) rfl rfl dX9_best_44 ?_
      refine x_geti (k := 19) E hC hW fl_X9_173 (by decide) rfl rfl dX9_best_47 ?_
      refine lv_iconst (v := 1) hx hb dX9_best_50 (by decide) ?_
      refine lv_isub hx hb dX9_best_51 ?_
      refine lv_topi (fun x6 ex6 => ?_)
      have hf := bvS hf ex6
      refine lv_istore (lv' := [(7, .int x6), (6, .int (0 : Int32)), (5, .int x5), (4, .int (0 : Int32)), (3, .int (0 : Int32)), (2, .int r3), (0, .ref (L 0)), (1, .int a1)]) hx hb dX9_best_52 hl (by decide) rfl (fun ls hl => ?_)
      refine wp5K hf (fun (v14 : Int32) (v15 : Int32) (v16 : Int32) (v17 : Int32) (v18 : Int32) => ∀ (H : Heap) (locs : List Loc) (ls : Array Slot), lv_has ls 8 [(0, .ref (L 0)), (1, .int a1), (2, .int r3), (3, .int v14), (4, .int v15), (5, .int v16), (6, .int v17), (7, .int v18)] → Wd D cy L shC 52 S2 s H locs → W p l e (rmk 6 134) s m args below meth c H locs 0 0 Q (F0 m 54 ls [])) (fun (j : Int32 → Int32 → Int32 → Int32 → Option (Int32 × Sg)) => ∀ (v7 : Int32) (v8 : Int32) (v9 : Int32) (v10 : Int32), (j v7 v8 v9 v10) = some (r, S') → ∀ (H : Heap) (locs : List Loc) (ls : Array Slot), lv_has ls 8 [(1, .int a1), (3, .int v7), (4, .int v8), (5, .int v9), (6, .int v10)] → Wd D cy L shC 52 S2 s H locs → W p l e (rmk 6 134) s m args below meth c H locs 0 0 Q (F0 m 107 ls [])) ?_ ?_ _ _ _ (lv_sub hl [6, 7, 5, 4, 3, 2, 1, 0] rfl) hW
      · intro v7 v8 v9 v10 hf H locs ls hl hW
        try dsimp only at hf
        refine lv_iload_n hx hb dX9_best_107 rfl (lv_at hl 0 rfl) ?_
        by_cases c11 : a1 = 0
        · have hf := xt hf c11
          refine lv_tableIn (off := 28) (tgt := 136) hx hb dX9_best_108 (by rw [c11]; decide) (by rw [c11]; decide) (by rw [c11]; rfl) (by decide) ?_
          refine lv_iload_n hx hb dX9_best_136 rfl (lv_at hl 1 rfl) ?_
          exact x_iretI E hC hW hr hlk hQ dX9_best_137 hf
        · have hf := xf hf c11
          by_cases c12 : a1 = 1
          · have hf := xt hf c12
            refine lv_tableIn (off := 30) (tgt := 138) hx hb dX9_best_108 (by rw [c12]; decide) (by rw [c12]; decide) (by rw [c12]; rfl) (by decide) ?_
            refine lv_iload hx hb dX9_best_138 (lv_at hl 2 rfl) ?_
            exact x_iretI E hC hW hr hlk hQ dX9_best_140 hf
          · have hf := xf hf c12
            by_cases c13 : a1 = 2
            · have hf := xt hf c13
              refine lv_tableIn (off := 33) (tgt := 141) hx hb dX9_best_108 (by rw [c13]; decide) (by rw [c13]; decide) (by rw [c13]; rfl) (by decide) ?_
              refine lv_iload hx hb dX9_best_141 (lv_at hl 3 rfl) ?_
              exact x_iretI E hC hW hr hlk hQ dX9_best_143 hf
            · have hf := xf hf c13
              refine lv_tableOut (tgt := 144) hx hb dX9_best_108 (by have q0 := lv_neT c11 (a := 0) (by decide); have q1 := lv_neT c12 (a := 1) (by decide); have q2 := lv_neT c13 (a := 2) (by decide); omega) (by decide) ?_
              refine lv_iload hx hb dX9_best_144 (lv_at hl 4 rfl) ?_
              exact x_iretI E hC hW hr hlk hQ dX9_best_146 hf
      · intro k107 K107 self54 ih54 v14 v15 v16 v17 v18 hf H locs ls hl hW
        unfold X9_best_L54 at hf
        refine lv_iload hx hb dX9_best_54 (lv_at hl 7 rfl) ?_
        refine lv_if_lt (tgt := 107) hx hb dX9_best_56 (by decide) (fun c32 => ?_) (fun c32 => ?_)
        · have hf := xt hf c32
          exact K107 _ _ _ _ hf _ _ _ (lv_sub hl [1, 3, 4, 5, 6] rfl) hW
        · have hf := xf hf c32
          refine lv_aload_n hx hb dX9_best_59 rfl (lv_at hl 0 rfl) ?_
          refine x_getr (k := 0) (k' := 19) E hC hW fl_X9_33 (by decide) rfl rfl dX9_best_60 ?_
          refine x_getr (k := 19) (k' := 20) E hC hW fl_X9_176 (by decide) rfl rfl dX9_best_63 ?_
          refine lv_iload hx hb dX9_best_66 (lv_at hl 7 rfl) ?_
          obtain ⟨hg19, hf⟩ := gdS hf
          refine x_zald (k := 20) E hC hW (by decide) rfl (inbS hg19) dX9_best_68 ?_
          refine jnS hf (fun (j : Int32 → Int32 → Int32 → Int32 → Option (Int32 × Sg)) => ∀ (v20 : Int32) (v21 : Int32) (v22 : Int32) (v23 : Int32), (j v20 v21 v22 v23) = some (r, S') → ∀ (H : Heap) (locs : List Loc) (ls : Array Slot), lv_has ls 8 [(0, .ref (L 0)), (1, .int a1), (2, .int r3), (3, .int v20), (4, .int v21), (5, .int v22), (6, .int v23), (7, .int v18)] → Wd D cy L shC 52 S2 s H locs → W p l e (rmk 6 134) s m args below meth c H locs 0 0 Q (F0 m 101 ls [])) ?_ ?_
          · intro v20 v21 v22 v23 hf H locs ls hl hW
            try dsimp only at hf
            obtain ⟨x24, ex24⟩ : ∃ z : Int32, z = (v18 + (-1)) := ⟨_, rfl⟩
            have hf := bvS hf ex24
            refine lv_iinc (v := x24) (lv' := [(7, .int x24), (0, .ref (L 0)), (1, .int a1), (2, .int r3), (3, .int v20), (4, .int v21), (5, .int v22), (6, .int v23)]) hx hb dX9_best_101 hl (k := 7) rfl (by rw [ex24]; rfl) (by decide) rfl (fun ls hl => ?_)
            refine lv_goto (tgt := 54) hx hb dX9_best_104 (by decide) ?_
            exact ih54 _ _ _ _ _ hf _ _ _ (lv_sub hl [1, 2, 3, 4, 5, 6, 7, 0] rfl) hW
          intro j101 J101 hf
          refine lv_if_eq (tgt := 101) hx hb dX9_best_69 (by decide) (fun c31 => ?_) (fun c31 => ?_)
          · have hf := xt hf c31
            exact J101 _ _ _ _ hf _ _ _ (lv_sub hl [0, 1, 2, 3, 4, 5, 6, 7] rfl) hW
          · have hf := xf hf c31
            refine lv_iload hx hb dX9_best_72 (lv_at hl 7 rfl) ?_
            obtain ⟨r25, g26, hf⟩ := cl1S hf
            refine x_Sr (As := [.int v18]) (rest := []) E hC hW hl.1 (c_J6_bitCount_0f7a4 v18 r25 S2 g26) cs_X9_180 rfl rfl ⟨Nat.le_of_ble_eq_true rfl, Nat.le_of_ble_eq_true rfl⟩ ⟨Nat.le_refl _, Nat.le_refl _⟩ (Nat.le_of_ble_eq_true rfl) dX9_best_74 (fun H locs hW => ?_)
            refine lv_iload_n hx hb dX9_best_77 rfl (lv_at hl 2 rfl) ?_
            refine lv_icmp_ne (tgt := 101) hx hb dX9_best_78 (by decide) (fun c30 => ?_) (fun c30 => ?_)
            · have hf := xf hf c30
              exact J101 _ _ _ _ hf _ _ _ (lv_sub hl [0, 1, 2, 3, 4, 5, 6, 7] rfl) hW
            · have hf := xt hf c30
              refine lv_iload hx hb dX9_best_81 (lv_at hl 7 rfl) ?_
              refine lv_istore_n (lv' := [(3, .int v18), (0, .ref (L 0)), (1, .int a1), (2, .int r3), (4, .int v15), (5, .int v16), (6, .int v17), (7, .int v18)]) hx hb dX9_best_83 rfl hl (by decide) rfl (fun ls hl => ?_)
              obtain ⟨x27, ex27⟩ : ∃ z : Int32, z = (v15 + 1) := ⟨_, rfl⟩
              have hf := bvS hf ex27
              refine lv_iinc (v := x27) (lv' := [(4, .int x27), (3, .int v18), (0, .ref (L 0)), (1, .int a1), (2, .int r3), (5, .int v16), (6, .int v17), (7, .int v18)]) hx hb dX9_best_84 hl (k := 4) rfl (by rw [ex27]; rfl) (by decide) rfl (fun ls hl => ?_)
              refine lv_iload hx hb dX9_best_87 (lv_at hl 5 rfl) ?_
              refine lv_iload hx hb dX9_best_89 (lv_at hl 7 rfl) ?_
              refine lv_iand hx hb dX9_best_91 ?_
              refine lv_topi (fun x28 ex28 => ?_)
              have hf := bvS hf ex28
              refine lv_istore (lv' := [(5, .int x28), (4, .int x27), (3, .int v18), (0, .ref (L 0)), (1, .int a1), (2, .int r3), (6, .int v17), (7, .int v18)]) hx hb dX9_best_92 hl (by decide) rfl (fun ls hl => ?_)
              refine lv_iload hx hb dX9_best_94 (lv_at hl 6 rfl) ?_
              refine lv_iload hx hb dX9_best_96 (lv_at hl 7 rfl) ?_
              refine lv_ior hx hb dX9_best_98 ?_
              refine lv_topi (fun x29 ex29 => ?_)
              have hf := bvS hf ex29
              refine lv_istore (lv' := [(6, .int x29), (5, .int x28), (4, .int x27), (3, .int v18), (0, .ref (L 0)), (1, .int a1), (2, .int r3), (7, .int v18)]) hx hb dX9_best_99 hl (by decide) rfl (fun ls hl => ?_)
              exact J101 _ _ _ _ hf _ _ _ (lv_sub hl [4, 5, 6, 3, 2, 1, 0, 7] rfl) hW
    · have hf := xf hf c33
      refine lv_bipush (v := (-2)) hx hb dX9_best_9 (by decide) ?_
      exact x_iretI E hC hW hr hlk hQ dX9_best_11 hf
set_option maxRecDepth 100000 in
set_option maxHeartbeats 4000000 in
theorem c_X2_weightOf {l : Launch} {D : va_G} {cy : Nat → ClassId} {L : Nat → Nat} {bA : Nat} (a1 : Int32) (r : Int32) (S : Sg)  (hf : f_X2_weightOf a1 S = some r) : MetX l D cy L shC 52 bA yX2_weightOf cX2_weightOf 4 (some .int) 0 0 [.ref (L 1), .int a1] (some (.int r)) S S := by
  refine x_met (own := RX2) (by decide) rfl (Nat.le_of_ble_eq_true rfl) ?_
  intro p e s m below meth c ls E hC hr hlk hl hW
  generalize hargs : ([.ref (L 1), .int a1] : List Value).toArray = args at E ⊢
  generalize hQ : MQ below (xQ D cy L shC 52 bA (some (.int r)) S) args s 0 0 (AL L 52) = Q
  have hl : lv_has ls 4 [(0, .ref (L 1)), (1, .int a1)] := hl
  have hx := E.1
  have hb := E.2.1
  have hts := E.2.2.2.2
  unfold f_X2_weightOf at hf
  refine lv_iconst (v := 0) hx hb dX2_weightOf_0 (by decide) ?_
  refine lv_istore_n (lv' := [(2, .int (0 : Int32)), (0, .ref (L 1)), (1, .int a1)]) hx hb dX2_weightOf_1 rfl hl (by decide) rfl (fun ls hl => ?_)
  refine lv_iconst (v := 0) hx hb dX2_weightOf_2 (by decide) ?_
  refine lv_istore_n (lv' := [(3, .int (0 : Int32)), (2, .int (0 : Int32)), (0, .ref (L 1)), (1, .int a1)]) hx hb dX2_weightOf_3 rfl hl (by decide) rfl (fun ls hl => ?_)
  refine wp2S (fun (v1 : Int32) (v2 : Int32) => ∀ (H : Heap) (locs : List Loc) (ls : Array Slot), lv_has ls 4 [(0, .ref (L 1)), (1, .int a1), (2, .int v1), (3, .int v2)] → Wd D cy L shC 52 S s H locs → W p l e (rmk 0 0) s m args below meth c H locs 0 0 Q (F0 m 4 ls [])) ?_ hf _ _ _ (lv_sub hl [2, 3, 1, 0] rfl) hW
  · intro self4 ih4 v1 v2 hf H locs ls hl hW
    unfold X2_weightOf_L4 at hf
    refine lv_iload_n hx hb dX2_weightOf_4 rfl (lv_at hl 3 rfl) ?_
    refine lv_aload_n hx hb dX2_weightOf_5 rfl (lv_at hl 0 rfl) ?_
    refine x_geti (k := 1) E hC hW fl_X2_18 (by decide) rfl rfl dX2_weightOf_6 ?_
    refine lv_icmp_ge (tgt := 36) hx hb dX2_weightOf_9 (by decide) (fun c8 => ?_) (fun c8 => ?_)
    · have hf := xt hf c8
      refine lv_iload_n hx hb dX2_weightOf_36 rfl (lv_at hl 2 rfl) ?_
      exact x_iretP E hC hW hr hlk hQ dX2_weightOf_37 hf
    · have hf := xf hf c8
      refine lv_iload_n hx hb dX2_weightOf_12 rfl (lv_at hl 1 rfl) ?_
      refine lv_iload_n hx hb dX2_weightOf_13 rfl (lv_at hl 3 rfl) ?_
      refine lv_ishr hx hb dX2_weightOf_14 ?_
      refine lv_iconst (v := 1) hx hb dX2_weightOf_15 (by decide) ?_
      refine lv_iand hx hb dX2_weightOf_16 ?_
      refine lv_iconst (v := 1) hx hb dX2_weightOf_17 (by decide) ?_
      refine jnS hf (fun (j : Int32 → Option (Int32)) => ∀ (v3 : Int32), (j v3) = some r → ∀ (H : Heap) (locs : List Loc) (ls : Array Slot), lv_has ls 4 [(0, .ref (L 1)), (1, .int a1), (2, .int v3), (3, .int v2)] → Wd D cy L shC 52 S s H locs → W p l e (rmk 0 0) s m args below meth c H locs 0 0 Q (F0 m 30 ls [])) ?_ ?_
      · intro v3 hf H locs ls hl hW
        try dsimp only at hf
        obtain ⟨x4, ex4⟩ : ∃ z : Int32, z = (v2 + 1) := ⟨_, rfl⟩
        have hf := bvS hf ex4
        refine lv_iinc (v := x4) (lv' := [(3, .int x4), (0, .ref (L 1)), (1, .int a1), (2, .int v3)]) hx hb dX2_weightOf_30 hl (k := 3) rfl (by rw [ex4]; rfl) (by decide) rfl (fun ls hl => ?_)
        refine lv_goto (tgt := 4) hx hb dX2_weightOf_33 (by decide) ?_
        exact ih4 _ _ hf _ _ _ (lv_sub hl [1, 2, 3, 0] rfl) hW
      intro j30 J30 hf
      refine lv_icmp_ne (tgt := 30) hx hb dX2_weightOf_18 (by decide) (fun c7 => ?_) (fun c7 => ?_)
      · have hf := xf hf c7
        exact J30 _ hf _ _ _ (lv_sub hl [0, 1, 2, 3] rfl) hW
      · have hf := xt hf c7
        refine lv_iload_n hx hb dX2_weightOf_21 rfl (lv_at hl 2 rfl) ?_
        refine lv_aload_n hx hb dX2_weightOf_22 rfl (lv_at hl 0 rfl) ?_
        refine x_getr (k := 1) (k' := 3) E hC hW fl_X2_25 (by decide) rfl rfl dX2_weightOf_23 ?_
        refine lv_iload_n hx hb dX2_weightOf_26 rfl (lv_at hl 3 rfl) ?_
        obtain ⟨hg5, hf⟩ := gdS hf
        refine x_iald (k := 3) E hC hW (by decide) rfl (inbS hg5) dX2_weightOf_27 ?_
        refine lv_iadd hx hb dX2_weightOf_28 ?_
        refine lv_topi (fun x6 ex6 => ?_)
        have hf := bvS hf ex6
        refine lv_istore_n (lv' := [(2, .int x6), (0, .ref (L 1)), (1, .int a1), (3, .int v2)]) hx hb dX2_weightOf_29 rfl hl (by decide) rfl (fun ls hl => ?_)
        exact J30 _ hf _ _ _ (lv_sub hl [1, 2, 0, 3] rfl) hW
set_option maxRecDepth 100000 in
set_option maxHeartbeats 4000000 in
theorem c_X9_heavy {l : Launch} {D : va_G} {cy : Nat → ClassId} {L : Nat → Nat} {bA : Nat} (a1 : Int32) (r : Int32) (S S' : Sg)  (hf : f_X9_heavy a1 S = some (r, S')) : MetX l D cy L shC 52 bA yX9_heavy cX9_heavy 5 (some .int) 6 134 [.ref (L 0), .int a1] (some (.int r)) S S' := by
  refine x_met (own := RX9) (by decide) rfl (Nat.le_of_ble_eq_true rfl) ?_
  intro p e s m below meth c ls E hC hr hlk hl hW
  generalize hargs : ([.ref (L 0), .int a1] : List Value).toArray = args at E ⊢
  generalize hQ : MQ below (xQ D cy L shC 52 bA (some (.int r)) S') args s 0 0 (AL L 52) = Q
  have hl : lv_has ls 5 [(0, .ref (L 0)), (1, .int a1)] := hl
  have hx := E.1
  have hb := E.2.1
  have hts := E.2.2.2.2
  unfold f_X9_heavy at hf
  refine lv_iload_n hx hb dX9_heavy_0 rfl (lv_at hl 1 rfl) ?_
  obtain ⟨r1, g2, hf⟩ := cl1S hf
  refine x_Sr (As := [.int a1]) (rest := []) E hC hW hl.1 (c_X9_isBit a1 r1 S g2) cs_X9_117 rfl rfl ⟨Nat.le_of_ble_eq_true rfl, Nat.le_of_ble_eq_true rfl⟩ ⟨Nat.le_refl _, Nat.le_refl _⟩ (Nat.le_of_ble_eq_true rfl) dX9_heavy_1 (fun H locs hW => ?_)
  refine lv_if_ne (tgt := 10) hx hb dX9_heavy_4 (by decide) (fun c22 => ?_) (fun c22 => ?_)
  · have hf := xf hf c22
    refine lv_aload_n hx hb dX9_heavy_10 rfl (lv_at hl 0 rfl) ?_
    obtain ⟨S4, g3, hf⟩ := cl1S hf
    refine x_Vv (k := 0) (As := []) (rest := []) E hC hW hl.1 (c_X9_fillStanding S S4 g3) cv_X9_166 rfl (by decide) rfl rfl rfl ⟨Nat.le_of_ble_eq_true rfl, Nat.le_of_ble_eq_true rfl⟩ ⟨Nat.le_refl _, Nat.le_refl _⟩ (Nat.le_of_ble_eq_true rfl) dX9_heavy_11 (fun H locs hW => ?_)
    refine lv_iconst (v := 0) hx hb dX9_heavy_14 (by decide) ?_
    refine lv_istore_n (lv' := [(2, .int (0 : Int32)), (0, .ref (L 0)), (1, .int a1)]) hx hb dX9_heavy_15 rfl hl (by decide) rfl (fun ls hl => ?_)
    refine lv_iconst (v := 0) hx hb dX9_heavy_16 (by decide) ?_
    refine lv_istore_n (lv' := [(3, .int (0 : Int32)), (2, .int (0 : Int32)), (0, .ref (L 0)), (1, .int a1)]) hx hb dX9_heavy_17 rfl hl (by decide) rfl (fun ls hl => ?_)
    refine lv_iconst (v := 0) hx hb dX9_heavy_18 (by decide) ?_
    refine lv_istore (lv' := [(4, .int (0 : Int32)), (3, .int (0 : Int32)), (2, .int (0 : Int32)), (0, .ref (L 0)), (1, .int a1)]) hx hb dX9_heavy_19 hl (by decide) rfl (fun ls hl => ?_)
    refine wp3K hf (fun (v8 : Int32) (v9 : Int32) (v10 : Int32) => ∀ (H : Heap) (locs : List Loc) (ls : Array Slot), lv_has ls 5 [(0, .ref (L 0)), (1, .int a1), (2, .int v8), (3, .int v9), (4, .int v10)] → Wd D cy L shC 52 S4 s H locs → W p l e (rmk 6 134) s m args below meth c H locs 0 0 Q (F0 m 21 ls [])) (fun (j : Int32 → Int32 → Option (Int32 × Sg)) => ∀ (v5 : Int32) (v6 : Int32), (j v5 v6) = some (r, S') → ∀ (H : Heap) (locs : List Loc) (ls : Array Slot), lv_has ls 5 [(1, .int a1), (2, .int v5), (3, .int v6)] → Wd D cy L shC 52 S4 s H locs → W p l e (rmk 6 134) s m args below meth c H locs 0 0 Q (F0 m 78 ls [])) ?_ ?_ _ _ _ (lv_sub hl [3, 4, 2, 1, 0] rfl) hW
    · intro v5 v6 hf H locs ls hl hW
      try dsimp only at hf
      refine lv_iload_n hx hb dX9_heavy_78 rfl (lv_at hl 0 rfl) ?_
      refine lv_if_ne (tgt := 86) hx hb dX9_heavy_79 (by decide) (fun c7 => ?_) (fun c7 => ?_)
      · have hf := xf hf c7
        refine lv_iload_n hx hb dX9_heavy_86 rfl (lv_at hl 2 rfl) ?_
        exact x_iretI E hC hW hr hlk hQ dX9_heavy_87 hf
      · have hf := xt hf c7
        refine lv_iload_n hx hb dX9_heavy_82 rfl (lv_at hl 1 rfl) ?_
        refine lv_goto (tgt := 87) hx hb dX9_heavy_83 (by decide) ?_
        exact x_iretI E hC hW hr hlk hQ dX9_heavy_87 hf
    · intro k78 K78 self21 ih21 v8 v9 v10 hf H locs ls hl hW
      unfold X9_heavy_L21 at hf
      refine lv_iload hx hb dX9_heavy_21 (lv_at hl 4 rfl) ?_
      refine lv_aload_n hx hb dX9_heavy_23 rfl (lv_at hl 0 rfl) ?_
      refine x_getr (k := 0) (k' := 19) E hC hW fl_X9_33 (by decide) rfl rfl dX9_heavy_24 ?_
      refine x_geti (k := 19) E hC hW fl_X9_173 (by decide) rfl rfl dX9_heavy_27 ?_
      refine lv_icmp_ge (tgt := 78) hx hb dX9_heavy_30 (by decide) (fun c21 => ?_) (fun c21 => ?_)
      · have hf := xt hf c21
        exact K78 _ _ hf _ _ _ (lv_sub hl [1, 2, 3] rfl) hW
      · have hf := xf hf c21
        refine lv_aload_n hx hb dX9_heavy_33 rfl (lv_at hl 0 rfl) ?_
        refine x_getr (k := 0) (k' := 19) E hC hW fl_X9_33 (by decide) rfl rfl dX9_heavy_34 ?_
        refine x_getr (k := 19) (k' := 20) E hC hW fl_X9_176 (by decide) rfl rfl dX9_heavy_37 ?_
        refine lv_iload hx hb dX9_heavy_40 (lv_at hl 4 rfl) ?_
        obtain ⟨hg11, hf⟩ := gdS hf
        refine x_zald (k := 20) E hC hW (by decide) rfl (inbS hg11) dX9_heavy_42 ?_
        refine jnS hf (fun (j : Int32 → Int32 → Option (Int32 × Sg)) => ∀ (v12 : Int32) (v13 : Int32), (j v12 v13) = some (r, S') → ∀ (H : Heap) (locs : List Loc) (ls : Array Slot), lv_has ls 5 [(0, .ref (L 0)), (1, .int a1), (2, .int v12), (3, .int v13), (4, .int v10)] → Wd D cy L shC 52 S4 s H locs → W p l e (rmk 6 134) s m args below meth c H locs 0 0 Q (F0 m 72 ls [])) ?_ ?_
        · intro v12 v13 hf H locs ls hl hW
          try dsimp only at hf
          obtain ⟨x14, ex14⟩ : ∃ z : Int32, z = (v10 + 1) := ⟨_, rfl⟩
          have hf := bvS hf ex14
          refine lv_iinc (v := x14) (lv' := [(4, .int x14), (0, .ref (L 0)), (1, .int a1), (2, .int v12), (3, .int v13)]) hx hb dX9_heavy_72 hl (k := 4) rfl (by rw [ex14]; rfl) (by decide) rfl (fun ls hl => ?_)
          refine lv_goto (tgt := 21) hx hb dX9_heavy_75 (by decide) ?_
          exact ih21 _ _ _ hf _ _ _ (lv_sub hl [1, 2, 3, 4, 0] rfl) hW
        intro j72 J72 hf
        refine lv_if_eq (tgt := 72) hx hb dX9_heavy_43 (by decide) (fun c20 => ?_) (fun c20 => ?_)
        · have hf := xt hf c20
          exact J72 _ _ hf _ _ _ (lv_sub hl [0, 1, 2, 3, 4] rfl) hW
        · have hf := xf hf c20
          refine lv_aload_n hx hb dX9_heavy_46 rfl (lv_at hl 0 rfl) ?_
          refine x_getr (k := 0) (k' := 1) E hC hW fl_X9_12 (by decide) rfl rfl dX9_heavy_47 ?_
          refine lv_iload hx hb dX9_heavy_50 (lv_at hl 4 rfl) ?_
          obtain ⟨r15, g16, hf⟩ := cl1S hf
          refine x_Vr (k := 1) (As := [.int v10]) (rest := []) E hC hW hl.1 (c_X2_weightOf v10 r15 S4 g16) cv_X9_185 rfl (by decide) rfl rfl rfl ⟨Nat.le_of_ble_eq_true rfl, Nat.le_of_ble_eq_true rfl⟩ ⟨Nat.le_refl _, Nat.le_refl _⟩ (Nat.le_of_ble_eq_true rfl) dX9_heavy_52 (fun H locs hW => ?_)
          refine lv_iload_n hx hb dX9_heavy_55 rfl (lv_at hl 3 rfl) ?_
          refine lv_icmp_le (tgt := 72) hx hb dX9_heavy_56 (by decide) (fun c19 => ?_) (fun c19 => ?_)
          · have hf := xt hf c19
            exact J72 _ _ hf _ _ _ (lv_sub hl [0, 1, 2, 3, 4] rfl) hW
          · have hf := xf hf c19
            refine lv_iload hx hb dX9_heavy_59 (lv_at hl 4 rfl) ?_
            refine lv_istore_n (lv' := [(2, .int v10), (0, .ref (L 0)), (1, .int a1), (3, .int v9), (4, .int v10)]) hx hb dX9_heavy_61 rfl hl (by decide) rfl (fun ls hl => ?_)
            refine lv_aload_n hx hb dX9_heavy_62 rfl (lv_at hl 1 rfl) ?_
            refine x_getr (k := 0) (k' := 1) E hC hW fl_X9_12 (by decide) rfl rfl dX9_heavy_63 ?_
            refine lv_iload hx hb dX9_heavy_66 (lv_at hl 4 rfl) ?_
            obtain ⟨r17, g18, hf⟩ := cl1S hf
            refine x_Vr (k := 1) (As := [.int v10]) (rest := []) E hC hW hl.1 (c_X2_weightOf v10 r17 S4 g18) cv_X9_185 rfl (by decide) rfl rfl rfl ⟨Nat.le_of_ble_eq_true rfl, Nat.le_of_ble_eq_true rfl⟩ ⟨Nat.le_refl _, Nat.le_refl _⟩ (Nat.le_of_ble_eq_true rfl) dX9_heavy_68 (fun H locs hW => ?_)
            refine lv_istore_n (lv' := [(3, .int r17), (2, .int v10), (0, .ref (L 0)), (1, .int a1), (4, .int v10)]) hx hb dX9_heavy_71 rfl hl (by decide) rfl (fun ls hl => ?_)
            exact J72 _ _ hf _ _ _ (lv_sub hl [2, 3, 1, 0, 4] rfl) hW
  · have hf := xt hf c22
    refine lv_bipush (v := (-2)) hx hb dX9_heavy_7 (by decide) ?_
    exact x_iretI E hC hW hr hlk hQ dX9_heavy_9 hf
set_option maxRecDepth 100000 in
set_option maxHeartbeats 4000000 in
theorem c_X9_fillOrder {l : Launch} {D : va_G} {cy : Nat → ClassId} {L : Nat → Nat} {bA : Nat}  (S S' : Sg)  (hf : f_X9_fillOrder S = some S') : MetX l D cy L shC 52 bA yX9_fillOrder cX9_fillOrder 2 none 2 45 [.ref (L 0)] none S S' := by
  refine x_met (own := RX9) (by decide) rfl (Nat.le_of_ble_eq_true rfl) ?_
  intro p e s m below meth c ls E hC hr hlk hl hW
  generalize hargs : ([.ref (L 0)] : List Value).toArray = args at E ⊢
  generalize hQ : MQ below (xQ D cy L shC 52 bA none S') args s 0 0 (AL L 52) = Q
  have hl : lv_has ls 2 [(0, .ref (L 0))] := hl
  have hx := E.1
  have hb := E.2.1
  have hts := E.2.2.2.2
  unfold f_X9_fillOrder at hf
  refine lv_iconst (v := 0) hx hb dX9_fillOrder_0 (by decide) ?_
  refine lv_istore_n (lv' := [(1, .int (0 : Int32)), (0, .ref (L 0))]) hx hb dX9_fillOrder_1 rfl hl (by decide) rfl (fun ls hl => ?_)
  refine wp2S (fun (v1 : Int32) (S2 : Sg) => ∀ (H : Heap) (locs : List Loc) (ls : Array Slot), lv_has ls 2 [(0, .ref (L 0)), (1, .int v1)] → Wd D cy L shC 52 S2 s H locs → W p l e (rmk 2 45) s m args below meth c H locs 0 0 Q (F0 m 2 ls [])) ?_ hf _ _ _ (lv_sub hl [1, 0] rfl) hW
  · intro self2 ih2 v1 S2 hf H locs ls hl hW
    unfold X9_fillOrder_L2 at hf
    refine lv_iload_n hx hb dX9_fillOrder_2 rfl (lv_at hl 1 rfl) ?_
    refine lv_aload_n hx hb dX9_fillOrder_3 rfl (lv_at hl 0 rfl) ?_
    refine x_getr (k := 0) (k' := 1) E hC hW fl_X9_12 (by decide) rfl rfl dX9_fillOrder_4 ?_
    refine x_geti (k := 1) E hC hW fl_X9_107 (by decide) rfl rfl dX9_fillOrder_7 ?_
    refine lv_icmp_ge (tgt := 33) hx hb dX9_fillOrder_10 (by decide) (fun c8 => ?_) (fun c8 => ?_)
    · have hf := xt hf c8
      exact x_vretI E hC hW hr hlk hQ dX9_fillOrder_33 hf
    · have hf := xf hf c8
      refine lv_aload_n hx hb dX9_fillOrder_13 rfl (lv_at hl 0 rfl) ?_
      refine x_getr (k := 0) (k' := 49) E hC hW fl_X9_70 (by decide) rfl rfl dX9_fillOrder_14 ?_
      refine lv_aload_n hx hb dX9_fillOrder_17 rfl (lv_at hl 0 rfl) ?_
      refine x_getr (k := 0) (k' := 1) E hC hW fl_X9_12 (by decide) rfl rfl dX9_fillOrder_18 ?_
      refine lv_iload_n hx hb dX9_fillOrder_21 rfl (lv_at hl 1 rfl) ?_
      obtain ⟨r3, g4, hf⟩ := cl1S hf
      refine x_Vr (k := 1) (As := [.int v1]) (rest := [.ref (L 49)]) E hC hW hl.1 (c_X2_placeInQueue v1 r3 S2 g4) cv_X9_129 rfl (by decide) rfl rfl rfl ⟨Nat.le_of_ble_eq_true rfl, Nat.le_of_ble_eq_true rfl⟩ ⟨Nat.le_refl _, Nat.le_refl _⟩ (Nat.le_of_ble_eq_true rfl) dX9_fillOrder_22 (fun H locs hW => ?_)
      refine lv_iload_n hx hb dX9_fillOrder_25 rfl (lv_at hl 1 rfl) ?_
      obtain ⟨hg5, hf⟩ := gdS hf
      refine x_iast (k := 49) E hC hW (by decide) rfl (inbS hg5) dX9_fillOrder_26 (fun H locs hW => ?_)
      obtain ⟨S6, eS6⟩ : ∃ z : Sg, z = si S2 49 (ix r3) v1 := ⟨_, rfl⟩
      have hW : Wd D cy L shC 52 S6 s H locs := by rw [eS6]; exact hW
      have hf := bvS hf eS6
      obtain ⟨x7, ex7⟩ : ∃ z : Int32, z = (v1 + 1) := ⟨_, rfl⟩
      have hf := bvS hf ex7
      refine lv_iinc (v := x7) (lv' := [(1, .int x7), (0, .ref (L 0))]) hx hb dX9_fillOrder_27 hl (k := 1) rfl (by rw [ex7]; rfl) (by decide) rfl (fun ls hl => ?_)
      refine lv_goto (tgt := 2) hx hb dX9_fillOrder_30 (by decide) ?_
      exact ih2 _ _ hf _ _ _ (lv_sub hl [1, 0] rfl) hW
set_option maxRecDepth 100000 in
set_option maxHeartbeats 4000000 in
theorem c_X9_queue {l : Launch} {D : va_G} {cy : Nat → ClassId} {L : Nat → Nat} {bA : Nat} (a1 : Int32) (r : Int32) (S S' : Sg)  (hf : f_X9_queue a1 S = some (r, S')) : MetX l D cy L shC 52 bA yX9_queue cX9_queue 2 (some .int) 3 66 [.ref (L 0), .int a1] (some (.int r)) S S' := by
  refine x_met (own := RX9) (by decide) rfl (Nat.le_of_ble_eq_true rfl) ?_
  intro p e s m below meth c ls E hC hr hlk hl hW
  generalize hargs : ([.ref (L 0), .int a1] : List Value).toArray = args at E ⊢
  generalize hQ : MQ below (xQ D cy L shC 52 bA (some (.int r)) S') args s 0 0 (AL L 52) = Q
  have hl : lv_has ls 2 [(0, .ref (L 0)), (1, .int a1)] := hl
  have hx := E.1
  have hb := E.2.1
  have hts := E.2.2.2.2
  unfold f_X9_queue at hf
  refine lv_aload_n hx hb dX9_queue_0 rfl (lv_at hl 0 rfl) ?_
  refine x_getr (k := 0) (k' := 1) E hC hW fl_X9_12 (by decide) rfl rfl dX9_queue_1 ?_
  refine lv_iload_n hx hb dX9_queue_4 rfl (lv_at hl 1 rfl) ?_
  obtain ⟨r1, g2, hf⟩ := cl1S hf
  refine x_Vr (k := 1) (As := [.int a1]) (rest := []) E hC hW hl.1 (c_X2_has a1 r1 S g2) cv_X9_114 rfl (by decide) rfl rfl rfl ⟨Nat.le_of_ble_eq_true rfl, Nat.le_of_ble_eq_true rfl⟩ ⟨Nat.le_refl _, Nat.le_refl _⟩ (Nat.le_of_ble_eq_true rfl) dX9_queue_5 (fun H locs hW => ?_)
  refine lv_if_ne (tgt := 14) hx hb dX9_queue_8 (by decide) (fun c6 => ?_) (fun c6 => ?_)
  · have hf := xf hf c6
    refine lv_aload_n hx hb dX9_queue_14 rfl (lv_at hl 0 rfl) ?_
    obtain ⟨S4, g3, hf⟩ := cl1S hf
    refine x_Vv (k := 0) (As := []) (rest := []) E hC hW hl.1 (c_X9_fillOrder S S4 g3) cv_X9_188 rfl (by decide) rfl rfl rfl ⟨Nat.le_of_ble_eq_true rfl, Nat.le_of_ble_eq_true rfl⟩ ⟨Nat.le_refl _, Nat.le_refl _⟩ (Nat.le_of_ble_eq_true rfl) dX9_queue_15 (fun H locs hW => ?_)
    refine lv_aload_n hx hb dX9_queue_18 rfl (lv_at hl 0 rfl) ?_
    refine x_getr (k := 0) (k' := 49) E hC hW fl_X9_70 (by decide) rfl rfl dX9_queue_19 ?_
    refine lv_iload_n hx hb dX9_queue_22 rfl (lv_at hl 1 rfl) ?_
    obtain ⟨hg5, hf⟩ := gdS hf
    refine x_iald (k := 49) E hC hW (by decide) rfl (inbS hg5) dX9_queue_23 ?_
    exact x_iretI E hC hW hr hlk hQ dX9_queue_24 hf
  · have hf := xt hf c6
    refine lv_bipush (v := (-12)) hx hb dX9_queue_11 (by decide) ?_
    exact x_iretI E hC hW hr hlk hQ dX9_queue_13 hf
set_option maxRecDepth 100000 in
set_option maxHeartbeats 4000000 in
theorem c_X9_greedy {l : Launch} {D : va_G} {cy : Nat → ClassId} {L : Nat → Nat} {bA : Nat} (a1 : Int32) (r : Int32) (S S' : Sg)  (hf : f_X9_greedy a1 S = some (r, S')) : MetX l D cy L shC 52 bA yX9_greedy cX9_greedy 5 (some .int) 4 92 [.ref (L 0), .int a1] (some (.int r)) S S' := by
  refine x_met (own := RX9) (by decide) rfl (Nat.le_of_ble_eq_true rfl) ?_
  intro p e s m below meth c ls E hC hr hlk hl hW
  generalize hargs : ([.ref (L 0), .int a1] : List Value).toArray = args at E ⊢
  generalize hQ : MQ below (xQ D cy L shC 52 bA (some (.int r)) S') args s 0 0 (AL L 52) = Q
  have hl : lv_has ls 5 [(0, .ref (L 0)), (1, .int a1)] := hl
  have hx := E.1
  have hb := E.2.1
  have hts := E.2.2.2.2
  unfold f_X9_greedy at hf
  refine lv_iload_n hx hb dX9_greedy_0 rfl (lv_at hl 1 rfl) ?_
  obtain ⟨r1, g2, hf⟩ := cl1S hf
  refine x_Sr (As := [.int a1]) (rest := []) E hC hW hl.1 (c_X9_isBit a1 r1 S g2) cs_X9_117 rfl rfl ⟨Nat.le_of_ble_eq_true rfl, Nat.le_of_ble_eq_true rfl⟩ ⟨Nat.le_refl _, Nat.le_refl _⟩ (Nat.le_of_ble_eq_true rfl) dX9_greedy_1 (fun H locs hW => ?_)
  refine lv_if_ne (tgt := 10) hx hb dX9_greedy_4 (by decide) (fun c24 => ?_) (fun c24 => ?_)
  · have hf := xf hf c24
    refine lv_aload_n hx hb dX9_greedy_10 rfl (lv_at hl 0 rfl) ?_
    refine x_getr (k := 0) (k' := 13) E hC hW fl_X9_26 (by decide) rfl rfl dX9_greedy_11 ?_
    refine lv_aload_n hx hb dX9_greedy_14 rfl (lv_at hl 0 rfl) ?_
    refine x_getr (k := 0) (k' := 1) E hC hW fl_X9_12 (by decide) rfl rfl dX9_greedy_15 ?_
    obtain ⟨S4, g3, hf⟩ := cl1S hf
    refine x_Vv (k := 13) (As := [.ref (L 1)]) (rest := []) E hC hW hl.1 (c_X5_fill S S4 g3) cv_X9_141 rfl (by decide) rfl rfl rfl ⟨Nat.le_of_ble_eq_true rfl, Nat.le_of_ble_eq_true rfl⟩ ⟨Nat.le_refl _, Nat.le_refl _⟩ (Nat.le_of_ble_eq_true rfl) dX9_greedy_18 (fun H locs hW => ?_)
    refine lv_aload_n hx hb dX9_greedy_21 rfl (lv_at hl 0 rfl) ?_
    obtain ⟨S6, g5, hf⟩ := cl1S hf
    refine x_Vv (k := 0) (As := []) (rest := []) E hC hW hl.1 (c_X9_fillOrder S4 S6 g5) cv_X9_188 rfl (by decide) rfl rfl rfl ⟨Nat.le_of_ble_eq_true rfl, Nat.le_of_ble_eq_true rfl⟩ ⟨Nat.le_refl _, Nat.le_refl _⟩ (Nat.le_of_ble_eq_true rfl) dX9_greedy_22 (fun H locs hW => ?_)
    refine lv_iconst (v := 0) hx hb dX9_greedy_25 (by decide) ?_
    refine lv_istore_n (lv' := [(2, .int (0 : Int32)), (0, .ref (L 0)), (1, .int a1)]) hx hb dX9_greedy_26 rfl hl (by decide) rfl (fun ls hl => ?_)
    refine lv_iconst (v := 0) hx hb dX9_greedy_27 (by decide) ?_
    refine lv_istore_n (lv' := [(3, .int (0 : Int32)), (2, .int (0 : Int32)), (0, .ref (L 0)), (1, .int a1)]) hx hb dX9_greedy_28 rfl hl (by decide) rfl (fun ls hl => ?_)
    refine wp3K hf (fun (v12 : Int32) (v13 : Int32) (S14 : Sg) => ∀ (H : Heap) (locs : List Loc) (ls : Array Slot), lv_has ls 5 [(0, .ref (L 0)), (1, .int a1), (2, .int v12), (3, .int v13)] → Wd D cy L shC 52 S14 s H locs → W p l e (rmk 4 92) s m args below meth c H locs 0 0 Q (F0 m 29 ls [])) (fun (j : Int32 → Sg → Option (Int32 × Sg)) => ∀ (v7 : Int32) (S8 : Sg), (j v7 S8) = some (r, S') → ∀ (H : Heap) (locs : List Loc) (ls : Array Slot), lv_has ls 5 [(0, .ref (L 0)), (1, .int a1), (2, .int v7)] → Wd D cy L shC 52 S8 s H locs → W p l e (rmk 4 92) s m args below meth c H locs 0 0 Q (F0 m 73 ls [])) ?_ ?_ _ _ _ (lv_sub hl [2, 3, 1, 0] rfl) hW
    · intro v7 S8 hf H locs ls hl hW
      try dsimp only at hf
      refine lv_iload_n hx hb dX9_greedy_73 rfl (lv_at hl 1 rfl) ?_
      refine lv_if_ne (tgt := 81) hx hb dX9_greedy_74 (by decide) (fun c11 => ?_) (fun c11 => ?_)
      · have hf := xf hf c11
        refine lv_aload_n hx hb dX9_greedy_81 rfl (lv_at hl 0 rfl) ?_
        refine x_getr (k := 0) (k' := 1) E hC hW fl_X9_12 (by decide) rfl rfl dX9_greedy_82 ?_
        refine lv_iload_n hx hb dX9_greedy_85 rfl (lv_at hl 2 rfl) ?_
        obtain ⟨r9, g10, hf⟩ := cl1S hf
        refine x_Vr (k := 1) (As := [.int v7]) (rest := []) E hC hW hl.1 (c_X2_weightOf v7 r9 S8 g10) cv_X9_185 rfl (by decide) rfl rfl rfl ⟨Nat.le_of_ble_eq_true rfl, Nat.le_of_ble_eq_true rfl⟩ ⟨Nat.le_refl _, Nat.le_refl _⟩ (Nat.le_of_ble_eq_true rfl) dX9_greedy_86 (fun H locs hW => ?_)
        exact x_iretI E hC hW hr hlk hQ dX9_greedy_89 hf
      · have hf := xt hf c11
        refine lv_iload_n hx hb dX9_greedy_77 rfl (lv_at hl 2 rfl) ?_
        refine lv_goto (tgt := 89) hx hb dX9_greedy_78 (by decide) ?_
        exact x_iretI E hC hW hr hlk hQ dX9_greedy_89 hf
    · intro k73 K73 self29 ih29 v12 v13 S14 hf H locs ls hl hW
      unfold X9_greedy_L29 at hf
      refine lv_iload_n hx hb dX9_greedy_29 rfl (lv_at hl 3 rfl) ?_
      refine lv_aload_n hx hb dX9_greedy_30 rfl (lv_at hl 0 rfl) ?_
      refine x_getr (k := 0) (k' := 1) E hC hW fl_X9_12 (by decide) rfl rfl dX9_greedy_31 ?_
      refine x_geti (k := 1) E hC hW fl_X9_107 (by decide) rfl rfl dX9_greedy_34 ?_
      refine lv_icmp_ge (tgt := 73) hx hb dX9_greedy_37 (by decide) (fun c23 => ?_) (fun c23 => ?_)
      · have hf := xt hf c23
        exact K73 _ _ hf _ _ _ (lv_sub hl [0, 1, 2] rfl) hW
      · have hf := xf hf c23
        refine lv_iload_n hx hb dX9_greedy_40 rfl (lv_at hl 2 rfl) ?_
        refine lv_iconst (v := 1) hx hb dX9_greedy_41 (by decide) ?_
        refine lv_aload_n hx hb dX9_greedy_42 rfl (lv_at hl 0 rfl) ?_
        refine x_getr (k := 0) (k' := 49) E hC hW fl_X9_70 (by decide) rfl rfl dX9_greedy_43 ?_
        refine lv_iload_n hx hb dX9_greedy_46 rfl (lv_at hl 3 rfl) ?_
        obtain ⟨hg15, hf⟩ := gdS hf
        refine x_iald (k := 49) E hC hW (by decide) rfl (inbS hg15) dX9_greedy_47 ?_
        refine lv_ishl hx hb dX9_greedy_48 ?_
        refine lv_ior hx hb dX9_greedy_49 ?_
        refine lv_topi (fun x16 ex16 => ?_)
        have hf := bvS hf ex16
        refine lv_istore (lv' := [(4, .int x16), (0, .ref (L 0)), (1, .int a1), (2, .int v12), (3, .int v13)]) hx hb dX9_greedy_50 hl (by decide) rfl (fun ls hl => ?_)
        refine lv_aload_n hx hb dX9_greedy_52 rfl (lv_at hl 1 rfl) ?_
        refine x_getr (k := 0) (k' := 13) E hC hW fl_X9_26 (by decide) rfl rfl dX9_greedy_53 ?_
        refine lv_iload hx hb dX9_greedy_56 (lv_at hl 0 rfl) ?_
        obtain ⟨r17, S19, g18, hf⟩ := clS hf
        refine x_Vr (k := 13) (As := [.int x16]) (rest := []) E hC hW hl.1 (c_X5_isStanding x16 r17 S14 S19 g18) cv_X9_163 rfl (by decide) rfl rfl rfl ⟨Nat.le_of_ble_eq_true rfl, Nat.le_of_ble_eq_true rfl⟩ ⟨Nat.le_refl _, Nat.le_refl _⟩ (Nat.le_of_ble_eq_true rfl) dX9_greedy_58 (fun H locs hW => ?_)
        refine jnS hf (fun (j : Int32 → Option (Int32 × Sg)) => ∀ (v20 : Int32), (j v20) = some (r, S') → ∀ (H : Heap) (locs : List Loc) (ls : Array Slot), lv_has ls 5 [(0, .ref (L 0)), (1, .int a1), (2, .int v20), (3, .int v13)] → Wd D cy L shC 52 S19 s H locs → W p l e (rmk 4 92) s m args below meth c H locs 0 0 Q (F0 m 67 ls [])) ?_ ?_
        · intro v20 hf H locs ls hl hW
          try dsimp only at hf
          obtain ⟨x21, ex21⟩ : ∃ z : Int32, z = (v13 + 1) := ⟨_, rfl⟩
          have hf := bvS hf ex21
          refine lv_iinc (v := x21) (lv' := [(3, .int x21), (0, .ref (L 0)), (1, .int a1), (2, .int v20)]) hx hb dX9_greedy_67 hl (k := 3) rfl (by rw [ex21]; rfl) (by decide) rfl (fun ls hl => ?_)
          refine lv_goto (tgt := 29) hx hb dX9_greedy_70 (by decide) ?_
          exact ih29 _ _ _ hf _ _ _ (lv_sub hl [1, 2, 3, 0] rfl) hW
        intro j67 J67 hf
        refine lv_if_eq (tgt := 67) hx hb dX9_greedy_61 (by decide) (fun c22 => ?_) (fun c22 => ?_)
        · have hf := xt hf c22
          exact J67 _ hf _ _ _ (lv_sub hl [1, 2, 3, 4] rfl) hW
        · have hf := xf hf c22
          refine lv_iload hx hb dX9_greedy_64 (lv_at hl 0 rfl) ?_
          refine lv_istore_n (lv' := [(2, .int x16), (4, .int x16), (0, .ref (L 0)), (1, .int a1), (3, .int v13)]) hx hb dX9_greedy_66 rfl hl (by decide) rfl (fun ls hl => ?_)
          exact J67 _ hf _ _ _ (lv_sub hl [2, 3, 0, 4] rfl) hW
  · have hf := xt hf c24
    refine lv_bipush (v := (-2)) hx hb dX9_greedy_7 (by decide) ?_
    exact x_iretI E hC hW hr hlk hQ dX9_greedy_9 hf
set_option maxRecDepth 100000 in
set_option maxHeartbeats 4000000 in
theorem c_X8_withOneMore {l : Launch} {D : va_G} {cy : Nat → ClassId} {L : Nat → Nat} {bA : Nat} (a1 : Int32) (r : Int32) (S : Sg)  (hf : f_X8_withOneMore a1 S = some r) : MetX l D cy L shC 52 bA yX8_withOneMore cX8_withOneMore 4 (some .int) 0 0 [.ref (L 19), .int a1] (some (.int r)) S S := by
  refine x_met (own := RX8) (by decide) rfl (Nat.le_of_ble_eq_true rfl) ?_
  intro p e s m below meth c ls E hC hr hlk hl hW
  generalize hargs : ([.ref (L 19), .int a1] : List Value).toArray = args at E ⊢
  generalize hQ : MQ below (xQ D cy L shC 52 bA (some (.int r)) S) args s 0 0 (AL L 52) = Q
  have hl : lv_has ls 4 [(0, .ref (L 19)), (1, .int a1)] := hl
  have hx := E.1
  have hb := E.2.1
  have hts := E.2.2.2.2
  unfold f_X8_withOneMore at hf
  refine lv_iconst (v := 0) hx hb dX8_withOneMore_0 (by decide) ?_
  refine lv_istore_n (lv' := [(2, .int (0 : Int32)), (0, .ref (L 19)), (1, .int a1)]) hx hb dX8_withOneMore_1 rfl hl (by decide) rfl (fun ls hl => ?_)
  refine wp1S (fun (v1 : Int32) => ∀ (H : Heap) (locs : List Loc) (ls : Array Slot), lv_has ls 4 [(0, .ref (L 19)), (1, .int a1), (2, .int v1)] → Wd D cy L shC 52 S s H locs → W p l e (rmk 0 0) s m args below meth c H locs 0 0 Q (F0 m 2 ls [])) ?_ hf _ _ _ (lv_sub hl [1, 2, 0] rfl) hW
  · intro self2 ih2 v1 hf H locs ls hl hW
    unfold X8_withOneMore_L2 at hf
    refine lv_iload_n hx hb dX8_withOneMore_2 rfl (lv_at hl 2 rfl) ?_
    refine lv_aload_n hx hb dX8_withOneMore_3 rfl (lv_at hl 0 rfl) ?_
    refine x_geti (k := 19) E hC hW fl_X8_15 (by decide) rfl rfl dX8_withOneMore_4 ?_
    refine lv_icmp_ge (tgt := 38) hx hb dX8_withOneMore_7 (by decide) (fun c7 => ?_) (fun c7 => ?_)
    · have hf := xt hf c7
      refine lv_iload_n hx hb dX8_withOneMore_38 rfl (lv_at hl 1 rfl) ?_
      exact x_iretP E hC hW hr hlk hQ dX8_withOneMore_39 hf
    · have hf := xf hf c7
      refine lv_iload_n hx hb dX8_withOneMore_10 rfl (lv_at hl 1 rfl) ?_
      refine lv_iconst (v := 1) hx hb dX8_withOneMore_11 (by decide) ?_
      refine lv_iload_n hx hb dX8_withOneMore_12 rfl (lv_at hl 2 rfl) ?_
      refine lv_ishl hx hb dX8_withOneMore_13 ?_
      refine lv_ior hx hb dX8_withOneMore_14 ?_
      refine lv_topi (fun x2 ex2 => ?_)
      have hf := bvS hf ex2
      refine lv_istore_n (lv' := [(3, .int x2), (0, .ref (L 19)), (1, .int a1), (2, .int v1)]) hx hb dX8_withOneMore_15 rfl hl (by decide) rfl (fun ls hl => ?_)
      refine lv_iload_n hx hb dX8_withOneMore_16 rfl (lv_at hl 0 rfl) ?_
      refine lv_iload_n hx hb dX8_withOneMore_17 rfl (lv_at hl 2 rfl) ?_
      refine jnS hf (fun (j : Option (Int32)) => (j) = some r → ∀ (H : Heap) (locs : List Loc) (ls : Array Slot), lv_has ls 4 [(0, .ref (L 19)), (1, .int a1), (2, .int v1)] → Wd D cy L shC 52 S s H locs → W p l e (rmk 0 0) s m args below meth c H locs 0 0 Q (F0 m 32 ls [])) ?_ ?_
      · intro hf H locs ls hl hW
        try dsimp only at hf
        obtain ⟨x3, ex3⟩ : ∃ z : Int32, z = (v1 + 1) := ⟨_, rfl⟩
        have hf := bvS hf ex3
        refine lv_iinc (v := x3) (lv' := [(2, .int x3), (0, .ref (L 19)), (1, .int a1)]) hx hb dX8_withOneMore_32 hl (k := 2) rfl (by rw [ex3]; rfl) (by decide) rfl (fun ls hl => ?_)
        refine lv_goto (tgt := 2) hx hb dX8_withOneMore_35 (by decide) ?_
        exact ih2 _ hf _ _ _ (lv_sub hl [1, 2, 0] rfl) hW
      intro j32 J32 hf
      refine lv_icmp_eq (tgt := 32) hx hb dX8_withOneMore_18 (by decide) (fun c6 => ?_) (fun c6 => ?_)
      · have hf := xt hf c6
        exact J32 hf _ _ _ (lv_sub hl [1, 2, 3] rfl) hW
      · have hf := xf hf c6
        refine lv_aload_n hx hb dX8_withOneMore_21 rfl (lv_at hl 1 rfl) ?_
        refine x_getr (k := 19) (k' := 20) E hC hW fl_X8_18 (by decide) rfl rfl dX8_withOneMore_22 ?_
        refine lv_iload_n hx hb dX8_withOneMore_25 rfl (lv_at hl 0 rfl) ?_
        obtain ⟨hg4, hf⟩ := gdS hf
        refine x_zald (k := 20) E hC hW (by decide) rfl (inbS hg4) dX8_withOneMore_26 ?_
        refine lv_if_eq (tgt := 32) hx hb dX8_withOneMore_27 (by decide) (fun c5 => ?_) (fun c5 => ?_)
        · have hf := xt hf c5
          exact J32 hf _ _ _ (lv_sub hl [1, 2, 3] rfl) hW
        · have hf := xf hf c5
          refine lv_iload_n hx hb dX8_withOneMore_30 rfl (lv_at hl 0 rfl) ?_
          exact x_iretP E hC hW hr hlk hQ dX8_withOneMore_31 hf
set_option maxRecDepth 100000 in
set_option maxHeartbeats 4000000 in
theorem c_X8_twoMore {l : Launch} {D : va_G} {cy : Nat → ClassId} {L : Nat → Nat} {bA : Nat} (a1 : Int32) (a2 : Int32) (r : Int32) (S : Sg)  (hf : f_X8_twoMore a1 a2 S = some r) : MetX l D cy L shC 52 bA yX8_twoMore cX8_twoMore 6 (some .int) 0 0 [.ref (L 19), .int a1, .int a2] (some (.int r)) S S := by
  refine x_met (own := RX8) (by decide) rfl (Nat.le_of_ble_eq_true rfl) ?_
  intro p e s m below meth c ls E hC hr hlk hl hW
  generalize hargs : ([.ref (L 19), .int a1, .int a2] : List Value).toArray = args at E ⊢
  generalize hQ : MQ below (xQ D cy L shC 52 bA (some (.int r)) S) args s 0 0 (AL L 52) = Q
  have hl : lv_has ls 6 [(0, .ref (L 19)), (1, .int a1), (2, .int a2)] := hl
  have hx := E.1
  have hb := E.2.1
  have hts := E.2.2.2.2
  unfold f_X8_twoMore at hf
  refine lv_iconst (v := 0) hx hb dX8_twoMore_0 (by decide) ?_
  refine lv_istore_n (lv' := [(3, .int (0 : Int32)), (0, .ref (L 19)), (1, .int a1), (2, .int a2)]) hx hb dX8_twoMore_1 rfl hl (by decide) rfl (fun ls hl => ?_)
  refine wp1S (fun (v1 : Int32) => ∀ (H : Heap) (locs : List Loc) (ls : Array Slot), lv_has ls 6 [(0, .ref (L 19)), (1, .int a1), (2, .int a2), (3, .int v1)] → Wd D cy L shC 52 S s H locs → W p l e (rmk 0 0) s m args below meth c H locs 0 0 Q (F0 m 2 ls [])) ?_ hf _ _ _ (lv_sub hl [1, 2, 3, 0] rfl) hW
  · intro self2 ih2 v1 hf H locs ls hl hW
    unfold X8_twoMore_L2 at hf
    refine lv_iload_n hx hb dX8_twoMore_2 rfl (lv_at hl 3 rfl) ?_
    refine lv_aload_n hx hb dX8_twoMore_3 rfl (lv_at hl 0 rfl) ?_
    refine x_geti (k := 19) E hC hW fl_X8_15 (by decide) rfl rfl dX8_twoMore_4 ?_
    refine lv_icmp_ge (tgt := 70) hx hb dX8_twoMore_7 (by decide) (fun c11 => ?_) (fun c11 => ?_)
    · have hf := xt hf c11
      refine lv_iconst (v := (-1)) hx hb dX8_twoMore_70 (by decide) ?_
      exact x_iretP E hC hW hr hlk hQ dX8_twoMore_71 hf
    · have hf := xf hf c11
      refine lv_iload_n hx hb dX8_twoMore_10 rfl (lv_at hl 3 rfl) ?_
      refine lv_iconst (v := 1) hx hb dX8_twoMore_11 (by decide) ?_
      refine lv_iadd hx hb dX8_twoMore_12 ?_
      refine lv_topi (fun x2 ex2 => ?_)
      have hf := bvS hf ex2
      refine lv_istore (lv' := [(4, .int x2), (0, .ref (L 19)), (1, .int a1), (2, .int a2), (3, .int v1)]) hx hb dX8_twoMore_13 hl (by decide) rfl (fun ls hl => ?_)
      refine wp1K hf (fun (v4 : Int32) => ∀ (H : Heap) (locs : List Loc) (ls : Array Slot), lv_has ls 6 [(0, .ref (L 19)), (1, .int a1), (2, .int a2), (3, .int v1), (4, .int v4)] → Wd D cy L shC 52 S s H locs → W p l e (rmk 0 0) s m args below meth c H locs 0 0 Q (F0 m 15 ls [])) (fun (j : Option (Int32)) => (j) = some r → ∀ (H : Heap) (locs : List Loc) (ls : Array Slot), lv_has ls 6 [(0, .ref (L 19)), (1, .int a1), (2, .int a2), (3, .int v1)] → Wd D cy L shC 52 S s H locs → W p l e (rmk 0 0) s m args below meth c H locs 0 0 Q (F0 m 64 ls [])) ?_ ?_ _ _ _ (lv_sub hl [1, 2, 3, 4, 0] rfl) hW
      · intro hf H locs ls hl hW
        try dsimp only at hf
        obtain ⟨x3, ex3⟩ : ∃ z : Int32, z = (v1 + 1) := ⟨_, rfl⟩
        have hf := bvS hf ex3
        refine lv_iinc (v := x3) (lv' := [(3, .int x3), (0, .ref (L 19)), (1, .int a1), (2, .int a2)]) hx hb dX8_twoMore_64 hl (k := 3) rfl (by rw [ex3]; rfl) (by decide) rfl (fun ls hl => ?_)
        refine lv_goto (tgt := 2) hx hb dX8_twoMore_67 (by decide) ?_
        exact ih2 _ hf _ _ _ (lv_sub hl [1, 2, 3, 0] rfl) hW
      · intro k64 K64 self15 ih15 v4 hf H locs ls hl hW
        unfold X8_twoMore_L15 at hf
        refine lv_iload hx hb dX8_twoMore_15 (lv_at hl 4 rfl) ?_
        refine lv_aload_n hx hb dX8_twoMore_17 rfl (lv_at hl 0 rfl) ?_
        refine x_geti (k := 19) E hC hW fl_X8_15 (by decide) rfl rfl dX8_twoMore_18 ?_
        refine lv_icmp_ge (tgt := 64) hx hb dX8_twoMore_21 (by decide) (fun c10 => ?_) (fun c10 => ?_)
        · have hf := xt hf c10
          exact K64 hf _ _ _ (lv_sub hl [0, 1, 2, 3] rfl) hW
        · have hf := xf hf c10
          refine lv_iconst (v := 1) hx hb dX8_twoMore_24 (by decide) ?_
          refine lv_iload_n hx hb dX8_twoMore_25 rfl (lv_at hl 3 rfl) ?_
          refine lv_ishl hx hb dX8_twoMore_26 ?_
          refine lv_iconst (v := 1) hx hb dX8_twoMore_27 (by decide) ?_
          refine lv_iload hx hb dX8_twoMore_28 (lv_at hl 4 rfl) ?_
          refine lv_ishl hx hb dX8_twoMore_30 ?_
          refine lv_ior hx hb dX8_twoMore_31 ?_
          refine lv_topi (fun x5 ex5 => ?_)
          have hf := bvS hf ex5
          refine lv_istore (lv' := [(5, .int x5), (0, .ref (L 19)), (1, .int a1), (2, .int a2), (3, .int v1), (4, .int v4)]) hx hb dX8_twoMore_32 hl (by decide) rfl (fun ls hl => ?_)
          refine lv_iload_n hx hb dX8_twoMore_34 rfl (lv_at hl 2 rfl) ?_
          refine lv_iload hx hb dX8_twoMore_35 (lv_at hl 0 rfl) ?_
          refine lv_iand hx hb dX8_twoMore_37 ?_
          refine jnS hf (fun (j : Option (Int32)) => (j) = some r → ∀ (H : Heap) (locs : List Loc) (ls : Array Slot), lv_has ls 6 [(0, .ref (L 19)), (1, .int a1), (2, .int a2), (3, .int v1), (4, .int v4)] → Wd D cy L shC 52 S s H locs → W p l e (rmk 0 0) s m args below meth c H locs 0 0 Q (F0 m 58 ls [])) ?_ ?_
          · intro hf H locs ls hl hW
            try dsimp only at hf
            obtain ⟨x6, ex6⟩ : ∃ z : Int32, z = (v4 + 1) := ⟨_, rfl⟩
            have hf := bvS hf ex6
            refine lv_iinc (v := x6) (lv' := [(4, .int x6), (0, .ref (L 19)), (1, .int a1), (2, .int a2), (3, .int v1)]) hx hb dX8_twoMore_58 hl (k := 4) rfl (by rw [ex6]; rfl) (by decide) rfl (fun ls hl => ?_)
            refine lv_goto (tgt := 15) hx hb dX8_twoMore_61 (by decide) ?_
            exact ih15 _ hf _ _ _ (lv_sub hl [1, 2, 3, 4, 0] rfl) hW
          intro j58 J58 hf
          refine lv_if_ne (tgt := 58) hx hb dX8_twoMore_38 (by decide) (fun c9 => ?_) (fun c9 => ?_)
          · have hf := xf hf c9
            exact J58 hf _ _ _ (lv_sub hl [1, 2, 3, 4, 5] rfl) hW
          · have hf := xt hf c9
            refine lv_aload_n hx hb dX8_twoMore_41 rfl (lv_at hl 1 rfl) ?_
            refine x_getr (k := 19) (k' := 20) E hC hW fl_X8_18 (by decide) rfl rfl dX8_twoMore_42 ?_
            refine lv_iload_n hx hb dX8_twoMore_45 rfl (lv_at hl 3 rfl) ?_
            refine lv_iload hx hb dX8_twoMore_46 (lv_at hl 0 rfl) ?_
            refine lv_ior hx hb dX8_twoMore_48 ?_
            obtain ⟨hg7, hf⟩ := gdS hf
            refine x_zald (k := 20) E hC hW (by decide) rfl (inbS hg7) dX8_twoMore_49 ?_
            refine lv_if_eq (tgt := 58) hx hb dX8_twoMore_50 (by decide) (fun c8 => ?_) (fun c8 => ?_)
            · have hf := xt hf c8
              exact J58 hf _ _ _ (lv_sub hl [1, 2, 3, 4, 5] rfl) hW
            · have hf := xf hf c8
              refine lv_iload_n hx hb dX8_twoMore_53 rfl (lv_at hl 3 rfl) ?_
              refine lv_iload hx hb dX8_twoMore_54 (lv_at hl 0 rfl) ?_
              refine lv_ior hx hb dX8_twoMore_56 ?_
              exact x_iretP E hC hW hr hlk hQ dX8_twoMore_57 hf
