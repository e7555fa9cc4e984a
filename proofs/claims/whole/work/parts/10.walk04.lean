set_option maxRecDepth 100000 in
set_option maxHeartbeats 4000000 in
theorem c_X5_coverBy {l : Launch} {D : va_G} {cy : Nat → ClassId} {L : Nat → Nat} {bA : Nat} (a1 : Int32) (r : Int32) (S S' : Sg)  (hf : f_X5_coverBy a1 S = some (r, S')) : MetX l D cy L shC 52 bA yX5_coverBy cX5_coverBy 7 (some .int) 3 70 [.ref (L 13), .int a1, .ref (L 51)] (some (.int r)) S S' := by
  refine x_met (own := RX5) (by decide) rfl (Nat.le_of_ble_eq_true rfl) ?_
  intro p e s m below meth c ls E hC hr hlk hl hW
  generalize hargs : ([.ref (L 13), .int a1, .ref (L 51)] : List Value).toArray = args at E ⊢
  generalize hQ : MQ below (xQ D cy L shC 52 bA (some (.int r)) S') args s 0 0 (AL L 52) = Q
  have hl : lv_has ls 7 [(0, .ref (L 13)), (1, .int a1), (2, .ref (L 51))] := hl
  have hx := E.1
  have hb := E.2.1
  have hts := E.2.2.2.2
  unfold f_X5_coverBy at hf
  refine lv_iload_n hx hb dX5_coverBy_0 rfl (lv_at hl 1 rfl) ?_
  obtain ⟨r1, g2, hf⟩ := cl1S hf
  refine x_Sr (As := [.int a1]) (rest := []) E hC hW hl.1 (c_J6_bitCount_0f7a4 a1 r1 S g2) cs_X5_52 rfl rfl ⟨Nat.le_of_ble_eq_true rfl, Nat.le_of_ble_eq_true rfl⟩ ⟨Nat.le_refl _, Nat.le_refl _⟩ (Nat.le_of_ble_eq_true rfl) dX5_coverBy_1 (fun H locs hW => ?_)
  refine lv_istore_n (lv' := [(3, .int r1), (0, .ref (L 13)), (1, .int a1), (2, .ref (L 51))]) hx hb dX5_coverBy_4 rfl hl (by decide) rfl (fun ls hl => ?_)
  refine lv_iconst (v := 0) hx hb dX5_coverBy_5 (by decide) ?_
  refine lv_istore (lv' := [(4, .int (0 : Int32)), (3, .int r1), (0, .ref (L 13)), (1, .int a1), (2, .ref (L 51))]) hx hb dX5_coverBy_6 hl (by decide) rfl (fun ls hl => ?_)
  refine wp3S (fun (v3 : Int32) (v4 : Int32) (S5 : Sg) => ∀ (H : Heap) (locs : List Loc) (ls : Array Slot), lv_has ls 7 [(0, .ref (L 13)), (1, .int a1), (2, .ref (L 51)), (3, .int v3), (4, .int v4)] → Wd D cy L shC 52 S5 s H locs → W p l e (rmk 3 70) s m args below meth c H locs 0 0 Q (F0 m 8 ls [])) ?_ hf _ _ _ (lv_sub hl [2, 3, 4, 1, 0] rfl) hW
  · intro self8 ih8 v3 v4 S5 hf H locs ls hl hW
    unfold X5_coverBy_L8 at hf
    refine lv_iload hx hb dX5_coverBy_8 (lv_at hl 4 rfl) ?_
    refine lv_aload_n hx hb dX5_coverBy_10 rfl (lv_at hl 0 rfl) ?_
    refine x_geti (k := 13) E hC hW fl_X5_18 (by decide) rfl rfl dX5_coverBy_11 ?_
    refine lv_icmp_ge (tgt := 75) hx hb dX5_coverBy_14 (by decide) (fun c20 => ?_) (fun c20 => ?_)
    · have hf := xt hf c20
      refine lv_iload_n hx hb dX5_coverBy_75 rfl (lv_at hl 3 rfl) ?_
      exact x_iretI E hC hW hr hlk hQ dX5_coverBy_76 hf
    · have hf := xf hf c20
      refine lv_iconst (v := 0) hx hb dX5_coverBy_17 (by decide) ?_
      refine lv_istore (lv' := [(5, .int (0 : Int32)), (0, .ref (L 13)), (1, .int a1), (2, .ref (L 51)), (3, .int v3), (4, .int v4)]) hx hb dX5_coverBy_18 hl (by decide) rfl (fun ls hl => ?_)
      refine lv_iload hx hb dX5_coverBy_20 (lv_at hl 5 rfl) ?_
      refine lv_istore (lv' := [(6, .int v4), (5, .int (0 : Int32)), (0, .ref (L 13)), (1, .int a1), (2, .ref (L 51)), (3, .int v3), (4, .int v4)]) hx hb dX5_coverBy_22 hl (by decide) rfl (fun ls hl => ?_)
      refine wp2K hf (fun (v12 : Int32) (v13 : Int32) => ∀ (H : Heap) (locs : List Loc) (ls : Array Slot), lv_has ls 7 [(0, .ref (L 13)), (1, .int a1), (2, .ref (L 51)), (3, .int v3), (4, .int v4), (5, .int v12), (6, .int v13)] → Wd D cy L shC 52 S5 s H locs → W p l e (rmk 3 70) s m args below meth c H locs 0 0 Q (F0 m 24 ls [])) (fun (j : Int32 → Option (Int32 × Sg)) => ∀ (v6 : Int32), (j v6) = some (r, S') → ∀ (H : Heap) (locs : List Loc) (ls : Array Slot), lv_has ls 7 [(0, .ref (L 13)), (1, .int a1), (2, .ref (L 51)), (3, .int v3), (4, .int v4), (5, .int v6)] → Wd D cy L shC 52 S5 s H locs → W p l e (rmk 3 70) s m args below meth c H locs 0 0 Q (F0 m 57 ls [])) ?_ ?_ _ _ _ (lv_sub hl [2, 3, 4, 5, 6, 1, 0] rfl) hW
      · intro v6 hf H locs ls hl hW
        try dsimp only at hf
        refine lv_iload_n hx hb dX5_coverBy_57 rfl (lv_at hl 3 rfl) ?_
        refine lv_aload_n hx hb dX5_coverBy_58 rfl (lv_at hl 0 rfl) ?_
        refine lv_iload hx hb dX5_coverBy_59 (lv_at hl 5 rfl) ?_
        refine lv_iload_n hx hb dX5_coverBy_61 rfl (lv_at hl 1 rfl) ?_
        obtain ⟨r7, S9, g8, hf⟩ := clS hf
        refine x_Vr (k := 13) (As := [.int v6, .int a1]) (rest := [.int v3]) E hC hW hl.1 (c_X5_rankOf v6 a1 r7 S5 S9 g8) cv_X5_58 rfl (by decide) rfl rfl rfl ⟨Nat.le_of_ble_eq_true rfl, Nat.le_of_ble_eq_true rfl⟩ ⟨Nat.le_refl _, Nat.le_refl _⟩ (Nat.le_of_ble_eq_true rfl) dX5_coverBy_62 (fun H locs hW => ?_)
        refine lv_iconst (v := 2) hx hb dX5_coverBy_65 (by decide) ?_
        refine lv_idiv hx hb dX5_coverBy_66 (by decide) ?_
        refine lv_iadd hx hb dX5_coverBy_67 ?_
        refine lv_topi (fun x10 ex10 => ?_)
        have hf := bvS hf ex10
        refine lv_istore_n (lv' := [(3, .int x10), (0, .ref (L 13)), (1, .int a1), (2, .ref (L 51)), (4, .int v4), (5, .int v6)]) hx hb dX5_coverBy_68 rfl hl (by decide) rfl (fun ls hl => ?_)
        obtain ⟨x11, ex11⟩ : ∃ z : Int32, z = (v4 + 1) := ⟨_, rfl⟩
        have hf := bvS hf ex11
        refine lv_iinc (v := x11) (lv' := [(4, .int x11), (3, .int x10), (0, .ref (L 13)), (1, .int a1), (2, .ref (L 51)), (5, .int v6)]) hx hb dX5_coverBy_69 hl (k := 4) rfl (by rw [ex11]; rfl) (by decide) rfl (fun ls hl => ?_)
        refine lv_goto (tgt := 8) hx hb dX5_coverBy_72 (by decide) ?_
        exact ih8 _ _ _ hf _ _ _ (lv_sub hl [2, 3, 4, 1, 0] rfl) hW
      · intro k57 K57 self24 ih24 v12 v13 hf H locs ls hl hW
        unfold X5_coverBy_L24 at hf
        refine lv_iload hx hb dX5_coverBy_24 (lv_at hl 6 rfl) ?_
        refine lv_aload_n hx hb dX5_coverBy_26 rfl (lv_at hl 0 rfl) ?_
        refine x_geti (k := 13) E hC hW fl_X5_18 (by decide) rfl rfl dX5_coverBy_27 ?_
        refine lv_icmp_ge (tgt := 57) hx hb dX5_coverBy_30 (by decide) (fun c19 => ?_) (fun c19 => ?_)
        · have hf := xt hf c19
          exact K57 _ hf _ _ _ (lv_sub hl [0, 1, 2, 3, 4, 5] rfl) hW
        · have hf := xf hf c19
          refine lv_aload_n hx hb dX5_coverBy_33 rfl (lv_at hl 2 rfl) ?_
          refine lv_iload hx hb dX5_coverBy_34 (lv_at hl 6 rfl) ?_
          obtain ⟨hg14, hf⟩ := gdS hf
          refine x_iald (k := 51) E hC hW (by decide) rfl (inbS hg14) dX5_coverBy_36 ?_
          refine lv_iload hx hb dX5_coverBy_37 (lv_at hl 4 rfl) ?_
          refine jnS hf (fun (j : Int32 → Option (Int32 × Sg)) => ∀ (v15 : Int32), (j v15) = some (r, S') → ∀ (H : Heap) (locs : List Loc) (ls : Array Slot), lv_has ls 7 [(0, .ref (L 13)), (1, .int a1), (2, .ref (L 51)), (3, .int v3), (4, .int v4), (5, .int v15), (6, .int v13)] → Wd D cy L shC 52 S5 s H locs → W p l e (rmk 3 70) s m args below meth c H locs 0 0 Q (F0 m 51 ls [])) ?_ ?_
          · intro v15 hf H locs ls hl hW
            try dsimp only at hf
            obtain ⟨x16, ex16⟩ : ∃ z : Int32, z = (v13 + 1) := ⟨_, rfl⟩
            have hf := bvS hf ex16
            refine lv_iinc (v := x16) (lv' := [(6, .int x16), (0, .ref (L 13)), (1, .int a1), (2, .ref (L 51)), (3, .int v3), (4, .int v4), (5, .int v15)]) hx hb dX5_coverBy_51 hl (k := 6) rfl (by rw [ex16]; rfl) (by decide) rfl (fun ls hl => ?_)
            refine lv_goto (tgt := 24) hx hb dX5_coverBy_54 (by decide) ?_
            exact ih24 _ _ hf _ _ _ (lv_sub hl [1, 2, 3, 4, 5, 6, 0] rfl) hW
          intro j51 J51 hf
          refine lv_icmp_ne (tgt := 51) hx hb dX5_coverBy_39 (by decide) (fun c18 => ?_) (fun c18 => ?_)
          · have hf := xf hf c18
            exact J51 _ hf _ _ _ (lv_sub hl [0, 1, 2, 3, 4, 5, 6] rfl) hW
          · have hf := xt hf c18
            refine lv_iload hx hb dX5_coverBy_42 (lv_at hl 5 rfl) ?_
            refine lv_iconst (v := 1) hx hb dX5_coverBy_44 (by decide) ?_
            refine lv_iload hx hb dX5_coverBy_45 (lv_at hl 6 rfl) ?_
            refine lv_ishl hx hb dX5_coverBy_47 ?_
            refine lv_ior hx hb dX5_coverBy_48 ?_
            refine lv_topi (fun x17 ex17 => ?_)
            have hf := bvS hf ex17
            refine lv_istore (lv' := [(5, .int x17), (0, .ref (L 13)), (1, .int a1), (2, .ref (L 51)), (3, .int v3), (4, .int v4), (6, .int v13)]) hx hb dX5_coverBy_49 hl (by decide) rfl (fun ls hl => ?_)
            exact J51 _ hf _ _ _ (lv_sub hl [1, 2, 3, 4, 5, 0, 6] rfl) hW
set_option maxRecDepth 100000 in
set_option maxHeartbeats 4000000 in
theorem c_X9_cover {l : Launch} {D : va_G} {cy : Nat → ClassId} {L : Nat → Nat} {bA : Nat} (a1 : Int32) (a2 : Int32) (r : Int32) (S S' : Sg)  (hf : f_X9_cover a1 a2 S = some (r, S')) : MetX l D cy L shC 52 bA yX9_cover cX9_cover 3 (some .int) 4 96 [.ref (L 0), .int a1, .int a2] (some (.int r)) S S' := by
  refine x_met (own := RX9) (by decide) rfl (Nat.le_of_ble_eq_true rfl) ?_
  intro p e s m below meth c ls E hC hr hlk hl hW
  generalize hargs : ([.ref (L 0), .int a1, .int a2] : List Value).toArray = args at E ⊢
  generalize hQ : MQ below (xQ D cy L shC 52 bA (some (.int r)) S') args s 0 0 (AL L 52) = Q
  have hl : lv_has ls 3 [(0, .ref (L 0)), (1, .int a1), (2, .int a2)] := hl
  have hx := E.1
  have hb := E.2.1
  have hts := E.2.2.2.2
  unfold f_X9_cover at hf
  refine lv_iload_n hx hb dX9_cover_0 rfl (lv_at hl 1 rfl) ?_
  obtain ⟨r1, g2, hf⟩ := cl1S hf
  refine x_Sr (As := [.int a1]) (rest := []) E hC hW hl.1 (c_X9_isSheet a1 r1 S g2) cs_X9_194 rfl rfl ⟨Nat.le_of_ble_eq_true rfl, Nat.le_of_ble_eq_true rfl⟩ ⟨Nat.le_refl _, Nat.le_refl _⟩ (Nat.le_of_ble_eq_true rfl) dX9_cover_1 (fun H locs hW => ?_)
  refine lv_if_eq (tgt := 24) hx hb dX9_cover_4 (by decide) (fun c19 => ?_) (fun c19 => ?_)
  · have hf := xt hf c19
    refine lv_bipush (v := (-2)) hx hb dX9_cover_24 (by decide) ?_
    exact x_iretI E hC hW hr hlk hQ dX9_cover_26 hf
  · have hf := xf hf c19
    refine lv_iload_n hx hb dX9_cover_7 rfl (lv_at hl 2 rfl) ?_
    refine lv_if_lt (tgt := 24) hx hb dX9_cover_8 (by decide) (fun c18 => ?_) (fun c18 => ?_)
    · have hf := xt hf c18
      refine lv_bipush (v := (-2)) hx hb dX9_cover_24 (by decide) ?_
      exact x_iretI E hC hW hr hlk hQ dX9_cover_26 hf
    · have hf := xf hf c18
      refine lv_iload_n hx hb dX9_cover_11 rfl (lv_at hl 2 rfl) ?_
      refine lv_iconst (v := 1) hx hb dX9_cover_12 (by decide) ?_
      refine lv_aload_n hx hb dX9_cover_13 rfl (lv_at hl 0 rfl) ?_
      refine x_getr (k := 0) (k' := 1) E hC hW fl_X9_12 (by decide) rfl rfl dX9_cover_14 ?_
      refine x_geti (k := 1) E hC hW fl_X9_90 (by decide) rfl rfl dX9_cover_17 ?_
      refine lv_ishl hx hb dX9_cover_20 ?_
      refine lv_icmp_lt (tgt := 27) hx hb dX9_cover_21 (by decide) (fun c17 => ?_) (fun c17 => ?_)
      · have hf := xt hf c17
        refine lv_aload_n hx hb dX9_cover_27 rfl (lv_at hl 0 rfl) ?_
        refine x_getr (k := 0) (k' := 31) E hC hW fl_X9_60 (by decide) rfl rfl dX9_cover_28 ?_
        refine lv_iload_n hx hb dX9_cover_31 rfl (lv_at hl 1 rfl) ?_
        obtain ⟨hg3, hf⟩ := gdS hf
        refine x_aald (k := 31) (b := 32) E hC hW (by decide) rfl rfl (inbS hg3) dX9_cover_32 ?_
        have ho4 := okS_ix hg3
        obtain ⟨r5, g6, hf⟩ := cl1S hf
        refine x_Vr (k := (32 + 2 * ix a1)) (As := []) (rest := []) E hC hW hl.1 (c_X6_isMissing (32 + 2 * ix a1) r5 S ho4 g6) cv_X9_197 rfl ho4.1 ho4.2.1 rfl rfl ⟨Nat.le_of_ble_eq_true rfl, Nat.le_of_ble_eq_true rfl⟩ ⟨Nat.le_refl _, Nat.le_refl _⟩ (Nat.le_of_ble_eq_true rfl) dX9_cover_33 (fun H locs hW => ?_)
        refine lv_if_eq (tgt := 42) hx hb dX9_cover_36 (by decide) (fun c16 => ?_) (fun c16 => ?_)
        · have hf := xt hf c16
          refine lv_aload_n hx hb dX9_cover_42 rfl (lv_at hl 0 rfl) ?_
          refine x_getr (k := 0) (k' := 13) E hC hW fl_X9_26 (by decide) rfl rfl dX9_cover_43 ?_
          refine lv_aload_n hx hb dX9_cover_46 rfl (lv_at hl 0 rfl) ?_
          refine x_getr (k := 0) (k' := 1) E hC hW fl_X9_12 (by decide) rfl rfl dX9_cover_47 ?_
          obtain ⟨S8, g7, hf⟩ := cl1S hf
          refine x_Vv (k := 13) (As := [.ref (L 1)]) (rest := []) E hC hW hl.1 (c_X5_fill S S8 g7) cv_X9_141 rfl (by decide) rfl rfl rfl ⟨Nat.le_of_ble_eq_true rfl, Nat.le_of_ble_eq_true rfl⟩ ⟨Nat.le_refl _, Nat.le_refl _⟩ (Nat.le_of_ble_eq_true rfl) dX9_cover_50 (fun H locs hW => ?_)
          refine lv_aload_n hx hb dX9_cover_53 rfl (lv_at hl 0 rfl) ?_
          refine lv_aload_n hx hb dX9_cover_54 rfl (lv_at hl 0 rfl) ?_
          refine x_getr (k := 0) (k' := 31) E hC hW fl_X9_60 (by decide) rfl rfl dX9_cover_55 ?_
          refine lv_iload_n hx hb dX9_cover_58 rfl (lv_at hl 1 rfl) ?_
          obtain ⟨hg9, hf⟩ := gdS hf
          refine x_aald (k := 31) (b := 32) E hC hW (by decide) rfl rfl (inbS hg9) dX9_cover_59 ?_
          have ho10 := okS_ix hg9
          obtain ⟨S12, g11, hf⟩ := cl1S hf
          refine x_Vv (k := 0) (As := [.ref (L (32 + 2 * ix a1))]) (rest := []) E hC hW hl.1 (c_X9_fillClasses (32 + 2 * ix a1) S8 S12 ho10 g11) cv_X9_231 rfl (by decide) rfl rfl rfl ⟨Nat.le_of_ble_eq_true rfl, Nat.le_of_ble_eq_true rfl⟩ ⟨Nat.le_refl _, Nat.le_refl _⟩ (Nat.le_of_ble_eq_true rfl) dX9_cover_60 (fun H locs hW => ?_)
          refine lv_aload_n hx hb dX9_cover_63 rfl (lv_at hl 0 rfl) ?_
          refine x_getr (k := 0) (k' := 13) E hC hW fl_X9_26 (by decide) rfl rfl dX9_cover_64 ?_
          refine lv_iload_n hx hb dX9_cover_67 rfl (lv_at hl 2 rfl) ?_
          refine lv_aload_n hx hb dX9_cover_68 rfl (lv_at hl 0 rfl) ?_
          refine x_getr (k := 0) (k' := 51) E hC hW fl_X9_77 (by decide) rfl rfl dX9_cover_69 ?_
          obtain ⟨r13, S15, g14, hf⟩ := clS hf
          refine x_Vr (k := 13) (As := [.int a2, .ref (L 51)]) (rest := []) E hC hW hl.1 (c_X5_coverBy a2 r13 S12 S15 g14) cv_X9_234 rfl (by decide) rfl rfl rfl ⟨Nat.le_of_ble_eq_true rfl, Nat.le_of_ble_eq_true rfl⟩ ⟨Nat.le_refl _, Nat.le_refl _⟩ (Nat.le_of_ble_eq_true rfl) dX9_cover_72 (fun H locs hW => ?_)
          exact x_iretI E hC hW hr hlk hQ dX9_cover_75 hf
        · have hf := xf hf c16
          refine lv_bipush (v := (-11)) hx hb dX9_cover_39 (by decide) ?_
          exact x_iretI E hC hW hr hlk hQ dX9_cover_41 hf
      · have hf := xf hf c17
        refine lv_bipush (v := (-2)) hx hb dX9_cover_24 (by decide) ?_
        exact x_iretI E hC hW hr hlk hQ dX9_cover_26 hf
set_option maxRecDepth 100000 in
set_option maxHeartbeats 4000000 in
theorem c_X9_cheap {l : Launch} {D : va_G} {cy : Nat → ClassId} {L : Nat → Nat} {bA : Nat} (a1 : Int32) (a2 : Int32) (r : Int32) (S S' : Sg)  (hf : f_X9_cheap a1 a2 S = some (r, S')) : MetX l D cy L shC 52 bA yX9_cheap cX9_cheap 7 (some .int) 4 96 [.ref (L 0), .int a1, .int a2] (some (.int r)) S S' := by
  refine x_met (own := RX9) (by decide) rfl (Nat.le_of_ble_eq_true rfl) ?_
  intro p e s m below meth c ls E hC hr hlk hl hW
  generalize hargs : ([.ref (L 0), .int a1, .int a2] : List Value).toArray = args at E ⊢
  generalize hQ : MQ below (xQ D cy L shC 52 bA (some (.int r)) S') args s 0 0 (AL L 52) = Q
  have hl : lv_has ls 7 [(0, .ref (L 0)), (1, .int a1), (2, .int a2)] := hl
  have hx := E.1
  have hb := E.2.1
  have hts := E.2.2.2.2
  unfold f_X9_cheap at hf
  refine lv_iload_n hx hb dX9_cheap_0 rfl (lv_at hl 1 rfl) ?_
  obtain ⟨r1, g2, hf⟩ := cl1S hf
  refine x_Sr (As := [.int a1]) (rest := []) E hC hW hl.1 (c_X9_isBit a1 r1 S g2) cs_X9_117 rfl rfl ⟨Nat.le_of_ble_eq_true rfl, Nat.le_of_ble_eq_true rfl⟩ ⟨Nat.le_refl _, Nat.le_refl _⟩ (Nat.le_of_ble_eq_true rfl) dX9_cheap_1 (fun H locs hW => ?_)
  refine lv_if_eq (tgt := 14) hx hb dX9_cheap_4 (by decide) (fun c40 => ?_) (fun c40 => ?_)
  · have hf := xt hf c40
    refine lv_bipush (v := (-2)) hx hb dX9_cheap_14 (by decide) ?_
    exact x_iretI E hC hW hr hlk hQ dX9_cheap_16 hf
  · have hf := xf hf c40
    refine lv_iload_n hx hb dX9_cheap_7 rfl (lv_at hl 2 rfl) ?_
    obtain ⟨r3, g4, hf⟩ := cl1S hf
    refine x_Sr (As := [.int a2]) (rest := []) E hC hW hl.1 (c_X9_isBit a2 r3 S g4) cs_X9_117 rfl rfl ⟨Nat.le_of_ble_eq_true rfl, Nat.le_of_ble_eq_true rfl⟩ ⟨Nat.le_refl _, Nat.le_refl _⟩ (Nat.le_of_ble_eq_true rfl) dX9_cheap_8 (fun H locs hW => ?_)
    refine lv_if_ne (tgt := 17) hx hb dX9_cheap_11 (by decide) (fun c39 => ?_) (fun c39 => ?_)
    · have hf := xf hf c39
      refine lv_aload_n hx hb dX9_cheap_17 rfl (lv_at hl 0 rfl) ?_
      refine x_getr (k := 0) (k' := 13) E hC hW fl_X9_26 (by decide) rfl rfl dX9_cheap_18 ?_
      refine lv_aload_n hx hb dX9_cheap_21 rfl (lv_at hl 0 rfl) ?_
      refine x_getr (k := 0) (k' := 1) E hC hW fl_X9_12 (by decide) rfl rfl dX9_cheap_22 ?_
      obtain ⟨S6, g5, hf⟩ := cl1S hf
      refine x_Vv (k := 13) (As := [.ref (L 1)]) (rest := []) E hC hW hl.1 (c_X5_fill S S6 g5) cv_X9_141 rfl (by decide) rfl rfl rfl ⟨Nat.le_of_ble_eq_true rfl, Nat.le_of_ble_eq_true rfl⟩ ⟨Nat.le_refl _, Nat.le_refl _⟩ (Nat.le_of_ble_eq_true rfl) dX9_cheap_25 (fun H locs hW => ?_)
      refine lv_iconst (v := 0) hx hb dX9_cheap_28 (by decide) ?_
      refine lv_istore_n (lv' := [(3, .int (0 : Int32)), (0, .ref (L 0)), (1, .int a1), (2, .int a2)]) hx hb dX9_cheap_29 rfl hl (by decide) rfl (fun ls hl => ?_)
      refine wp2K hf (fun (v31 : Int32) (S32 : Sg) => ∀ (H : Heap) (locs : List Loc) (ls : Array Slot), lv_has ls 7 [(0, .ref (L 0)), (1, .int a1), (2, .int a2), (3, .int v31)] → Wd D cy L shC 52 S32 s H locs → W p l e (rmk 4 96) s m args below meth c H locs 0 0 Q (F0 m 30 ls [])) (fun (j : Sg → Option (Int32 × Sg)) => ∀ (S7 : Sg), (j S7) = some (r, S') → ∀ (H : Heap) (locs : List Loc) (ls : Array Slot), lv_has ls 7 [(0, .ref (L 0)), (2, .int a2)] → Wd D cy L shC 52 S7 s H locs → W p l e (rmk 4 96) s m args below meth c H locs 0 0 Q (F0 m 62 ls [])) ?_ ?_ _ _ _ (lv_sub hl [1, 2, 3, 0] rfl) hW
      · intro S7 hf H locs ls hl hW
        try dsimp only at hf
        refine lv_iconst (v := 0) hx hb dX9_cheap_62 (by decide) ?_
        refine lv_istore_n (lv' := [(3, .int (0 : Int32)), (0, .ref (L 0)), (2, .int a2)]) hx hb dX9_cheap_63 rfl hl (by decide) rfl (fun ls hl => ?_)
        refine lv_aload_n hx hb dX9_cheap_64 rfl (lv_at hl 1 rfl) ?_
        refine x_getr (k := 0) (k' := 13) E hC hW fl_X9_26 (by decide) rfl rfl dX9_cheap_65 ?_
        refine lv_iconst (v := 0) hx hb dX9_cheap_68 (by decide) ?_
        refine lv_aload_n hx hb dX9_cheap_69 rfl (lv_at hl 1 rfl) ?_
        refine x_getr (k := 0) (k' := 51) E hC hW fl_X9_77 (by decide) rfl rfl dX9_cheap_70 ?_
        obtain ⟨r8, S10, g9, hf⟩ := clS hf
        refine x_Vr (k := 13) (As := [.int (0 : Int32), .ref (L 51)]) (rest := []) E hC hW hl.1 (c_X5_coverBy (0 : Int32) r8 S7 S10 g9) cv_X9_234 rfl (by decide) rfl rfl rfl ⟨Nat.le_of_ble_eq_true rfl, Nat.le_of_ble_eq_true rfl⟩ ⟨Nat.le_refl _, Nat.le_refl _⟩ (Nat.le_of_ble_eq_true rfl) dX9_cheap_73 (fun H locs hW => ?_)
        refine lv_istore (lv' := [(4, .int r8), (3, .int (0 : Int32)), (0, .ref (L 0)), (2, .int a2)]) hx hb dX9_cheap_76 hl (by decide) rfl (fun ls hl => ?_)
        refine lv_iconst (v := 1) hx hb dX9_cheap_78 (by decide) ?_
        refine lv_istore (lv' := [(5, .int (1 : Int32)), (4, .int r8), (3, .int (0 : Int32)), (0, .ref (L 0)), (2, .int a2)]) hx hb dX9_cheap_79 hl (by decide) rfl (fun ls hl => ?_)
        refine wp4K hf (fun (v15 : Int32) (v16 : Int32) (v17 : Int32) (S18 : Sg) => ∀ (H : Heap) (locs : List Loc) (ls : Array Slot), lv_has ls 7 [(0, .ref (L 0)), (2, .int a2), (3, .int v15), (4, .int v16), (5, .int v17)] → Wd D cy L shC 52 S18 s H locs → W p l e (rmk 4 96) s m args below meth c H locs 0 0 Q (F0 m 81 ls [])) (fun (j : Int32 → Int32 → Sg → Option (Int32 × Sg)) => ∀ (v11 : Int32) (v12 : Int32) (S13 : Sg), (j v11 v12 S13) = some (r, S') → ∀ (H : Heap) (locs : List Loc) (ls : Array Slot), lv_has ls 7 [(2, .int a2), (3, .int v11), (4, .int v12)] → Wd D cy L shC 52 S13 s H locs → W p l e (rmk 4 96) s m args below meth c H locs 0 0 Q (F0 m 140 ls [])) ?_ ?_ _ _ _ (lv_sub hl [3, 4, 2, 1, 0] rfl) hW
        · intro v11 v12 S13 hf H locs ls hl hW
          try dsimp only at hf
          refine lv_iload_n hx hb dX9_cheap_140 rfl (lv_at hl 0 rfl) ?_
          refine lv_if_ne (tgt := 149) hx hb dX9_cheap_141 (by decide) (fun c14 => ?_) (fun c14 => ?_)
          · have hf := xf hf c14
            refine lv_iload_n hx hb dX9_cheap_149 rfl (lv_at hl 1 rfl) ?_
            exact x_iretI E hC hW hr hlk hQ dX9_cheap_150 hf
          · have hf := xt hf c14
            refine lv_iload hx hb dX9_cheap_144 (lv_at hl 2 rfl) ?_
            refine lv_goto (tgt := 150) hx hb dX9_cheap_146 (by decide) ?_
            exact x_iretI E hC hW hr hlk hQ dX9_cheap_150 hf
        · intro k140 K140 self81 ih81 v15 v16 v17 S18 hf H locs ls hl hW
          unfold X9_cheap_L81 at hf
          refine lv_iload hx hb dX9_cheap_81 (lv_at hl 4 rfl) ?_
          refine lv_iconst (v := 1) hx hb dX9_cheap_83 (by decide) ?_
          refine lv_aload_n hx hb dX9_cheap_84 rfl (lv_at hl 0 rfl) ?_
          refine x_getr (k := 0) (k' := 1) E hC hW fl_X9_12 (by decide) rfl rfl dX9_cheap_85 ?_
          refine x_geti (k := 1) E hC hW fl_X9_90 (by decide) rfl rfl dX9_cheap_88 ?_
          refine lv_ishl hx hb dX9_cheap_91 ?_
          refine lv_icmp_ge (tgt := 140) hx hb dX9_cheap_92 (by decide) (fun c30 => ?_) (fun c30 => ?_)
          · have hf := xt hf c30
            exact K140 _ _ _ hf _ _ _ (lv_sub hl [1, 2, 3] rfl) hW
          · have hf := xf hf c30
            refine lv_iload hx hb dX9_cheap_95 (lv_at hl 4 rfl) ?_
            obtain ⟨r19, g20, hf⟩ := cl1S hf
            refine x_Sr (As := [.int v17]) (rest := []) E hC hW hl.1 (c_J6_bitCount_0f7a4 v17 r19 S18 g20) cs_X9_180 rfl rfl ⟨Nat.le_of_ble_eq_true rfl, Nat.le_of_ble_eq_true rfl⟩ ⟨Nat.le_refl _, Nat.le_refl _⟩ (Nat.le_of_ble_eq_true rfl) dX9_cheap_97 (fun H locs hW => ?_)
            refine lv_iload hx hb dX9_cheap_100 (lv_at hl 3 rfl) ?_
            refine jnS hf (fun (j : Int32 → Int32 → Sg → Option (Int32 × Sg)) => ∀ (v21 : Int32) (v22 : Int32) (S23 : Sg), (j v21 v22 S23) = some (r, S') → ∀ (H : Heap) (locs : List Loc) (ls : Array Slot), lv_has ls 7 [(0, .ref (L 0)), (2, .int a2), (3, .int v21), (4, .int v22), (5, .int v17)] → Wd D cy L shC 52 S23 s H locs → W p l e (rmk 4 96) s m args below meth c H locs 0 0 Q (F0 m 134 ls [])) ?_ ?_
            · intro v21 v22 S23 hf H locs ls hl hW
              try dsimp only at hf
              obtain ⟨x24, ex24⟩ : ∃ z : Int32, z = (v17 + 1) := ⟨_, rfl⟩
              have hf := bvS hf ex24
              refine lv_iinc (v := x24) (lv' := [(5, .int x24), (0, .ref (L 0)), (2, .int a2), (3, .int v21), (4, .int v22)]) hx hb dX9_cheap_134 hl (k := 4) rfl (by rw [ex24]; rfl) (by decide) rfl (fun ls hl => ?_)
              refine lv_goto (tgt := 81) hx hb dX9_cheap_137 (by decide) ?_
              exact ih81 _ _ _ _ hf _ _ _ (lv_sub hl [1, 2, 3, 4, 0] rfl) hW
            intro j134 J134 hf
            refine lv_icmp_ge (tgt := 134) hx hb dX9_cheap_102 (by decide) (fun c29 => ?_) (fun c29 => ?_)
            · have hf := xt hf c29
              exact J134 _ _ _ hf _ _ _ (lv_sub hl [0, 1, 2, 3, 4] rfl) hW
            · have hf := xf hf c29
              refine lv_aload_n hx hb dX9_cheap_105 rfl (lv_at hl 0 rfl) ?_
              refine x_getr (k := 0) (k' := 13) E hC hW fl_X9_26 (by decide) rfl rfl dX9_cheap_106 ?_
              refine lv_iload hx hb dX9_cheap_109 (lv_at hl 4 rfl) ?_
              refine lv_aload_n hx hb dX9_cheap_111 rfl (lv_at hl 0 rfl) ?_
              refine x_getr (k := 0) (k' := 51) E hC hW fl_X9_77 (by decide) rfl rfl dX9_cheap_112 ?_
              obtain ⟨r25, S27, g26, hf⟩ := clS hf
              refine x_Vr (k := 13) (As := [.int v17, .ref (L 51)]) (rest := []) E hC hW hl.1 (c_X5_coverBy v17 r25 S18 S27 g26) cv_X9_234 rfl (by decide) rfl rfl rfl ⟨Nat.le_of_ble_eq_true rfl, Nat.le_of_ble_eq_true rfl⟩ ⟨Nat.le_refl _, Nat.le_refl _⟩ (Nat.le_of_ble_eq_true rfl) dX9_cheap_115 (fun H locs hW => ?_)
              refine lv_istore (lv' := [(6, .int r25), (0, .ref (L 0)), (2, .int a2), (3, .int v15), (4, .int v16), (5, .int v17)]) hx hb dX9_cheap_118 hl (by decide) rfl (fun ls hl => ?_)
              refine lv_iload hx hb dX9_cheap_120 (lv_at hl 0 rfl) ?_
              refine lv_iload hx hb dX9_cheap_122 (lv_at hl 4 rfl) ?_
              refine lv_icmp_ge (tgt := 134) hx hb dX9_cheap_124 (by decide) (fun c28 => ?_) (fun c28 => ?_)
              · have hf := xt hf c28
                exact J134 _ _ _ hf _ _ _ (lv_sub hl [1, 2, 3, 4, 5] rfl) hW
              · have hf := xf hf c28
                refine lv_iload hx hb dX9_cheap_127 (lv_at hl 0 rfl) ?_
                refine lv_istore (lv' := [(4, .int r25), (6, .int r25), (0, .ref (L 0)), (2, .int a2), (3, .int v15), (5, .int v17)]) hx hb dX9_cheap_129 hl (by decide) rfl (fun ls hl => ?_)
                refine lv_iload hx hb dX9_cheap_131 (lv_at hl 5 rfl) ?_
                refine lv_istore_n (lv' := [(3, .int v17), (4, .int r25), (6, .int r25), (0, .ref (L 0)), (2, .int a2), (5, .int v17)]) hx hb dX9_cheap_133 rfl hl (by decide) rfl (fun ls hl => ?_)
                exact J134 _ _ _ hf _ _ _ (lv_sub hl [3, 4, 0, 1, 5] rfl) hW
      · intro k62 K62 self30 ih30 v31 S32 hf H locs ls hl hW
        unfold X9_cheap_L30 at hf
        refine lv_iload_n hx hb dX9_cheap_30 rfl (lv_at hl 3 rfl) ?_
        refine lv_aload_n hx hb dX9_cheap_31 rfl (lv_at hl 0 rfl) ?_
        refine x_getr (k := 0) (k' := 1) E hC hW fl_X9_12 (by decide) rfl rfl dX9_cheap_32 ?_
        refine x_geti (k := 1) E hC hW fl_X9_107 (by decide) rfl rfl dX9_cheap_35 ?_
        refine lv_icmp_ge (tgt := 62) hx hb dX9_cheap_38 (by decide) (fun c38 => ?_) (fun c38 => ?_)
        · have hf := xt hf c38
          exact K62 _ hf _ _ _ (lv_sub hl [0, 2] rfl) hW
        · have hf := xf hf c38
          refine lv_aload_n hx hb dX9_cheap_41 rfl (lv_at hl 0 rfl) ?_
          refine x_getr (k := 0) (k' := 51) E hC hW fl_X9_77 (by decide) rfl rfl dX9_cheap_42 ?_
          refine lv_iload_n hx hb dX9_cheap_45 rfl (lv_at hl 3 rfl) ?_
          refine lv_iload_n hx hb dX9_cheap_46 rfl (lv_at hl 1 rfl) ?_
          refine jnS hf (fun (j : Int32 → Option (Int32 × Sg)) => ∀ (x33 : Int32), (j x33) = some (r, S') → ∀ (H : Heap) (locs : List Loc) (ls : Array Slot), lv_has ls 7 [(0, .ref (L 0)), (1, .int a1), (2, .int a2), (3, .int v31)] → Wd D cy L shC 52 S32 s H locs → W p l e (rmk 4 96) s m args below meth c H locs 0 0 Q (F0 m 55 ls [.int x33, .int v31, .ref (L 51)])) ?_ ?_
          · intro x33 hf H locs ls hl hW
            try dsimp only at hf
            obtain ⟨hg34, hf⟩ := gdS hf
            refine x_iast (k := 51) E hC hW (by decide) rfl (inbS hg34) dX9_cheap_55 (fun H locs hW => ?_)
            obtain ⟨S35, eS35⟩ : ∃ z : Sg, z = si S32 51 (ix v31) x33 := ⟨_, rfl⟩
            have hW : Wd D cy L shC 52 S35 s H locs := by rw [eS35]; exact hW
            have hf := bvS hf eS35
            obtain ⟨x36, ex36⟩ : ∃ z : Int32, z = (v31 + 1) := ⟨_, rfl⟩
            have hf := bvS hf ex36
            refine lv_iinc (v := x36) (lv' := [(3, .int x36), (0, .ref (L 0)), (1, .int a1), (2, .int a2)]) hx hb dX9_cheap_56 hl (k := 3) rfl (by rw [ex36]; rfl) (by decide) rfl (fun ls hl => ?_)
            refine lv_goto (tgt := 30) hx hb dX9_cheap_59 (by decide) ?_
            exact ih30 _ _ hf _ _ _ (lv_sub hl [1, 2, 3, 0] rfl) hW
          intro j55 J55 hf
          refine lv_if_ne (tgt := 54) hx hb dX9_cheap_47 (by decide) (fun c37 => ?_) (fun c37 => ?_)
          · have hf := xf hf c37
            refine lv_iload_n hx hb dX9_cheap_54 rfl (lv_at hl 3 rfl) ?_
            exact J55 _ hf _ _ _ (lv_sub hl [0, 1, 2, 3] rfl) hW
          · have hf := xt hf c37
            refine lv_iconst (v := 0) hx hb dX9_cheap_50 (by decide) ?_
            refine lv_goto (tgt := 55) hx hb dX9_cheap_51 (by decide) ?_
            exact J55 _ hf _ _ _ (lv_sub hl [0, 1, 2, 3] rfl) hW
    · have hf := xt hf c39
      refine lv_bipush (v := (-2)) hx hb dX9_cheap_14 (by decide) ?_
      exact x_iretI E hC hW hr hlk hQ dX9_cheap_16 hf
set_option maxRecDepth 100000 in
set_option maxHeartbeats 4000000 in
theorem c_X3_codeOf {l : Launch} {D : va_G} {cy : Nat → ClassId} {L : Nat → Nat} {bA : Nat} (a2 : Int32) (r : Int64) (S : Sg)  (hf : f_X3_codeOf a2 S = some r) : MetX l D cy L shC 52 bA yX3_codeOf cX3_codeOf 8 (some .long) 1 23 [.ref (L 29), .ref (L 13), .int a2] (some (.long r)) S S := by
  refine x_met (own := RX3) (by decide) rfl (Nat.le_of_ble_eq_true rfl) ?_
  intro p e s m below meth c ls E hC hr hlk hl hW
  generalize hargs : ([.ref (L 29), .ref (L 13), .int a2] : List Value).toArray = args at E ⊢
  generalize hQ : MQ below (xQ D cy L shC 52 bA (some (.long r)) S) args s 0 0 (AL L 52) = Q
  have hl : lv_has ls 8 [(0, .ref (L 29)), (1, .ref (L 13)), (2, .int a2)] := hl
  have hx := E.1
  have hb := E.2.1
  have hts := E.2.2.2.2
  unfold f_X3_codeOf at hf
  refine lv_iconst (v := 0) hx hb dX3_codeOf_0 (by decide) ?_
  refine lv_istore_n (lv' := [(3, .int (0 : Int32)), (0, .ref (L 29)), (1, .ref (L 13)), (2, .int a2)]) hx hb dX3_codeOf_1 rfl hl (by decide) rfl (fun ls hl => ?_)
  refine lv_lconst (v := 0) hx hb dX3_codeOf_2 (by decide) ?_
  refine lv_lstore (lv' := [(4, .long (0 : Int64)), (3, .int (0 : Int32)), (0, .ref (L 29)), (1, .ref (L 13)), (2, .int a2)]) hx hb dX3_codeOf_3 hl (by decide) rfl (fun ls hl => ?_)
  refine lv_iconst (v := 0) hx hb dX3_codeOf_5 (by decide) ?_
  refine lv_istore (lv' := [(6, .int (0 : Int32)), (4, .long (0 : Int64)), (3, .int (0 : Int32)), (0, .ref (L 29)), (1, .ref (L 13)), (2, .int a2)]) hx hb dX3_codeOf_6 hl (by decide) rfl (fun ls hl => ?_)
  refine wp3S (fun (v1 : Int32) (v2 : Int64) (v3 : Int32) => ∀ (H : Heap) (locs : List Loc) (ls : Array Slot), lv_has ls 8 [(1, .ref (L 13)), (2, .int a2), (3, .int v1), (4, .long v2), (6, .int v3)] → Wd D cy L shC 52 S s H locs → W p l e (rmk 1 23) s m args below meth c H locs 0 0 Q (F0 m 8 ls [])) ?_ hf _ _ _ (lv_sub hl [4, 5, 2, 1, 0] rfl) hW
  · intro self8 ih8 v1 v2 v3 hf H locs ls hl hW
    unfold X3_codeOf_L8 at hf
    refine lv_iload hx hb dX3_codeOf_8 (lv_at hl 4 rfl) ?_
    refine lv_aload_n hx hb dX3_codeOf_10 rfl (lv_at hl 0 rfl) ?_
    refine x_geti (k := 13) E hC hW fl_X3_32 (by decide) rfl rfl dX3_codeOf_11 ?_
    refine lv_icmp_ge (tgt := 75) hx hb dX3_codeOf_14 (by decide) (fun c14 => ?_) (fun c14 => ?_)
    · have hf := xt hf c14
      refine lv_lload hx hb dX3_codeOf_75 (lv_at hl 3 rfl) ?_
      exact x_lretP E hC hW hr hlk hQ dX3_codeOf_77 hf
    · have hf := xf hf c14
      refine lv_aload_n hx hb dX3_codeOf_17 rfl (lv_at hl 0 rfl) ?_
      refine x_getr (k := 13) (k' := 14) E hC hW fl_X3_35 (by decide) rfl rfl dX3_codeOf_18 ?_
      refine lv_iload_n hx hb dX3_codeOf_21 rfl (lv_at hl 1 rfl) ?_
      refine lv_iload hx hb dX3_codeOf_22 (lv_at hl 4 rfl) ?_
      refine lv_iadd hx hb dX3_codeOf_24 ?_
      obtain ⟨hg4, hf⟩ := gdS hf
      refine x_iald (k := 14) E hC hW (by decide) rfl (inbS hg4) dX3_codeOf_25 ?_
      refine lv_topi (fun x5 ex5 => ?_)
      have hf := bvS hf ex5
      refine lv_istore (lv' := [(7, .int x5), (1, .ref (L 13)), (2, .int a2), (3, .int v1), (4, .long v2), (6, .int v3)]) hx hb dX3_codeOf_26 hl (by decide) rfl (fun ls hl => ?_)
      refine lv_iload_n hx hb dX3_codeOf_28 rfl (lv_at hl 3 rfl) ?_
      refine jnS hf (fun (j : Int32 → Option (Int64)) => ∀ (v6 : Int32), (j v6) = some r → ∀ (H : Heap) (locs : List Loc) (ls : Array Slot), lv_has ls 8 [(1, .ref (L 13)), (2, .int a2), (3, .int v6), (4, .long v2), (6, .int v3), (7, .int x5)] → Wd D cy L shC 52 S s H locs → W p l e (rmk 1 23) s m args below meth c H locs 0 0 Q (F0 m 48 ls [])) ?_ ?_
      · intro v6 hf H locs ls hl hW
        try dsimp only at hf
        refine lv_lload hx hb dX3_codeOf_48 (lv_at hl 3 rfl) ?_
        refine lv_aload_n hx hb dX3_codeOf_50 rfl (lv_at hl 0 rfl) ?_
        refine x_geti (k := 13) E hC hW fl_X3_39 (by decide) rfl rfl dX3_codeOf_51 ?_
        refine lv_i2l hx hb dX3_codeOf_54 rfl ?_
        refine lv_lmul hx hb dX3_codeOf_55 ?_
        refine lv_iload hx hb dX3_codeOf_56 (lv_at hl 5 rfl) ?_
        refine lv_iload_n hx hb dX3_codeOf_58 rfl (lv_at hl 2 rfl) ?_
        refine lv_imul hx hb dX3_codeOf_59 ?_
        refine lv_aload_n hx hb dX3_codeOf_60 rfl (lv_at hl 0 rfl) ?_
        refine x_geti (k := 13) E hC hW fl_X3_39 (by decide) rfl rfl dX3_codeOf_61 ?_
        obtain ⟨hg7, hf⟩ := gdS hf
        refine lv_irem hx hb dX3_codeOf_64 (nzS hg7) ?_
        refine lv_i2l hx hb dX3_codeOf_65 rfl ?_
        refine lv_ladd hx hb dX3_codeOf_66 ?_
        refine lv_topl (fun x8 ex8 => ?_)
        have hf := bvS hf ex8
        refine lv_lstore (lv' := [(4, .long x8), (1, .ref (L 13)), (2, .int a2), (3, .int v6), (6, .int v3), (7, .int x5)]) hx hb dX3_codeOf_67 hl (by decide) rfl (fun ls hl => ?_)
        obtain ⟨x9, ex9⟩ : ∃ z : Int32, z = (v3 + 1) := ⟨_, rfl⟩
        have hf := bvS hf ex9
        refine lv_iinc (v := x9) (lv' := [(6, .int x9), (4, .long x8), (1, .ref (L 13)), (2, .int a2), (3, .int v6), (7, .int x5)]) hx hb dX3_codeOf_69 hl (k := 4) rfl (by rw [ex9]; rfl) (by decide) rfl (fun ls hl => ?_)
        refine lv_goto (tgt := 8) hx hb dX3_codeOf_72 (by decide) ?_
        exact ih8 _ _ _ hf _ _ _ (lv_sub hl [2, 3, 4, 1, 0] rfl) hW
      intro j48 J48 hf
      refine lv_if_ne (tgt := 48) hx hb dX3_codeOf_29 (by decide) (fun c13 => ?_) (fun c13 => ?_)
      · have hf := xf hf c13
        exact J48 _ hf _ _ _ (lv_sub hl [1, 2, 3, 4, 5, 0] rfl) hW
      · have hf := xt hf c13
        refine lv_iload hx hb dX3_codeOf_32 (lv_at hl 0 rfl) ?_
        refine lv_if_eq (tgt := 48) hx hb dX3_codeOf_34 (by decide) (fun c12 => ?_) (fun c12 => ?_)
        · have hf := xt hf c12
          exact J48 _ hf _ _ _ (lv_sub hl [1, 2, 3, 4, 5, 0] rfl) hW
        · have hf := xf hf c12
          refine lv_iconst (v := 1) hx hb dX3_codeOf_37 (by decide) ?_
          refine lv_iload hx hb dX3_codeOf_38 (lv_at hl 0 rfl) ?_
          refine lv_aload_n hx hb dX3_codeOf_40 rfl (lv_at hl 1 rfl) ?_
          refine x_geti (k := 13) E hC hW fl_X3_39 (by decide) rfl rfl dX3_codeOf_41 ?_
          obtain ⟨r10, g11, hf⟩ := cl1S hf
          refine x_Nr (As := [.int (1 : Int32), .int x5, .int (S.1 13 0)]) (rest := []) E hC hW hl.1 (c_X9_quotient (1 : Int32) x5 (S.1 13 0) r10 S g11) cn_X3_42 rfl rfl ⟨Nat.le_of_ble_eq_true rfl, Nat.le_of_ble_eq_true rfl⟩ ⟨Nat.le_refl _, Nat.le_refl _⟩ (Nat.le_of_ble_eq_true rfl) dX3_codeOf_44 (fun H locs hW => ?_)
          refine lv_istore_n (lv' := [(3, .int r10), (7, .int x5), (1, .ref (L 13)), (2, .int a2), (4, .long v2), (6, .int v3)]) hx hb dX3_codeOf_47 rfl hl (by decide) rfl (fun ls hl => ?_)
          exact J48 _ hf _ _ _ (lv_sub hl [2, 3, 0, 4, 5, 1] rfl) hW
set_option maxRecDepth 100000 in
set_option maxHeartbeats 4000000 in
theorem c_X3_raysBelow {l : Launch} {D : va_G} {cy : Nat → ClassId} {L : Nat → Nat} {bA : Nat} (a1 : Int64) (r : Int32) (S : Sg)  (hf : f_X3_raysBelow a1 S = some r) : MetX l D cy L shC 52 bA yX3_raysBelow cX3_raysBelow 4 (some .int) 0 0 [.ref (L 29), .long a1] (some (.int r)) S S := by
  refine x_met (own := RX3) (by decide) rfl (Nat.le_of_ble_eq_true rfl) ?_
  intro p e s m below meth c ls E hC hr hlk hl hW
  generalize hargs : ([.ref (L 29), .long a1] : List Value).toArray = args at E ⊢
  generalize hQ : MQ below (xQ D cy L shC 52 bA (some (.int r)) S) args s 0 0 (AL L 52) = Q
  have hl : lv_has ls 4 [(0, .ref (L 29)), (1, .long a1)] := hl
  have hx := E.1
  have hb := E.2.1
  have hts := E.2.2.2.2
  unfold f_X3_raysBelow at hf
  refine lv_iconst (v := 0) hx hb dX3_raysBelow_0 (by decide) ?_
  refine lv_istore_n (lv' := [(3, .int (0 : Int32)), (0, .ref (L 29)), (1, .long a1)]) hx hb dX3_raysBelow_1 rfl hl (by decide) rfl (fun ls hl => ?_)
  refine wp1S (fun (v1 : Int32) => ∀ (H : Heap) (locs : List Loc) (ls : Array Slot), lv_has ls 4 [(0, .ref (L 29)), (1, .long a1), (3, .int v1)] → Wd D cy L shC 52 S s H locs → W p l e (rmk 0 0) s m args below meth c H locs 0 0 Q (F0 m 2 ls [])) ?_ hf _ _ _ (lv_sub hl [1, 2, 0] rfl) hW
  · intro self2 ih2 v1 hf H locs ls hl hW
    unfold X3_raysBelow_L2 at hf
    refine lv_iload_n hx hb dX3_raysBelow_2 rfl (lv_at hl 2 rfl) ?_
    refine lv_aload_n hx hb dX3_raysBelow_3 rfl (lv_at hl 0 rfl) ?_
    refine x_geti (k := 29) E hC hW fl_X3_9 (by decide) rfl rfl dX3_raysBelow_4 ?_
    refine lv_icmp_ge (tgt := 27) hx hb dX3_raysBelow_7 (by decide) (fun c5 => ?_) (fun c5 => ?_)
    · have hf := xt hf c5
      refine lv_iload_n hx hb dX3_raysBelow_27 rfl (lv_at hl 2 rfl) ?_
      exact x_iretP E hC hW hr hlk hQ dX3_raysBelow_28 hf
    · have hf := xf hf c5
      refine lv_aload_n hx hb dX3_raysBelow_10 rfl (lv_at hl 0 rfl) ?_
      refine x_getr (k := 29) (k' := 30) E hC hW fl_X3_15 (by decide) rfl rfl dX3_raysBelow_11 ?_
      refine lv_iload_n hx hb dX3_raysBelow_14 rfl (lv_at hl 2 rfl) ?_
      obtain ⟨hg2, hf⟩ := gdS hf
      refine x_lald (k := 30) E hC hW (by decide) rfl (inbS hg2) dX3_raysBelow_15 ?_
      refine lv_lload_n hx hb dX3_raysBelow_16 rfl (lv_at hl 1 rfl) ?_
      refine W.lcmp hx hb dX3_raysBelow_17 ?_
      refine lv_if_ge (tgt := 27) hx hb dX3_raysBelow_18 (by decide) (fun c4 => ?_) (fun c4 => ?_)
      · have hf := xt hf c4
        refine lv_iload_n hx hb dX3_raysBelow_27 rfl (lv_at hl 2 rfl) ?_
        exact x_iretP E hC hW hr hlk hQ dX3_raysBelow_28 hf
      · have hf := xf hf c4
        obtain ⟨x3, ex3⟩ : ∃ z : Int32, z = (v1 + 1) := ⟨_, rfl⟩
        have hf := bvS hf ex3
        refine lv_iinc (v := x3) (lv' := [(3, .int x3), (0, .ref (L 29)), (1, .long a1)]) hx hb dX3_raysBelow_21 hl (k := 2) rfl (by rw [ex3]; rfl) (by decide) rfl (fun ls hl => ?_)
        refine lv_goto (tgt := 2) hx hb dX3_raysBelow_24 (by decide) ?_
        exact ih2 _ hf _ _ _ (lv_sub hl [1, 2, 0] rfl) hW
set_option maxRecDepth 100000 in
set_option maxHeartbeats 4000000 in
theorem c_X3_insert {l : Launch} {D : va_G} {cy : Nat → ClassId} {L : Nat → Nat} {bA : Nat} (a1 : Int64) (S S' : Sg)  (hf : f_X3_insert a1 S = some S') : MetX l D cy L shC 52 bA yX3_insert cX3_insert 6 none 1 23 [.ref (L 29), .long a1] none S S' := by
  refine x_met (own := RX3) (by decide) rfl (Nat.le_of_ble_eq_true rfl) ?_
  intro p e s m below meth c ls E hC hr hlk hl hW
  generalize hargs : ([.ref (L 29), .long a1] : List Value).toArray = args at E ⊢
  generalize hQ : MQ below (xQ D cy L shC 52 bA none S') args s 0 0 (AL L 52) = Q
  have hl : lv_has ls 6 [(0, .ref (L 29)), (1, .long a1)] := hl
  have hx := E.1
  have hb := E.2.1
  have hts := E.2.2.2.2
  unfold f_X3_insert at hf
  refine lv_aload_n hx hb dX3_insert_0 rfl (lv_at hl 0 rfl) ?_
  refine lv_lload_n hx hb dX3_insert_1 rfl (lv_at hl 1 rfl) ?_
  obtain ⟨r1, g2, hf⟩ := cl1S hf
  refine x_Vr (k := 29) (As := [.long a1]) (rest := []) E hC hW hl.1 (c_X3_raysBelow a1 r1 S g2) cv_X3_46 rfl (by decide) rfl rfl rfl ⟨Nat.le_of_ble_eq_true rfl, Nat.le_of_ble_eq_true rfl⟩ ⟨Nat.le_refl _, Nat.le_refl _⟩ (Nat.le_of_ble_eq_true rfl) dX3_insert_2 (fun H locs hW => ?_)
  refine lv_istore_n (lv' := [(3, .int r1), (0, .ref (L 29)), (1, .long a1)]) hx hb dX3_insert_5 rfl hl (by decide) rfl (fun ls hl => ?_)
  refine lv_iload_n hx hb dX3_insert_6 rfl (lv_at hl 0 rfl) ?_
  refine lv_aload_n hx hb dX3_insert_7 rfl (lv_at hl 1 rfl) ?_
  refine x_geti (k := 29) E hC hW fl_X3_9 (by decide) rfl rfl dX3_insert_8 ?_
  refine jnS hf (fun (j : Int32 → Option (Sg)) => ∀ (x3 : Int32), (j x3) = some S' → ∀ (H : Heap) (locs : List Loc) (ls : Array Slot), lv_has ls 6 [(0, .ref (L 29)), (1, .long a1), (3, .int r1)] → Wd D cy L shC 52 S s H locs → W p l e (rmk 1 23) s m args below meth c H locs 0 0 Q (F0 m 30 ls [.int x3])) ?_ ?_
  · intro x3 hf H locs ls hl hW
    try dsimp only at hf
    refine lv_istore (lv' := [(4, .int x3), (0, .ref (L 29)), (1, .long a1), (3, .int r1)]) hx hb dX3_insert_30 hl (by decide) rfl (fun ls hl => ?_)
    refine lv_lload_n hx hb dX3_insert_32 rfl (lv_at hl 2 rfl) ?_
    refine lv_lconst (v := 0) hx hb dX3_insert_33 (by decide) ?_
    refine W.lcmp hx hb dX3_insert_34 ?_
    refine lv_if_eq (tgt := 55) hx hb dX3_insert_35 (by decide) (fun c18 => ?_) (fun c18 => ?_)
    · have hf := xt hf c18
      exact x_vretI E hC hW hr hlk hQ dX3_insert_55 hf
    · have hf := xf hf c18
      refine lv_iload hx hb dX3_insert_38 (lv_at hl 0 rfl) ?_
      refine lv_if_ne (tgt := 55) hx hb dX3_insert_40 (by decide) (fun c17 => ?_) (fun c17 => ?_)
      · have hf := xf hf c17
        exact x_vretI E hC hW hr hlk hQ dX3_insert_55 hf
      · have hf := xt hf c17
        refine lv_aload_n hx hb dX3_insert_43 rfl (lv_at hl 1 rfl) ?_
        refine x_geti (k := 29) E hC hW fl_X3_9 (by decide) rfl rfl dX3_insert_44 ?_
        refine lv_aload_n hx hb dX3_insert_47 rfl (lv_at hl 1 rfl) ?_
        refine x_getr (k := 29) (k' := 30) E hC hW fl_X3_15 (by decide) rfl rfl dX3_insert_48 ?_
        refine x_alen (k := 30) (v := 20) E hC hW (by decide) rfl (by decide) (by decide) dX3_insert_51 ?_
        refine lv_icmp_lt (tgt := 56) hx hb dX3_insert_52 (by decide) (fun c16 => ?_) (fun c16 => ?_)
        · have hf := xt hf c16
          refine lv_aload_n hx hb dX3_insert_56 rfl (lv_at hl 1 rfl) ?_
          refine x_geti (k := 29) E hC hW fl_X3_9 (by decide) rfl rfl dX3_insert_57 ?_
          refine lv_topi (fun x4 ex4 => ?_)
          have hf := bvS hf ex4
          refine lv_istore (lv' := [(5, .int x4), (4, .int x3), (0, .ref (L 29)), (1, .long a1), (3, .int r1)]) hx hb dX3_insert_60 hl (by decide) rfl (fun ls hl => ?_)
          refine wp2K hf (fun (v9 : Int32) (S10 : Sg) => ∀ (H : Heap) (locs : List Loc) (ls : Array Slot), lv_has ls 6 [(0, .ref (L 29)), (1, .long a1), (3, .int r1), (5, .int v9)] → Wd D cy L shC 52 S10 s H locs → W p l e (rmk 1 23) s m args below meth c H locs 0 0 Q (F0 m 62 ls [])) (fun (j : Sg → Option (Sg)) => ∀ (S5 : Sg), (j S5) = some S' → ∀ (H : Heap) (locs : List Loc) (ls : Array Slot), lv_has ls 6 [(0, .ref (L 29)), (1, .long a1), (3, .int r1)] → Wd D cy L shC 52 S5 s H locs → W p l e (rmk 1 23) s m args below meth c H locs 0 0 Q (F0 m 90 ls [])) ?_ ?_ _ _ _ (lv_sub hl [2, 3, 4, 0] rfl) hW
          · intro S5 hf H locs ls hl hW
            try dsimp only at hf
            refine lv_aload_n hx hb dX3_insert_90 rfl (lv_at hl 0 rfl) ?_
            refine x_getr (k := 29) (k' := 30) E hC hW fl_X3_15 (by decide) rfl rfl dX3_insert_91 ?_
            refine lv_iload_n hx hb dX3_insert_94 rfl (lv_at hl 2 rfl) ?_
            refine lv_lload_n hx hb dX3_insert_95 rfl (lv_at hl 1 rfl) ?_
            obtain ⟨hg6, hf⟩ := gdS hf
            refine x_last (k := 30) E hC hW (by decide) rfl (inbS hg6) dX3_insert_96 (fun H locs hW => ?_)
            obtain ⟨S7, eS7⟩ : ∃ z : Sg, z = sl S5 30 (ix r1) a1 := ⟨_, rfl⟩
            have hW : Wd D cy L shC 52 S7 s H locs := by rw [eS7]; exact hW
            have hf := bvS hf eS7
            refine lv_aload_n hx hb dX3_insert_97 rfl (lv_at hl 0 rfl) ?_
            refine lv_dup hx hb dX3_insert_98 rfl ?_
            refine x_geti (k := 29) E hC hW fl_X3_9 (by decide) rfl rfl dX3_insert_99 ?_
            refine lv_iconst (v := 1) hx hb dX3_insert_102 (by decide) ?_
            refine lv_iadd hx hb dX3_insert_103 ?_
            refine x_put (k := 29) E hC hW fl_X3_9 pl_3_0 (by decide) rfl rfl rfl rfl dX3_insert_104 (fun H locs hW => ?_)
            obtain ⟨S8, eS8⟩ : ∃ z : Sg, z = si S7 29 0 ((S7.1 29 0) + (1 : Int32)) := ⟨_, rfl⟩
            have hW : Wd D cy L shC 52 S8 s H locs := by rw [eS8]; exact hW
            have hf := bvS hf eS8
            exact x_vretI E hC hW hr hlk hQ dX3_insert_107 hf
          · intro k90 K90 self62 ih62 v9 S10 hf H locs ls hl hW
            unfold X3_insert_L62 at hf
            refine lv_iload hx hb dX3_insert_62 (lv_at hl 3 rfl) ?_
            refine lv_iload_n hx hb dX3_insert_64 rfl (lv_at hl 2 rfl) ?_
            refine lv_icmp_le (tgt := 90) hx hb dX3_insert_65 (by decide) (fun c15 => ?_) (fun c15 => ?_)
            · have hf := xt hf c15
              exact K90 _ hf _ _ _ (lv_sub hl [0, 1, 2] rfl) hW
            · have hf := xf hf c15
              refine lv_aload_n hx hb dX3_insert_68 rfl (lv_at hl 0 rfl) ?_
              refine x_getr (k := 29) (k' := 30) E hC hW fl_X3_15 (by decide) rfl rfl dX3_insert_69 ?_
              refine lv_iload hx hb dX3_insert_72 (lv_at hl 3 rfl) ?_
              refine lv_aload_n hx hb dX3_insert_74 rfl (lv_at hl 0 rfl) ?_
              refine x_getr (k := 29) (k' := 30) E hC hW fl_X3_15 (by decide) rfl rfl dX3_insert_75 ?_
              refine lv_iload hx hb dX3_insert_78 (lv_at hl 3 rfl) ?_
              refine lv_iconst (v := 1) hx hb dX3_insert_80 (by decide) ?_
              refine lv_isub hx hb dX3_insert_81 ?_
              obtain ⟨hg11, hf⟩ := gdS hf
              refine x_lald (k := 30) E hC hW (by decide) rfl (inbS hg11) dX3_insert_82 ?_
              obtain ⟨hg12, hf⟩ := gdS hf
              refine x_last (k := 30) E hC hW (by decide) rfl (inbS hg12) dX3_insert_83 (fun H locs hW => ?_)
              obtain ⟨S13, eS13⟩ : ∃ z : Sg, z = sl S10 30 (ix v9) (S10.2 30 (ix (v9 - (1 : Int32)))) := ⟨_, rfl⟩
              have hW : Wd D cy L shC 52 S13 s H locs := by rw [eS13]; exact hW
              have hf := bvS hf eS13
              obtain ⟨x14, ex14⟩ : ∃ z : Int32, z = (v9 + (-1)) := ⟨_, rfl⟩
              have hf := bvS hf ex14
              refine lv_iinc (v := x14) (lv' := [(5, .int x14), (0, .ref (L 29)), (1, .long a1), (3, .int r1)]) hx hb dX3_insert_84 hl (k := 3) rfl (by rw [ex14]; rfl) (by decide) rfl (fun ls hl => ?_)
              refine lv_goto (tgt := 62) hx hb dX3_insert_87 (by decide) ?_
              exact ih62 _ _ hf _ _ _ (lv_sub hl [1, 2, 3, 0] rfl) hW
        · have hf := xf hf c16
          exact x_vretI E hC hW hr hlk hQ dX3_insert_55 hf
  intro j30 J30 hf
  refine jnS hf (fun (j : Option (Sg)) => (j) = some S' → ∀ (H : Heap) (locs : List Loc) (ls : Array Slot), lv_has ls 6 [(0, .ref (L 29)), (1, .long a1), (3, .int r1)] → Wd D cy L shC 52 S s H locs → W p l e (rmk 1 23) s m args below meth c H locs 0 0 Q (F0 m 29 ls [])) ?_ ?_
  · intro hf H locs ls hl hW
    try dsimp only at hf
    refine lv_iconst (v := 0) hx hb dX3_insert_29 (by decide) ?_
    exact J30 _ hf _ _ _ (lv_sub hl [0, 1, 2] rfl) hW
  intro j29 J29 hf
  refine lv_icmp_ge (tgt := 29) hx hb dX3_insert_11 (by decide) (fun c21 => ?_) (fun c21 => ?_)
  · have hf := xt hf c21
    exact J29 hf _ _ _ (lv_sub hl [1, 2, 0] rfl) hW
  · have hf := xf hf c21
    refine lv_aload_n hx hb dX3_insert_14 rfl (lv_at hl 1 rfl) ?_
    refine x_getr (k := 29) (k' := 30) E hC hW fl_X3_15 (by decide) rfl rfl dX3_insert_15 ?_
    refine lv_iload_n hx hb dX3_insert_18 rfl (lv_at hl 0 rfl) ?_
    obtain ⟨hg19, hf⟩ := gdS hf
    refine x_lald (k := 30) E hC hW (by decide) rfl (inbS hg19) dX3_insert_19 ?_
    refine lv_lload_n hx hb dX3_insert_20 rfl (lv_at hl 2 rfl) ?_
    refine W.lcmp hx hb dX3_insert_21 ?_
    refine lv_if_ne (tgt := 29) hx hb dX3_insert_22 (by decide) (fun c20 => ?_) (fun c20 => ?_)
    · have hf := xf hf c20
      exact J29 hf _ _ _ (lv_sub hl [1, 2, 0] rfl) hW
    · have hf := xt hf c20
      refine lv_iconst (v := 1) hx hb dX3_insert_25 (by decide) ?_
      refine lv_goto (tgt := 30) hx hb dX3_insert_26 (by decide) ?_
      exact J30 _ hf _ _ _ (lv_sub hl [1, 2, 0] rfl) hW
set_option maxRecDepth 100000 in
set_option maxHeartbeats 4000000 in
theorem c_X3_fill {l : Launch} {D : va_G} {cy : Nat → ClassId} {L : Nat → Nat} {bA : Nat}  (S S' : Sg)  (hf : f_X3_fill S = some S') : MetX l D cy L shC 52 bA yX3_fill cX3_fill 3 none 2 50 [.ref (L 29), .ref (L 13)] none S S' := by
  refine x_met (own := RX3) (by decide) rfl (Nat.le_of_ble_eq_true rfl) ?_
  intro p e s m below meth c ls E hC hr hlk hl hW
  generalize hargs : ([.ref (L 29), .ref (L 13)] : List Value).toArray = args at E ⊢
  generalize hQ : MQ below (xQ D cy L shC 52 bA none S') args s 0 0 (AL L 52) = Q
  have hl : lv_has ls 3 [(0, .ref (L 29)), (1, .ref (L 13))] := hl
  have hx := E.1
  have hb := E.2.1
  have hts := E.2.2.2.2
  unfold f_X3_fill at hf
  refine lv_aload_n hx hb dX3_fill_0 rfl (lv_at hl 0 rfl) ?_
  refine lv_iconst (v := 0) hx hb dX3_fill_1 (by decide) ?_
  refine x_put (k := 29) E hC hW fl_X3_9 pl_3_0 (by decide) rfl rfl rfl rfl dX3_fill_2 (fun H locs hW => ?_)
  obtain ⟨S1, eS1⟩ : ∃ z : Sg, z = si S 29 0 (0 : Int32) := ⟨_, rfl⟩
  have hW : Wd D cy L shC 52 S1 s H locs := by rw [eS1]; exact hW
  have hf := bvS hf eS1
  refine lv_iconst (v := 0) hx hb dX3_fill_5 (by decide) ?_
  refine lv_istore_n (lv' := [(2, .int (0 : Int32)), (0, .ref (L 29)), (1, .ref (L 13))]) hx hb dX3_fill_6 rfl hl (by decide) rfl (fun ls hl => ?_)
  refine wp2S (fun (v2 : Int32) (S3 : Sg) => ∀ (H : Heap) (locs : List Loc) (ls : Array Slot), lv_has ls 3 [(0, .ref (L 29)), (1, .ref (L 13)), (2, .int v2)] → Wd D cy L shC 52 S3 s H locs → W p l e (rmk 2 50) s m args below meth c H locs 0 0 Q (F0 m 7 ls [])) ?_ hf _ _ _ (lv_sub hl [1, 2, 0] rfl) hW
  · intro self7 ih7 v2 S3 hf H locs ls hl hW
    unfold X3_fill_L7 at hf
    refine lv_iload_n hx hb dX3_fill_7 rfl (lv_at hl 2 rfl) ?_
    refine lv_iconst (v := 2) hx hb dX3_fill_8 (by decide) ?_
    refine lv_aload_n hx hb dX3_fill_9 rfl (lv_at hl 1 rfl) ?_
    refine x_geti (k := 13) E hC hW fl_X3_19 (by decide) rfl rfl dX3_fill_10 ?_
    refine lv_imul hx hb dX3_fill_13 ?_
    refine lv_icmp_ge (tgt := 36) hx hb dX3_fill_14 (by decide) (fun c9 => ?_) (fun c9 => ?_)
    · have hf := xt hf c9
      exact x_vretI E hC hW hr hlk hQ dX3_fill_36 hf
    · have hf := xf hf c9
      refine lv_aload_n hx hb dX3_fill_17 rfl (lv_at hl 0 rfl) ?_
      refine lv_aload_n hx hb dX3_fill_18 rfl (lv_at hl 0 rfl) ?_
      refine lv_aload_n hx hb dX3_fill_19 rfl (lv_at hl 1 rfl) ?_
      refine lv_iload_n hx hb dX3_fill_20 rfl (lv_at hl 2 rfl) ?_
      refine lv_bipush (v := 6) hx hb dX3_fill_21 (by decide) ?_
      refine lv_imul hx hb dX3_fill_23 ?_
      obtain ⟨r4, g5, hf⟩ := cl1S hf
      refine x_Vr (k := 29) (As := [.ref (L 13), .int (v2 * (6 : Int32))]) (rest := [.ref (L 29)]) E hC hW hl.1 (c_X3_codeOf (v2 * (6 : Int32)) r4 S3 g5) cv_X3_24 rfl (by decide) rfl rfl rfl ⟨Nat.le_of_ble_eq_true rfl, Nat.le_of_ble_eq_true rfl⟩ ⟨Nat.le_refl _, Nat.le_refl _⟩ (Nat.le_of_ble_eq_true rfl) dX3_fill_24 (fun H locs hW => ?_)
      obtain ⟨S7, g6, hf⟩ := cl1S hf
      refine x_Vv (k := 29) (As := [.long r4]) (rest := []) E hC hW hl.1 (c_X3_insert r4 S3 S7 g6) cv_X3_28 rfl (by decide) rfl rfl rfl ⟨Nat.le_of_ble_eq_true rfl, Nat.le_of_ble_eq_true rfl⟩ ⟨Nat.le_refl _, Nat.le_refl _⟩ (Nat.le_of_ble_eq_true rfl) dX3_fill_27 (fun H locs hW => ?_)
      obtain ⟨x8, ex8⟩ : ∃ z : Int32, z = (v2 + 1) := ⟨_, rfl⟩
      have hf := bvS hf ex8
      refine lv_iinc (v := x8) (lv' := [(2, .int x8), (0, .ref (L 29)), (1, .ref (L 13))]) hx hb dX3_fill_30 hl (k := 2) rfl (by rw [ex8]; rfl) (by decide) rfl (fun ls hl => ?_)
      refine lv_goto (tgt := 7) hx hb dX3_fill_33 (by decide) ?_
      exact ih7 _ _ hf _ _ _ (lv_sub hl [1, 2, 0] rfl) hW
set_option maxRecDepth 100000 in
set_option maxHeartbeats 4000000 in
theorem c_X9_fillRays {l : Launch} {D : va_G} {cy : Nat → ClassId} {L : Nat → Nat} {bA : Nat}  (S S' : Sg)  (hf : f_X9_fillRays S = some S') : MetX l D cy L shC 52 bA yX9_fillRays cX9_fillRays 1 none 3 72 [.ref (L 0)] none S S' := by
  refine x_met (own := RX9) (by decide) rfl (Nat.le_of_ble_eq_true rfl) ?_
  intro p e s m below meth c ls E hC hr hlk hl hW
  generalize hargs : ([.ref (L 0)] : List Value).toArray = args at E ⊢
  generalize hQ : MQ below (xQ D cy L shC 52 bA none S') args s 0 0 (AL L 52) = Q
  have hl : lv_has ls 1 [(0, .ref (L 0))] := hl
  have hx := E.1
  have hb := E.2.1
  have hts := E.2.2.2.2
  unfold f_X9_fillRays at hf
  refine lv_aload_n hx hb dX9_fillRays_0 rfl (lv_at hl 0 rfl) ?_
  refine x_getr (k := 0) (k' := 13) E hC hW fl_X9_26 (by decide) rfl rfl dX9_fillRays_1 ?_
  refine lv_aload_n hx hb dX9_fillRays_4 rfl (lv_at hl 0 rfl) ?_
  refine x_getr (k := 0) (k' := 1) E hC hW fl_X9_12 (by decide) rfl rfl dX9_fillRays_5 ?_
  obtain ⟨S2, g1, hf⟩ := cl1S hf
  refine x_Vv (k := 13) (As := [.ref (L 1)]) (rest := []) E hC hW hl.1 (c_X5_fill S S2 g1) cv_X9_141 rfl (by decide) rfl rfl rfl ⟨Nat.le_of_ble_eq_true rfl, Nat.le_of_ble_eq_true rfl⟩ ⟨Nat.le_refl _, Nat.le_refl _⟩ (Nat.le_of_ble_eq_true rfl) dX9_fillRays_8 (fun H locs hW => ?_)
  refine lv_aload_n hx hb dX9_fillRays_11 rfl (lv_at hl 0 rfl) ?_
  refine x_getr (k := 0) (k' := 29) E hC hW fl_X9_54 (by decide) rfl rfl dX9_fillRays_12 ?_
  refine lv_aload_n hx hb dX9_fillRays_15 rfl (lv_at hl 0 rfl) ?_
  refine x_getr (k := 0) (k' := 13) E hC hW fl_X9_26 (by decide) rfl rfl dX9_fillRays_16 ?_
  obtain ⟨S4, g3, hf⟩ := cl1S hf
  refine x_Vv (k := 29) (As := [.ref (L 13)]) (rest := []) E hC hW hl.1 (c_X3_fill S2 S4 g3) cv_X9_324 rfl (by decide) rfl rfl rfl ⟨Nat.le_of_ble_eq_true rfl, Nat.le_of_ble_eq_true rfl⟩ ⟨Nat.le_refl _, Nat.le_refl _⟩ (Nat.le_of_ble_eq_true rfl) dX9_fillRays_19 (fun H locs hW => ?_)
  exact x_vretI E hC hW hr hlk hQ dX9_fillRays_22 hf
set_option maxRecDepth 100000 in
set_option maxHeartbeats 4000000 in
theorem c_X9_rays {l : Launch} {D : va_G} {cy : Nat → ClassId} {L : Nat → Nat} {bA : Nat}  (r : Int32) (S S' : Sg)  (hf : f_X9_rays S = some (r, S')) : MetX l D cy L shC 52 bA yX9_rays cX9_rays 1 (some .int) 4 92 [.ref (L 0)] (some (.int r)) S S' := by
  refine x_met (own := RX9) (by decide) rfl (Nat.le_of_ble_eq_true rfl) ?_
  intro p e s m below meth c ls E hC hr hlk hl hW
  generalize hargs : ([.ref (L 0)] : List Value).toArray = args at E ⊢
  generalize hQ : MQ below (xQ D cy L shC 52 bA (some (.int r)) S') args s 0 0 (AL L 52) = Q
  have hl : lv_has ls 1 [(0, .ref (L 0))] := hl
  have hx := E.1
  have hb := E.2.1
  have hts := E.2.2.2.2
  unfold f_X9_rays at hf
  refine lv_aload_n hx hb dX9_rays_0 rfl (lv_at hl 0 rfl) ?_
  obtain ⟨S2, g1, hf⟩ := cl1S hf
  refine x_Vv (k := 0) (As := []) (rest := []) E hC hW hl.1 (c_X9_fillRays S S2 g1) cv_X9_238 rfl (by decide) rfl rfl rfl ⟨Nat.le_of_ble_eq_true rfl, Nat.le_of_ble_eq_true rfl⟩ ⟨Nat.le_refl _, Nat.le_refl _⟩ (Nat.le_of_ble_eq_true rfl) dX9_rays_1 (fun H locs hW => ?_)
  refine lv_aload_n hx hb dX9_rays_4 rfl (lv_at hl 0 rfl) ?_
  refine x_getr (k := 0) (k' := 29) E hC hW fl_X9_54 (by decide) rfl rfl dX9_rays_5 ?_
  refine x_geti (k := 29) E hC hW fl_X9_241 (by decide) rfl rfl dX9_rays_8 ?_
  exact x_iretI E hC hW hr hlk hQ dX9_rays_11 hf
set_option maxRecDepth 100000 in
set_option maxHeartbeats 4000000 in
theorem c_X3_has {l : Launch} {D : va_G} {cy : Nat → ClassId} {L : Nat → Nat} {bA : Nat} (a1 : Int32) (r : Int32) (S : Sg)  (hf : f_X3_has a1 S = some r) : MetX l D cy L shC 52 bA yX3_has cX3_has 2 (some .boolean) 0 0 [.ref (L 29), .int a1] (some (.int r)) S S := by
  refine x_met (own := RX3) (by decide) rfl (Nat.le_of_ble_eq_true rfl) ?_
  intro p e s m below meth c ls E hC hr hlk hl hW
  generalize hargs : ([.ref (L 29), .int a1] : List Value).toArray = args at E ⊢
  generalize hQ : MQ below (xQ D cy L shC 52 bA (some (.int r)) S) args s 0 0 (AL L 52) = Q
  have hl : lv_has ls 2 [(0, .ref (L 29)), (1, .int a1)] := hl
  have hx := E.1
  have hb := E.2.1
  have hts := E.2.2.2.2
  unfold f_X3_has at hf
  refine lv_iload_n hx hb dX3_has_0 rfl (lv_at hl 1 rfl) ?_
  refine lv_if_lt (tgt := 16) hx hb dX3_has_1 (by decide) (fun c2 => ?_) (fun c2 => ?_)
  · have hf := xt hf c2
    refine lv_iconst (v := 0) hx hb dX3_has_16 (by decide) ?_
    exact x_zretP E hC hW hr hlk hQ (by decide) dX3_has_17 hf
  · have hf := xf hf c2
    refine lv_iload_n hx hb dX3_has_4 rfl (lv_at hl 1 rfl) ?_
    refine lv_aload_n hx hb dX3_has_5 rfl (lv_at hl 0 rfl) ?_
    refine x_geti (k := 29) E hC hW fl_X3_9 (by decide) rfl rfl dX3_has_6 ?_
    refine lv_icmp_ge (tgt := 16) hx hb dX3_has_9 (by decide) (fun c1 => ?_) (fun c1 => ?_)
    · have hf := xt hf c1
      refine lv_iconst (v := 0) hx hb dX3_has_16 (by decide) ?_
      exact x_zretP E hC hW hr hlk hQ (by decide) dX3_has_17 hf
    · have hf := xf hf c1
      refine lv_iconst (v := 1) hx hb dX3_has_12 (by decide) ?_
      refine lv_goto (tgt := 17) hx hb dX3_has_13 (by decide) ?_
      exact x_zretP E hC hW hr hlk hQ (by decide) dX3_has_17 hf
set_option maxRecDepth 100000 in
set_option maxHeartbeats 4000000 in
theorem c_X9_ray {l : Launch} {D : va_G} {cy : Nat → ClassId} {L : Nat → Nat} {bA : Nat} (a1 : Int32) (r : Int64) (S S' : Sg)  (hf : f_X9_ray a1 S = some (r, S')) : MetX l D cy L shC 52 bA yX9_ray cX9_ray 2 (some .long) 4 92 [.ref (L 0), .int a1] (some (.long r)) S S' := by
  refine x_met (own := RX9) (by decide) rfl (Nat.le_of_ble_eq_true rfl) ?_
  intro p e s m below meth c ls E hC hr hlk hl hW
  generalize hargs : ([.ref (L 0), .int a1] : List Value).toArray = args at E ⊢
  generalize hQ : MQ below (xQ D cy L shC 52 bA (some (.long r)) S') args s 0 0 (AL L 52) = Q
  have hl : lv_has ls 2 [(0, .ref (L 0)), (1, .int a1)] := hl
  have hx := E.1
  have hb := E.2.1
  have hts := E.2.2.2.2
  unfold f_X9_ray at hf
  refine lv_aload_n hx hb dX9_ray_0 rfl (lv_at hl 0 rfl) ?_
  obtain ⟨S2, g1, hf⟩ := cl1S hf
  refine x_Vv (k := 0) (As := []) (rest := []) E hC hW hl.1 (c_X9_fillRays S S2 g1) cv_X9_238 rfl (by decide) rfl rfl rfl ⟨Nat.le_of_ble_eq_true rfl, Nat.le_of_ble_eq_true rfl⟩ ⟨Nat.le_refl _, Nat.le_refl _⟩ (Nat.le_of_ble_eq_true rfl) dX9_ray_1 (fun H locs hW => ?_)
  refine lv_aload_n hx hb dX9_ray_4 rfl (lv_at hl 0 rfl) ?_
  refine x_getr (k := 0) (k' := 29) E hC hW fl_X9_54 (by decide) rfl rfl dX9_ray_5 ?_
  refine lv_iload_n hx hb dX9_ray_8 rfl (lv_at hl 1 rfl) ?_
  obtain ⟨r3, g4, hf⟩ := cl1S hf
  refine x_Vr (k := 29) (As := [.int a1]) (rest := []) E hC hW hl.1 (c_X3_has a1 r3 S2 g4) cv_X9_244 rfl (by decide) rfl rfl rfl ⟨Nat.le_of_ble_eq_true rfl, Nat.le_of_ble_eq_true rfl⟩ ⟨Nat.le_refl _, Nat.le_refl _⟩ (Nat.le_of_ble_eq_true rfl) dX9_ray_9 (fun H locs hW => ?_)
  refine lv_if_eq (tgt := 27) hx hb dX9_ray_12 (by decide) (fun c6 => ?_) (fun c6 => ?_)
  · have hf := xt hf c6
    refine lv_ldc2 hx hb E.2.2.2.1 (hts _ ww_470) dX9_ray_27 ?_
    exact x_lretI E hC hW hr hlk hQ dX9_ray_30 hf
  · have hf := xf hf c6
    refine lv_aload_n hx hb dX9_ray_15 rfl (lv_at hl 0 rfl) ?_
    refine x_getr (k := 0) (k' := 29) E hC hW fl_X9_54 (by decide) rfl rfl dX9_ray_16 ?_
    refine x_getr (k := 29) (k' := 30) E hC hW fl_X9_245 (by decide) rfl rfl dX9_ray_19 ?_
    refine lv_iload_n hx hb dX9_ray_22 rfl (lv_at hl 1 rfl) ?_
    obtain ⟨hg5, hf⟩ := gdS hf
    refine x_lald (k := 30) E hC hW (by decide) rfl (inbS hg5) dX9_ray_23 ?_
    refine lv_goto (tgt := 30) hx hb dX9_ray_24 (by decide) ?_
    exact x_lretI E hC hW hr hlk hQ dX9_ray_30 hf
set_option maxRecDepth 100000 in
set_option maxHeartbeats 4000000 in
theorem c_X9_rayOf {l : Launch} {D : va_G} {cy : Nat → ClassId} {L : Nat → Nat} {bA : Nat} (a1 : Int32) (a2 : Int32) (r : Int32) (S S' : Sg)  (hf : f_X9_rayOf a1 a2 S = some (r, S')) : MetX l D cy L shC 52 bA yX9_rayOf cX9_rayOf 5 (some .int) 4 92 [.ref (L 0), .int a1, .int a2] (some (.int r)) S S' := by
  refine x_met (own := RX9) (by decide) rfl (Nat.le_of_ble_eq_true rfl) ?_
  intro p e s m below meth c ls E hC hr hlk hl hW
  generalize hargs : ([.ref (L 0), .int a1, .int a2] : List Value).toArray = args at E ⊢
  generalize hQ : MQ below (xQ D cy L shC 52 bA (some (.int r)) S') args s 0 0 (AL L 52) = Q
  have hl : lv_has ls 5 [(0, .ref (L 0)), (1, .int a1), (2, .int a2)] := hl
  have hx := E.1
  have hb := E.2.1
  have hts := E.2.2.2.2
  unfold f_X9_rayOf at hf
  refine lv_aload_n hx hb dX9_rayOf_0 rfl (lv_at hl 0 rfl) ?_
  refine x_getr (k := 0) (k' := 1) E hC hW fl_X9_12 (by decide) rfl rfl dX9_rayOf_1 ?_
  refine lv_iload_n hx hb dX9_rayOf_4 rfl (lv_at hl 1 rfl) ?_
  obtain ⟨r1, g2, hf⟩ := cl1S hf
  refine x_Vr (k := 1) (As := [.int a1]) (rest := []) E hC hW hl.1 (c_X2_has a1 r1 S g2) cv_X9_114 rfl (by decide) rfl rfl rfl ⟨Nat.le_of_ble_eq_true rfl, Nat.le_of_ble_eq_true rfl⟩ ⟨Nat.le_refl _, Nat.le_refl _⟩ (Nat.le_of_ble_eq_true rfl) dX9_rayOf_5 (fun H locs hW => ?_)
  refine lv_if_eq (tgt := 18) hx hb dX9_rayOf_8 (by decide) (fun c13 => ?_) (fun c13 => ?_)
  · have hf := xt hf c13
    refine lv_bipush (v := (-2)) hx hb dX9_rayOf_18 (by decide) ?_
    exact x_iretI E hC hW hr hlk hQ dX9_rayOf_20 hf
  · have hf := xf hf c13
    refine lv_iload_n hx hb dX9_rayOf_11 rfl (lv_at hl 2 rfl) ?_
    obtain ⟨r3, g4, hf⟩ := cl1S hf
    refine x_Sr (As := [.int a2]) (rest := []) E hC hW hl.1 (c_X9_isBit a2 r3 S g4) cs_X9_117 rfl rfl ⟨Nat.le_of_ble_eq_true rfl, Nat.le_of_ble_eq_true rfl⟩ ⟨Nat.le_refl _, Nat.le_refl _⟩ (Nat.le_of_ble_eq_true rfl) dX9_rayOf_12 (fun H locs hW => ?_)
    refine lv_if_ne (tgt := 21) hx hb dX9_rayOf_15 (by decide) (fun c12 => ?_) (fun c12 => ?_)
    · have hf := xf hf c12
      refine lv_aload_n hx hb dX9_rayOf_21 rfl (lv_at hl 0 rfl) ?_
      obtain ⟨S6, g5, hf⟩ := cl1S hf
      refine x_Vv (k := 0) (As := []) (rest := []) E hC hW hl.1 (c_X9_fillRays S S6 g5) cv_X9_238 rfl (by decide) rfl rfl rfl ⟨Nat.le_of_ble_eq_true rfl, Nat.le_of_ble_eq_true rfl⟩ ⟨Nat.le_refl _, Nat.le_refl _⟩ (Nat.le_of_ble_eq_true rfl) dX9_rayOf_22 (fun H locs hW => ?_)
      refine lv_aload_n hx hb dX9_rayOf_25 rfl (lv_at hl 0 rfl) ?_
      refine x_getr (k := 0) (k' := 29) E hC hW fl_X9_54 (by decide) rfl rfl dX9_rayOf_26 ?_
      refine lv_aload_n hx hb dX9_rayOf_29 rfl (lv_at hl 0 rfl) ?_
      refine x_getr (k := 0) (k' := 13) E hC hW fl_X9_26 (by decide) rfl rfl dX9_rayOf_30 ?_
      refine lv_iload_n hx hb dX9_rayOf_33 rfl (lv_at hl 1 rfl) ?_
      refine lv_bipush (v := 12) hx hb dX9_rayOf_34 (by decide) ?_
      refine lv_imul hx hb dX9_rayOf_36 ?_
      refine lv_iload_n hx hb dX9_rayOf_37 rfl (lv_at hl 2 rfl) ?_
      refine lv_bipush (v := 6) hx hb dX9_rayOf_38 (by decide) ?_
      refine lv_imul hx hb dX9_rayOf_40 ?_
      refine lv_iadd hx hb dX9_rayOf_41 ?_
      obtain ⟨r7, g8, hf⟩ := cl1S hf
      refine x_Vr (k := 29) (As := [.ref (L 13), .int ((a1 * (12 : Int32)) + (a2 * (6 : Int32)))]) (rest := []) E hC hW hl.1 (c_X3_codeOf ((a1 * (12 : Int32)) + (a2 * (6 : Int32))) r7 S6 g8) cv_X9_248 rfl (by decide) rfl rfl rfl ⟨Nat.le_of_ble_eq_true rfl, Nat.le_of_ble_eq_true rfl⟩ ⟨Nat.le_refl _, Nat.le_refl _⟩ (Nat.le_of_ble_eq_true rfl) dX9_rayOf_42 (fun H locs hW => ?_)
      refine lv_lstore_n (lv' := [(3, .long r7), (0, .ref (L 0)), (1, .int a1), (2, .int a2)]) hx hb dX9_rayOf_45 rfl hl (by decide) rfl (fun ls hl => ?_)
      refine lv_lload_n hx hb dX9_rayOf_46 rfl (lv_at hl 0 rfl) ?_
      refine lv_lconst (v := 0) hx hb dX9_rayOf_47 (by decide) ?_
      refine W.lcmp hx hb dX9_rayOf_48 ?_
      refine lv_if_ne (tgt := 56) hx hb dX9_rayOf_49 (by decide) (fun c11 => ?_) (fun c11 => ?_)
      · have hf := xf hf c11
        refine lv_aload_n hx hb dX9_rayOf_56 rfl (lv_at hl 1 rfl) ?_
        refine x_getr (k := 0) (k' := 29) E hC hW fl_X9_54 (by decide) rfl rfl dX9_rayOf_57 ?_
        refine lv_lload_n hx hb dX9_rayOf_60 rfl (lv_at hl 0 rfl) ?_
        obtain ⟨r9, g10, hf⟩ := cl1S hf
        refine x_Vr (k := 29) (As := [.long r7]) (rest := []) E hC hW hl.1 (c_X3_raysBelow r7 r9 S6 g10) cv_X9_252 rfl (by decide) rfl rfl rfl ⟨Nat.le_of_ble_eq_true rfl, Nat.le_of_ble_eq_true rfl⟩ ⟨Nat.le_refl _, Nat.le_refl _⟩ (Nat.le_of_ble_eq_true rfl) dX9_rayOf_61 (fun H locs hW => ?_)
        exact x_iretI E hC hW hr hlk hQ dX9_rayOf_64 hf
      · have hf := xt hf c11
        refine lv_iconst (v := (-1)) hx hb dX9_rayOf_52 (by decide) ?_
        refine lv_goto (tgt := 64) hx hb dX9_rayOf_53 (by decide) ?_
        exact x_iretI E hC hW hr hlk hQ dX9_rayOf_64 hf
    · have hf := xt hf c12
      refine lv_bipush (v := (-2)) hx hb dX9_rayOf_18 (by decide) ?_
      exact x_iretI E hC hW hr hlk hQ dX9_rayOf_20 hf
set_option maxRecDepth 100000 in
set_option maxHeartbeats 4000000 in
theorem c_X9_isPoint {l : Launch} {D : va_G} {cy : Nat → ClassId} {L : Nat → Nat} {bA : Nat} (a0 : Int32) (r : Int32) (S : Sg)  (hf : f_X9_isPoint a0 = some r) : MetX l D cy L shC 52 bA yX9_isPoint cX9_isPoint 1 (some .boolean) 0 0 [.int a0] (some (.int r)) S S := by
  refine x_met (own := RX9) (by decide) rfl (Nat.le_of_ble_eq_true rfl) ?_
  intro p e s m below meth c ls E hC hr hlk hl hW
  generalize hargs : ([.int a0] : List Value).toArray = args at E ⊢
  generalize hQ : MQ below (xQ D cy L shC 52 bA (some (.int r)) S) args s 0 0 (AL L 52) = Q
  have hl : lv_has ls 1 [(0, .int a0)] := hl
  have hx := E.1
  have hb := E.2.1
  have hts := E.2.2.2.2
  unfold f_X9_isPoint at hf
  refine lv_iload_n hx hb dX9_isPoint_0 rfl (lv_at hl 0 rfl) ?_
  refine lv_if_lt (tgt := 14) hx hb dX9_isPoint_1 (by decide) (fun c2 => ?_) (fun c2 => ?_)
  · have hf := xt hf c2
    refine lv_iconst (v := 0) hx hb dX9_isPoint_14 (by decide) ?_
    exact x_zretP E hC hW hr hlk hQ (by decide) dX9_isPoint_15 hf
  · have hf := xf hf c2
    refine lv_iload_n hx hb dX9_isPoint_4 rfl (lv_at hl 0 rfl) ?_
    refine lv_bipush (v := 8) hx hb dX9_isPoint_5 (by decide) ?_
    refine lv_icmp_ge (tgt := 14) hx hb dX9_isPoint_7 (by decide) (fun c1 => ?_) (fun c1 => ?_)
    · have hf := xt hf c1
      refine lv_iconst (v := 0) hx hb dX9_isPoint_14 (by decide) ?_
      exact x_zretP E hC hW hr hlk hQ (by decide) dX9_isPoint_15 hf
    · have hf := xf hf c1
      refine lv_iconst (v := 1) hx hb dX9_isPoint_10 (by decide) ?_
      refine lv_goto (tgt := 15) hx hb dX9_isPoint_11 (by decide) ?_
      exact x_zretP E hC hW hr hlk hQ (by decide) dX9_isPoint_15 hf
set_option maxRecDepth 100000 in
set_option maxHeartbeats 4000000 in
theorem c_X2_linesAt {l : Launch} {D : va_G} {cy : Nat → ClassId} {L : Nat → Nat} {bA : Nat} (a1 : Int32) (r : Int32) (S : Sg)  (hf : f_X2_linesAt a1 S = some r) : MetX l D cy L shC 52 bA yX2_linesAt cX2_linesAt 2 (some .int) 1 20 [.ref (L 1), .int a1] (some (.int r)) S S := by
  refine x_met (own := RX2) (by decide) rfl (Nat.le_of_ble_eq_true rfl) ?_
  intro p e s m below meth c ls E hC hr hlk hl hW
  generalize hargs : ([.ref (L 1), .int a1] : List Value).toArray = args at E ⊢
  generalize hQ : MQ below (xQ D cy L shC 52 bA (some (.int r)) S) args s 0 0 (AL L 52) = Q
  have hl : lv_has ls 2 [(0, .ref (L 1)), (1, .int a1)] := hl
  have hx := E.1
  have hb := E.2.1
  have hts := E.2.2.2.2
  unfold f_X2_linesAt at hf
  refine lv_aload_n hx hb dX2_linesAt_0 rfl (lv_at hl 0 rfl) ?_
  refine x_getr (k := 1) (k' := 6) E hC hW fl_X2_35 (by decide) rfl rfl dX2_linesAt_1 ?_
  refine lv_iload_n hx hb dX2_linesAt_4 rfl (lv_at hl 1 rfl) ?_
  obtain ⟨hg1, hf⟩ := gdS hf
  refine x_iald (k := 6) E hC hW (by decide) rfl (inbS hg1) dX2_linesAt_5 ?_
  obtain ⟨r2, g3, hf⟩ := cl1S hf
  refine x_Sr (As := [.int (S.1 6 (ix a1))]) (rest := []) E hC hW hl.1 (c_J6_bitCount_0f7a4 (S.1 6 (ix a1)) r2 S g3) cs_X2_60 rfl rfl ⟨Nat.le_of_ble_eq_true rfl, Nat.le_of_ble_eq_true rfl⟩ ⟨Nat.le_refl _, Nat.le_refl _⟩ (Nat.le_of_ble_eq_true rfl) dX2_linesAt_6 (fun H locs hW => ?_)
  exact x_iretP E hC hW hr hlk hQ dX2_linesAt_9 hf
set_option maxRecDepth 100000 in
set_option maxHeartbeats 4000000 in
theorem c_X9_link {l : Launch} {D : va_G} {cy : Nat → ClassId} {L : Nat → Nat} {bA : Nat} (a1 : Int32) (a2 : Int32) (a3 : Int32) (r : Int32) (S S' : Sg)  (hf : f_X9_link a1 a2 a3 S = some (r, S')) : MetX l D cy L shC 52 bA yX9_link cX9_link 5 (some .int) 2 41 [.ref (L 0), .int a1, .int a2, .int a3] (some (.int r)) S S' := by
  refine x_met (own := RX9) (by decide) rfl (Nat.le_of_ble_eq_true rfl) ?_
  intro p e s m below meth c ls E hC hr hlk hl hW
  generalize hargs : ([.ref (L 0), .int a1, .int a2, .int a3] : List Value).toArray = args at E ⊢
  generalize hQ : MQ below (xQ D cy L shC 52 bA (some (.int r)) S') args s 0 0 (AL L 52) = Q
  have hl : lv_has ls 5 [(0, .ref (L 0)), (1, .int a1), (2, .int a2), (3, .int a3)] := hl
  have hx := E.1
  have hb := E.2.1
  have hts := E.2.2.2.2
  unfold f_X9_link at hf
  refine lv_iload_n hx hb dX9_link_0 rfl (lv_at hl 1 rfl) ?_
  obtain ⟨r1, g2, hf⟩ := cl1S hf
  refine x_Sr (As := [.int a1]) (rest := []) E hC hW hl.1 (c_X9_isPoint a1 r1 S g2) cs_X9_255 rfl rfl ⟨Nat.le_of_ble_eq_true rfl, Nat.le_of_ble_eq_true rfl⟩ ⟨Nat.le_refl _, Nat.le_refl _⟩ (Nat.le_of_ble_eq_true rfl) dX9_link_1 (fun H locs hW => ?_)
  refine lv_if_eq (tgt := 26) hx hb dX9_link_4 (by decide) (fun c27 => ?_) (fun c27 => ?_)
  · have hf := xt hf c27
    refine lv_bipush (v := (-2)) hx hb dX9_link_26 (by decide) ?_
    exact x_iretI E hC hW hr hlk hQ dX9_link_28 hf
  · have hf := xf hf c27
    refine lv_iload_n hx hb dX9_link_7 rfl (lv_at hl 2 rfl) ?_
    obtain ⟨r3, g4, hf⟩ := cl1S hf
    refine x_Sr (As := [.int a2]) (rest := []) E hC hW hl.1 (c_X9_isPoint a2 r3 S g4) cs_X9_255 rfl rfl ⟨Nat.le_of_ble_eq_true rfl, Nat.le_of_ble_eq_true rfl⟩ ⟨Nat.le_refl _, Nat.le_refl _⟩ (Nat.le_of_ble_eq_true rfl) dX9_link_8 (fun H locs hW => ?_)
    refine lv_if_eq (tgt := 26) hx hb dX9_link_11 (by decide) (fun c26 => ?_) (fun c26 => ?_)
    · have hf := xt hf c26
      refine lv_bipush (v := (-2)) hx hb dX9_link_26 (by decide) ?_
      exact x_iretI E hC hW hr hlk hQ dX9_link_28 hf
    · have hf := xf hf c26
      refine lv_iload_n hx hb dX9_link_14 rfl (lv_at hl 1 rfl) ?_
      refine lv_iload_n hx hb dX9_link_15 rfl (lv_at hl 2 rfl) ?_
      refine lv_icmp_eq (tgt := 26) hx hb dX9_link_16 (by decide) (fun c25 => ?_) (fun c25 => ?_)
      · have hf := xt hf c25
        refine lv_bipush (v := (-2)) hx hb dX9_link_26 (by decide) ?_
        exact x_iretI E hC hW hr hlk hQ dX9_link_28 hf
      · have hf := xf hf c25
        refine lv_iload_n hx hb dX9_link_19 rfl (lv_at hl 3 rfl) ?_
        obtain ⟨r5, g6, hf⟩ := cl1S hf
        refine x_Sr (As := [.int a3]) (rest := []) E hC hW hl.1 (c_X9_isBit a3 r5 S g6) cs_X9_117 rfl rfl ⟨Nat.le_of_ble_eq_true rfl, Nat.le_of_ble_eq_true rfl⟩ ⟨Nat.le_refl _, Nat.le_refl _⟩ (Nat.le_of_ble_eq_true rfl) dX9_link_20 (fun H locs hW => ?_)
        refine lv_if_ne (tgt := 29) hx hb dX9_link_23 (by decide) (fun c24 => ?_) (fun c24 => ?_)
        · have hf := xf hf c24
          refine lv_aload_n hx hb dX9_link_29 rfl (lv_at hl 0 rfl) ?_
          refine x_getr (k := 0) (k' := 1) E hC hW fl_X9_12 (by decide) rfl rfl dX9_link_30 ?_
          refine x_getr (k := 1) (k' := 6) E hC hW fl_X9_258 (by decide) rfl rfl dX9_link_33 ?_
          refine lv_iload_n hx hb dX9_link_36 rfl (lv_at hl 1 rfl) ?_
          obtain ⟨hg7, hf⟩ := gdS hf
          refine x_iald (k := 6) E hC hW (by decide) rfl (inbS hg7) dX9_link_37 ?_
          refine lv_iload_n hx hb dX9_link_38 rfl (lv_at hl 2 rfl) ?_
          refine lv_ishr hx hb dX9_link_39 ?_
          refine lv_iconst (v := 1) hx hb dX9_link_40 (by decide) ?_
          refine lv_iand hx hb dX9_link_41 ?_
          refine lv_topi (fun x8 ex8 => ?_)
          have hf := bvS hf ex8
          refine lv_istore (lv' := [(4, .int x8), (0, .ref (L 0)), (1, .int a1), (2, .int a2), (3, .int a3)]) hx hb dX9_link_42 hl (by decide) rfl (fun ls hl => ?_)
          refine lv_iload_n hx hb dX9_link_44 rfl (lv_at hl 4 rfl) ?_
          refine lv_iconst (v := 1) hx hb dX9_link_45 (by decide) ?_
          refine jnS hf (fun (j : Option (Int32 × Sg)) => (j) = some (r, S') → ∀ (H : Heap) (locs : List Loc) (ls : Array Slot), lv_has ls 5 [(0, .ref (L 0)), (1, .int a1), (2, .int a2), (3, .int a3), (4, .int x8)] → Wd D cy L shC 52 S s H locs → W p l e (rmk 2 41) s m args below meth c H locs 0 0 Q (F0 m 81 ls [])) ?_ ?_
          · intro hf H locs ls hl hW
            try dsimp only at hf
            refine lv_iload_n hx hb dX9_link_81 rfl (lv_at hl 3 rfl) ?_
            refine lv_iload hx hb dX9_link_82 (lv_at hl 4 rfl) ?_
            refine lv_icmp_eq (tgt := 117) hx hb dX9_link_84 (by decide) (fun c15 => ?_) (fun c15 => ?_)
            · have hf := xt hf c15
              refine lv_iload hx hb dX9_link_117 (lv_at hl 4 rfl) ?_
              exact x_iretI E hC hW hr hlk hQ dX9_link_119 hf
            · have hf := xf hf c15
              refine lv_aload_n hx hb dX9_link_87 rfl (lv_at hl 0 rfl) ?_
              refine x_getr (k := 0) (k' := 1) E hC hW fl_X9_12 (by decide) rfl rfl dX9_link_88 ?_
              refine x_getr (k := 1) (k' := 6) E hC hW fl_X9_258 (by decide) rfl rfl dX9_link_91 ?_
              refine lv_iload_n hx hb dX9_link_94 rfl (lv_at hl 1 rfl) ?_
              refine lv_dup2_11 hx hb dX9_link_95 rfl rfl ?_
              obtain ⟨hg9, hf⟩ := gdS hf
              refine x_iald (k := 6) E hC hW (by decide) rfl (inbS hg9) dX9_link_96 ?_
              refine lv_iconst (v := 1) hx hb dX9_link_97 (by decide) ?_
              refine lv_iload_n hx hb dX9_link_98 rfl (lv_at hl 2 rfl) ?_
              refine lv_ishl hx hb dX9_link_99 ?_
              refine lv_ixor hx hb dX9_link_100 ?_
              obtain ⟨hg10, hf⟩ := gdS hf
              refine x_iast (k := 6) E hC hW (by decide) rfl (inbS hg10) dX9_link_101 (fun H locs hW => ?_)
              obtain ⟨S11, eS11⟩ : ∃ z : Sg, z = si S 6 (ix a1) ((S.1 6 (ix a1)) ^^^ ((1 : Int32) <<< (a2 &&& 31))) := ⟨_, rfl⟩
              have hW : Wd D cy L shC 52 S11 s H locs := by rw [eS11]; exact hW
              have hf := bvS hf eS11
              refine lv_aload_n hx hb dX9_link_102 rfl (lv_at hl 0 rfl) ?_
              refine x_getr (k := 0) (k' := 1) E hC hW fl_X9_12 (by decide) rfl rfl dX9_link_103 ?_
              refine x_getr (k := 1) (k' := 6) E hC hW fl_X9_258 (by decide) rfl rfl dX9_link_106 ?_
              refine lv_iload_n hx hb dX9_link_109 rfl (lv_at hl 2 rfl) ?_
              refine lv_dup2_11 hx hb dX9_link_110 rfl rfl ?_
              obtain ⟨hg12, hf⟩ := gdS hf
              refine x_iald (k := 6) E hC hW (by decide) rfl (inbS hg12) dX9_link_111 ?_
              refine lv_iconst (v := 1) hx hb dX9_link_112 (by decide) ?_
              refine lv_iload_n hx hb dX9_link_113 rfl (lv_at hl 1 rfl) ?_
              refine lv_ishl hx hb dX9_link_114 ?_
              refine lv_ixor hx hb dX9_link_115 ?_
              obtain ⟨hg13, hf⟩ := gdS hf
              refine x_iast (k := 6) E hC hW (by decide) rfl (inbS hg13) dX9_link_116 (fun H locs hW => ?_)
              obtain ⟨S14, eS14⟩ : ∃ z : Sg, z = si S11 6 (ix a2) ((S11.1 6 (ix a2)) ^^^ ((1 : Int32) <<< (a1 &&& 31))) := ⟨_, rfl⟩
              have hW : Wd D cy L shC 52 S14 s H locs := by rw [eS14]; exact hW
              have hf := bvS hf eS14
              refine lv_iload hx hb dX9_link_117 (lv_at hl 4 rfl) ?_
              exact x_iretI E hC hW hr hlk hQ dX9_link_119 hf
          intro j81 J81 hf
          refine lv_icmp_ne (tgt := 81) hx hb dX9_link_46 (by decide) (fun c23 => ?_) (fun c23 => ?_)
          · have hf := xf hf c23
            exact J81 hf _ _ _ (lv_sub hl [1, 2, 3, 4, 0] rfl) hW
          · have hf := xt hf c23
            refine lv_iload hx hb dX9_link_49 (lv_at hl 0 rfl) ?_
            refine lv_if_ne (tgt := 81) hx hb dX9_link_51 (by decide) (fun c22 => ?_) (fun c22 => ?_)
            · have hf := xf hf c22
              exact J81 hf _ _ _ (lv_sub hl [1, 2, 3, 4, 0] rfl) hW
            · have hf := xt hf c22
              refine lv_aload_n hx hb dX9_link_54 rfl (lv_at hl 1 rfl) ?_
              refine x_getr (k := 0) (k' := 1) E hC hW fl_X9_12 (by decide) rfl rfl dX9_link_55 ?_
              refine lv_iload_n hx hb dX9_link_58 rfl (lv_at hl 2 rfl) ?_
              obtain ⟨r16, g17, hf⟩ := cl1S hf
              refine x_Vr (k := 1) (As := [.int a1]) (rest := []) E hC hW hl.1 (c_X2_linesAt a1 r16 S g17) cv_X9_261 rfl (by decide) rfl rfl rfl ⟨Nat.le_of_ble_eq_true rfl, Nat.le_of_ble_eq_true rfl⟩ ⟨Nat.le_refl _, Nat.le_refl _⟩ (Nat.le_of_ble_eq_true rfl) dX9_link_59 (fun H locs hW => ?_)
              refine lv_iconst (v := 3) hx hb dX9_link_62 (by decide) ?_
              refine lv_icmp_ge (tgt := 78) hx hb dX9_link_63 (by decide) (fun c21 => ?_) (fun c21 => ?_)
              · have hf := xt hf c21
                refine lv_bipush (v := (-3)) hx hb dX9_link_78 (by decide) ?_
                exact x_iretI E hC hW hr hlk hQ dX9_link_80 hf
              · have hf := xf hf c21
                refine lv_aload_n hx hb dX9_link_66 rfl (lv_at hl 1 rfl) ?_
                refine x_getr (k := 0) (k' := 1) E hC hW fl_X9_12 (by decide) rfl rfl dX9_link_67 ?_
                refine lv_iload_n hx hb dX9_link_70 rfl (lv_at hl 3 rfl) ?_
                obtain ⟨r18, g19, hf⟩ := cl1S hf
                refine x_Vr (k := 1) (As := [.int a2]) (rest := []) E hC hW hl.1 (c_X2_linesAt a2 r18 S g19) cv_X9_261 rfl (by decide) rfl rfl rfl ⟨Nat.le_of_ble_eq_true rfl, Nat.le_of_ble_eq_true rfl⟩ ⟨Nat.le_refl _, Nat.le_refl _⟩ (Nat.le_of_ble_eq_true rfl) dX9_link_71 (fun H locs hW => ?_)
                refine lv_iconst (v := 3) hx hb dX9_link_74 (by decide) ?_
                refine lv_icmp_lt (tgt := 81) hx hb dX9_link_75 (by decide) (fun c20 => ?_) (fun c20 => ?_)
                · have hf := xt hf c20
                  exact J81 hf _ _ _ (lv_sub hl [1, 2, 3, 4, 0] rfl) hW
                · have hf := xf hf c20
                  refine lv_bipush (v := (-3)) hx hb dX9_link_78 (by decide) ?_
                  exact x_iretI E hC hW hr hlk hQ dX9_link_80 hf
        · have hf := xt hf c24
          refine lv_bipush (v := (-2)) hx hb dX9_link_26 (by decide) ?_
          exact x_iretI E hC hW hr hlk hQ dX9_link_28 hf
set_option maxRecDepth 100000 in
set_option maxHeartbeats 4000000 in
theorem c_X9_hasRing {l : Launch} {D : va_G} {cy : Nat → ClassId} {L : Nat → Nat} {bA : Nat} (a1 : Int32) (r : Int32) (S : Sg)  (hf : f_X9_hasRing a1 S = some r) : MetX l D cy L shC 52 bA yX9_hasRing cX9_hasRing 5 (some .boolean) 1 20 [.ref (L 6), .int a1] (some (.int r)) S S := by
  refine x_met (own := RX9) (by decide) rfl (Nat.le_of_ble_eq_true rfl) ?_
  intro p e s m below meth c ls E hC hr hlk hl hW
  generalize hargs : ([.ref (L 6), .int a1] : List Value).toArray = args at E ⊢
  generalize hQ : MQ below (xQ D cy L shC 52 bA (some (.int r)) S) args s 0 0 (AL L 52) = Q
  have hl : lv_has ls 5 [(0, .ref (L 6)), (1, .int a1)] := hl
  have hx := E.1
  have hb := E.2.1
  have hts := E.2.2.2.2
  unfold f_X9_hasRing at hf
  refine lv_iload_n hx hb dX9_hasRing_0 rfl (lv_at hl 1 rfl) ?_
  refine lv_istore_n (lv' := [(2, .int a1), (0, .ref (L 6)), (1, .int a1)]) hx hb dX9_hasRing_1 rfl hl (by decide) rfl (fun ls hl => ?_)
  refine lv_iconst (v := 0) hx hb dX9_hasRing_2 (by decide) ?_
  refine lv_istore_n (lv' := [(3, .int (0 : Int32)), (2, .int a1), (0, .ref (L 6)), (1, .int a1)]) hx hb dX9_hasRing_3 rfl hl (by decide) rfl (fun ls hl => ?_)
  refine wp2K hf (fun (v3 : Int32) (v4 : Int32) => ∀ (H : Heap) (locs : List Loc) (ls : Array Slot), lv_has ls 5 [(0, .ref (L 6)), (2, .int v3), (3, .int v4)] → Wd D cy L shC 52 S s H locs → W p l e (rmk 1 20) s m args below meth c H locs 0 0 Q (F0 m 4 ls [])) (fun (j : Int32 → Option (Int32)) => ∀ (v1 : Int32), (j v1) = some r → ∀ (H : Heap) (locs : List Loc) (ls : Array Slot), lv_has ls 5 [(2, .int v1)] → Wd D cy L shC 52 S s H locs → W p l e (rmk 1 20) s m args below meth c H locs 0 0 Q (F0 m 54 ls [])) ?_ ?_ _ _ _ (lv_sub hl [2, 1, 0] rfl) hW
  · intro v1 hf H locs ls hl hW
    try dsimp only at hf
    refine lv_iload_n hx hb dX9_hasRing_54 rfl (lv_at hl 0 rfl) ?_
    refine lv_if_eq (tgt := 62) hx hb dX9_hasRing_55 (by decide) (fun c2 => ?_) (fun c2 => ?_)
    · have hf := xt hf c2
      refine lv_iconst (v := 0) hx hb dX9_hasRing_62 (by decide) ?_
      exact x_zretP E hC hW hr hlk hQ (by decide) dX9_hasRing_63 hf
    · have hf := xf hf c2
      refine lv_iconst (v := 1) hx hb dX9_hasRing_58 (by decide) ?_
      refine lv_goto (tgt := 63) hx hb dX9_hasRing_59 (by decide) ?_
      exact x_zretP E hC hW hr hlk hQ (by decide) dX9_hasRing_63 hf
  · intro k54 K54 self4 ih4 v3 v4 hf H locs ls hl hW
    unfold X9_hasRing_L4 at hf
    refine lv_iload_n hx hb dX9_hasRing_4 rfl (lv_at hl 2 rfl) ?_
    refine lv_bipush (v := 8) hx hb dX9_hasRing_5 (by decide) ?_
    refine lv_icmp_ge (tgt := 54) hx hb dX9_hasRing_7 (by decide) (fun c17 => ?_) (fun c17 => ?_)
    · have hf := xt hf c17
      exact K54 _ hf _ _ _ (lv_sub hl [1] rfl) hW
    · have hf := xf hf c17
      refine lv_iconst (v := 0) hx hb dX9_hasRing_10 (by decide) ?_
      refine lv_istore (lv' := [(4, .int (0 : Int32)), (0, .ref (L 6)), (2, .int v3), (3, .int v4)]) hx hb dX9_hasRing_11 hl (by decide) rfl (fun ls hl => ?_)
      refine wp2K hf (fun (v7 : Int32) (v8 : Int32) => ∀ (H : Heap) (locs : List Loc) (ls : Array Slot), lv_has ls 5 [(0, .ref (L 6)), (2, .int v7), (3, .int v4), (4, .int v8)] → Wd D cy L shC 52 S s H locs → W p l e (rmk 1 20) s m args below meth c H locs 0 0 Q (F0 m 13 ls [])) (fun (j : Int32 → Option (Int32)) => ∀ (v5 : Int32), (j v5) = some r → ∀ (H : Heap) (locs : List Loc) (ls : Array Slot), lv_has ls 5 [(0, .ref (L 6)), (2, .int v5), (3, .int v4)] → Wd D cy L shC 52 S s H locs → W p l e (rmk 1 20) s m args below meth c H locs 0 0 Q (F0 m 48 ls [])) ?_ ?_ _ _ _ (lv_sub hl [1, 2, 3, 0] rfl) hW
      · intro v5 hf H locs ls hl hW
        try dsimp only at hf
        obtain ⟨x6, ex6⟩ : ∃ z : Int32, z = (v4 + 1) := ⟨_, rfl⟩
        have hf := bvS hf ex6
        refine lv_iinc (v := x6) (lv' := [(3, .int x6), (0, .ref (L 6)), (2, .int v5)]) hx hb dX9_hasRing_48 hl (k := 2) rfl (by rw [ex6]; rfl) (by decide) rfl (fun ls hl => ?_)
        refine lv_goto (tgt := 4) hx hb dX9_hasRing_51 (by decide) ?_
        exact ih4 _ _ hf _ _ _ (lv_sub hl [1, 2, 0] rfl) hW
      · intro k48 K48 self13 ih13 v7 v8 hf H locs ls hl hW
        unfold X9_hasRing_L13 at hf
        refine lv_iload hx hb dX9_hasRing_13 (lv_at hl 3 rfl) ?_
        refine lv_bipush (v := 8) hx hb dX9_hasRing_15 (by decide) ?_
        refine lv_icmp_ge (tgt := 48) hx hb dX9_hasRing_17 (by decide) (fun c16 => ?_) (fun c16 => ?_)
        · have hf := xt hf c16
          exact K48 _ hf _ _ _ (lv_sub hl [0, 1, 2] rfl) hW
        · have hf := xf hf c16
          refine lv_aload_n hx hb dX9_hasRing_20 rfl (lv_at hl 0 rfl) ?_
          refine lv_iload hx hb dX9_hasRing_21 (lv_at hl 3 rfl) ?_
          obtain ⟨hg9, hf⟩ := gdS hf
          refine x_iald (k := 6) E hC hW (by decide) rfl (inbS hg9) dX9_hasRing_23 ?_
          refine lv_iload_n hx hb dX9_hasRing_24 rfl (lv_at hl 1 rfl) ?_
          refine lv_iand hx hb dX9_hasRing_25 ?_
          obtain ⟨r10, g11, hf⟩ := cl1S hf
          refine x_Sr (As := [.int ((S.1 6 (ix v8)) &&& v7)]) (rest := []) E hC hW hl.1 (c_J6_bitCount_0f7a4 ((S.1 6 (ix v8)) &&& v7) r10 S g11) cs_X9_180 rfl rfl ⟨Nat.le_of_ble_eq_true rfl, Nat.le_of_ble_eq_true rfl⟩ ⟨Nat.le_refl _, Nat.le_refl _⟩ (Nat.le_of_ble_eq_true rfl) dX9_hasRing_26 (fun H locs hW => ?_)
          refine lv_iconst (v := 1) hx hb dX9_hasRing_29 (by decide) ?_
          refine jnS hf (fun (j : Int32 → Option (Int32)) => ∀ (v12 : Int32), (j v12) = some r → ∀ (H : Heap) (locs : List Loc) (ls : Array Slot), lv_has ls 5 [(0, .ref (L 6)), (2, .int v12), (3, .int v4), (4, .int v8)] → Wd D cy L shC 52 S s H locs → W p l e (rmk 1 20) s m args below meth c H locs 0 0 Q (F0 m 42 ls [])) ?_ ?_
          · intro v12 hf H locs ls hl hW
            try dsimp only at hf
            obtain ⟨x13, ex13⟩ : ∃ z : Int32, z = (v8 + 1) := ⟨_, rfl⟩
            have hf := bvS hf ex13
            refine lv_iinc (v := x13) (lv' := [(4, .int x13), (0, .ref (L 6)), (2, .int v12), (3, .int v4)]) hx hb dX9_hasRing_42 hl (k := 3) rfl (by rw [ex13]; rfl) (by decide) rfl (fun ls hl => ?_)
            refine lv_goto (tgt := 13) hx hb dX9_hasRing_45 (by decide) ?_
            exact ih13 _ _ hf _ _ _ (lv_sub hl [1, 2, 3, 0] rfl) hW
          intro j42 J42 hf
          refine lv_icmp_gt (tgt := 42) hx hb dX9_hasRing_30 (by decide) (fun c15 => ?_) (fun c15 => ?_)
          · have hf := xt hf c15
            exact J42 _ hf _ _ _ (lv_sub hl [0, 1, 2, 3] rfl) hW
          · have hf := xf hf c15
            refine lv_iload_n hx hb dX9_hasRing_33 rfl (lv_at hl 1 rfl) ?_
            refine lv_iconst (v := 1) hx hb dX9_hasRing_34 (by decide) ?_
            refine lv_iload hx hb dX9_hasRing_35 (lv_at hl 3 rfl) ?_
            refine lv_ishl hx hb dX9_hasRing_37 ?_
            refine lv_iconst (v := (-1)) hx hb dX9_hasRing_38 (by decide) ?_
            refine lv_ixor hx hb dX9_hasRing_39 ?_
            refine lv_iand hx hb dX9_hasRing_40 ?_
            refine lv_topi (fun x14 ex14 => ?_)
            have hf := bvS hf ex14
            refine lv_istore_n (lv' := [(2, .int x14), (0, .ref (L 6)), (3, .int v4), (4, .int v8)]) hx hb dX9_hasRing_41 rfl hl (by decide) rfl (fun ls hl => ?_)
            exact J42 _ hf _ _ _ (lv_sub hl [1, 0, 2, 3] rfl) hW
set_option maxRecDepth 100000 in
set_option maxHeartbeats 4000000 in
theorem c_X9_isBroken {l : Launch} {D : va_G} {cy : Nat → ClassId} {L : Nat → Nat} {bA : Nat} (a1 : Int32) (r : Int32) (S : Sg)  (hf : f_X9_isBroken a1 S = some r) : MetX l D cy L shC 52 bA yX9_isBroken cX9_isBroken 2 (some .boolean) 2 44 [.ref (L 0), .int a1] (some (.int r)) S S := by
  refine x_met (own := RX9) (by decide) rfl (Nat.le_of_ble_eq_true rfl) ?_
  intro p e s m below meth c ls E hC hr hlk hl hW
  generalize hargs : ([.ref (L 0), .int a1] : List Value).toArray = args at E ⊢
  generalize hQ : MQ below (xQ D cy L shC 52 bA (some (.int r)) S) args s 0 0 (AL L 52) = Q
  have hl : lv_has ls 2 [(0, .ref (L 0)), (1, .int a1)] := hl
  have hx := E.1
  have hb := E.2.1
  have hts := E.2.2.2.2
  unfold f_X9_isBroken at hf
  refine lv_aload_n hx hb dX9_isBroken_0 rfl (lv_at hl 0 rfl) ?_
  refine x_getr (k := 0) (k' := 1) E hC hW fl_X9_12 (by decide) rfl rfl dX9_isBroken_1 ?_
  refine x_getr (k := 1) (k' := 6) E hC hW fl_X9_258 (by decide) rfl rfl dX9_isBroken_4 ?_
  refine lv_iload_n hx hb dX9_isBroken_7 rfl (lv_at hl 1 rfl) ?_
  refine lv_iconst (v := (-1)) hx hb dX9_isBroken_8 (by decide) ?_
  refine lv_ixor hx hb dX9_isBroken_9 ?_
  refine lv_sipush (v := 255) hx hb dX9_isBroken_10 (by decide) ?_
  refine lv_iand hx hb dX9_isBroken_13 ?_
  obtain ⟨r1, g2, hf⟩ := cl1S hf
  refine x_Sr (As := [.ref (L 6), .int ((a1 ^^^ (-1 : Int32)) &&& (255 : Int32))]) (rest := []) E hC hW hl.1 (c_X9_hasRing ((a1 ^^^ (-1 : Int32)) &&& (255 : Int32)) r1 S g2) cs_X9_330 rfl rfl ⟨Nat.le_of_ble_eq_true rfl, Nat.le_of_ble_eq_true rfl⟩ ⟨Nat.le_refl _, Nat.le_refl _⟩ (Nat.le_of_ble_eq_true rfl) dX9_isBroken_14 (fun H locs hW => ?_)
  refine lv_if_ne (tgt := 24) hx hb dX9_isBroken_17 (by decide) (fun c3 => ?_) (fun c3 => ?_)
  · have hf := xf hf c3
    refine lv_iconst (v := 0) hx hb dX9_isBroken_24 (by decide) ?_
    exact x_zretP E hC hW hr hlk hQ (by decide) dX9_isBroken_25 hf
  · have hf := xt hf c3
    refine lv_iconst (v := 1) hx hb dX9_isBroken_20 (by decide) ?_
    refine lv_goto (tgt := 25) hx hb dX9_isBroken_21 (by decide) ?_
    exact x_zretP E hC hW hr hlk hQ (by decide) dX9_isBroken_25 hf
set_option maxRecDepth 100000 in
set_option maxHeartbeats 4000000 in
theorem c_X9_breaks {l : Launch} {D : va_G} {cy : Nat → ClassId} {L : Nat → Nat} {bA : Nat} (a1 : Int32) (r : Int32) (S : Sg)  (hf : f_X9_breaks a1 S = some r) : MetX l D cy L shC 52 bA yX9_breaks cX9_breaks 2 (some .int) 3 65 [.ref (L 0), .int a1] (some (.int r)) S S := by
  refine x_met (own := RX9) (by decide) rfl (Nat.le_of_ble_eq_true rfl) ?_
  intro p e s m below meth c ls E hC hr hlk hl hW
  generalize hargs : ([.ref (L 0), .int a1] : List Value).toArray = args at E ⊢
  generalize hQ : MQ below (xQ D cy L shC 52 bA (some (.int r)) S) args s 0 0 (AL L 52) = Q
  have hl : lv_has ls 2 [(0, .ref (L 0)), (1, .int a1)] := hl
  have hx := E.1
  have hb := E.2.1
  have hts := E.2.2.2.2
  unfold f_X9_breaks at hf
  refine lv_iload_n hx hb dX9_breaks_0 rfl (lv_at hl 1 rfl) ?_
  refine lv_if_lt (tgt := 11) hx hb dX9_breaks_1 (by decide) (fun c5 => ?_) (fun c5 => ?_)
  · have hf := xt hf c5
    refine lv_bipush (v := (-2)) hx hb dX9_breaks_11 (by decide) ?_
    exact x_iretP E hC hW hr hlk hQ dX9_breaks_13 hf
  · have hf := xf hf c5
    refine lv_iload_n hx hb dX9_breaks_4 rfl (lv_at hl 1 rfl) ?_
    refine lv_sipush (v := 256) hx hb dX9_breaks_5 (by decide) ?_
    refine lv_icmp_lt (tgt := 14) hx hb dX9_breaks_8 (by decide) (fun c4 => ?_) (fun c4 => ?_)
    · have hf := xt hf c4
      refine lv_aload_n hx hb dX9_breaks_14 rfl (lv_at hl 0 rfl) ?_
      refine lv_iload_n hx hb dX9_breaks_15 rfl (lv_at hl 1 rfl) ?_
      obtain ⟨r1, g2, hf⟩ := cl1S hf
      refine x_Vr (k := 0) (As := [.int a1]) (rest := []) E hC hW hl.1 (c_X9_isBroken a1 r1 S g2) cv_X9_264 rfl (by decide) rfl rfl rfl ⟨Nat.le_of_ble_eq_true rfl, Nat.le_of_ble_eq_true rfl⟩ ⟨Nat.le_refl _, Nat.le_refl _⟩ (Nat.le_of_ble_eq_true rfl) dX9_breaks_16 (fun H locs hW => ?_)
      refine lv_if_eq (tgt := 26) hx hb dX9_breaks_19 (by decide) (fun c3 => ?_) (fun c3 => ?_)
      · have hf := xt hf c3
        refine lv_iconst (v := 0) hx hb dX9_breaks_26 (by decide) ?_
        exact x_iretP E hC hW hr hlk hQ dX9_breaks_27 hf
      · have hf := xf hf c3
        refine lv_iconst (v := 1) hx hb dX9_breaks_22 (by decide) ?_
        refine lv_goto (tgt := 27) hx hb dX9_breaks_23 (by decide) ?_
        exact x_iretP E hC hW hr hlk hQ dX9_breaks_27 hf
    · have hf := xf hf c4
      refine lv_bipush (v := (-2)) hx hb dX9_breaks_11 (by decide) ?_
      exact x_iretP E hC hW hr hlk hQ dX9_breaks_13 hf
set_option maxRecDepth 100000 in
set_option maxHeartbeats 4000000 in
theorem c_X9_feedback {l : Launch} {D : va_G} {cy : Nat → ClassId} {L : Nat → Nat} {bA : Nat} (a1 : Int32) (r : Int32) (S : Sg)  (hf : f_X9_feedback a1 S = some r) : MetX l D cy L shC 52 bA yX9_feedback cX9_feedback 7 (some .int) 3 65 [.ref (L 0), .int a1] (some (.int r)) S S := by
  refine x_met (own := RX9) (by decide) rfl (Nat.le_of_ble_eq_true rfl) ?_
  intro p e s m below meth c ls E hC hr hlk hl hW
  generalize hargs : ([.ref (L 0), .int a1] : List Value).toArray = args at E ⊢
  generalize hQ : MQ below (xQ D cy L shC 52 bA (some (.int r)) S) args s 0 0 (AL L 52) = Q
  have hl : lv_has ls 7 [(0, .ref (L 0)), (1, .int a1)] := hl
  have hx := E.1
  have hb := E.2.1
  have hts := E.2.2.2.2
  unfold f_X9_feedback at hf
  refine lv_iload_n hx hb dX9_feedback_0 rfl (lv_at hl 1 rfl) ?_
  refine lv_if_lt (tgt := 9) hx hb dX9_feedback_1 (by decide) (fun c27 => ?_) (fun c27 => ?_)
  · have hf := xt hf c27
    refine lv_bipush (v := (-2)) hx hb dX9_feedback_9 (by decide) ?_
    exact x_iretP E hC hW hr hlk hQ dX9_feedback_11 hf
  · have hf := xf hf c27
    refine lv_iload_n hx hb dX9_feedback_4 rfl (lv_at hl 1 rfl) ?_
    refine lv_iconst (v := 2) hx hb dX9_feedback_5 (by decide) ?_
    refine lv_icmp_le (tgt := 12) hx hb dX9_feedback_6 (by decide) (fun c26 => ?_) (fun c26 => ?_)
    · have hf := xt hf c26
      refine lv_bipush (v := 9) hx hb dX9_feedback_12 (by decide) ?_
      refine lv_istore_n (lv' := [(2, .int (9 : Int32)), (0, .ref (L 0)), (1, .int a1)]) hx hb dX9_feedback_14 rfl hl (by decide) rfl (fun ls hl => ?_)
      refine lv_iconst (v := 0) hx hb dX9_feedback_15 (by decide) ?_
      refine lv_istore_n (lv' := [(3, .int (0 : Int32)), (2, .int (9 : Int32)), (0, .ref (L 0)), (1, .int a1)]) hx hb dX9_feedback_16 rfl hl (by decide) rfl (fun ls hl => ?_)
      refine lv_iconst (v := 0) hx hb dX9_feedback_17 (by decide) ?_
      refine lv_istore (lv' := [(4, .int (0 : Int32)), (3, .int (0 : Int32)), (2, .int (9 : Int32)), (0, .ref (L 0)), (1, .int a1)]) hx hb dX9_feedback_18 hl (by decide) rfl (fun ls hl => ?_)
      refine lv_iconst (v := 0) hx hb dX9_feedback_20 (by decide) ?_
      refine lv_istore (lv' := [(5, .int (0 : Int32)), (4, .int (0 : Int32)), (3, .int (0 : Int32)), (2, .int (9 : Int32)), (0, .ref (L 0)), (1, .int a1)]) hx hb dX9_feedback_21 hl (by decide) rfl (fun ls hl => ?_)
      refine wp4K hf (fun (v6 : Int32) (v7 : Int32) (v8 : Int32) (v9 : Int32) => ∀ (H : Heap) (locs : List Loc) (ls : Array Slot), lv_has ls 7 [(0, .ref (L 0)), (1, .int a1), (2, .int v6), (3, .int v7), (4, .int v8), (5, .int v9)] → Wd D cy L shC 52 S s H locs → W p l e (rmk 3 65) s m args below meth c H locs 0 0 Q (F0 m 23 ls [])) (fun (j : Int32 → Int32 → Int32 → Option (Int32)) => ∀ (v1 : Int32) (v2 : Int32) (v3 : Int32), (j v1 v2 v3) = some r → ∀ (H : Heap) (locs : List Loc) (ls : Array Slot), lv_has ls 7 [(1, .int a1), (2, .int v1), (3, .int v2), (4, .int v3)] → Wd D cy L shC 52 S s H locs → W p l e (rmk 3 65) s m args below meth c H locs 0 0 Q (F0 m 77 ls [])) ?_ ?_ _ _ _ (lv_sub hl [4, 5, 3, 2, 1, 0] rfl) hW
      · intro v1 v2 v3 hf H locs ls hl hW
        try dsimp only at hf
        refine lv_iload_n hx hb dX9_feedback_77 rfl (lv_at hl 0 rfl) ?_
        refine lv_if_ne (tgt := 85) hx hb dX9_feedback_78 (by decide) (fun c5 => ?_) (fun c5 => ?_)
        · have hf := xf hf c5
          refine lv_iload_n hx hb dX9_feedback_85 rfl (lv_at hl 0 rfl) ?_
          refine lv_iconst (v := 1) hx hb dX9_feedback_86 (by decide) ?_
          refine lv_icmp_ne (tgt := 94) hx hb dX9_feedback_87 (by decide) (fun c4 => ?_) (fun c4 => ?_)
          · have hf := xf hf c4
            refine lv_iload hx hb dX9_feedback_94 (lv_at hl 3 rfl) ?_
            exact x_iretP E hC hW hr hlk hQ dX9_feedback_96 hf
          · have hf := xt hf c4
            refine lv_iload_n hx hb dX9_feedback_90 rfl (lv_at hl 2 rfl) ?_
            refine lv_goto (tgt := 96) hx hb dX9_feedback_91 (by decide) ?_
            exact x_iretP E hC hW hr hlk hQ dX9_feedback_96 hf
        · have hf := xt hf c5
          refine lv_iload_n hx hb dX9_feedback_81 rfl (lv_at hl 1 rfl) ?_
          refine lv_goto (tgt := 96) hx hb dX9_feedback_82 (by decide) ?_
          exact x_iretP E hC hW hr hlk hQ dX9_feedback_96 hf
      · intro k77 K77 self23 ih23 v6 v7 v8 v9 hf H locs ls hl hW
        unfold X9_feedback_L23 at hf
        refine lv_iload hx hb dX9_feedback_23 (lv_at hl 5 rfl) ?_
        refine lv_sipush (v := 256) hx hb dX9_feedback_25 (by decide) ?_
        refine lv_icmp_ge (tgt := 77) hx hb dX9_feedback_28 (by decide) (fun c25 => ?_) (fun c25 => ?_)
        · have hf := xt hf c25
          exact K77 _ _ _ hf _ _ _ (lv_sub hl [1, 2, 3, 4] rfl) hW
        · have hf := xf hf c25
          refine lv_iload hx hb dX9_feedback_31 (lv_at hl 5 rfl) ?_
          obtain ⟨r10, g11, hf⟩ := cl1S hf
          refine x_Sr (As := [.int v9]) (rest := []) E hC hW hl.1 (c_J6_bitCount_0f7a4 v9 r10 S g11) cs_X9_180 rfl rfl ⟨Nat.le_of_ble_eq_true rfl, Nat.le_of_ble_eq_true rfl⟩ ⟨Nat.le_refl _, Nat.le_refl _⟩ (Nat.le_of_ble_eq_true rfl) dX9_feedback_33 (fun H locs hW => ?_)
          refine lv_istore (lv' := [(6, .int r10), (0, .ref (L 0)), (1, .int a1), (2, .int v6), (3, .int v7), (4, .int v8), (5, .int v9)]) hx hb dX9_feedback_36 hl (by decide) rfl (fun ls hl => ?_)
          refine lv_iload hx hb dX9_feedback_38 (lv_at hl 0 rfl) ?_
          refine lv_iload_n hx hb dX9_feedback_40 rfl (lv_at hl 3 rfl) ?_
          refine jnS hf (fun (j : Int32 → Int32 → Int32 → Option (Int32)) => ∀ (v12 : Int32) (v13 : Int32) (v14 : Int32), (j v12 v13 v14) = some r → ∀ (H : Heap) (locs : List Loc) (ls : Array Slot), lv_has ls 7 [(0, .ref (L 0)), (1, .int a1), (2, .int v12), (3, .int v13), (4, .int v14), (5, .int v9)] → Wd D cy L shC 52 S s H locs → W p l e (rmk 3 65) s m args below meth c H locs 0 0 Q (F0 m 71 ls [])) ?_ ?_
          · intro v12 v13 v14 hf H locs ls hl hW
            try dsimp only at hf
            obtain ⟨x15, ex15⟩ : ∃ z : Int32, z = (v9 + 1) := ⟨_, rfl⟩
            have hf := bvS hf ex15
            refine lv_iinc (v := x15) (lv' := [(5, .int x15), (0, .ref (L 0)), (1, .int a1), (2, .int v12), (3, .int v13), (4, .int v14)]) hx hb dX9_feedback_71 hl (k := 5) rfl (by rw [ex15]; rfl) (by decide) rfl (fun ls hl => ?_)
            refine lv_goto (tgt := 23) hx hb dX9_feedback_74 (by decide) ?_
            exact ih23 _ _ _ _ hf _ _ _ (lv_sub hl [1, 2, 3, 4, 5, 0] rfl) hW
          intro j71 J71 hf
          refine lv_icmp_gt (tgt := 71) hx hb dX9_feedback_41 (by decide) (fun c24 => ?_) (fun c24 => ?_)
          · have hf := xt hf c24
            exact J71 _ _ _ hf _ _ _ (lv_sub hl [1, 2, 3, 4, 5, 6] rfl) hW
          · have hf := xf hf c24
            refine lv_aload_n hx hb dX9_feedback_44 rfl (lv_at hl 1 rfl) ?_
            refine lv_iload hx hb dX9_feedback_45 (lv_at hl 6 rfl) ?_
            obtain ⟨r16, g17, hf⟩ := cl1S hf
            refine x_Vr (k := 0) (As := [.int v9]) (rest := []) E hC hW hl.1 (c_X9_isBroken v9 r16 S g17) cv_X9_264 rfl (by decide) rfl rfl rfl ⟨Nat.le_of_ble_eq_true rfl, Nat.le_of_ble_eq_true rfl⟩ ⟨Nat.le_refl _, Nat.le_refl _⟩ (Nat.le_of_ble_eq_true rfl) dX9_feedback_47 (fun H locs hW => ?_)
            refine lv_if_eq (tgt := 71) hx hb dX9_feedback_50 (by decide) (fun c23 => ?_) (fun c23 => ?_)
            · have hf := xt hf c23
              exact J71 _ _ _ hf _ _ _ (lv_sub hl [1, 2, 3, 4, 5, 6] rfl) hW
            · have hf := xf hf c23
              refine lv_iload hx hb dX9_feedback_53 (lv_at hl 0 rfl) ?_
              refine lv_iload_n hx hb dX9_feedback_55 rfl (lv_at hl 3 rfl) ?_
              refine jnS hf (fun (j : Int32 → Int32 → Int32 → Option (Int32)) => ∀ (v18 : Int32) (v19 : Int32) (v20 : Int32), (j v18 v19 v20) = some r → ∀ (H : Heap) (locs : List Loc) (ls : Array Slot), lv_has ls 7 [(0, .ref (L 0)), (1, .int a1), (2, .int v18), (3, .int v19), (4, .int v20), (5, .int v9)] → Wd D cy L shC 52 S s H locs → W p l e (rmk 3 65) s m args below meth c H locs 0 0 Q (F0 m 68 ls [])) ?_ ?_
              · intro v18 v19 v20 hf H locs ls hl hW
                try dsimp only at hf
                obtain ⟨x21, ex21⟩ : ∃ z : Int32, z = (v20 + 1) := ⟨_, rfl⟩
                have hf := bvS hf ex21
                refine lv_iinc (v := x21) (lv' := [(4, .int x21), (0, .ref (L 0)), (1, .int a1), (2, .int v18), (3, .int v19), (5, .int v9)]) hx hb dX9_feedback_68 hl (k := 4) rfl (by rw [ex21]; rfl) (by decide) rfl (fun ls hl => ?_)
                exact J71 _ _ _ hf _ _ _ (lv_sub hl [1, 2, 3, 4, 0, 5] rfl) hW
              intro j68 J68 hf
              refine lv_icmp_ge (tgt := 68) hx hb dX9_feedback_56 (by decide) (fun c22 => ?_) (fun c22 => ?_)
              · have hf := xt hf c22
                exact J68 _ _ _ hf _ _ _ (lv_sub hl [1, 2, 3, 4, 5, 6] rfl) hW
              · have hf := xf hf c22
                refine lv_iload hx hb dX9_feedback_59 (lv_at hl 0 rfl) ?_
                refine lv_istore_n (lv' := [(2, .int r10), (6, .int r10), (0, .ref (L 0)), (1, .int a1), (3, .int v7), (4, .int v8), (5, .int v9)]) hx hb dX9_feedback_61 rfl hl (by decide) rfl (fun ls hl => ?_)
                refine lv_iload hx hb dX9_feedback_62 (lv_at hl 6 rfl) ?_
                refine lv_istore_n (lv' := [(3, .int v9), (2, .int r10), (6, .int r10), (0, .ref (L 0)), (1, .int a1), (4, .int v8), (5, .int v9)]) hx hb dX9_feedback_64 rfl hl (by decide) rfl (fun ls hl => ?_)
                refine lv_iconst (v := 0) hx hb dX9_feedback_65 (by decide) ?_
                refine lv_istore (lv' := [(4, .int (0 : Int32)), (3, .int v9), (2, .int r10), (6, .int r10), (0, .ref (L 0)), (1, .int a1), (5, .int v9)]) hx hb dX9_feedback_66 hl (by decide) rfl (fun ls hl => ?_)
                exact J68 _ _ _ hf _ _ _ (lv_sub hl [4, 5, 2, 1, 0, 6] rfl) hW
    · have hf := xf hf c26
      refine lv_bipush (v := (-2)) hx hb dX9_feedback_9 (by decide) ?_
      exact x_iretP E hC hW hr hlk hQ dX9_feedback_11 hf
set_option maxRecDepth 100000 in
set_option maxHeartbeats 4000000 in
theorem c_X9_isHand {l : Launch} {D : va_G} {cy : Nat → ClassId} {L : Nat → Nat} {bA : Nat} (a0 : Int32) (r : Int32) (S : Sg)  (hf : f_X9_isHand a0 = some r) : MetX l D cy L shC 52 bA yX9_isHand cX9_isHand 1 (some .boolean) 0 0 [.int a0] (some (.int r)) S S := by
  refine x_met (own := RX9) (by decide) rfl (Nat.le_of_ble_eq_true rfl) ?_
  intro p e s m below meth c ls E hC hr hlk hl hW
  generalize hargs : ([.int a0] : List Value).toArray = args at E ⊢
  generalize hQ : MQ below (xQ D cy L shC 52 bA (some (.int r)) S) args s 0 0 (AL L 52) = Q
  have hl : lv_has ls 1 [(0, .int a0)] := hl
  have hx := E.1
  have hb := E.2.1
  have hts := E.2.2.2.2
  unfold f_X9_isHand at hf
  refine lv_iload_n hx hb dX9_isHand_0 rfl (lv_at hl 0 rfl) ?_
  refine lv_if_lt (tgt := 13) hx hb dX9_isHand_1 (by decide) (fun c2 => ?_) (fun c2 => ?_)
  · have hf := xt hf c2
    refine lv_iconst (v := 0) hx hb dX9_isHand_13 (by decide) ?_
    exact x_zretP E hC hW hr hlk hQ (by decide) dX9_isHand_14 hf
  · have hf := xf hf c2
    refine lv_iload_n hx hb dX9_isHand_4 rfl (lv_at hl 0 rfl) ?_
    refine lv_iconst (v := 4) hx hb dX9_isHand_5 (by decide) ?_
    refine lv_icmp_ge (tgt := 13) hx hb dX9_isHand_6 (by decide) (fun c1 => ?_) (fun c1 => ?_)
    · have hf := xt hf c1
      refine lv_iconst (v := 0) hx hb dX9_isHand_13 (by decide) ?_
      exact x_zretP E hC hW hr hlk hQ (by decide) dX9_isHand_14 hf
    · have hf := xf hf c1
      refine lv_iconst (v := 1) hx hb dX9_isHand_9 (by decide) ?_
      refine lv_goto (tgt := 14) hx hb dX9_isHand_10 (by decide) ?_
      exact x_zretP E hC hW hr hlk hQ (by decide) dX9_isHand_14 hf
set_option maxRecDepth 100000 in
set_option maxHeartbeats 4000000 in
theorem c_X1_takePair {l : Launch} {D : va_G} {cy : Nat → ClassId} {L : Nat → Nat} {bA : Nat} (k : Nat) (a1 : Int32) (a2 : Int32) (S S' : Sg) (hk : okH k) (hf : f_X1_takePair k a1 a2 S = some S') : MetX l D cy L shC 52 bA yX1_takePair cX1_takePair 3 none 0 0 [.ref (L k), .int a1, .int a2] none S S' := by
  refine x_met (own := RX1) (by decide) rfl (Nat.le_of_ble_eq_true rfl) ?_
  intro p e s m below meth c ls E hC hr hlk hl hW
  generalize hargs : ([.ref (L k), .int a1, .int a2] : List Value).toArray = args at E ⊢
  generalize hQ : MQ below (xQ D cy L shC 52 bA none S') args s 0 0 (AL L 52) = Q
  have hl : lv_has ls 3 [(0, .ref (L k)), (1, .int a1), (2, .int a2)] := hl
  have hx := E.1
  have hb := E.2.1
  have hts := E.2.2.2.2
  unfold f_X1_takePair at hf
  refine lv_aload_n hx hb dX1_takePair_0 rfl (lv_at hl 0 rfl) ?_
  refine lv_iconst (v := 1) hx hb dX1_takePair_1 (by decide) ?_
  refine x_put (k := k) E hC hW fl_X1_9 pl_1_0 hk.1 hk.2.1 rfl rfl rfl dX1_takePair_2 (fun H locs hW => ?_)
  obtain ⟨S1, eS1⟩ : ∃ z : Sg, z = si S k 0 (1 : Int32) := ⟨_, rfl⟩
  have hW : Wd D cy L shC 52 S1 s H locs := by rw [eS1]; exact hW
  have hf := bvS hf eS1
  refine lv_aload_n hx hb dX1_takePair_5 rfl (lv_at hl 0 rfl) ?_
  refine lv_iload_n hx hb dX1_takePair_6 rfl (lv_at hl 1 rfl) ?_
  refine x_put (k := k) E hC hW fl_X1_15 pl_1_1 hk.1 hk.2.1 rfl rfl rfl dX1_takePair_7 (fun H locs hW => ?_)
  obtain ⟨S2, eS2⟩ : ∃ z : Sg, z = si S1 k 1 a1 := ⟨_, rfl⟩
  have hW : Wd D cy L shC 52 S2 s H locs := by rw [eS2]; exact hW
  have hf := bvS hf eS2
  refine lv_aload_n hx hb dX1_takePair_10 rfl (lv_at hl 0 rfl) ?_
  refine lv_iload_n hx hb dX1_takePair_11 rfl (lv_at hl 2 rfl) ?_
  refine x_put (k := k) E hC hW fl_X1_18 pl_1_2 hk.1 hk.2.1 rfl rfl rfl dX1_takePair_12 (fun H locs hW => ?_)
  obtain ⟨S3, eS3⟩ : ∃ z : Sg, z = si S2 k 2 a2 := ⟨_, rfl⟩
  have hW : Wd D cy L shC 52 S3 s H locs := by rw [eS3]; exact hW
  have hf := bvS hf eS3
  exact x_vretI E hC hW hr hlk hQ dX1_takePair_15 hf
set_option maxRecDepth 100000 in
set_option maxHeartbeats 4000000 in
theorem c_X1_takeRay {l : Launch} {D : va_G} {cy : Nat → ClassId} {L : Nat → Nat} {bA : Nat} (k : Nat) (a1 : Int64) (a3 : Int32) (a4 : Int32) (S S' : Sg) (hk : okH k) (hf : f_X1_takeRay k a1 a3 a4 S = some S') : MetX l D cy L shC 52 bA yX1_takeRay cX1_takeRay 8 none 0 0 [.ref (L k), .long a1, .int a3, .int a4] none S S' := by
  refine x_met (own := RX1) (by decide) rfl (Nat.le_of_ble_eq_true rfl) ?_
  intro p e s m below meth c ls E hC hr hlk hl hW
  generalize hargs : ([.ref (L k), .long a1, .int a3, .int a4] : List Value).toArray = args at E ⊢
  generalize hQ : MQ below (xQ D cy L shC 52 bA none S') args s 0 0 (AL L 52) = Q
  have hl : lv_has ls 8 [(0, .ref (L k)), (1, .long a1), (3, .int a3), (4, .int a4)] := hl
  have hx := E.1
  have hb := E.2.1
  have hts := E.2.2.2.2
  unfold f_X1_takeRay at hf
  refine lv_aload_n hx hb dX1_takeRay_0 rfl (lv_at hl 0 rfl) ?_
  refine lv_iconst (v := 2) hx hb dX1_takeRay_1 (by decide) ?_
  refine x_put (k := k) E hC hW fl_X1_9 pl_1_0 hk.1 hk.2.1 rfl rfl rfl dX1_takeRay_2 (fun H locs hW => ?_)
  obtain ⟨S1, eS1⟩ : ∃ z : Sg, z = si S k 0 (2 : Int32) := ⟨_, rfl⟩
  have hW : Wd D cy L shC 52 S1 s H locs := by rw [eS1]; exact hW
  have hf := bvS hf eS1
  refine lv_aload_n hx hb dX1_takeRay_5 rfl (lv_at hl 0 rfl) ?_
  refine lv_iload hx hb dX1_takeRay_6 (lv_at hl 3 rfl) ?_
  refine x_put (k := k) E hC hW fl_X1_21 pl_1_3 hk.1 hk.2.1 rfl rfl rfl dX1_takeRay_8 (fun H locs hW => ?_)
  obtain ⟨S2, eS2⟩ : ∃ z : Sg, z = si S1 k 3 a4 := ⟨_, rfl⟩
  have hW : Wd D cy L shC 52 S2 s H locs := by rw [eS2]; exact hW
  have hf := bvS hf eS2
  refine lv_lload_n hx hb dX1_takeRay_11 rfl (lv_at hl 1 rfl) ?_
  refine lv_lstore (lv' := [(5, .long a1), (0, .ref (L k)), (1, .long a1), (3, .int a3), (4, .int a4)]) hx hb dX1_takeRay_12 hl (by decide) rfl (fun ls hl => ?_)
  refine lv_iload hx hb dX1_takeRay_14 (lv_at hl 4 rfl) ?_
  refine lv_iconst (v := 1) hx hb dX1_takeRay_16 (by decide) ?_
  refine lv_isub hx hb dX1_takeRay_17 ?_
  refine lv_topi (fun x3 ex3 => ?_)
  have hf := bvS hf ex3
  refine lv_istore (lv' := [(7, .int x3), (5, .long a1), (0, .ref (L k)), (1, .long a1), (3, .int a3), (4, .int a4)]) hx hb dX1_takeRay_18 hl (by decide) rfl (fun ls hl => ?_)
  refine wp3S (fun (v4 : Int64) (v5 : Int32) (S6 : Sg) => ∀ (H : Heap) (locs : List Loc) (ls : Array Slot), lv_has ls 8 [(0, .ref (L k)), (3, .int a3), (5, .long v4), (7, .int v5)] → Wd D cy L shC 52 S6 s H locs → W p l e (rmk 0 0) s m args below meth c H locs 0 0 Q (F0 m 20 ls [])) ?_ hf _ _ _ (lv_sub hl [2, 4, 1, 0] rfl) hW
  · intro self20 ih20 v4 v5 S6 hf H locs ls hl hW
    unfold X1_takeRay_L20 at hf
    refine lv_iload hx hb dX1_takeRay_20 (lv_at hl 3 rfl) ?_
    refine lv_if_lt (tgt := 51) hx hb dX1_takeRay_22 (by decide) (fun c13 => ?_) (fun c13 => ?_)
    · have hf := xt hf c13
      exact x_vretI E hC hW hr hlk hQ dX1_takeRay_51 hf
    · have hf := xf hf c13
      refine lv_aload_n hx hb dX1_takeRay_25 rfl (lv_at hl 0 rfl) ?_
      refine x_getr (k := k) (k' := (k + 1)) E hC hW fl_X1_24 hk.1 hk.2.1 rfl dX1_takeRay_26 ?_
      refine lv_iload hx hb dX1_takeRay_29 (lv_at hl 3 rfl) ?_
      refine lv_lload hx hb dX1_takeRay_31 (lv_at hl 2 rfl) ?_
      refine lv_iload_n hx hb dX1_takeRay_33 rfl (lv_at hl 1 rfl) ?_
      refine lv_i2l hx hb dX1_takeRay_34 rfl ?_
      obtain ⟨hg7, hf⟩ := gdS hf
      refine lv_lrem hx hb dX1_takeRay_35 (nzlS hg7) ?_
      refine lv_l2i hx hb dX1_takeRay_36 rfl ?_
      obtain ⟨hg8, hf⟩ := gdS hf
      refine x_iast (k := (k + 1)) E hC hW hk.2.2.1 hk.2.2.2 (inbS hg8) dX1_takeRay_37 (fun H locs hW => ?_)
      obtain ⟨S9, eS9⟩ : ∃ z : Sg, z = si S6 (k + 1) (ix v5) ((lrm v4 a3.toInt64).toInt32) := ⟨_, rfl⟩
      have hW : Wd D cy L shC 52 S9 s H locs := by rw [eS9]; exact hW
      have hf := bvS hf eS9
      refine lv_lload hx hb dX1_takeRay_38 (lv_at hl 2 rfl) ?_
      refine lv_iload_n hx hb dX1_takeRay_40 rfl (lv_at hl 1 rfl) ?_
      refine lv_i2l hx hb dX1_takeRay_41 rfl ?_
      obtain ⟨hg10, hf⟩ := gdS hf
      refine lv_ldiv hx hb dX1_takeRay_42 (nzlS hg10) ?_
      refine lv_topl (fun x11 ex11 => ?_)
      have hf := bvS hf ex11
      refine lv_lstore (lv' := [(5, .long x11), (0, .ref (L k)), (3, .int a3), (7, .int v5)]) hx hb dX1_takeRay_43 hl (by decide) rfl (fun ls hl => ?_)
      obtain ⟨x12, ex12⟩ : ∃ z : Int32, z = (v5 + (-1)) := ⟨_, rfl⟩
      have hf := bvS hf ex12
      refine lv_iinc (v := x12) (lv' := [(7, .int x12), (5, .long x11), (0, .ref (L k)), (3, .int a3)]) hx hb dX1_takeRay_45 hl (k := 3) rfl (by rw [ex12]; rfl) (by decide) rfl (fun ls hl => ?_)
      refine lv_goto (tgt := 20) hx hb dX1_takeRay_48 (by decide) ?_
      exact ih20 _ _ _ hf _ _ _ (lv_sub hl [2, 3, 1, 0] rfl) hW
set_option maxRecDepth 100000 in
set_option maxHeartbeats 4000000 in
theorem c_X9_hold {l : Launch} {D : va_G} {cy : Nat → ClassId} {L : Nat → Nat} {bA : Nat} (a1 : Int32) (a2 : Int32) (a3 : Int32) (r : Int32) (S S' : Sg)  (hf : f_X9_hold a1 a2 a3 S = some (r, S')) : MetX l D cy L shC 52 bA yX9_hold cX9_hold 6 (some .int) 4 92 [.ref (L 0), .int a1, .int a2, .int a3] (some (.int r)) S S' := by
  refine x_met (own := RX9) (by decide) rfl (Nat.le_of_ble_eq_true rfl) ?_
  intro p e s m below meth c ls E hC hr hlk hl hW
  generalize hargs : ([.ref (L 0), .int a1, .int a2, .int a3] : List Value).toArray = args at E ⊢
  generalize hQ : MQ below (xQ D cy L shC 52 bA (some (.int r)) S') args s 0 0 (AL L 52) = Q
  have hl : lv_has ls 6 [(0, .ref (L 0)), (1, .int a1), (2, .int a2), (3, .int a3)] := hl
  have hx := E.1
  have hb := E.2.1
  have hts := E.2.2.2.2
  unfold f_X9_hold at hf
  refine lv_iload_n hx hb dX9_hold_0 rfl (lv_at hl 1 rfl) ?_
  obtain ⟨r1, g2, hf⟩ := cl1S hf
  refine x_Sr (As := [.int a1]) (rest := []) E hC hW hl.1 (c_X9_isHand a1 r1 S g2) cs_X9_267 rfl rfl ⟨Nat.le_of_ble_eq_true rfl, Nat.le_of_ble_eq_true rfl⟩ ⟨Nat.le_refl _, Nat.le_refl _⟩ (Nat.le_of_ble_eq_true rfl) dX9_hold_1 (fun H locs hW => ?_)
  refine lv_if_ne (tgt := 10) hx hb dX9_hold_4 (by decide) (fun c25 => ?_) (fun c25 => ?_)
  · have hf := xf hf c25
    refine lv_aload_n hx hb dX9_hold_10 rfl (lv_at hl 0 rfl) ?_
    refine x_getr (k := 0) (k' := 40) E hC hW fl_X9_66 (by decide) rfl rfl dX9_hold_11 ?_
    refine lv_iload_n hx hb dX9_hold_14 rfl (lv_at hl 1 rfl) ?_
    obtain ⟨hg3, hf⟩ := gdS hf
    refine x_aald (k := 40) (b := 41) E hC hW (by decide) rfl rfl (inbS hg3) dX9_hold_15 ?_
    have ho4 := okH_ix hg3
    refine lv_astore (lv' := [(4, .ref (L (41 + 2 * ix a1))), (0, .ref (L 0)), (1, .int a1), (2, .int a2), (3, .int a3)]) hx hb dX9_hold_16 hl (by decide) rfl (fun ls hl => ?_)
    refine lv_aload hx hb dX9_hold_18 (lv_at hl 0 rfl) ?_
    refine x_geti (k := (41 + 2 * ix a1)) E hC hW fl_X9_270 ho4.1 ho4.2.1 rfl dX9_hold_20 ?_
    refine lv_topi (fun x5 ex5 => ?_)
    have hf := bvS hf ex5
    refine lv_istore (lv' := [(5, .int x5), (4, .ref (L (41 + 2 * ix a1))), (0, .ref (L 0)), (1, .int a1), (2, .int a2), (3, .int a3)]) hx hb dX9_hold_23 hl (by decide) rfl (fun ls hl => ?_)
    refine lv_iload_n hx hb dX9_hold_25 rfl (lv_at hl 4 rfl) ?_
    by_cases c6 : a2 = 0
    · have hf := xt hf c6
      refine lv_tableIn (off := 26) (tgt := 52) hx hb dX9_hold_26 (by rw [c6]; decide) (by rw [c6]; decide) (by rw [c6]; rfl) (by decide) ?_
      refine lv_aload hx hb dX9_hold_52 (lv_at hl 1 rfl) ?_
      refine lv_iconst (v := 0) hx hb dX9_hold_54 (by decide) ?_
      refine x_put (k := (41 + 2 * ix a1)) E hC hW fl_X9_270 pl_1_0 ho4.1 ho4.2.1 rfl rfl rfl dX9_hold_55 (fun H locs hW => ?_)
      obtain ⟨S7, eS7⟩ : ∃ z : Sg, z = si S (41 + 2 * ix a1) 0 (0 : Int32) := ⟨_, rfl⟩
      have hW : Wd D cy L shC 52 S7 s H locs := by rw [eS7]; exact hW
      have hf := bvS hf eS7
      refine lv_iload hx hb dX9_hold_58 (lv_at hl 0 rfl) ?_
      exact x_iretI E hC hW hr hlk hQ dX9_hold_60 hf
    · have hf := xf hf c6
      by_cases c8 : a2 = 1
      · have hf := xt hf c8
        refine lv_tableIn (off := 35) (tgt := 61) hx hb dX9_hold_26 (by rw [c8]; decide) (by rw [c8]; decide) (by rw [c8]; rfl) (by decide) ?_
        refine lv_aload_n hx hb dX9_hold_61 rfl (lv_at hl 2 rfl) ?_
        refine x_getr (k := 0) (k' := 1) E hC hW fl_X9_12 (by decide) rfl rfl dX9_hold_62 ?_
        refine lv_iload_n hx hb dX9_hold_65 rfl (lv_at hl 5 rfl) ?_
        obtain ⟨r9, g10, hf⟩ := cl1S hf
        refine x_Vr (k := 1) (As := [.int a3]) (rest := []) E hC hW hl.1 (c_X2_has a3 r9 S g10) cv_X9_114 rfl (by decide) rfl rfl rfl ⟨Nat.le_of_ble_eq_true rfl, Nat.le_of_ble_eq_true rfl⟩ ⟨Nat.le_refl _, Nat.le_refl _⟩ (Nat.le_of_ble_eq_true rfl) dX9_hold_66 (fun H locs hW => ?_)
        refine lv_if_ne (tgt := 75) hx hb dX9_hold_69 (by decide) (fun c15 => ?_) (fun c15 => ?_)
        · have hf := xf hf c15
          refine lv_aload hx hb dX9_hold_75 (lv_at hl 1 rfl) ?_
          refine lv_aload_n hx hb dX9_hold_77 rfl (lv_at hl 2 rfl) ?_
          refine x_getr (k := 0) (k' := 1) E hC hW fl_X9_12 (by decide) rfl rfl dX9_hold_78 ?_
          refine x_getr (k := 1) (k' := 2) E hC hW fl_X9_123 (by decide) rfl rfl dX9_hold_81 ?_
          refine lv_iload_n hx hb dX9_hold_84 rfl (lv_at hl 5 rfl) ?_
          obtain ⟨hg11, hf⟩ := gdS hf
          refine x_iald (k := 2) E hC hW (by decide) rfl (inbS hg11) dX9_hold_85 ?_
          refine lv_aload_n hx hb dX9_hold_86 rfl (lv_at hl 2 rfl) ?_
          refine x_getr (k := 0) (k' := 1) E hC hW fl_X9_12 (by decide) rfl rfl dX9_hold_87 ?_
          refine x_getr (k := 1) (k' := 3) E hC hW fl_X9_126 (by decide) rfl rfl dX9_hold_90 ?_
          refine lv_iload_n hx hb dX9_hold_93 rfl (lv_at hl 5 rfl) ?_
          obtain ⟨hg12, hf⟩ := gdS hf
          refine x_iald (k := 3) E hC hW (by decide) rfl (inbS hg12) dX9_hold_94 ?_
          obtain ⟨S14, g13, hf⟩ := cl1S hf
          refine x_Vv (k := (41 + 2 * ix a1)) (As := [.int (S.1 2 (ix a3)), .int (S.1 3 (ix a3))]) (rest := []) E hC hW hl.1 (c_X1_takePair (41 + 2 * ix a1) (S.1 2 (ix a3)) (S.1 3 (ix a3)) S S14 ho4 g13) cv_X9_273 rfl ho4.1 ho4.2.1 rfl rfl ⟨Nat.le_of_ble_eq_true rfl, Nat.le_of_ble_eq_true rfl⟩ ⟨Nat.le_refl _, Nat.le_refl _⟩ (Nat.le_of_ble_eq_true rfl) dX9_hold_95 (fun H locs hW => ?_)
          refine lv_iload hx hb dX9_hold_98 (lv_at hl 0 rfl) ?_
          exact x_iretI E hC hW hr hlk hQ dX9_hold_100 hf
        · have hf := xt hf c15
          refine lv_bipush (v := (-2)) hx hb dX9_hold_72 (by decide) ?_
          exact x_iretI E hC hW hr hlk hQ dX9_hold_74 hf
      · have hf := xf hf c8
        by_cases c16 : a2 = 2
        · have hf := xt hf c16
          refine lv_tableIn (off := 75) (tgt := 101) hx hb dX9_hold_26 (by rw [c16]; decide) (by rw [c16]; decide) (by rw [c16]; rfl) (by decide) ?_
          refine lv_aload_n hx hb dX9_hold_101 rfl (lv_at hl 2 rfl) ?_
          obtain ⟨S18, g17, hf⟩ := cl1S hf
          refine x_Vv (k := 0) (As := []) (rest := []) E hC hW hl.1 (c_X9_fillRays S S18 g17) cv_X9_238 rfl (by decide) rfl rfl rfl ⟨Nat.le_of_ble_eq_true rfl, Nat.le_of_ble_eq_true rfl⟩ ⟨Nat.le_refl _, Nat.le_refl _⟩ (Nat.le_of_ble_eq_true rfl) dX9_hold_102 (fun H locs hW => ?_)
          refine lv_aload_n hx hb dX9_hold_105 rfl (lv_at hl 2 rfl) ?_
          refine x_getr (k := 0) (k' := 29) E hC hW fl_X9_54 (by decide) rfl rfl dX9_hold_106 ?_
          refine lv_iload_n hx hb dX9_hold_109 rfl (lv_at hl 5 rfl) ?_
          obtain ⟨r19, g20, hf⟩ := cl1S hf
          refine x_Vr (k := 29) (As := [.int a3]) (rest := []) E hC hW hl.1 (c_X3_has a3 r19 S18 g20) cv_X9_244 rfl (by decide) rfl rfl rfl ⟨Nat.le_of_ble_eq_true rfl, Nat.le_of_ble_eq_true rfl⟩ ⟨Nat.le_refl _, Nat.le_refl _⟩ (Nat.le_of_ble_eq_true rfl) dX9_hold_110 (fun H locs hW => ?_)
          refine lv_if_ne (tgt := 119) hx hb dX9_hold_113 (by decide) (fun c24 => ?_) (fun c24 => ?_)
          · have hf := xf hf c24
            refine lv_aload hx hb dX9_hold_119 (lv_at hl 1 rfl) ?_
            refine lv_aload_n hx hb dX9_hold_121 rfl (lv_at hl 2 rfl) ?_
            refine x_getr (k := 0) (k' := 29) E hC hW fl_X9_54 (by decide) rfl rfl dX9_hold_122 ?_
            refine x_getr (k := 29) (k' := 30) E hC hW fl_X9_245 (by decide) rfl rfl dX9_hold_125 ?_
            refine lv_iload_n hx hb dX9_hold_128 rfl (lv_at hl 5 rfl) ?_
            obtain ⟨hg21, hf⟩ := gdS hf
            refine x_lald (k := 30) E hC hW (by decide) rfl (inbS hg21) dX9_hold_129 ?_
            refine lv_aload_n hx hb dX9_hold_130 rfl (lv_at hl 2 rfl) ?_
            refine x_getr (k := 0) (k' := 1) E hC hW fl_X9_12 (by decide) rfl rfl dX9_hold_131 ?_
            refine x_geti (k := 1) E hC hW fl_X9_86 (by decide) rfl rfl dX9_hold_134 ?_
            refine lv_aload_n hx hb dX9_hold_137 rfl (lv_at hl 2 rfl) ?_
            refine x_getr (k := 0) (k' := 1) E hC hW fl_X9_12 (by decide) rfl rfl dX9_hold_138 ?_
            refine x_geti (k := 1) E hC hW fl_X9_90 (by decide) rfl rfl dX9_hold_141 ?_
            obtain ⟨S23, g22, hf⟩ := cl1S hf
            refine x_Vv (k := (41 + 2 * ix a1)) (As := [.long (S18.2 30 (ix a3)), .int (S18.1 1 0), .int (S18.1 1 1)]) (rest := []) E hC hW hl.1 (c_X1_takeRay (41 + 2 * ix a1) (S18.2 30 (ix a3)) (S18.1 1 0) (S18.1 1 1) S18 S23 ho4 g22) cv_X9_277 rfl ho4.1 ho4.2.1 rfl rfl ⟨Nat.le_of_ble_eq_true rfl, Nat.le_of_ble_eq_true rfl⟩ ⟨Nat.le_refl _, Nat.le_refl _⟩ (Nat.le_of_ble_eq_true rfl) dX9_hold_144 (fun H locs hW => ?_)
            refine lv_iload hx hb dX9_hold_147 (lv_at hl 0 rfl) ?_
            exact x_iretI E hC hW hr hlk hQ dX9_hold_149 hf
          · have hf := xt hf c24
            refine lv_bipush (v := (-2)) hx hb dX9_hold_116 (by decide) ?_
            exact x_iretI E hC hW hr hlk hQ dX9_hold_118 hf
        · have hf := xf hf c16
          refine lv_tableOut (tgt := 150) hx hb dX9_hold_26 (by have q0 := lv_neT c6 (a := 0) (by decide); have q1 := lv_neT c8 (a := 1) (by decide); have q2 := lv_neT c16 (a := 2) (by decide); omega) (by decide) ?_
          refine lv_bipush (v := (-2)) hx hb dX9_hold_150 (by decide) ?_
          exact x_iretI E hC hW hr hlk hQ dX9_hold_152 hf
  · have hf := xt hf c25
    refine lv_bipush (v := (-2)) hx hb dX9_hold_7 (by decide) ?_
    exact x_iretI E hC hW hr hlk hQ dX9_hold_9 hf
set_option maxRecDepth 100000 in
set_option maxHeartbeats 4000000 in
theorem c_X9_isUnder {l : Launch} {D : va_G} {cy : Nat → ClassId} {L : Nat → Nat} {bA : Nat} (a0 : Int32) (a1 : Int32) (r : Int32) (S : Sg)  (hf : f_X9_isUnder a0 a1 = some r) : MetX l D cy L shC 52 bA yX9_isUnder cX9_isUnder 4 (some .boolean) 1 20 [.int a0, .int a1] (some (.int r)) S S := by
  refine x_met (own := RX9) (by decide) rfl (Nat.le_of_ble_eq_true rfl) ?_
  intro p e s m below meth c ls E hC hr hlk hl hW
  generalize hargs : ([.int a0, .int a1] : List Value).toArray = args at E ⊢
  generalize hQ : MQ below (xQ D cy L shC 52 bA (some (.int r)) S) args s 0 0 (AL L 52) = Q
  have hl : lv_has ls 4 [(0, .int a0), (1, .int a1)] := hl
  have hx := E.1
  have hb := E.2.1
  have hts := E.2.2.2.2
  unfold f_X9_isUnder at hf
  refine lv_iload_n hx hb dX9_isUnder_0 rfl (lv_at hl 0 rfl) ?_
  refine lv_istore_n (lv' := [(2, .int a0), (0, .int a0), (1, .int a1)]) hx hb dX9_isUnder_1 rfl hl (by decide) rfl (fun ls hl => ?_)
  refine lv_iconst (v := 0) hx hb dX9_isUnder_2 (by decide) ?_
  refine lv_istore_n (lv' := [(3, .int (0 : Int32)), (2, .int a0), (0, .int a0), (1, .int a1)]) hx hb dX9_isUnder_3 rfl hl (by decide) rfl (fun ls hl => ?_)
  refine wp2S (fun (v1 : Int32) (v2 : Int32) => ∀ (H : Heap) (locs : List Loc) (ls : Array Slot), lv_has ls 4 [(1, .int a1), (2, .int v1), (3, .int v2)] → Wd D cy L shC 52 S s H locs → W p l e (rmk 1 20) s m args below meth c H locs 0 0 Q (F0 m 4 ls [])) ?_ hf _ _ _ (lv_sub hl [3, 1, 0] rfl) hW
  · intro self4 ih4 v1 v2 hf H locs ls hl hW
    unfold X9_isUnder_L4 at hf
    refine lv_iload_n hx hb dX9_isUnder_4 rfl (lv_at hl 2 rfl) ?_
    refine x_gets E hC hW ml_above_X9_334 dX9_isUnder_5 ?_
    refine x_tlen E hC hW dX9_isUnder_8 ?_
    refine lv_icmp_ge (tgt := 38) hx hb dX9_isUnder_9 (by decide) (fun c10 => ?_) (fun c10 => ?_)
    · have hf := xt hf c10
      refine lv_iconst (v := 0) hx hb dX9_isUnder_38 (by decide) ?_
      exact x_zretP E hC hW hr hlk hQ (by decide) dX9_isUnder_39 hf
    · have hf := xf hf c10
      refine lv_iload_n hx hb dX9_isUnder_12 rfl (lv_at hl 1 rfl) ?_
      obtain ⟨r3, g4, hf⟩ := cl1S hf
      refine x_Sr (As := [.int v1]) (rest := []) E hC hW hl.1 (c_X9_isKind v1 r3 S g4) cs_X9_101 rfl rfl ⟨Nat.le_of_ble_eq_true rfl, Nat.le_of_ble_eq_true rfl⟩ ⟨Nat.le_refl _, Nat.le_refl _⟩ (Nat.le_of_ble_eq_true rfl) dX9_isUnder_13 (fun H locs hW => ?_)
      refine lv_if_eq (tgt := 38) hx hb dX9_isUnder_16 (by decide) (fun c9 => ?_) (fun c9 => ?_)
      · have hf := xt hf c9
        refine lv_iconst (v := 0) hx hb dX9_isUnder_38 (by decide) ?_
        exact x_zretP E hC hW hr hlk hQ (by decide) dX9_isUnder_39 hf
      · have hf := xf hf c9
        refine lv_iload_n hx hb dX9_isUnder_19 rfl (lv_at hl 1 rfl) ?_
        refine lv_iload_n hx hb dX9_isUnder_20 rfl (lv_at hl 0 rfl) ?_
        refine lv_icmp_ne (tgt := 26) hx hb dX9_isUnder_21 (by decide) (fun c8 => ?_) (fun c8 => ?_)
        · have hf := xf hf c8
          refine x_gets E hC hW ml_above_X9_334 dX9_isUnder_26 ?_
          refine lv_iload_n hx hb dX9_isUnder_29 rfl (lv_at hl 1 rfl) ?_
          obtain ⟨hg5, hf⟩ := gdS hf
          refine x_ti E hC hW (inbS hg5) dX9_isUnder_30 ?_
          refine lv_topi (fun x6 ex6 => ?_)
          have hf := bvS hf ex6
          refine lv_istore_n (lv' := [(2, .int x6), (1, .int a1), (3, .int v2)]) hx hb dX9_isUnder_31 rfl hl (by decide) rfl (fun ls hl => ?_)
          obtain ⟨x7, ex7⟩ : ∃ z : Int32, z = (v2 + 1) := ⟨_, rfl⟩
          have hf := bvS hf ex7
          refine lv_iinc (v := x7) (lv' := [(3, .int x7), (2, .int x6), (1, .int a1)]) hx hb dX9_isUnder_32 hl (k := 2) rfl (by rw [ex7]; rfl) (by decide) rfl (fun ls hl => ?_)
          refine lv_goto (tgt := 4) hx hb dX9_isUnder_35 (by decide) ?_
          exact ih4 _ _ hf _ _ _ (lv_sub hl [2, 1, 0] rfl) hW
        · have hf := xt hf c8
          refine lv_iconst (v := 1) hx hb dX9_isUnder_24 (by decide) ?_
          exact x_zretP E hC hW hr hlk hQ (by decide) dX9_isUnder_25 hf
