set_option maxRecDepth 100000 in
set_option maxHeartbeats 4000000 in
theorem c_X10_isStanding {l : Launch} {D : va_G} {cy : Nat → ClassId} {L : Nat → Nat} {bA : Nat} (a1 : Int32) (r : Int32) (S S' : Sg)  (hf : f_X10_isStanding a1 S = some (r, S')) : MetX l D cy L shM 20 bA yX10_isStanding cX10_isStanding 2 (some .boolean) 4 94 [.ref (L 0), .int a1] (some (.int r)) S S' := by
  refine x_met (own := RX10) (by decide) rfl (Nat.le_of_ble_eq_true rfl) ?_
  intro p e s m below meth c ls E hC hr hlk hl hW
  generalize hargs : ([.ref (L 0), .int a1] : List Value).toArray = args at E ⊢
  generalize hQ : MQ below (xQ D cy L shM 20 bA (some (.int r)) S') args s 0 0 (AL L 20) = Q
  have hl : lv_has ls 2 [(0, .ref (L 0)), (1, .int a1)] := hl
  have hx := E.1
  have hb := E.2.1
  have hts := E.2.2.2.2
  unfold f_X10_isStanding at hf
  refine lv_iconst (v := 2) hx hb dX10_isStanding_0 (by decide) ?_
  refine lv_iload_n hx hb dX10_isStanding_1 rfl (lv_at hl 1 rfl) ?_
  obtain ⟨r1, g2, hf⟩ := cl1S hf
  refine x_Sr (As := [.int a1]) (rest := [.int (2 : Int32)]) E hC hW hl.1 (c_X10_many a1 r1 S g2) cs_X10_164 rfl rfl ⟨Nat.le_of_ble_eq_true rfl, Nat.le_of_ble_eq_true rfl⟩ ⟨Nat.le_refl _, Nat.le_refl _⟩ (Nat.le_of_ble_eq_true rfl) dX10_isStanding_2 (fun H locs hW => ?_)
  refine lv_imul hx hb dX10_isStanding_5 ?_
  refine lv_aload_n hx hb dX10_isStanding_6 rfl (lv_at hl 0 rfl) ?_
  refine x_geti (k := 0) E hC hW fl_X10_13 (by decide) rfl rfl dX10_isStanding_7 ?_
  refine lv_icmp_gt (tgt := 32) hx hb dX10_isStanding_10 (by decide) (fun c9 => ?_) (fun c9 => ?_)
  · have hf := xt hf c9
    refine lv_iconst (v := 0) hx hb dX10_isStanding_32 (by decide) ?_
    exact x_zretI E hC hW hr hlk hQ (by decide) dX10_isStanding_33 hf
  · have hf := xf hf c9
    refine lv_aload_n hx hb dX10_isStanding_13 rfl (lv_at hl 0 rfl) ?_
    refine lv_iload_n hx hb dX10_isStanding_14 rfl (lv_at hl 1 rfl) ?_
    refine lv_iconst (v := 0) hx hb dX10_isStanding_15 (by decide) ?_
    obtain ⟨r3, S5, g4, hf⟩ := clS hf
    refine x_Vr (k := 0) (As := [.int a1, .int (0 : Int32)]) (rest := []) E hC hW hl.1 (c_X10_rankOf a1 (0 : Int32) r3 S S5 g4) cv_X10_118 rfl (by decide) rfl rfl rfl ⟨Nat.le_of_ble_eq_true rfl, Nat.le_of_ble_eq_true rfl⟩ ⟨Nat.le_refl _, Nat.le_refl _⟩ (Nat.le_of_ble_eq_true rfl) dX10_isStanding_16 (fun H locs hW => ?_)
    refine lv_iconst (v := 2) hx hb dX10_isStanding_19 (by decide) ?_
    refine lv_iload_n hx hb dX10_isStanding_20 rfl (lv_at hl 1 rfl) ?_
    obtain ⟨r6, g7, hf⟩ := cl1S hf
    refine x_Sr (As := [.int a1]) (rest := [.int (2 : Int32), .int r3]) E hC hW hl.1 (c_X10_many a1 r6 S5 g7) cs_X10_164 rfl rfl ⟨Nat.le_of_ble_eq_true rfl, Nat.le_of_ble_eq_true rfl⟩ ⟨Nat.le_refl _, Nat.le_refl _⟩ (Nat.le_of_ble_eq_true rfl) dX10_isStanding_21 (fun H locs hW => ?_)
    refine lv_imul hx hb dX10_isStanding_24 ?_
    refine lv_icmp_ne (tgt := 32) hx hb dX10_isStanding_25 (by decide) (fun c8 => ?_) (fun c8 => ?_)
    · have hf := xf hf c8
      refine lv_iconst (v := 0) hx hb dX10_isStanding_32 (by decide) ?_
      exact x_zretI E hC hW hr hlk hQ (by decide) dX10_isStanding_33 hf
    · have hf := xt hf c8
      refine lv_iconst (v := 1) hx hb dX10_isStanding_28 (by decide) ?_
      refine lv_goto (tgt := 33) hx hb dX10_isStanding_29 (by decide) ?_
      exact x_zretI E hC hW hr hlk hQ (by decide) dX10_isStanding_33 hf
set_option maxRecDepth 100000 in
set_option maxHeartbeats 4000000 in
theorem c_X10_rank {l : Launch} {D : va_G} {cy : Nat → ClassId} {L : Nat → Nat} {bA : Nat} (a1 : Int32) (r : Int32) (S S' : Sg)  (hf : f_X10_rank a1 S = some (r, S')) : MetX l D cy L shM 20 bA yX10_rank cX10_rank 2 (some .int) 4 94 [.ref (L 0), .int a1] (some (.int r)) S S' := by
  refine x_met (own := RX10) (by decide) rfl (Nat.le_of_ble_eq_true rfl) ?_
  intro p e s m below meth c ls E hC hr hlk hl hW
  generalize hargs : ([.ref (L 0), .int a1] : List Value).toArray = args at E ⊢
  generalize hQ : MQ below (xQ D cy L shM 20 bA (some (.int r)) S') args s 0 0 (AL L 20) = Q
  have hl : lv_has ls 2 [(0, .ref (L 0)), (1, .int a1)] := hl
  have hx := E.1
  have hb := E.2.1
  have hts := E.2.2.2.2
  unfold f_X10_rank at hf
  refine lv_aload_n hx hb dX10_rank_0 rfl (lv_at hl 0 rfl) ?_
  refine lv_iload_n hx hb dX10_rank_1 rfl (lv_at hl 1 rfl) ?_
  obtain ⟨r1, g2, hf⟩ := cl1S hf
  refine x_Vr (k := 0) (As := [.int a1]) (rest := []) E hC hW hl.1 (c_X10_isSet a1 r1 S g2) cv_X10_167 rfl (by decide) rfl rfl rfl ⟨Nat.le_of_ble_eq_true rfl, Nat.le_of_ble_eq_true rfl⟩ ⟨Nat.le_refl _, Nat.le_refl _⟩ (Nat.le_of_ble_eq_true rfl) dX10_rank_2 (fun H locs hW => ?_)
  refine lv_if_eq (tgt := 17) hx hb dX10_rank_5 (by decide) (fun c6 => ?_) (fun c6 => ?_)
  · have hf := xt hf c6
    refine lv_bipush (v := (-2)) hx hb dX10_rank_17 (by decide) ?_
    exact x_iretI E hC hW hr hlk hQ dX10_rank_19 hf
  · have hf := xf hf c6
    refine lv_aload_n hx hb dX10_rank_8 rfl (lv_at hl 0 rfl) ?_
    refine lv_iload_n hx hb dX10_rank_9 rfl (lv_at hl 1 rfl) ?_
    refine lv_iconst (v := 0) hx hb dX10_rank_10 (by decide) ?_
    obtain ⟨r3, S5, g4, hf⟩ := clS hf
    refine x_Vr (k := 0) (As := [.int a1, .int (0 : Int32)]) (rest := []) E hC hW hl.1 (c_X10_rankOf a1 (0 : Int32) r3 S S5 g4) cv_X10_118 rfl (by decide) rfl rfl rfl ⟨Nat.le_of_ble_eq_true rfl, Nat.le_of_ble_eq_true rfl⟩ ⟨Nat.le_refl _, Nat.le_refl _⟩ (Nat.le_of_ble_eq_true rfl) dX10_rank_11 (fun H locs hW => ?_)
    refine lv_goto (tgt := 19) hx hb dX10_rank_14 (by decide) ?_
    exact x_iretI E hC hW hr hlk hQ dX10_rank_19 hf
set_option maxRecDepth 100000 in
set_option maxHeartbeats 4000000 in
theorem c_X10_stands {l : Launch} {D : va_G} {cy : Nat → ClassId} {L : Nat → Nat} {bA : Nat} (a1 : Int32) (r : Int32) (S S' : Sg)  (hf : f_X10_stands a1 S = some (r, S')) : MetX l D cy L shM 20 bA yX10_stands cX10_stands 2 (some .int) 5 115 [.ref (L 0), .int a1] (some (.int r)) S S' := by
  refine x_met (own := RX10) (by decide) rfl (Nat.le_of_ble_eq_true rfl) ?_
  intro p e s m below meth c ls E hC hr hlk hl hW
  generalize hargs : ([.ref (L 0), .int a1] : List Value).toArray = args at E ⊢
  generalize hQ : MQ below (xQ D cy L shM 20 bA (some (.int r)) S') args s 0 0 (AL L 20) = Q
  have hl : lv_has ls 2 [(0, .ref (L 0)), (1, .int a1)] := hl
  have hx := E.1
  have hb := E.2.1
  have hts := E.2.2.2.2
  unfold f_X10_stands at hf
  refine lv_aload_n hx hb dX10_stands_0 rfl (lv_at hl 0 rfl) ?_
  refine lv_iload_n hx hb dX10_stands_1 rfl (lv_at hl 1 rfl) ?_
  obtain ⟨r1, g2, hf⟩ := cl1S hf
  refine x_Vr (k := 0) (As := [.int a1]) (rest := []) E hC hW hl.1 (c_X10_isSet a1 r1 S g2) cv_X10_167 rfl (by decide) rfl rfl rfl ⟨Nat.le_of_ble_eq_true rfl, Nat.le_of_ble_eq_true rfl⟩ ⟨Nat.le_refl _, Nat.le_refl _⟩ (Nat.le_of_ble_eq_true rfl) dX10_stands_2 (fun H locs hW => ?_)
  refine lv_if_ne (tgt := 13) hx hb dX10_stands_5 (by decide) (fun c7 => ?_) (fun c7 => ?_)
  · have hf := xf hf c7
    refine lv_aload_n hx hb dX10_stands_13 rfl (lv_at hl 0 rfl) ?_
    refine lv_iload_n hx hb dX10_stands_14 rfl (lv_at hl 1 rfl) ?_
    obtain ⟨r3, S5, g4, hf⟩ := clS hf
    refine x_Vr (k := 0) (As := [.int a1]) (rest := []) E hC hW hl.1 (c_X10_isStanding a1 r3 S S5 g4) cv_X10_170 rfl (by decide) rfl rfl rfl ⟨Nat.le_of_ble_eq_true rfl, Nat.le_of_ble_eq_true rfl⟩ ⟨Nat.le_refl _, Nat.le_refl _⟩ (Nat.le_of_ble_eq_true rfl) dX10_stands_15 (fun H locs hW => ?_)
    refine lv_if_eq (tgt := 25) hx hb dX10_stands_18 (by decide) (fun c6 => ?_) (fun c6 => ?_)
    · have hf := xt hf c6
      refine lv_iconst (v := 0) hx hb dX10_stands_25 (by decide) ?_
      exact x_iretI E hC hW hr hlk hQ dX10_stands_26 hf
    · have hf := xf hf c6
      refine lv_iconst (v := 1) hx hb dX10_stands_21 (by decide) ?_
      refine lv_goto (tgt := 26) hx hb dX10_stands_22 (by decide) ?_
      exact x_iretI E hC hW hr hlk hQ dX10_stands_26 hf
  · have hf := xt hf c7
    refine lv_bipush (v := (-2)) hx hb dX10_stands_8 (by decide) ?_
    refine lv_goto (tgt := 26) hx hb dX10_stands_10 (by decide) ?_
    exact x_iretI E hC hW hr hlk hQ dX10_stands_26 hf
set_option maxRecDepth 100000 in
set_option maxHeartbeats 4000000 in
theorem c_X10_mostOf {l : Launch} {D : va_G} {cy : Nat → ClassId} {L : Nat → Nat} {bA : Nat}  (r : Int32) (S S' : Sg)  (hf : f_X10_mostOf S = some (r, S')) : MetX l D cy L shM 20 bA yX10_mostOf cX10_mostOf 3 (some .int) 5 115 [.ref (L 0)] (some (.int r)) S S' := by
  refine x_met (own := RX10) (by decide) rfl (Nat.le_of_ble_eq_true rfl) ?_
  intro p e s m below meth c ls E hC hr hlk hl hW
  generalize hargs : ([.ref (L 0)] : List Value).toArray = args at E ⊢
  generalize hQ : MQ below (xQ D cy L shM 20 bA (some (.int r)) S') args s 0 0 (AL L 20) = Q
  have hl : lv_has ls 3 [(0, .ref (L 0))] := hl
  have hx := E.1
  have hb := E.2.1
  have hts := E.2.2.2.2
  unfold f_X10_mostOf at hf
  refine lv_iconst (v := 0) hx hb dX10_mostOf_0 (by decide) ?_
  refine lv_istore_n (lv' := [(1, .int (0 : Int32)), (0, .ref (L 0))]) hx hb dX10_mostOf_1 rfl hl (by decide) rfl (fun ls hl => ?_)
  refine lv_iconst (v := 1) hx hb dX10_mostOf_2 (by decide) ?_
  refine lv_istore_n (lv' := [(2, .int (1 : Int32)), (1, .int (0 : Int32)), (0, .ref (L 0))]) hx hb dX10_mostOf_3 rfl hl (by decide) rfl (fun ls hl => ?_)
  refine wp3S (fun (v1 : Int32) (v2 : Int32) (S3 : Sg) => ∀ (H : Heap) (locs : List Loc) (ls : Array Slot), lv_has ls 3 [(0, .ref (L 0)), (1, .int v1), (2, .int v2)] → Wd D cy L shM 20 S3 s H locs → W p l e (rmk 5 115) s m args below meth c H locs 0 0 Q (F0 m 4 ls [])) ?_ hf _ _ _ (lv_sub hl [2, 1, 0] rfl) hW
  · intro self4 ih4 v1 v2 S3 hf H locs ls hl hW
    unfold X10_mostOf_L4 at hf
    refine lv_iload_n hx hb dX10_mostOf_4 rfl (lv_at hl 2 rfl) ?_
    refine lv_iconst (v := 1) hx hb dX10_mostOf_5 (by decide) ?_
    refine lv_aload_n hx hb dX10_mostOf_6 rfl (lv_at hl 0 rfl) ?_
    refine x_geti (k := 0) E hC hW fl_X10_75 (by decide) rfl rfl dX10_mostOf_7 ?_
    refine lv_ishl hx hb dX10_mostOf_10 ?_
    refine lv_icmp_ge (tgt := 45) hx hb dX10_mostOf_11 (by decide) (fun c17 => ?_) (fun c17 => ?_)
    · have hf := xt hf c17
      refine lv_iload_n hx hb dX10_mostOf_45 rfl (lv_at hl 1 rfl) ?_
      exact x_iretI E hC hW hr hlk hQ dX10_mostOf_46 hf
    · have hf := xf hf c17
      refine lv_iload_n hx hb dX10_mostOf_14 rfl (lv_at hl 2 rfl) ?_
      obtain ⟨r4, g5, hf⟩ := cl1S hf
      refine x_Sr (As := [.int v2]) (rest := []) E hC hW hl.1 (c_X10_many v2 r4 S3 g5) cs_X10_164 rfl rfl ⟨Nat.le_of_ble_eq_true rfl, Nat.le_of_ble_eq_true rfl⟩ ⟨Nat.le_refl _, Nat.le_refl _⟩ (Nat.le_of_ble_eq_true rfl) dX10_mostOf_15 (fun H locs hW => ?_)
      refine lv_iload_n hx hb dX10_mostOf_18 rfl (lv_at hl 1 rfl) ?_
      refine jnS hf (fun (j : Int32 → Sg → Option (Int32 × Sg)) => ∀ (x6 : Int32) (S7 : Sg), (j x6 S7) = some (r, S') → ∀ (H : Heap) (locs : List Loc) (ls : Array Slot), lv_has ls 3 [(0, .ref (L 0)), (2, .int v2)] → Wd D cy L shM 20 S7 s H locs → W p l e (rmk 5 115) s m args below meth c H locs 0 0 Q (F0 m 38 ls [.int x6])) ?_ ?_
      · intro x6 S7 hf H locs ls hl hW
        try dsimp only at hf
        refine lv_istore_n (lv' := [(1, .int x6), (0, .ref (L 0)), (2, .int v2)]) hx hb dX10_mostOf_38 rfl hl (by decide) rfl (fun ls hl => ?_)
        obtain ⟨x8, ex8⟩ : ∃ z : Int32, z = (v2 + 1) := ⟨_, rfl⟩
        have hf := bvS hf ex8
        refine lv_iinc (v := x8) (lv' := [(2, .int x8), (1, .int x6), (0, .ref (L 0))]) hx hb dX10_mostOf_39 hl (k := 2) rfl (by rw [ex8]; rfl) (by decide) rfl (fun ls hl => ?_)
        refine lv_goto (tgt := 4) hx hb dX10_mostOf_42 (by decide) ?_
        exact ih4 _ _ _ hf _ _ _ (lv_sub hl [2, 1, 0] rfl) hW
      intro j38 J38 hf
      refine jnS hf (fun (j : Sg → Option (Int32 × Sg)) => ∀ (S9 : Sg), (j S9) = some (r, S') → ∀ (H : Heap) (locs : List Loc) (ls : Array Slot), lv_has ls 3 [(0, .ref (L 0)), (1, .int v1), (2, .int v2)] → Wd D cy L shM 20 S9 s H locs → W p l e (rmk 5 115) s m args below meth c H locs 0 0 Q (F0 m 37 ls [])) ?_ ?_
      · intro S9 hf H locs ls hl hW
        try dsimp only at hf
        refine lv_iload_n hx hb dX10_mostOf_37 rfl (lv_at hl 1 rfl) ?_
        exact J38 _ _ hf _ _ _ (lv_sub hl [0, 2] rfl) hW
      intro j37 J37 hf
      refine lv_icmp_le (tgt := 37) hx hb dX10_mostOf_19 (by decide) (fun c16 => ?_) (fun c16 => ?_)
      · have hf := xt hf c16
        exact J37 _ hf _ _ _ (lv_sub hl [0, 1, 2] rfl) hW
      · have hf := xf hf c16
        refine lv_aload_n hx hb dX10_mostOf_22 rfl (lv_at hl 0 rfl) ?_
        refine lv_iload_n hx hb dX10_mostOf_23 rfl (lv_at hl 2 rfl) ?_
        obtain ⟨r10, S12, g11, hf⟩ := clS hf
        refine x_Vr (k := 0) (As := [.int v2]) (rest := []) E hC hW hl.1 (c_X10_isStanding v2 r10 S3 S12 g11) cv_X10_170 rfl (by decide) rfl rfl rfl ⟨Nat.le_of_ble_eq_true rfl, Nat.le_of_ble_eq_true rfl⟩ ⟨Nat.le_refl _, Nat.le_refl _⟩ (Nat.le_of_ble_eq_true rfl) dX10_mostOf_24 (fun H locs hW => ?_)
        refine lv_if_eq (tgt := 37) hx hb dX10_mostOf_27 (by decide) (fun c15 => ?_) (fun c15 => ?_)
        · have hf := xt hf c15
          exact J37 _ hf _ _ _ (lv_sub hl [0, 1, 2] rfl) hW
        · have hf := xf hf c15
          refine lv_iload_n hx hb dX10_mostOf_30 rfl (lv_at hl 2 rfl) ?_
          obtain ⟨r13, g14, hf⟩ := cl1S hf
          refine x_Sr (As := [.int v2]) (rest := []) E hC hW hl.1 (c_X10_many v2 r13 S12 g14) cs_X10_164 rfl rfl ⟨Nat.le_of_ble_eq_true rfl, Nat.le_of_ble_eq_true rfl⟩ ⟨Nat.le_refl _, Nat.le_refl _⟩ (Nat.le_of_ble_eq_true rfl) dX10_mostOf_31 (fun H locs hW => ?_)
          refine lv_goto (tgt := 38) hx hb dX10_mostOf_34 (by decide) ?_
          exact J38 _ _ hf _ _ _ (lv_sub hl [0, 2] rfl) hW
set_option maxRecDepth 100000 in
set_option maxHeartbeats 4000000 in
theorem c_X10_most {l : Launch} {D : va_G} {cy : Nat → ClassId} {L : Nat → Nat} {bA : Nat}  (r : Int32) (S S' : Sg)  (hf : f_X10_most S = some (r, S')) : MetX l D cy L shM 20 bA yX10_most cX10_most 1 (some .int) 6 137 [.ref (L 0)] (some (.int r)) S S' := by
  refine x_met (own := RX10) (by decide) rfl (Nat.le_of_ble_eq_true rfl) ?_
  intro p e s m below meth c ls E hC hr hlk hl hW
  generalize hargs : ([.ref (L 0)] : List Value).toArray = args at E ⊢
  generalize hQ : MQ below (xQ D cy L shM 20 bA (some (.int r)) S') args s 0 0 (AL L 20) = Q
  have hl : lv_has ls 1 [(0, .ref (L 0))] := hl
  have hx := E.1
  have hb := E.2.1
  have hts := E.2.2.2.2
  unfold f_X10_most at hf
  refine lv_aload_n hx hb dX10_most_0 rfl (lv_at hl 0 rfl) ?_
  obtain ⟨r1, S3, g2, hf⟩ := clS hf
  refine x_Vr (k := 0) (As := []) (rest := []) E hC hW hl.1 (c_X10_mostOf r1 S S3 g2) cv_X10_173 rfl (by decide) rfl rfl rfl ⟨Nat.le_of_ble_eq_true rfl, Nat.le_of_ble_eq_true rfl⟩ ⟨Nat.le_refl _, Nat.le_refl _⟩ (Nat.le_of_ble_eq_true rfl) dX10_most_1 (fun H locs hW => ?_)
  exact x_iretI E hC hW hr hlk hQ dX10_most_4 hf
set_option maxRecDepth 100000 in
set_option maxHeartbeats 4000000 in
theorem c_X10_best {l : Launch} {D : va_G} {cy : Nat → ClassId} {L : Nat → Nat} {bA : Nat} (a1 : Int32) (r : Int32) (S S' : Sg)  (hf : f_X10_best a1 S = some (r, S')) : MetX l D cy L shM 20 bA yX10_best cX10_best 8 (some .int) 6 137 [.ref (L 0), .int a1] (some (.int r)) S S' := by
  refine x_met (own := RX10) (by decide) rfl (Nat.le_of_ble_eq_true rfl) ?_
  intro p e s m below meth c ls E hC hr hlk hl hW
  generalize hargs : ([.ref (L 0), .int a1] : List Value).toArray = args at E ⊢
  generalize hQ : MQ below (xQ D cy L shM 20 bA (some (.int r)) S') args s 0 0 (AL L 20) = Q
  have hl : lv_has ls 8 [(0, .ref (L 0)), (1, .int a1)] := hl
  have hx := E.1
  have hb := E.2.1
  have hts := E.2.2.2.2
  unfold f_X10_best at hf
  refine lv_iload_n hx hb dX10_best_0 rfl (lv_at hl 1 rfl) ?_
  refine lv_i2l hx hb dX10_best_1 rfl ?_
  refine lv_lconst (v := 0) hx hb dX10_best_2 (by decide) ?_
  refine lv_ldc2 hx hb E.2.2.2.1 (hts _ ww_1070) dX10_best_3 ?_
  obtain ⟨r1, g2, hf⟩ := cl1S hf
  refine x_Sr (As := [.long a1.toInt64, .long (0 : Int64), .long (3 : Int64)]) (rest := []) E hC hW hl.1 (c_X10_in a1.toInt64 (0 : Int64) (3 : Int64) r1 S g2) cs_X10_78 rfl rfl ⟨Nat.le_of_ble_eq_true rfl, Nat.le_of_ble_eq_true rfl⟩ ⟨Nat.le_refl _, Nat.le_refl _⟩ (Nat.le_of_ble_eq_true rfl) dX10_best_6 (fun H locs hW => ?_)
  refine lv_if_ne (tgt := 15) hx hb dX10_best_9 (by decide) (fun c40 => ?_) (fun c40 => ?_)
  · have hf := xf hf c40
    refine lv_aload_n hx hb dX10_best_15 rfl (lv_at hl 0 rfl) ?_
    obtain ⟨r3, S5, g4, hf⟩ := clS hf
    refine x_Vr (k := 0) (As := []) (rest := []) E hC hW hl.1 (c_X10_mostOf r3 S S5 g4) cv_X10_173 rfl (by decide) rfl rfl rfl ⟨Nat.le_of_ble_eq_true rfl, Nat.le_of_ble_eq_true rfl⟩ ⟨Nat.le_refl _, Nat.le_refl _⟩ (Nat.le_of_ble_eq_true rfl) dX10_best_16 (fun H locs hW => ?_)
    refine lv_istore_n (lv' := [(2, .int r3), (0, .ref (L 0)), (1, .int a1)]) hx hb dX10_best_19 rfl hl (by decide) rfl (fun ls hl => ?_)
    refine lv_iconst (v := (-1)) hx hb dX10_best_20 (by decide) ?_
    refine lv_istore_n (lv' := [(3, .int (-1 : Int32)), (2, .int r3), (0, .ref (L 0)), (1, .int a1)]) hx hb dX10_best_21 rfl hl (by decide) rfl (fun ls hl => ?_)
    refine lv_iconst (v := 0) hx hb dX10_best_22 (by decide) ?_
    refine lv_istore (lv' := [(4, .int (0 : Int32)), (3, .int (-1 : Int32)), (2, .int r3), (0, .ref (L 0)), (1, .int a1)]) hx hb dX10_best_23 hl (by decide) rfl (fun ls hl => ?_)
    refine lv_iconst (v := 1) hx hb dX10_best_25 (by decide) ?_
    refine lv_aload_n hx hb dX10_best_26 rfl (lv_at hl 3 rfl) ?_
    refine x_geti (k := 0) E hC hW fl_X10_75 (by decide) rfl rfl dX10_best_27 ?_
    refine lv_ishl hx hb dX10_best_30 ?_
    refine lv_iconst (v := 1) hx hb dX10_best_31 (by decide) ?_
    refine lv_isub hx hb dX10_best_32 ?_
    refine lv_topi (fun x6 ex6 => ?_)
    have hf := bvS hf ex6
    refine lv_istore (lv' := [(5, .int x6), (4, .int (0 : Int32)), (3, .int (-1 : Int32)), (2, .int r3), (0, .ref (L 0)), (1, .int a1)]) hx hb dX10_best_33 hl (by decide) rfl (fun ls hl => ?_)
    refine lv_iconst (v := 0) hx hb dX10_best_35 (by decide) ?_
    refine lv_istore (lv' := [(6, .int (0 : Int32)), (5, .int x6), (4, .int (0 : Int32)), (3, .int (-1 : Int32)), (2, .int r3), (0, .ref (L 0)), (1, .int a1)]) hx hb dX10_best_36 hl (by decide) rfl (fun ls hl => ?_)
    refine lv_iconst (v := 0) hx hb dX10_best_38 (by decide) ?_
    refine lv_istore (lv' := [(7, .int (0 : Int32)), (6, .int (0 : Int32)), (5, .int x6), (4, .int (0 : Int32)), (3, .int (-1 : Int32)), (2, .int r3), (0, .ref (L 0)), (1, .int a1)]) hx hb dX10_best_39 hl (by decide) rfl (fun ls hl => ?_)
    refine wp6K hf (fun (v15 : Int32) (v16 : Int32) (v17 : Int32) (v18 : Int32) (v19 : Int32) (S20 : Sg) => ∀ (H : Heap) (locs : List Loc) (ls : Array Slot), lv_has ls 8 [(0, .ref (L 0)), (1, .int a1), (2, .int r3), (3, .int v15), (4, .int v16), (5, .int v17), (6, .int v18), (7, .int v19)] → Wd D cy L shM 20 S20 s H locs → W p l e (rmk 6 137) s m args below meth c H locs 0 0 Q (F0 m 41 ls [])) (fun (j : Int32 → Int32 → Int32 → Int32 → Sg → Option (Int32 × Sg)) => ∀ (v7 : Int32) (v8 : Int32) (v9 : Int32) (v10 : Int32) (S11 : Sg), (j v7 v8 v9 v10 S11) = some (r, S') → ∀ (H : Heap) (locs : List Loc) (ls : Array Slot), lv_has ls 8 [(1, .int a1), (3, .int v7), (4, .int v8), (5, .int v9), (6, .int v10)] → Wd D cy L shM 20 S11 s H locs → W p l e (rmk 6 137) s m args below meth c H locs 0 0 Q (F0 m 105 ls [])) ?_ ?_ _ _ _ (lv_sub hl [6, 7, 5, 4, 3, 2, 1, 0] rfl) hW
    · intro v7 v8 v9 v10 S11 hf H locs ls hl hW
      try dsimp only at hf
      refine lv_iload_n hx hb dX10_best_105 rfl (lv_at hl 0 rfl) ?_
      refine lv_if_ne (tgt := 113) hx hb dX10_best_106 (by decide) (fun c14 => ?_) (fun c14 => ?_)
      · have hf := xf hf c14
        refine lv_iload_n hx hb dX10_best_113 rfl (lv_at hl 0 rfl) ?_
        refine lv_iconst (v := 1) hx hb dX10_best_114 (by decide) ?_
        refine lv_icmp_ne (tgt := 123) hx hb dX10_best_115 (by decide) (fun c13 => ?_) (fun c13 => ?_)
        · have hf := xf hf c13
          refine lv_iload_n hx hb dX10_best_123 rfl (lv_at hl 0 rfl) ?_
          refine lv_iconst (v := 2) hx hb dX10_best_124 (by decide) ?_
          refine lv_icmp_ne (tgt := 133) hx hb dX10_best_125 (by decide) (fun c12 => ?_) (fun c12 => ?_)
          · have hf := xf hf c12
            refine lv_iload hx hb dX10_best_133 (lv_at hl 4 rfl) ?_
            exact x_iretI E hC hW hr hlk hQ dX10_best_135 hf
          · have hf := xt hf c12
            refine lv_iload hx hb dX10_best_128 (lv_at hl 3 rfl) ?_
            refine lv_goto (tgt := 135) hx hb dX10_best_130 (by decide) ?_
            exact x_iretI E hC hW hr hlk hQ dX10_best_135 hf
        · have hf := xt hf c13
          refine lv_iload hx hb dX10_best_118 (lv_at hl 2 rfl) ?_
          refine lv_goto (tgt := 135) hx hb dX10_best_120 (by decide) ?_
          exact x_iretI E hC hW hr hlk hQ dX10_best_135 hf
      · have hf := xt hf c14
        refine lv_iload_n hx hb dX10_best_109 rfl (lv_at hl 1 rfl) ?_
        refine lv_goto (tgt := 135) hx hb dX10_best_110 (by decide) ?_
        exact x_iretI E hC hW hr hlk hQ dX10_best_135 hf
    · intro k105 K105 self41 ih41 v15 v16 v17 v18 v19 S20 hf H locs ls hl hW
      unfold X10_best_L41 at hf
      refine lv_iload hx hb dX10_best_41 (lv_at hl 7 rfl) ?_
      refine lv_iconst (v := 1) hx hb dX10_best_43 (by decide) ?_
      refine lv_aload_n hx hb dX10_best_44 rfl (lv_at hl 0 rfl) ?_
      refine x_geti (k := 0) E hC hW fl_X10_75 (by decide) rfl rfl dX10_best_45 ?_
      refine lv_ishl hx hb dX10_best_48 ?_
      refine lv_icmp_ge (tgt := 105) hx hb dX10_best_49 (by decide) (fun c39 => ?_) (fun c39 => ?_)
      · have hf := xt hf c39
        exact K105 _ _ _ _ _ hf _ _ _ (lv_sub hl [1, 3, 4, 5, 6] rfl) hW
      · have hf := xf hf c39
        refine lv_iload hx hb dX10_best_52 (lv_at hl 7 rfl) ?_
        obtain ⟨r21, g22, hf⟩ := cl1S hf
        refine x_Sr (As := [.int v19]) (rest := []) E hC hW hl.1 (c_X10_many v19 r21 S20 g22) cs_X10_164 rfl rfl ⟨Nat.le_of_ble_eq_true rfl, Nat.le_of_ble_eq_true rfl⟩ ⟨Nat.le_refl _, Nat.le_refl _⟩ (Nat.le_of_ble_eq_true rfl) dX10_best_54 (fun H locs hW => ?_)
        refine lv_iload_n hx hb dX10_best_57 rfl (lv_at hl 2 rfl) ?_
        refine jnS hf (fun (j : Int32 → Int32 → Int32 → Int32 → Sg → Option (Int32 × Sg)) => ∀ (v23 : Int32) (v24 : Int32) (v25 : Int32) (v26 : Int32) (S27 : Sg), (j v23 v24 v25 v26 S27) = some (r, S') → ∀ (H : Heap) (locs : List Loc) (ls : Array Slot), lv_has ls 8 [(0, .ref (L 0)), (1, .int a1), (2, .int r3), (3, .int v23), (4, .int v24), (5, .int v25), (6, .int v26), (7, .int v19)] → Wd D cy L shM 20 S27 s H locs → W p l e (rmk 6 137) s m args below meth c H locs 0 0 Q (F0 m 99 ls [])) ?_ ?_
        · intro v23 v24 v25 v26 S27 hf H locs ls hl hW
          try dsimp only at hf
          obtain ⟨x28, ex28⟩ : ∃ z : Int32, z = (v19 + 1) := ⟨_, rfl⟩
          have hf := bvS hf ex28
          refine lv_iinc (v := x28) (lv' := [(7, .int x28), (0, .ref (L 0)), (1, .int a1), (2, .int r3), (3, .int v23), (4, .int v24), (5, .int v25), (6, .int v26)]) hx hb dX10_best_99 hl (k := 7) rfl (by rw [ex28]; rfl) (by decide) rfl (fun ls hl => ?_)
          refine lv_goto (tgt := 41) hx hb dX10_best_102 (by decide) ?_
          exact ih41 _ _ _ _ _ _ hf _ _ _ (lv_sub hl [1, 2, 3, 4, 5, 6, 7, 0] rfl) hW
        intro j99 J99 hf
        refine lv_icmp_ne (tgt := 99) hx hb dX10_best_58 (by decide) (fun c38 => ?_) (fun c38 => ?_)
        · have hf := xf hf c38
          exact J99 _ _ _ _ _ hf _ _ _ (lv_sub hl [0, 1, 2, 3, 4, 5, 6, 7] rfl) hW
        · have hf := xt hf c38
          refine lv_aload_n hx hb dX10_best_61 rfl (lv_at hl 0 rfl) ?_
          refine lv_iload hx hb dX10_best_62 (lv_at hl 7 rfl) ?_
          obtain ⟨r29, S31, g30, hf⟩ := clS hf
          refine x_Vr (k := 0) (As := [.int v19]) (rest := []) E hC hW hl.1 (c_X10_isStanding v19 r29 S20 S31 g30) cv_X10_170 rfl (by decide) rfl rfl rfl ⟨Nat.le_of_ble_eq_true rfl, Nat.le_of_ble_eq_true rfl⟩ ⟨Nat.le_refl _, Nat.le_refl _⟩ (Nat.le_of_ble_eq_true rfl) dX10_best_64 (fun H locs hW => ?_)
          refine lv_if_eq (tgt := 99) hx hb dX10_best_67 (by decide) (fun c37 => ?_) (fun c37 => ?_)
          · have hf := xt hf c37
            exact J99 _ _ _ _ _ hf _ _ _ (lv_sub hl [0, 1, 2, 3, 4, 5, 6, 7] rfl) hW
          · have hf := xf hf c37
            refine lv_iload_n hx hb dX10_best_70 rfl (lv_at hl 3 rfl) ?_
            refine lv_iconst (v := (-1)) hx hb dX10_best_71 (by decide) ?_
            refine jnS hf (fun (j : Int32 → Option (Int32 × Sg)) => ∀ (x32 : Int32), (j x32) = some (r, S') → ∀ (H : Heap) (locs : List Loc) (ls : Array Slot), lv_has ls 8 [(0, .ref (L 0)), (1, .int a1), (2, .int r3), (4, .int v16), (5, .int v17), (6, .int v18), (7, .int v19)] → Wd D cy L shM 20 S31 s H locs → W p l e (rmk 6 137) s m args below meth c H locs 0 0 Q (F0 m 81 ls [.int x32])) ?_ ?_
            · intro x32 hf H locs ls hl hW
              try dsimp only at hf
              refine lv_istore_n (lv' := [(3, .int x32), (0, .ref (L 0)), (1, .int a1), (2, .int r3), (4, .int v16), (5, .int v17), (6, .int v18), (7, .int v19)]) hx hb dX10_best_81 rfl hl (by decide) rfl (fun ls hl => ?_)
              obtain ⟨x33, ex33⟩ : ∃ z : Int32, z = (v16 + 1) := ⟨_, rfl⟩
              have hf := bvS hf ex33
              refine lv_iinc (v := x33) (lv' := [(4, .int x33), (3, .int x32), (0, .ref (L 0)), (1, .int a1), (2, .int r3), (5, .int v17), (6, .int v18), (7, .int v19)]) hx hb dX10_best_82 hl (k := 4) rfl (by rw [ex33]; rfl) (by decide) rfl (fun ls hl => ?_)
              refine lv_iload hx hb dX10_best_85 (lv_at hl 5 rfl) ?_
              refine lv_iload hx hb dX10_best_87 (lv_at hl 7 rfl) ?_
              refine lv_iand hx hb dX10_best_89 ?_
              refine lv_topi (fun x34 ex34 => ?_)
              have hf := bvS hf ex34
              refine lv_istore (lv' := [(5, .int x34), (4, .int x33), (3, .int x32), (0, .ref (L 0)), (1, .int a1), (2, .int r3), (6, .int v18), (7, .int v19)]) hx hb dX10_best_90 hl (by decide) rfl (fun ls hl => ?_)
              refine lv_iload hx hb dX10_best_92 (lv_at hl 6 rfl) ?_
              refine lv_iload hx hb dX10_best_94 (lv_at hl 7 rfl) ?_
              refine lv_ior hx hb dX10_best_96 ?_
              refine lv_topi (fun x35 ex35 => ?_)
              have hf := bvS hf ex35
              refine lv_istore (lv' := [(6, .int x35), (5, .int x34), (4, .int x33), (3, .int x32), (0, .ref (L 0)), (1, .int a1), (2, .int r3), (7, .int v19)]) hx hb dX10_best_97 hl (by decide) rfl (fun ls hl => ?_)
              exact J99 _ _ _ _ _ hf _ _ _ (lv_sub hl [4, 5, 6, 3, 2, 1, 0, 7] rfl) hW
            intro j81 J81 hf
            refine lv_icmp_ne (tgt := 80) hx hb dX10_best_72 (by decide) (fun c36 => ?_) (fun c36 => ?_)
            · have hf := xf hf c36
              refine lv_iload_n hx hb dX10_best_80 rfl (lv_at hl 3 rfl) ?_
              exact J81 _ hf _ _ _ (lv_sub hl [0, 1, 2, 4, 5, 6, 7] rfl) hW
            · have hf := xt hf c36
              refine lv_iload hx hb dX10_best_75 (lv_at hl 7 rfl) ?_
              refine lv_goto (tgt := 81) hx hb dX10_best_77 (by decide) ?_
              exact J81 _ hf _ _ _ (lv_sub hl [0, 1, 2, 4, 5, 6, 7] rfl) hW
  · have hf := xt hf c40
    refine lv_bipush (v := (-2)) hx hb dX10_best_12 (by decide) ?_
    exact x_iretI E hC hW hr hlk hQ dX10_best_14 hf
set_option maxRecDepth 100000 in
set_option maxHeartbeats 4000000 in
theorem c_X10_weights {l : Launch} {D : va_G} {cy : Nat → ClassId} {L : Nat → Nat} {bA : Nat} (a1 : Int32) (r : Int32) (S : Sg)  (hf : f_X10_weights a1 S = some r) : MetX l D cy L shM 20 bA yX10_weights cX10_weights 4 (some .int) 1 21 [.ref (L 0), .int a1] (some (.int r)) S S := by
  refine x_met (own := RX10) (by decide) rfl (Nat.le_of_ble_eq_true rfl) ?_
  intro p e s m below meth c ls E hC hr hlk hl hW
  generalize hargs : ([.ref (L 0), .int a1] : List Value).toArray = args at E ⊢
  generalize hQ : MQ below (xQ D cy L shM 20 bA (some (.int r)) S) args s 0 0 (AL L 20) = Q
  have hl : lv_has ls 4 [(0, .ref (L 0)), (1, .int a1)] := hl
  have hx := E.1
  have hb := E.2.1
  have hts := E.2.2.2.2
  unfold f_X10_weights at hf
  refine lv_iconst (v := 0) hx hb dX10_weights_0 (by decide) ?_
  refine lv_istore_n (lv' := [(2, .int (0 : Int32)), (0, .ref (L 0)), (1, .int a1)]) hx hb dX10_weights_1 rfl hl (by decide) rfl (fun ls hl => ?_)
  refine lv_iconst (v := 0) hx hb dX10_weights_2 (by decide) ?_
  refine lv_istore_n (lv' := [(3, .int (0 : Int32)), (2, .int (0 : Int32)), (0, .ref (L 0)), (1, .int a1)]) hx hb dX10_weights_3 rfl hl (by decide) rfl (fun ls hl => ?_)
  refine wp2S (fun (v1 : Int32) (v2 : Int32) => ∀ (H : Heap) (locs : List Loc) (ls : Array Slot), lv_has ls 4 [(0, .ref (L 0)), (1, .int a1), (2, .int v1), (3, .int v2)] → Wd D cy L shM 20 S s H locs → W p l e (rmk 1 21) s m args below meth c H locs 0 0 Q (F0 m 4 ls [])) ?_ hf _ _ _ (lv_sub hl [2, 3, 1, 0] rfl) hW
  · intro self4 ih4 v1 v2 hf H locs ls hl hW
    unfold X10_weights_L4 at hf
    refine lv_iload_n hx hb dX10_weights_4 rfl (lv_at hl 3 rfl) ?_
    refine lv_aload_n hx hb dX10_weights_5 rfl (lv_at hl 0 rfl) ?_
    refine x_geti (k := 0) E hC hW fl_X10_75 (by decide) rfl rfl dX10_weights_6 ?_
    refine lv_icmp_ge (tgt := 39) hx hb dX10_weights_9 (by decide) (fun c10 => ?_) (fun c10 => ?_)
    · have hf := xt hf c10
      refine lv_iload_n hx hb dX10_weights_39 rfl (lv_at hl 2 rfl) ?_
      exact x_iretP E hC hW hr hlk hQ dX10_weights_40 hf
    · have hf := xf hf c10
      refine lv_iload_n hx hb dX10_weights_12 rfl (lv_at hl 2 rfl) ?_
      refine lv_iload_n hx hb dX10_weights_13 rfl (lv_at hl 1 rfl) ?_
      refine lv_iload_n hx hb dX10_weights_14 rfl (lv_at hl 3 rfl) ?_
      obtain ⟨r3, g4, hf⟩ := cl1S hf
      refine x_Sr (As := [.int a1, .int v2]) (rest := [.int v1]) E hC hW hl.1 (c_X10_has a1 v2 r3 S g4) cs_X10_149 rfl rfl ⟨Nat.le_of_ble_eq_true rfl, Nat.le_of_ble_eq_true rfl⟩ ⟨Nat.le_refl _, Nat.le_refl _⟩ (Nat.le_of_ble_eq_true rfl) dX10_weights_15 (fun H locs hW => ?_)
      refine jnS hf (fun (j : Int32 → Option (Int32)) => ∀ (x5 : Int32), (j x5) = some r → ∀ (H : Heap) (locs : List Loc) (ls : Array Slot), lv_has ls 4 [(0, .ref (L 0)), (1, .int a1), (3, .int v2)] → Wd D cy L shM 20 S s H locs → W p l e (rmk 1 21) s m args below meth c H locs 0 0 Q (F0 m 31 ls [.int x5, .int v1])) ?_ ?_
      · intro x5 hf H locs ls hl hW
        try dsimp only at hf
        refine lv_iadd hx hb dX10_weights_31 ?_
        refine lv_topi (fun x6 ex6 => ?_)
        have hf := bvS hf ex6
        refine lv_istore_n (lv' := [(2, .int x6), (0, .ref (L 0)), (1, .int a1), (3, .int v2)]) hx hb dX10_weights_32 rfl hl (by decide) rfl (fun ls hl => ?_)
        obtain ⟨x7, ex7⟩ : ∃ z : Int32, z = (v2 + 1) := ⟨_, rfl⟩
        have hf := bvS hf ex7
        refine lv_iinc (v := x7) (lv' := [(3, .int x7), (2, .int x6), (0, .ref (L 0)), (1, .int a1)]) hx hb dX10_weights_33 hl (k := 3) rfl (by rw [ex7]; rfl) (by decide) rfl (fun ls hl => ?_)
        refine lv_goto (tgt := 4) hx hb dX10_weights_36 (by decide) ?_
        exact ih4 _ _ hf _ _ _ (lv_sub hl [2, 3, 1, 0] rfl) hW
      intro j31 J31 hf
      refine lv_if_eq (tgt := 30) hx hb dX10_weights_18 (by decide) (fun c9 => ?_) (fun c9 => ?_)
      · have hf := xt hf c9
        refine lv_iconst (v := 0) hx hb dX10_weights_30 (by decide) ?_
        exact J31 _ hf _ _ _ (lv_sub hl [0, 1, 3] rfl) hW
      · have hf := xf hf c9
        refine lv_aload_n hx hb dX10_weights_21 rfl (lv_at hl 0 rfl) ?_
        refine x_getr (k := 0) (k' := 2) E hC hW fl_X10_20 (by decide) rfl rfl dX10_weights_22 ?_
        refine lv_iload_n hx hb dX10_weights_25 rfl (lv_at hl 3 rfl) ?_
        obtain ⟨hg8, hf⟩ := gdS hf
        refine x_iald (k := 2) E hC hW (by decide) rfl (inbS hg8) dX10_weights_26 ?_
        refine lv_goto (tgt := 31) hx hb dX10_weights_27 (by decide) ?_
        exact J31 _ hf _ _ _ (lv_sub hl [0, 1, 3] rfl) hW
set_option maxRecDepth 100000 in
set_option maxHeartbeats 4000000 in
theorem c_X10_heavy {l : Launch} {D : va_G} {cy : Nat → ClassId} {L : Nat → Nat} {bA : Nat} (a1 : Int32) (r : Int32) (S S' : Sg)  (hf : f_X10_heavy a1 S = some (r, S')) : MetX l D cy L shM 20 bA yX10_heavy cX10_heavy 4 (some .int) 5 115 [.ref (L 0), .int a1] (some (.int r)) S S' := by
  refine x_met (own := RX10) (by decide) rfl (Nat.le_of_ble_eq_true rfl) ?_
  intro p e s m below meth c ls E hC hr hlk hl hW
  generalize hargs : ([.ref (L 0), .int a1] : List Value).toArray = args at E ⊢
  generalize hQ : MQ below (xQ D cy L shM 20 bA (some (.int r)) S') args s 0 0 (AL L 20) = Q
  have hl : lv_has ls 4 [(0, .ref (L 0)), (1, .int a1)] := hl
  have hx := E.1
  have hb := E.2.1
  have hts := E.2.2.2.2
  unfold f_X10_heavy at hf
  refine lv_iload_n hx hb dX10_heavy_0 rfl (lv_at hl 1 rfl) ?_
  refine lv_i2l hx hb dX10_heavy_1 rfl ?_
  refine lv_lconst (v := 0) hx hb dX10_heavy_2 (by decide) ?_
  refine lv_lconst (v := 1) hx hb dX10_heavy_3 (by decide) ?_
  obtain ⟨r1, g2, hf⟩ := cl1S hf
  refine x_Sr (As := [.long a1.toInt64, .long (0 : Int64), .long (1 : Int64)]) (rest := []) E hC hW hl.1 (c_X10_in a1.toInt64 (0 : Int64) (1 : Int64) r1 S g2) cs_X10_78 rfl rfl ⟨Nat.le_of_ble_eq_true rfl, Nat.le_of_ble_eq_true rfl⟩ ⟨Nat.le_refl _, Nat.le_refl _⟩ (Nat.le_of_ble_eq_true rfl) dX10_heavy_4 (fun H locs hW => ?_)
  refine lv_if_ne (tgt := 13) hx hb dX10_heavy_7 (by decide) (fun c25 => ?_) (fun c25 => ?_)
  · have hf := xf hf c25
    refine lv_iconst (v := 0) hx hb dX10_heavy_13 (by decide) ?_
    refine lv_istore_n (lv' := [(2, .int (0 : Int32)), (0, .ref (L 0)), (1, .int a1)]) hx hb dX10_heavy_14 rfl hl (by decide) rfl (fun ls hl => ?_)
    refine lv_iconst (v := 1) hx hb dX10_heavy_15 (by decide) ?_
    refine lv_istore_n (lv' := [(3, .int (1 : Int32)), (2, .int (0 : Int32)), (0, .ref (L 0)), (1, .int a1)]) hx hb dX10_heavy_16 rfl hl (by decide) rfl (fun ls hl => ?_)
    refine wp3K hf (fun (v8 : Int32) (v9 : Int32) (S10 : Sg) => ∀ (H : Heap) (locs : List Loc) (ls : Array Slot), lv_has ls 4 [(0, .ref (L 0)), (1, .int a1), (2, .int v8), (3, .int v9)] → Wd D cy L shM 20 S10 s H locs → W p l e (rmk 5 115) s m args below meth c H locs 0 0 Q (F0 m 17 ls [])) (fun (j : Int32 → Sg → Option (Int32 × Sg)) => ∀ (v3 : Int32) (S4 : Sg), (j v3 S4) = some (r, S') → ∀ (H : Heap) (locs : List Loc) (ls : Array Slot), lv_has ls 4 [(0, .ref (L 0)), (1, .int a1), (2, .int v3)] → Wd D cy L shM 20 S4 s H locs → W p l e (rmk 5 115) s m args below meth c H locs 0 0 Q (F0 m 60 ls [])) ?_ ?_ _ _ _ (lv_sub hl [2, 3, 1, 0] rfl) hW
    · intro v3 S4 hf H locs ls hl hW
      try dsimp only at hf
      refine lv_iload_n hx hb dX10_heavy_60 rfl (lv_at hl 1 rfl) ?_
      refine lv_if_ne (tgt := 68) hx hb dX10_heavy_61 (by decide) (fun c7 => ?_) (fun c7 => ?_)
      · have hf := xf hf c7
        refine lv_aload_n hx hb dX10_heavy_68 rfl (lv_at hl 0 rfl) ?_
        refine lv_iload_n hx hb dX10_heavy_69 rfl (lv_at hl 2 rfl) ?_
        obtain ⟨r5, g6, hf⟩ := cl1S hf
        refine x_Vr (k := 0) (As := [.int v3]) (rest := []) E hC hW hl.1 (c_X10_weights v3 r5 S4 g6) cv_X10_178 rfl (by decide) rfl rfl rfl ⟨Nat.le_of_ble_eq_true rfl, Nat.le_of_ble_eq_true rfl⟩ ⟨Nat.le_refl _, Nat.le_refl _⟩ (Nat.le_of_ble_eq_true rfl) dX10_heavy_70 (fun H locs hW => ?_)
        exact x_iretI E hC hW hr hlk hQ dX10_heavy_73 hf
      · have hf := xt hf c7
        refine lv_iload_n hx hb dX10_heavy_64 rfl (lv_at hl 2 rfl) ?_
        refine lv_goto (tgt := 73) hx hb dX10_heavy_65 (by decide) ?_
        exact x_iretI E hC hW hr hlk hQ dX10_heavy_73 hf
    · intro k60 K60 self17 ih17 v8 v9 S10 hf H locs ls hl hW
      unfold X10_heavy_L17 at hf
      refine lv_iload_n hx hb dX10_heavy_17 rfl (lv_at hl 3 rfl) ?_
      refine lv_iconst (v := 1) hx hb dX10_heavy_18 (by decide) ?_
      refine lv_aload_n hx hb dX10_heavy_19 rfl (lv_at hl 0 rfl) ?_
      refine x_geti (k := 0) E hC hW fl_X10_75 (by decide) rfl rfl dX10_heavy_20 ?_
      refine lv_ishl hx hb dX10_heavy_23 ?_
      refine lv_icmp_ge (tgt := 60) hx hb dX10_heavy_24 (by decide) (fun c24 => ?_) (fun c24 => ?_)
      · have hf := xt hf c24
        exact K60 _ _ hf _ _ _ (lv_sub hl [0, 1, 2] rfl) hW
      · have hf := xf hf c24
        refine lv_aload_n hx hb dX10_heavy_27 rfl (lv_at hl 0 rfl) ?_
        refine lv_iload_n hx hb dX10_heavy_28 rfl (lv_at hl 3 rfl) ?_
        obtain ⟨r11, g12, hf⟩ := cl1S hf
        refine x_Vr (k := 0) (As := [.int v9]) (rest := []) E hC hW hl.1 (c_X10_weights v9 r11 S10 g12) cv_X10_178 rfl (by decide) rfl rfl rfl ⟨Nat.le_of_ble_eq_true rfl, Nat.le_of_ble_eq_true rfl⟩ ⟨Nat.le_refl _, Nat.le_refl _⟩ (Nat.le_of_ble_eq_true rfl) dX10_heavy_29 (fun H locs hW => ?_)
        refine lv_aload_n hx hb dX10_heavy_32 rfl (lv_at hl 0 rfl) ?_
        refine lv_iload_n hx hb dX10_heavy_33 rfl (lv_at hl 2 rfl) ?_
        obtain ⟨r13, g14, hf⟩ := cl1S hf
        refine x_Vr (k := 0) (As := [.int v8]) (rest := [.int r11]) E hC hW hl.1 (c_X10_weights v8 r13 S10 g14) cv_X10_178 rfl (by decide) rfl rfl rfl ⟨Nat.le_of_ble_eq_true rfl, Nat.le_of_ble_eq_true rfl⟩ ⟨Nat.le_refl _, Nat.le_refl _⟩ (Nat.le_of_ble_eq_true rfl) dX10_heavy_34 (fun H locs hW => ?_)
        refine jnS hf (fun (j : Int32 → Sg → Option (Int32 × Sg)) => ∀ (x15 : Int32) (S16 : Sg), (j x15 S16) = some (r, S') → ∀ (H : Heap) (locs : List Loc) (ls : Array Slot), lv_has ls 4 [(0, .ref (L 0)), (1, .int a1), (3, .int v9)] → Wd D cy L shM 20 S16 s H locs → W p l e (rmk 5 115) s m args below meth c H locs 0 0 Q (F0 m 53 ls [.int x15])) ?_ ?_
        · intro x15 S16 hf H locs ls hl hW
          try dsimp only at hf
          refine lv_istore_n (lv' := [(2, .int x15), (0, .ref (L 0)), (1, .int a1), (3, .int v9)]) hx hb dX10_heavy_53 rfl hl (by decide) rfl (fun ls hl => ?_)
          obtain ⟨x17, ex17⟩ : ∃ z : Int32, z = (v9 + 1) := ⟨_, rfl⟩
          have hf := bvS hf ex17
          refine lv_iinc (v := x17) (lv' := [(3, .int x17), (2, .int x15), (0, .ref (L 0)), (1, .int a1)]) hx hb dX10_heavy_54 hl (k := 3) rfl (by rw [ex17]; rfl) (by decide) rfl (fun ls hl => ?_)
          refine lv_goto (tgt := 17) hx hb dX10_heavy_57 (by decide) ?_
          exact ih17 _ _ _ hf _ _ _ (lv_sub hl [2, 3, 1, 0] rfl) hW
        intro j53 J53 hf
        refine jnS hf (fun (j : Sg → Option (Int32 × Sg)) => ∀ (S18 : Sg), (j S18) = some (r, S') → ∀ (H : Heap) (locs : List Loc) (ls : Array Slot), lv_has ls 4 [(0, .ref (L 0)), (1, .int a1), (2, .int v8), (3, .int v9)] → Wd D cy L shM 20 S18 s H locs → W p l e (rmk 5 115) s m args below meth c H locs 0 0 Q (F0 m 52 ls [])) ?_ ?_
        · intro S18 hf H locs ls hl hW
          try dsimp only at hf
          refine lv_iload_n hx hb dX10_heavy_52 rfl (lv_at hl 2 rfl) ?_
          exact J53 _ _ hf _ _ _ (lv_sub hl [0, 1, 3] rfl) hW
        intro j52 J52 hf
        refine lv_icmp_le (tgt := 52) hx hb dX10_heavy_37 (by decide) (fun c23 => ?_) (fun c23 => ?_)
        · have hf := xt hf c23
          exact J52 _ hf _ _ _ (lv_sub hl [0, 1, 2, 3] rfl) hW
        · have hf := xf hf c23
          refine lv_aload_n hx hb dX10_heavy_40 rfl (lv_at hl 0 rfl) ?_
          refine lv_iload_n hx hb dX10_heavy_41 rfl (lv_at hl 3 rfl) ?_
          obtain ⟨r19, S21, g20, hf⟩ := clS hf
          refine x_Vr (k := 0) (As := [.int v9]) (rest := []) E hC hW hl.1 (c_X10_isStanding v9 r19 S10 S21 g20) cv_X10_170 rfl (by decide) rfl rfl rfl ⟨Nat.le_of_ble_eq_true rfl, Nat.le_of_ble_eq_true rfl⟩ ⟨Nat.le_refl _, Nat.le_refl _⟩ (Nat.le_of_ble_eq_true rfl) dX10_heavy_42 (fun H locs hW => ?_)
          refine lv_if_eq (tgt := 52) hx hb dX10_heavy_45 (by decide) (fun c22 => ?_) (fun c22 => ?_)
          · have hf := xt hf c22
            exact J52 _ hf _ _ _ (lv_sub hl [0, 1, 2, 3] rfl) hW
          · have hf := xf hf c22
            refine lv_iload_n hx hb dX10_heavy_48 rfl (lv_at hl 3 rfl) ?_
            refine lv_goto (tgt := 53) hx hb dX10_heavy_49 (by decide) ?_
            exact J53 _ _ hf _ _ _ (lv_sub hl [0, 1, 3] rfl) hW
  · have hf := xt hf c25
    refine lv_bipush (v := (-2)) hx hb dX10_heavy_10 (by decide) ?_
    exact x_iretI E hC hW hr hlk hQ dX10_heavy_12 hf
set_option maxRecDepth 100000 in
set_option maxHeartbeats 4000000 in
theorem c_X10_queue {l : Launch} {D : va_G} {cy : Nat → ClassId} {L : Nat → Nat} {bA : Nat} (a1 : Int32) (r : Int32) (S : Sg)  (hf : f_X10_queue a1 S = some r) : MetX l D cy L shM 20 bA yX10_queue cX10_queue 3 (some .int) 1 24 [.ref (L 0), .int a1] (some (.int r)) S S := by
  refine x_met (own := RX10) (by decide) rfl (Nat.le_of_ble_eq_true rfl) ?_
  intro p e s m below meth c ls E hC hr hlk hl hW
  generalize hargs : ([.ref (L 0), .int a1] : List Value).toArray = args at E ⊢
  generalize hQ : MQ below (xQ D cy L shM 20 bA (some (.int r)) S) args s 0 0 (AL L 20) = Q
  have hl : lv_has ls 3 [(0, .ref (L 0)), (1, .int a1)] := hl
  have hx := E.1
  have hb := E.2.1
  have hts := E.2.2.2.2
  unfold f_X10_queue at hf
  refine lv_iconst (v := 0) hx hb dX10_queue_0 (by decide) ?_
  refine lv_istore_n (lv' := [(2, .int (0 : Int32)), (0, .ref (L 0)), (1, .int a1)]) hx hb dX10_queue_1 rfl hl (by decide) rfl (fun ls hl => ?_)
  refine wp1S (fun (v1 : Int32) => ∀ (H : Heap) (locs : List Loc) (ls : Array Slot), lv_has ls 3 [(0, .ref (L 0)), (1, .int a1), (2, .int v1)] → Wd D cy L shM 20 S s H locs → W p l e (rmk 1 24) s m args below meth c H locs 0 0 Q (F0 m 2 ls [])) ?_ hf _ _ _ (lv_sub hl [1, 2, 0] rfl) hW
  · intro self2 ih2 v1 hf H locs ls hl hW
    unfold X10_queue_L2 at hf
    refine lv_iload_n hx hb dX10_queue_2 rfl (lv_at hl 2 rfl) ?_
    refine lv_aload_n hx hb dX10_queue_3 rfl (lv_at hl 0 rfl) ?_
    refine x_geti (k := 0) E hC hW fl_X10_75 (by decide) rfl rfl dX10_queue_4 ?_
    refine lv_icmp_ge (tgt := 27) hx hb dX10_queue_7 (by decide) (fun c6 => ?_) (fun c6 => ?_)
    · have hf := xt hf c6
      refine lv_bipush (v := (-12)) hx hb dX10_queue_27 (by decide) ?_
      exact x_iretP E hC hW hr hlk hQ dX10_queue_29 hf
    · have hf := xf hf c6
      refine lv_aload_n hx hb dX10_queue_10 rfl (lv_at hl 0 rfl) ?_
      refine lv_iload_n hx hb dX10_queue_11 rfl (lv_at hl 2 rfl) ?_
      obtain ⟨r2, g3, hf⟩ := cl1S hf
      refine x_Vr (k := 0) (As := [.int v1]) (rest := []) E hC hW hl.1 (c_X10_ahead v1 r2 S g3) cv_X10_111 rfl (by decide) rfl rfl rfl ⟨Nat.le_of_ble_eq_true rfl, Nat.le_of_ble_eq_true rfl⟩ ⟨Nat.le_refl _, Nat.le_refl _⟩ (Nat.le_of_ble_eq_true rfl) dX10_queue_12 (fun H locs hW => ?_)
      refine lv_iload_n hx hb dX10_queue_15 rfl (lv_at hl 1 rfl) ?_
      refine lv_icmp_ne (tgt := 21) hx hb dX10_queue_16 (by decide) (fun c5 => ?_) (fun c5 => ?_)
      · have hf := xf hf c5
        obtain ⟨x4, ex4⟩ : ∃ z : Int32, z = (v1 + 1) := ⟨_, rfl⟩
        have hf := bvS hf ex4
        refine lv_iinc (v := x4) (lv' := [(2, .int x4), (0, .ref (L 0)), (1, .int a1)]) hx hb dX10_queue_21 hl (k := 2) rfl (by rw [ex4]; rfl) (by decide) rfl (fun ls hl => ?_)
        refine lv_goto (tgt := 2) hx hb dX10_queue_24 (by decide) ?_
        exact ih2 _ hf _ _ _ (lv_sub hl [1, 2, 0] rfl) hW
      · have hf := xt hf c5
        refine lv_iload_n hx hb dX10_queue_19 rfl (lv_at hl 2 rfl) ?_
        exact x_iretP E hC hW hr hlk hQ dX10_queue_20 hf
set_option maxRecDepth 100000 in
set_option maxHeartbeats 4000000 in
theorem c_X10_greedy {l : Launch} {D : va_G} {cy : Nat → ClassId} {L : Nat → Nat} {bA : Nat} (a1 : Int32) (r : Int32) (S S' : Sg)  (hf : f_X10_greedy a1 S = some (r, S')) : MetX l D cy L shM 20 bA yX10_greedy cX10_greedy 5 (some .int) 5 115 [.ref (L 0), .int a1] (some (.int r)) S S' := by
  refine x_met (own := RX10) (by decide) rfl (Nat.le_of_ble_eq_true rfl) ?_
  intro p e s m below meth c ls E hC hr hlk hl hW
  generalize hargs : ([.ref (L 0), .int a1] : List Value).toArray = args at E ⊢
  generalize hQ : MQ below (xQ D cy L shM 20 bA (some (.int r)) S') args s 0 0 (AL L 20) = Q
  have hl : lv_has ls 5 [(0, .ref (L 0)), (1, .int a1)] := hl
  have hx := E.1
  have hb := E.2.1
  have hts := E.2.2.2.2
  unfold f_X10_greedy at hf
  refine lv_iload_n hx hb dX10_greedy_0 rfl (lv_at hl 1 rfl) ?_
  refine lv_i2l hx hb dX10_greedy_1 rfl ?_
  refine lv_lconst (v := 0) hx hb dX10_greedy_2 (by decide) ?_
  refine lv_lconst (v := 1) hx hb dX10_greedy_3 (by decide) ?_
  obtain ⟨r1, g2, hf⟩ := cl1S hf
  refine x_Sr (As := [.long a1.toInt64, .long (0 : Int64), .long (1 : Int64)]) (rest := []) E hC hW hl.1 (c_X10_in a1.toInt64 (0 : Int64) (1 : Int64) r1 S g2) cs_X10_78 rfl rfl ⟨Nat.le_of_ble_eq_true rfl, Nat.le_of_ble_eq_true rfl⟩ ⟨Nat.le_refl _, Nat.le_refl _⟩ (Nat.le_of_ble_eq_true rfl) dX10_greedy_4 (fun H locs hW => ?_)
  refine lv_if_ne (tgt := 13) hx hb dX10_greedy_7 (by decide) (fun c21 => ?_) (fun c21 => ?_)
  · have hf := xf hf c21
    refine lv_iconst (v := 0) hx hb dX10_greedy_13 (by decide) ?_
    refine lv_istore_n (lv' := [(2, .int (0 : Int32)), (0, .ref (L 0)), (1, .int a1)]) hx hb dX10_greedy_14 rfl hl (by decide) rfl (fun ls hl => ?_)
    refine lv_iconst (v := 0) hx hb dX10_greedy_15 (by decide) ?_
    refine lv_istore_n (lv' := [(3, .int (0 : Int32)), (2, .int (0 : Int32)), (0, .ref (L 0)), (1, .int a1)]) hx hb dX10_greedy_16 rfl hl (by decide) rfl (fun ls hl => ?_)
    refine wp3K hf (fun (v8 : Int32) (v9 : Int32) (S10 : Sg) => ∀ (H : Heap) (locs : List Loc) (ls : Array Slot), lv_has ls 5 [(0, .ref (L 0)), (1, .int a1), (2, .int v8), (3, .int v9)] → Wd D cy L shM 20 S10 s H locs → W p l e (rmk 5 115) s m args below meth c H locs 0 0 Q (F0 m 17 ls [])) (fun (j : Int32 → Sg → Option (Int32 × Sg)) => ∀ (v3 : Int32) (S4 : Sg), (j v3 S4) = some (r, S') → ∀ (H : Heap) (locs : List Loc) (ls : Array Slot), lv_has ls 5 [(0, .ref (L 0)), (1, .int a1), (2, .int v3)] → Wd D cy L shM 20 S4 s H locs → W p l e (rmk 5 115) s m args below meth c H locs 0 0 Q (F0 m 58 ls [])) ?_ ?_ _ _ _ (lv_sub hl [2, 3, 1, 0] rfl) hW
    · intro v3 S4 hf H locs ls hl hW
      try dsimp only at hf
      refine lv_iload_n hx hb dX10_greedy_58 rfl (lv_at hl 1 rfl) ?_
      refine lv_if_ne (tgt := 66) hx hb dX10_greedy_59 (by decide) (fun c7 => ?_) (fun c7 => ?_)
      · have hf := xf hf c7
        refine lv_aload_n hx hb dX10_greedy_66 rfl (lv_at hl 0 rfl) ?_
        refine lv_iload_n hx hb dX10_greedy_67 rfl (lv_at hl 2 rfl) ?_
        obtain ⟨r5, g6, hf⟩ := cl1S hf
        refine x_Vr (k := 0) (As := [.int v3]) (rest := []) E hC hW hl.1 (c_X10_weights v3 r5 S4 g6) cv_X10_178 rfl (by decide) rfl rfl rfl ⟨Nat.le_of_ble_eq_true rfl, Nat.le_of_ble_eq_true rfl⟩ ⟨Nat.le_refl _, Nat.le_refl _⟩ (Nat.le_of_ble_eq_true rfl) dX10_greedy_68 (fun H locs hW => ?_)
        exact x_iretI E hC hW hr hlk hQ dX10_greedy_71 hf
      · have hf := xt hf c7
        refine lv_iload_n hx hb dX10_greedy_62 rfl (lv_at hl 2 rfl) ?_
        refine lv_goto (tgt := 71) hx hb dX10_greedy_63 (by decide) ?_
        exact x_iretI E hC hW hr hlk hQ dX10_greedy_71 hf
    · intro k58 K58 self17 ih17 v8 v9 S10 hf H locs ls hl hW
      unfold X10_greedy_L17 at hf
      refine lv_iload_n hx hb dX10_greedy_17 rfl (lv_at hl 3 rfl) ?_
      refine lv_aload_n hx hb dX10_greedy_18 rfl (lv_at hl 0 rfl) ?_
      refine x_geti (k := 0) E hC hW fl_X10_75 (by decide) rfl rfl dX10_greedy_19 ?_
      refine lv_icmp_ge (tgt := 58) hx hb dX10_greedy_22 (by decide) (fun c20 => ?_) (fun c20 => ?_)
      · have hf := xt hf c20
        exact K58 _ _ hf _ _ _ (lv_sub hl [0, 1, 2] rfl) hW
      · have hf := xf hf c20
        refine lv_iload_n hx hb dX10_greedy_25 rfl (lv_at hl 2 rfl) ?_
        refine lv_iconst (v := 1) hx hb dX10_greedy_26 (by decide) ?_
        refine lv_aload_n hx hb dX10_greedy_27 rfl (lv_at hl 0 rfl) ?_
        refine lv_iload_n hx hb dX10_greedy_28 rfl (lv_at hl 3 rfl) ?_
        obtain ⟨r11, g12, hf⟩ := cl1S hf
        refine x_Vr (k := 0) (As := [.int v9]) (rest := [.int (1 : Int32), .int v8]) E hC hW hl.1 (c_X10_queue v9 r11 S10 g12) cv_X10_181 rfl (by decide) rfl rfl rfl ⟨Nat.le_of_ble_eq_true rfl, Nat.le_of_ble_eq_true rfl⟩ ⟨Nat.le_refl _, Nat.le_refl _⟩ (Nat.le_of_ble_eq_true rfl) dX10_greedy_29 (fun H locs hW => ?_)
        refine lv_ishl hx hb dX10_greedy_32 ?_
        refine lv_ior hx hb dX10_greedy_33 ?_
        refine lv_topi (fun x13 ex13 => ?_)
        have hf := bvS hf ex13
        refine lv_istore (lv' := [(4, .int x13), (0, .ref (L 0)), (1, .int a1), (2, .int v8), (3, .int v9)]) hx hb dX10_greedy_34 hl (by decide) rfl (fun ls hl => ?_)
        refine lv_aload_n hx hb dX10_greedy_36 rfl (lv_at hl 1 rfl) ?_
        refine lv_iload hx hb dX10_greedy_37 (lv_at hl 0 rfl) ?_
        obtain ⟨r14, S16, g15, hf⟩ := clS hf
        refine x_Vr (k := 0) (As := [.int x13]) (rest := []) E hC hW hl.1 (c_X10_isStanding x13 r14 S10 S16 g15) cv_X10_170 rfl (by decide) rfl rfl rfl ⟨Nat.le_of_ble_eq_true rfl, Nat.le_of_ble_eq_true rfl⟩ ⟨Nat.le_refl _, Nat.le_refl _⟩ (Nat.le_of_ble_eq_true rfl) dX10_greedy_39 (fun H locs hW => ?_)
        refine jnS hf (fun (j : Int32 → Option (Int32 × Sg)) => ∀ (x17 : Int32), (j x17) = some (r, S') → ∀ (H : Heap) (locs : List Loc) (ls : Array Slot), lv_has ls 5 [(0, .ref (L 0)), (1, .int a1), (3, .int v9)] → Wd D cy L shM 20 S16 s H locs → W p l e (rmk 5 115) s m args below meth c H locs 0 0 Q (F0 m 51 ls [.int x17])) ?_ ?_
        · intro x17 hf H locs ls hl hW
          try dsimp only at hf
          refine lv_istore_n (lv' := [(2, .int x17), (0, .ref (L 0)), (1, .int a1), (3, .int v9)]) hx hb dX10_greedy_51 rfl hl (by decide) rfl (fun ls hl => ?_)
          obtain ⟨x18, ex18⟩ : ∃ z : Int32, z = (v9 + 1) := ⟨_, rfl⟩
          have hf := bvS hf ex18
          refine lv_iinc (v := x18) (lv' := [(3, .int x18), (2, .int x17), (0, .ref (L 0)), (1, .int a1)]) hx hb dX10_greedy_52 hl (k := 3) rfl (by rw [ex18]; rfl) (by decide) rfl (fun ls hl => ?_)
          refine lv_goto (tgt := 17) hx hb dX10_greedy_55 (by decide) ?_
          exact ih17 _ _ _ hf _ _ _ (lv_sub hl [2, 3, 1, 0] rfl) hW
        intro j51 J51 hf
        refine lv_if_eq (tgt := 50) hx hb dX10_greedy_42 (by decide) (fun c19 => ?_) (fun c19 => ?_)
        · have hf := xt hf c19
          refine lv_iload_n hx hb dX10_greedy_50 rfl (lv_at hl 3 rfl) ?_
          exact J51 _ hf _ _ _ (lv_sub hl [1, 2, 4] rfl) hW
        · have hf := xf hf c19
          refine lv_iload hx hb dX10_greedy_45 (lv_at hl 0 rfl) ?_
          refine lv_goto (tgt := 51) hx hb dX10_greedy_47 (by decide) ?_
          exact J51 _ hf _ _ _ (lv_sub hl [1, 2, 4] rfl) hW
  · have hf := xt hf c21
    refine lv_bipush (v := (-2)) hx hb dX10_greedy_10 (by decide) ?_
    exact x_iretI E hC hW hr hlk hQ dX10_greedy_12 hf
set_option maxRecDepth 100000 in
set_option maxHeartbeats 4000000 in
theorem c_X10_bettered {l : Launch} {D : va_G} {cy : Nat → ClassId} {L : Nat → Nat} {bA : Nat} (a1 : Int32) (r : Int32) (S S' : Sg)  (hf : f_X10_bettered a1 S = some (r, S')) : MetX l D cy L shM 20 bA yX10_bettered cX10_bettered 6 (some .int) 5 115 [.ref (L 0), .int a1] (some (.int r)) S S' := by
  refine x_met (own := RX10) (by decide) rfl (Nat.le_of_ble_eq_true rfl) ?_
  intro p e s m below meth c ls E hC hr hlk hl hW
  generalize hargs : ([.ref (L 0), .int a1] : List Value).toArray = args at E ⊢
  generalize hQ : MQ below (xQ D cy L shM 20 bA (some (.int r)) S') args s 0 0 (AL L 20) = Q
  have hl : lv_has ls 6 [(0, .ref (L 0)), (1, .int a1)] := hl
  have hx := E.1
  have hb := E.2.1
  have hts := E.2.2.2.2
  unfold f_X10_bettered at hf
  refine lv_iconst (v := 0) hx hb dX10_bettered_0 (by decide) ?_
  refine lv_istore_n (lv' := [(2, .int (0 : Int32)), (0, .ref (L 0)), (1, .int a1)]) hx hb dX10_bettered_1 rfl hl (by decide) rfl (fun ls hl => ?_)
  refine wp2K hf (fun (v32 : Int32) (S33 : Sg) => ∀ (H : Heap) (locs : List Loc) (ls : Array Slot), lv_has ls 6 [(0, .ref (L 0)), (1, .int a1), (2, .int v32)] → Wd D cy L shM 20 S33 s H locs → W p l e (rmk 5 115) s m args below meth c H locs 0 0 Q (F0 m 2 ls [])) (fun (j : Sg → Option (Int32 × Sg)) => ∀ (S1 : Sg), (j S1) = some (r, S') → ∀ (H : Heap) (locs : List Loc) (ls : Array Slot), lv_has ls 6 [(0, .ref (L 0)), (1, .int a1)] → Wd D cy L shM 20 S1 s H locs → W p l e (rmk 5 115) s m args below meth c H locs 0 0 Q (F0 m 42 ls [])) ?_ ?_ _ _ _ (lv_sub hl [1, 2, 0] rfl) hW
  · intro S1 hf H locs ls hl hW
    try dsimp only at hf
    refine lv_iconst (v := 0) hx hb dX10_bettered_42 (by decide) ?_
    refine lv_istore_n (lv' := [(2, .int (0 : Int32)), (0, .ref (L 0)), (1, .int a1)]) hx hb dX10_bettered_43 rfl hl (by decide) rfl (fun ls hl => ?_)
    refine wp2S (fun (v2 : Int32) (S3 : Sg) => ∀ (H : Heap) (locs : List Loc) (ls : Array Slot), lv_has ls 6 [(0, .ref (L 0)), (1, .int a1), (2, .int v2)] → Wd D cy L shM 20 S3 s H locs → W p l e (rmk 5 115) s m args below meth c H locs 0 0 Q (F0 m 44 ls [])) ?_ hf _ _ _ (lv_sub hl [1, 2, 0] rfl) hW
    · intro self44 ih44 v2 S3 hf H locs ls hl hW
      unfold X10_bettered_L44 at hf
      refine lv_iload_n hx hb dX10_bettered_44 rfl (lv_at hl 2 rfl) ?_
      refine lv_aload_n hx hb dX10_bettered_45 rfl (lv_at hl 0 rfl) ?_
      refine x_geti (k := 0) E hC hW fl_X10_75 (by decide) rfl rfl dX10_bettered_46 ?_
      refine lv_icmp_ge (tgt := 149) hx hb dX10_bettered_49 (by decide) (fun c31 => ?_) (fun c31 => ?_)
      · have hf := xt hf c31
        refine lv_iload_n hx hb dX10_bettered_149 rfl (lv_at hl 1 rfl) ?_
        exact x_iretI E hC hW hr hlk hQ dX10_bettered_150 hf
      · have hf := xf hf c31
        refine lv_iconst (v := 0) hx hb dX10_bettered_52 (by decide) ?_
        refine lv_istore_n (lv' := [(3, .int (0 : Int32)), (0, .ref (L 0)), (1, .int a1), (2, .int v2)]) hx hb dX10_bettered_53 rfl hl (by decide) rfl (fun ls hl => ?_)
        refine wp2K hf (fun (v6 : Int32) (S7 : Sg) => ∀ (H : Heap) (locs : List Loc) (ls : Array Slot), lv_has ls 6 [(0, .ref (L 0)), (1, .int a1), (2, .int v2), (3, .int v6)] → Wd D cy L shM 20 S7 s H locs → W p l e (rmk 5 115) s m args below meth c H locs 0 0 Q (F0 m 54 ls [])) (fun (j : Sg → Option (Int32 × Sg)) => ∀ (S4 : Sg), (j S4) = some (r, S') → ∀ (H : Heap) (locs : List Loc) (ls : Array Slot), lv_has ls 6 [(0, .ref (L 0)), (1, .int a1), (2, .int v2)] → Wd D cy L shM 20 S4 s H locs → W p l e (rmk 5 115) s m args below meth c H locs 0 0 Q (F0 m 143 ls [])) ?_ ?_ _ _ _ (lv_sub hl [1, 2, 3, 0] rfl) hW
        · intro S4 hf H locs ls hl hW
          try dsimp only at hf
          obtain ⟨x5, ex5⟩ : ∃ z : Int32, z = (v2 + 1) := ⟨_, rfl⟩
          have hf := bvS hf ex5
          refine lv_iinc (v := x5) (lv' := [(2, .int x5), (0, .ref (L 0)), (1, .int a1)]) hx hb dX10_bettered_143 hl (k := 2) rfl (by rw [ex5]; rfl) (by decide) rfl (fun ls hl => ?_)
          refine lv_goto (tgt := 44) hx hb dX10_bettered_146 (by decide) ?_
          exact ih44 _ _ hf _ _ _ (lv_sub hl [1, 2, 0] rfl) hW
        · intro k143 K143 self54 ih54 v6 S7 hf H locs ls hl hW
          unfold X10_bettered_L54 at hf
          refine lv_iload_n hx hb dX10_bettered_54 rfl (lv_at hl 3 rfl) ?_
          refine lv_aload_n hx hb dX10_bettered_55 rfl (lv_at hl 0 rfl) ?_
          refine x_geti (k := 0) E hC hW fl_X10_75 (by decide) rfl rfl dX10_bettered_56 ?_
          refine lv_icmp_ge (tgt := 143) hx hb dX10_bettered_59 (by decide) (fun c30 => ?_) (fun c30 => ?_)
          · have hf := xt hf c30
            exact K143 _ hf _ _ _ (lv_sub hl [0, 1, 2] rfl) hW
          · have hf := xf hf c30
            refine lv_iload_n hx hb dX10_bettered_62 rfl (lv_at hl 1 rfl) ?_
            refine lv_iload_n hx hb dX10_bettered_63 rfl (lv_at hl 2 rfl) ?_
            obtain ⟨r8, g9, hf⟩ := cl1S hf
            refine x_Sr (As := [.int a1, .int v2]) (rest := []) E hC hW hl.1 (c_X10_has a1 v2 r8 S7 g9) cs_X10_149 rfl rfl ⟨Nat.le_of_ble_eq_true rfl, Nat.le_of_ble_eq_true rfl⟩ ⟨Nat.le_refl _, Nat.le_refl _⟩ (Nat.le_of_ble_eq_true rfl) dX10_bettered_64 (fun H locs hW => ?_)
            refine lv_if_eq (tgt := 143) hx hb dX10_bettered_67 (by decide) (fun c29 => ?_) (fun c29 => ?_)
            · have hf := xt hf c29
              exact K143 _ hf _ _ _ (lv_sub hl [0, 1, 2] rfl) hW
            · have hf := xf hf c29
              refine lv_iload_n hx hb dX10_bettered_70 rfl (lv_at hl 3 rfl) ?_
              refine lv_iconst (v := 1) hx hb dX10_bettered_71 (by decide) ?_
              refine lv_iadd hx hb dX10_bettered_72 ?_
              refine lv_topi (fun x10 ex10 => ?_)
              have hf := bvS hf ex10
              refine lv_istore (lv' := [(4, .int x10), (0, .ref (L 0)), (1, .int a1), (2, .int v2), (3, .int v6)]) hx hb dX10_bettered_73 hl (by decide) rfl (fun ls hl => ?_)
              refine wp2K hf (fun (v13 : Int32) (S14 : Sg) => ∀ (H : Heap) (locs : List Loc) (ls : Array Slot), lv_has ls 6 [(0, .ref (L 0)), (1, .int a1), (2, .int v2), (3, .int v6), (4, .int v13)] → Wd D cy L shM 20 S14 s H locs → W p l e (rmk 5 115) s m args below meth c H locs 0 0 Q (F0 m 75 ls [])) (fun (j : Sg → Option (Int32 × Sg)) => ∀ (S11 : Sg), (j S11) = some (r, S') → ∀ (H : Heap) (locs : List Loc) (ls : Array Slot), lv_has ls 6 [(0, .ref (L 0)), (1, .int a1), (2, .int v2), (3, .int v6)] → Wd D cy L shM 20 S11 s H locs → W p l e (rmk 5 115) s m args below meth c H locs 0 0 Q (F0 m 137 ls [])) ?_ ?_ _ _ _ (lv_sub hl [1, 2, 3, 4, 0] rfl) hW
              · intro S11 hf H locs ls hl hW
                try dsimp only at hf
                obtain ⟨x12, ex12⟩ : ∃ z : Int32, z = (v6 + 1) := ⟨_, rfl⟩
                have hf := bvS hf ex12
                refine lv_iinc (v := x12) (lv' := [(3, .int x12), (0, .ref (L 0)), (1, .int a1), (2, .int v2)]) hx hb dX10_bettered_137 hl (k := 3) rfl (by rw [ex12]; rfl) (by decide) rfl (fun ls hl => ?_)
                refine lv_goto (tgt := 54) hx hb dX10_bettered_140 (by decide) ?_
                exact ih54 _ _ hf _ _ _ (lv_sub hl [1, 2, 3, 0] rfl) hW
              · intro k137 K137 self75 ih75 v13 S14 hf H locs ls hl hW
                unfold X10_bettered_L75 at hf
                refine lv_iload hx hb dX10_bettered_75 (lv_at hl 4 rfl) ?_
                refine lv_aload_n hx hb dX10_bettered_77 rfl (lv_at hl 0 rfl) ?_
                refine x_geti (k := 0) E hC hW fl_X10_75 (by decide) rfl rfl dX10_bettered_78 ?_
                refine lv_icmp_ge (tgt := 137) hx hb dX10_bettered_81 (by decide) (fun c28 => ?_) (fun c28 => ?_)
                · have hf := xt hf c28
                  exact K137 _ hf _ _ _ (lv_sub hl [0, 1, 2, 3] rfl) hW
                · have hf := xf hf c28
                  refine lv_iload_n hx hb dX10_bettered_84 rfl (lv_at hl 1 rfl) ?_
                  refine lv_iload_n hx hb dX10_bettered_85 rfl (lv_at hl 3 rfl) ?_
                  obtain ⟨r15, g16, hf⟩ := cl1S hf
                  refine x_Sr (As := [.int a1, .int v6]) (rest := []) E hC hW hl.1 (c_X10_has a1 v6 r15 S14 g16) cs_X10_149 rfl rfl ⟨Nat.le_of_ble_eq_true rfl, Nat.le_of_ble_eq_true rfl⟩ ⟨Nat.le_refl _, Nat.le_refl _⟩ (Nat.le_of_ble_eq_true rfl) dX10_bettered_86 (fun H locs hW => ?_)
                  refine lv_if_ne (tgt := 137) hx hb dX10_bettered_89 (by decide) (fun c27 => ?_) (fun c27 => ?_)
                  · have hf := xf hf c27
                    exact K137 _ hf _ _ _ (lv_sub hl [0, 1, 2, 3] rfl) hW
                  · have hf := xt hf c27
                    refine lv_iload_n hx hb dX10_bettered_92 rfl (lv_at hl 1 rfl) ?_
                    refine lv_iconst (v := 1) hx hb dX10_bettered_93 (by decide) ?_
                    refine lv_iload_n hx hb dX10_bettered_94 rfl (lv_at hl 2 rfl) ?_
                    refine lv_ishl hx hb dX10_bettered_95 ?_
                    refine lv_iconst (v := (-1)) hx hb dX10_bettered_96 (by decide) ?_
                    refine lv_ixor hx hb dX10_bettered_97 ?_
                    refine lv_iand hx hb dX10_bettered_98 ?_
                    refine lv_iconst (v := 1) hx hb dX10_bettered_99 (by decide) ?_
                    refine lv_iload_n hx hb dX10_bettered_100 rfl (lv_at hl 3 rfl) ?_
                    refine lv_ishl hx hb dX10_bettered_101 ?_
                    refine lv_ior hx hb dX10_bettered_102 ?_
                    refine lv_iconst (v := 1) hx hb dX10_bettered_103 (by decide) ?_
                    refine lv_iload hx hb dX10_bettered_104 (lv_at hl 4 rfl) ?_
                    refine lv_ishl hx hb dX10_bettered_106 ?_
                    refine lv_ior hx hb dX10_bettered_107 ?_
                    refine lv_topi (fun x17 ex17 => ?_)
                    have hf := bvS hf ex17
                    refine lv_istore (lv' := [(5, .int x17), (0, .ref (L 0)), (1, .int a1), (2, .int v2), (3, .int v6), (4, .int v13)]) hx hb dX10_bettered_108 hl (by decide) rfl (fun ls hl => ?_)
                    refine lv_iload_n hx hb dX10_bettered_110 rfl (lv_at hl 2 rfl) ?_
                    refine lv_iload hx hb dX10_bettered_111 (lv_at hl 5 rfl) ?_
                    obtain ⟨r18, g19, hf⟩ := cl1S hf
                    refine x_Sr (As := [.int a1, .int v13]) (rest := []) E hC hW hl.1 (c_X10_has a1 v13 r18 S14 g19) cs_X10_149 rfl rfl ⟨Nat.le_of_ble_eq_true rfl, Nat.le_of_ble_eq_true rfl⟩ ⟨Nat.le_refl _, Nat.le_refl _⟩ (Nat.le_of_ble_eq_true rfl) dX10_bettered_113 (fun H locs hW => ?_)
                    refine jnS hf (fun (j : Sg → Option (Int32 × Sg)) => ∀ (S20 : Sg), (j S20) = some (r, S') → ∀ (H : Heap) (locs : List Loc) (ls : Array Slot), lv_has ls 6 [(0, .ref (L 0)), (1, .int a1), (2, .int v2), (3, .int v6), (4, .int v13)] → Wd D cy L shM 20 S20 s H locs → W p l e (rmk 5 115) s m args below meth c H locs 0 0 Q (F0 m 131 ls [])) ?_ ?_
                    · intro S20 hf H locs ls hl hW
                      try dsimp only at hf
                      obtain ⟨x21, ex21⟩ : ∃ z : Int32, z = (v13 + 1) := ⟨_, rfl⟩
                      have hf := bvS hf ex21
                      refine lv_iinc (v := x21) (lv' := [(4, .int x21), (0, .ref (L 0)), (1, .int a1), (2, .int v2), (3, .int v6)]) hx hb dX10_bettered_131 hl (k := 4) rfl (by rw [ex21]; rfl) (by decide) rfl (fun ls hl => ?_)
                      refine lv_goto (tgt := 75) hx hb dX10_bettered_134 (by decide) ?_
                      exact ih75 _ _ hf _ _ _ (lv_sub hl [1, 2, 3, 4, 0] rfl) hW
                    intro j131 J131 hf
                    refine lv_if_ne (tgt := 131) hx hb dX10_bettered_116 (by decide) (fun c26 => ?_) (fun c26 => ?_)
                    · have hf := xf hf c26
                      exact J131 _ hf _ _ _ (lv_sub hl [1, 2, 3, 4, 5] rfl) hW
                    · have hf := xt hf c26
                      refine lv_aload_n hx hb dX10_bettered_119 rfl (lv_at hl 1 rfl) ?_
                      refine lv_iload hx hb dX10_bettered_120 (lv_at hl 0 rfl) ?_
                      obtain ⟨r22, S24, g23, hf⟩ := clS hf
                      refine x_Vr (k := 0) (As := [.int x17]) (rest := []) E hC hW hl.1 (c_X10_isStanding x17 r22 S14 S24 g23) cv_X10_170 rfl (by decide) rfl rfl rfl ⟨Nat.le_of_ble_eq_true rfl, Nat.le_of_ble_eq_true rfl⟩ ⟨Nat.le_refl _, Nat.le_refl _⟩ (Nat.le_of_ble_eq_true rfl) dX10_bettered_122 (fun H locs hW => ?_)
                      refine lv_if_eq (tgt := 131) hx hb dX10_bettered_125 (by decide) (fun c25 => ?_) (fun c25 => ?_)
                      · have hf := xt hf c25
                        exact J131 _ hf _ _ _ (lv_sub hl [1, 2, 3, 4, 5] rfl) hW
                      · have hf := xf hf c25
                        refine lv_iload hx hb dX10_bettered_128 (lv_at hl 0 rfl) ?_
                        exact x_iretI E hC hW hr hlk hQ dX10_bettered_130 hf
  · intro k42 K42 self2 ih2 v32 S33 hf H locs ls hl hW
    unfold X10_bettered_L2 at hf
    refine lv_iload_n hx hb dX10_bettered_2 rfl (lv_at hl 2 rfl) ?_
    refine lv_aload_n hx hb dX10_bettered_3 rfl (lv_at hl 0 rfl) ?_
    refine x_geti (k := 0) E hC hW fl_X10_75 (by decide) rfl rfl dX10_bettered_4 ?_
    refine lv_icmp_ge (tgt := 42) hx hb dX10_bettered_7 (by decide) (fun c43 => ?_) (fun c43 => ?_)
    · have hf := xt hf c43
      exact K42 _ hf _ _ _ (lv_sub hl [0, 1] rfl) hW
    · have hf := xf hf c43
      refine lv_iload_n hx hb dX10_bettered_10 rfl (lv_at hl 1 rfl) ?_
      refine lv_iload_n hx hb dX10_bettered_11 rfl (lv_at hl 2 rfl) ?_
      obtain ⟨r34, g35, hf⟩ := cl1S hf
      refine x_Sr (As := [.int a1, .int v32]) (rest := []) E hC hW hl.1 (c_X10_has a1 v32 r34 S33 g35) cs_X10_149 rfl rfl ⟨Nat.le_of_ble_eq_true rfl, Nat.le_of_ble_eq_true rfl⟩ ⟨Nat.le_refl _, Nat.le_refl _⟩ (Nat.le_of_ble_eq_true rfl) dX10_bettered_12 (fun H locs hW => ?_)
      refine jnS hf (fun (j : Sg → Option (Int32 × Sg)) => ∀ (S36 : Sg), (j S36) = some (r, S') → ∀ (H : Heap) (locs : List Loc) (ls : Array Slot), lv_has ls 6 [(0, .ref (L 0)), (1, .int a1), (2, .int v32)] → Wd D cy L shM 20 S36 s H locs → W p l e (rmk 5 115) s m args below meth c H locs 0 0 Q (F0 m 36 ls [])) ?_ ?_
      · intro S36 hf H locs ls hl hW
        try dsimp only at hf
        obtain ⟨x37, ex37⟩ : ∃ z : Int32, z = (v32 + 1) := ⟨_, rfl⟩
        have hf := bvS hf ex37
        refine lv_iinc (v := x37) (lv' := [(2, .int x37), (0, .ref (L 0)), (1, .int a1)]) hx hb dX10_bettered_36 hl (k := 2) rfl (by rw [ex37]; rfl) (by decide) rfl (fun ls hl => ?_)
        refine lv_goto (tgt := 2) hx hb dX10_bettered_39 (by decide) ?_
        exact ih2 _ _ hf _ _ _ (lv_sub hl [1, 2, 0] rfl) hW
      intro j36 J36 hf
      refine lv_if_ne (tgt := 36) hx hb dX10_bettered_15 (by decide) (fun c42 => ?_) (fun c42 => ?_)
      · have hf := xf hf c42
        exact J36 _ hf _ _ _ (lv_sub hl [0, 1, 2] rfl) hW
      · have hf := xt hf c42
        refine lv_aload_n hx hb dX10_bettered_18 rfl (lv_at hl 0 rfl) ?_
        refine lv_iload_n hx hb dX10_bettered_19 rfl (lv_at hl 1 rfl) ?_
        refine lv_iconst (v := 1) hx hb dX10_bettered_20 (by decide) ?_
        refine lv_iload_n hx hb dX10_bettered_21 rfl (lv_at hl 2 rfl) ?_
        refine lv_ishl hx hb dX10_bettered_22 ?_
        refine lv_ior hx hb dX10_bettered_23 ?_
        obtain ⟨r38, S40, g39, hf⟩ := clS hf
        refine x_Vr (k := 0) (As := [.int (a1 ||| ((1 : Int32) <<< (v32 &&& 31)))]) (rest := []) E hC hW hl.1 (c_X10_isStanding (a1 ||| ((1 : Int32) <<< (v32 &&& 31))) r38 S33 S40 g39) cv_X10_170 rfl (by decide) rfl rfl rfl ⟨Nat.le_of_ble_eq_true rfl, Nat.le_of_ble_eq_true rfl⟩ ⟨Nat.le_refl _, Nat.le_refl _⟩ (Nat.le_of_ble_eq_true rfl) dX10_bettered_24 (fun H locs hW => ?_)
        refine lv_if_eq (tgt := 36) hx hb dX10_bettered_27 (by decide) (fun c41 => ?_) (fun c41 => ?_)
        · have hf := xt hf c41
          exact J36 _ hf _ _ _ (lv_sub hl [0, 1, 2] rfl) hW
        · have hf := xf hf c41
          refine lv_iload_n hx hb dX10_bettered_30 rfl (lv_at hl 1 rfl) ?_
          refine lv_iconst (v := 1) hx hb dX10_bettered_31 (by decide) ?_
          refine lv_iload_n hx hb dX10_bettered_32 rfl (lv_at hl 2 rfl) ?_
          refine lv_ishl hx hb dX10_bettered_33 ?_
          refine lv_ior hx hb dX10_bettered_34 ?_
          exact x_iretI E hC hW hr hlk hQ dX10_bettered_35 hf
set_option maxRecDepth 100000 in
set_option maxHeartbeats 4000000 in
theorem c_X10_better {l : Launch} {D : va_G} {cy : Nat → ClassId} {L : Nat → Nat} {bA : Nat} (a1 : Int32) (r : Int32) (S S' : Sg)  (hf : f_X10_better a1 S = some (r, S')) : MetX l D cy L shM 20 bA yX10_better cX10_better 4 (some .int) 6 140 [.ref (L 0), .int a1] (some (.int r)) S S' := by
  refine x_met (own := RX10) (by decide) rfl (Nat.le_of_ble_eq_true rfl) ?_
  intro p e s m below meth c ls E hC hr hlk hl hW
  generalize hargs : ([.ref (L 0), .int a1] : List Value).toArray = args at E ⊢
  generalize hQ : MQ below (xQ D cy L shM 20 bA (some (.int r)) S') args s 0 0 (AL L 20) = Q
  have hl : lv_has ls 4 [(0, .ref (L 0)), (1, .int a1)] := hl
  have hx := E.1
  have hb := E.2.1
  have hts := E.2.2.2.2
  unfold f_X10_better at hf
  refine lv_aload_n hx hb dX10_better_0 rfl (lv_at hl 0 rfl) ?_
  refine lv_iload_n hx hb dX10_better_1 rfl (lv_at hl 1 rfl) ?_
  obtain ⟨r1, g2, hf⟩ := cl1S hf
  refine x_Vr (k := 0) (As := [.int a1]) (rest := []) E hC hW hl.1 (c_X10_isSet a1 r1 S g2) cv_X10_167 rfl (by decide) rfl rfl rfl ⟨Nat.le_of_ble_eq_true rfl, Nat.le_of_ble_eq_true rfl⟩ ⟨Nat.le_refl _, Nat.le_refl _⟩ (Nat.le_of_ble_eq_true rfl) dX10_better_2 (fun H locs hW => ?_)
  refine lv_if_ne (tgt := 11) hx hb dX10_better_5 (by decide) (fun c14 => ?_) (fun c14 => ?_)
  · have hf := xf hf c14
    refine lv_aload_n hx hb dX10_better_11 rfl (lv_at hl 0 rfl) ?_
    refine lv_iload_n hx hb dX10_better_12 rfl (lv_at hl 1 rfl) ?_
    obtain ⟨r3, S5, g4, hf⟩ := clS hf
    refine x_Vr (k := 0) (As := [.int a1]) (rest := []) E hC hW hl.1 (c_X10_isStanding a1 r3 S S5 g4) cv_X10_170 rfl (by decide) rfl rfl rfl ⟨Nat.le_of_ble_eq_true rfl, Nat.le_of_ble_eq_true rfl⟩ ⟨Nat.le_refl _, Nat.le_refl _⟩ (Nat.le_of_ble_eq_true rfl) dX10_better_13 (fun H locs hW => ?_)
    refine lv_if_ne (tgt := 22) hx hb dX10_better_16 (by decide) (fun c13 => ?_) (fun c13 => ?_)
    · have hf := xf hf c13
      refine lv_iconst (v := (-1)) hx hb dX10_better_22 (by decide) ?_
      refine lv_istore_n (lv' := [(2, .int (-1 : Int32)), (0, .ref (L 0)), (1, .int a1)]) hx hb dX10_better_23 rfl hl (by decide) rfl (fun ls hl => ?_)
      refine lv_iload_n hx hb dX10_better_24 rfl (lv_at hl 2 rfl) ?_
      refine lv_istore_n (lv' := [(3, .int a1), (2, .int (-1 : Int32)), (0, .ref (L 0)), (1, .int a1)]) hx hb dX10_better_25 rfl hl (by decide) rfl (fun ls hl => ?_)
      refine wp3S (fun (v6 : Int32) (v7 : Int32) (S8 : Sg) => ∀ (H : Heap) (locs : List Loc) (ls : Array Slot), lv_has ls 4 [(0, .ref (L 0)), (2, .int v6), (3, .int v7)] → Wd D cy L shM 20 S8 s H locs → W p l e (rmk 6 140) s m args below meth c H locs 0 0 Q (F0 m 26 ls [])) ?_ hf _ _ _ (lv_sub hl [2, 1, 0] rfl) hW
      · intro self26 ih26 v6 v7 S8 hf H locs ls hl hW
        unfold X10_better_L26 at hf
        refine lv_iload_n hx hb dX10_better_26 rfl (lv_at hl 1 rfl) ?_
        refine lv_iload_n hx hb dX10_better_27 rfl (lv_at hl 2 rfl) ?_
        refine lv_icmp_eq (tgt := 42) hx hb dX10_better_28 (by decide) (fun c12 => ?_) (fun c12 => ?_)
        · have hf := xt hf c12
          refine lv_iload_n hx hb dX10_better_42 rfl (lv_at hl 2 rfl) ?_
          exact x_iretI E hC hW hr hlk hQ dX10_better_43 hf
        · have hf := xf hf c12
          refine lv_iload_n hx hb dX10_better_31 rfl (lv_at hl 2 rfl) ?_
          refine lv_istore_n (lv' := [(2, .int v7), (0, .ref (L 0)), (3, .int v7)]) hx hb dX10_better_32 rfl hl (by decide) rfl (fun ls hl => ?_)
          refine lv_aload_n hx hb dX10_better_33 rfl (lv_at hl 1 rfl) ?_
          refine lv_iload_n hx hb dX10_better_34 rfl (lv_at hl 2 rfl) ?_
          obtain ⟨r9, S11, g10, hf⟩ := clS hf
          refine x_Vr (k := 0) (As := [.int v7]) (rest := []) E hC hW hl.1 (c_X10_bettered v7 r9 S8 S11 g10) cv_X10_184 rfl (by decide) rfl rfl rfl ⟨Nat.le_of_ble_eq_true rfl, Nat.le_of_ble_eq_true rfl⟩ ⟨Nat.le_refl _, Nat.le_refl _⟩ (Nat.le_of_ble_eq_true rfl) dX10_better_35 (fun H locs hW => ?_)
          refine lv_istore_n (lv' := [(3, .int r9), (2, .int v7), (0, .ref (L 0))]) hx hb dX10_better_38 rfl hl (by decide) rfl (fun ls hl => ?_)
          refine lv_goto (tgt := 26) hx hb dX10_better_39 (by decide) ?_
          exact ih26 _ _ _ hf _ _ _ (lv_sub hl [2, 1, 0] rfl) hW
    · have hf := xt hf c13
      refine lv_bipush (v := (-3)) hx hb dX10_better_19 (by decide) ?_
      exact x_iretI E hC hW hr hlk hQ dX10_better_21 hf
  · have hf := xt hf c14
    refine lv_bipush (v := (-2)) hx hb dX10_better_8 (by decide) ?_
    exact x_iretI E hC hW hr hlk hQ dX10_better_10 hf
set_option maxRecDepth 100000 in
set_option maxHeartbeats 4000000 in
theorem c_X10_isSheet {l : Launch} {D : va_G} {cy : Nat → ClassId} {L : Nat → Nat} {bA : Nat} (a0 : Int32) (r : Int32) (S : Sg)  (hf : f_X10_isSheet a0 = some r) : MetX l D cy L shM 20 bA yX10_isSheet cX10_isSheet 1 (some .boolean) 1 25 [.int a0] (some (.int r)) S S := by
  refine x_met (own := RX10) (by decide) rfl (Nat.le_of_ble_eq_true rfl) ?_
  intro p e s m below meth c ls E hC hr hlk hl hW
  generalize hargs : ([.int a0] : List Value).toArray = args at E ⊢
  generalize hQ : MQ below (xQ D cy L shM 20 bA (some (.int r)) S) args s 0 0 (AL L 20) = Q
  have hl : lv_has ls 1 [(0, .int a0)] := hl
  have hx := E.1
  have hb := E.2.1
  have hts := E.2.2.2.2
  unfold f_X10_isSheet at hf
  refine lv_iload_n hx hb dX10_isSheet_0 rfl (lv_at hl 0 rfl) ?_
  refine lv_i2l hx hb dX10_isSheet_1 rfl ?_
  refine lv_lconst (v := 0) hx hb dX10_isSheet_2 (by decide) ?_
  refine lv_ldc2 hx hb E.2.2.2.1 (hts _ ww_1070) dX10_isSheet_3 ?_
  obtain ⟨r1, g2, hf⟩ := cl1S hf
  refine x_Sr (As := [.long a0.toInt64, .long (0 : Int64), .long (3 : Int64)]) (rest := []) E hC hW hl.1 (c_X10_in a0.toInt64 (0 : Int64) (3 : Int64) r1 S g2) cs_X10_78 rfl rfl ⟨Nat.le_of_ble_eq_true rfl, Nat.le_of_ble_eq_true rfl⟩ ⟨Nat.le_refl _, Nat.le_refl _⟩ (Nat.le_of_ble_eq_true rfl) dX10_isSheet_6 (fun H locs hW => ?_)
  obtain ⟨hg, hf⟩ := gdS hf
  exact x_zretP E hC hW hr hlk hQ hg dX10_isSheet_9 hf
set_option maxRecDepth 100000 in
set_option maxHeartbeats 4000000 in
theorem c_X10_tells {l : Launch} {D : va_G} {cy : Nat → ClassId} {L : Nat → Nat} {bA : Nat} (a1 : Int32) (r : Int32) (S S' : Sg)  (hf : f_X10_tells a1 S = some (r, S')) : MetX l D cy L shM 20 bA yX10_tells cX10_tells 3 (some .int) 2 45 [.ref (L 0), .int a1] (some (.int r)) S S' := by
  refine x_met (own := RX10) (by decide) rfl (Nat.le_of_ble_eq_true rfl) ?_
  intro p e s m below meth c ls E hC hr hlk hl hW
  generalize hargs : ([.ref (L 0), .int a1] : List Value).toArray = args at E ⊢
  generalize hQ : MQ below (xQ D cy L shM 20 bA (some (.int r)) S') args s 0 0 (AL L 20) = Q
  have hl : lv_has ls 3 [(0, .ref (L 0)), (1, .int a1)] := hl
  have hx := E.1
  have hb := E.2.1
  have hts := E.2.2.2.2
  unfold f_X10_tells at hf
  refine lv_iload_n hx hb dX10_tells_0 rfl (lv_at hl 1 rfl) ?_
  obtain ⟨r1, g2, hf⟩ := cl1S hf
  refine x_Sr (As := [.int a1]) (rest := []) E hC hW hl.1 (c_X10_isSheet a1 r1 S g2) cs_X10_187 rfl rfl ⟨Nat.le_of_ble_eq_true rfl, Nat.le_of_ble_eq_true rfl⟩ ⟨Nat.le_refl _, Nat.le_refl _⟩ (Nat.le_of_ble_eq_true rfl) dX10_tells_1 (fun H locs hW => ?_)
  refine lv_if_ne (tgt := 10) hx hb dX10_tells_4 (by decide) (fun c15 => ?_) (fun c15 => ?_)
  · have hf := xf hf c15
    refine lv_aload_n hx hb dX10_tells_10 rfl (lv_at hl 0 rfl) ?_
    refine x_getr (k := 0) (k' := 15) E hC hW fl_X10_60 (by decide) rfl rfl dX10_tells_11 ?_
    refine lv_iload_n hx hb dX10_tells_14 rfl (lv_at hl 1 rfl) ?_
    obtain ⟨hg3, hf⟩ := gdS hf
    refine x_iald (k := 15) E hC hW (by decide) rfl (inbS hg3) dX10_tells_15 ?_
    refine lv_if_ge (tgt := 22) hx hb dX10_tells_16 (by decide) (fun c14 => ?_) (fun c14 => ?_)
    · have hf := xt hf c14
      refine lv_iconst (v := 0) hx hb dX10_tells_22 (by decide) ?_
      refine lv_istore_n (lv' := [(2, .int (0 : Int32)), (0, .ref (L 0)), (1, .int a1)]) hx hb dX10_tells_23 rfl hl (by decide) rfl (fun ls hl => ?_)
      refine wp2S (fun (v4 : Int32) (S5 : Sg) => ∀ (H : Heap) (locs : List Loc) (ls : Array Slot), lv_has ls 3 [(0, .ref (L 0)), (1, .int a1), (2, .int v4)] → Wd D cy L shM 20 S5 s H locs → W p l e (rmk 2 45) s m args below meth c H locs 0 0 Q (F0 m 24 ls [])) ?_ hf _ _ _ (lv_sub hl [1, 2, 0] rfl) hW
      · intro self24 ih24 v4 S5 hf H locs ls hl hW
        unfold X10_tells_L24 at hf
        refine lv_iload_n hx hb dX10_tells_24 rfl (lv_at hl 2 rfl) ?_
        refine lv_bipush (v := 10) hx hb dX10_tells_25 (by decide) ?_
        refine lv_icmp_ge (tgt := 67) hx hb dX10_tells_27 (by decide) (fun c13 => ?_) (fun c13 => ?_)
        · have hf := xt hf c13
          refine lv_iconst (v := 0) hx hb dX10_tells_67 (by decide) ?_
          exact x_iretI E hC hW hr hlk hQ dX10_tells_68 hf
        · have hf := xf hf c13
          refine lv_aload_n hx hb dX10_tells_30 rfl (lv_at hl 0 rfl) ?_
          refine x_getr (k := 0) (k' := 7) E hC hW fl_X10_36 (by decide) rfl rfl dX10_tells_31 ?_
          refine lv_iload_n hx hb dX10_tells_34 rfl (lv_at hl 2 rfl) ?_
          refine lv_iload_n hx hb dX10_tells_35 rfl (lv_at hl 2 rfl) ?_
          refine lv_aload_n hx hb dX10_tells_36 rfl (lv_at hl 0 rfl) ?_
          refine x_getr (k := 0) (k' := 16) E hC hW fl_X10_63 (by decide) rfl rfl dX10_tells_37 ?_
          refine lv_iload_n hx hb dX10_tells_40 rfl (lv_at hl 1 rfl) ?_
          obtain ⟨hg6, hf⟩ := gdS hf
          refine x_iald (k := 16) E hC hW (by decide) rfl (inbS hg6) dX10_tells_41 ?_
          refine jnS hf (fun (j : Int64 → Option (Int32 × Sg)) => ∀ (x7 : Int64), (j x7) = some (r, S') → ∀ (H : Heap) (locs : List Loc) (ls : Array Slot), lv_has ls 3 [(0, .ref (L 0)), (1, .int a1), (2, .int v4)] → Wd D cy L shM 20 S5 s H locs → W p l e (rmk 2 45) s m args below meth c H locs 0 0 Q (F0 m 60 ls [.long x7, .int v4, .ref (L 7)])) ?_ ?_
          · intro x7 hf H locs ls hl hW
            try dsimp only at hf
            obtain ⟨hg8, hf⟩ := gdS hf
            refine x_last (k := 7) E hC hW (by decide) rfl (inbS hg8) dX10_tells_60 (fun H locs hW => ?_)
            obtain ⟨S9, eS9⟩ : ∃ z : Sg, z = sl S5 7 (ix v4) x7 := ⟨_, rfl⟩
            have hW : Wd D cy L shM 20 S9 s H locs := by rw [eS9]; exact hW
            have hf := bvS hf eS9
            obtain ⟨x10, ex10⟩ : ∃ z : Int32, z = (v4 + 1) := ⟨_, rfl⟩
            have hf := bvS hf ex10
            refine lv_iinc (v := x10) (lv' := [(2, .int x10), (0, .ref (L 0)), (1, .int a1)]) hx hb dX10_tells_61 hl (k := 2) rfl (by rw [ex10]; rfl) (by decide) rfl (fun ls hl => ?_)
            refine lv_goto (tgt := 24) hx hb dX10_tells_64 (by decide) ?_
            exact ih24 _ _ hf _ _ _ (lv_sub hl [1, 2, 0] rfl) hW
          intro j60 J60 hf
          refine lv_icmp_ge (tgt := 59) hx hb dX10_tells_42 (by decide) (fun c12 => ?_) (fun c12 => ?_)
          · have hf := xt hf c12
            refine lv_lconst (v := 0) hx hb dX10_tells_59 (by decide) ?_
            exact J60 _ hf _ _ _ (lv_sub hl [0, 1, 2] rfl) hW
          · have hf := xf hf c12
            refine lv_aload_n hx hb dX10_tells_45 rfl (lv_at hl 0 rfl) ?_
            refine x_getr (k := 0) (k' := 17) E hC hW fl_X10_66 (by decide) rfl rfl dX10_tells_46 ?_
            refine lv_bipush (v := 30) hx hb dX10_tells_49 (by decide) ?_
            refine lv_iload_n hx hb dX10_tells_51 rfl (lv_at hl 1 rfl) ?_
            refine lv_imul hx hb dX10_tells_52 ?_
            refine lv_iload_n hx hb dX10_tells_53 rfl (lv_at hl 2 rfl) ?_
            refine lv_iadd hx hb dX10_tells_54 ?_
            obtain ⟨hg11, hf⟩ := gdS hf
            refine x_lald (k := 17) E hC hW (by decide) rfl (inbS hg11) dX10_tells_55 ?_
            refine lv_goto (tgt := 60) hx hb dX10_tells_56 (by decide) ?_
            exact J60 _ hf _ _ _ (lv_sub hl [0, 1, 2] rfl) hW
    · have hf := xf hf c14
      refine lv_bipush (v := (-11)) hx hb dX10_tells_19 (by decide) ?_
      exact x_iretI E hC hW hr hlk hQ dX10_tells_21 hf
  · have hf := xt hf c15
    refine lv_bipush (v := (-2)) hx hb dX10_tells_7 (by decide) ?_
    exact x_iretI E hC hW hr hlk hQ dX10_tells_9 hf
set_option maxRecDepth 100000 in
set_option maxHeartbeats 4000000 in
theorem c_X10_difference {l : Launch} {D : va_G} {cy : Nat → ClassId} {L : Nat → Nat} {bA : Nat} (a1 : Int32) (a2 : Int32) (a3 : Int32) (r : Int32) (S : Sg)  (hf : f_X10_difference a1 a2 a3 S = some r) : MetX l D cy L shM 20 bA yX10_difference cX10_difference 4 (some .int) 2 48 [.ref (L 0), .int a1, .int a2, .int a3] (some (.int r)) S S := by
  refine x_met (own := RX10) (by decide) rfl (Nat.le_of_ble_eq_true rfl) ?_
  intro p e s m below meth c ls E hC hr hlk hl hW
  generalize hargs : ([.ref (L 0), .int a1, .int a2, .int a3] : List Value).toArray = args at E ⊢
  generalize hQ : MQ below (xQ D cy L shM 20 bA (some (.int r)) S) args s 0 0 (AL L 20) = Q
  have hl : lv_has ls 4 [(0, .ref (L 0)), (1, .int a1), (2, .int a2), (3, .int a3)] := hl
  have hx := E.1
  have hb := E.2.1
  have hts := E.2.2.2.2
  unfold f_X10_difference at hf
  refine lv_aload_n hx hb dX10_difference_0 rfl (lv_at hl 0 rfl) ?_
  refine lv_iload_n hx hb dX10_difference_1 rfl (lv_at hl 1 rfl) ?_
  refine lv_iconst (v := 0) hx hb dX10_difference_2 (by decide) ?_
  refine lv_iload_n hx hb dX10_difference_3 rfl (lv_at hl 2 rfl) ?_
  obtain ⟨r1, g2, hf⟩ := cl1S hf
  refine x_Vr (k := 0) (As := [.int a1, .int (0 : Int32), .int a2]) (rest := []) E hC hW hl.1 (c_X10_numberOf a1 (0 : Int32) a2 r1 S g2) cv_X10_121 rfl (by decide) rfl rfl rfl ⟨Nat.le_of_ble_eq_true rfl, Nat.le_of_ble_eq_true rfl⟩ ⟨Nat.le_refl _, Nat.le_refl _⟩ (Nat.le_of_ble_eq_true rfl) dX10_difference_4 (fun H locs hW => ?_)
  refine lv_aload_n hx hb dX10_difference_7 rfl (lv_at hl 0 rfl) ?_
  refine lv_iload_n hx hb dX10_difference_8 rfl (lv_at hl 1 rfl) ?_
  refine lv_iconst (v := 1) hx hb dX10_difference_9 (by decide) ?_
  refine lv_iload_n hx hb dX10_difference_10 rfl (lv_at hl 3 rfl) ?_
  obtain ⟨r3, g4, hf⟩ := cl1S hf
  refine x_Vr (k := 0) (As := [.int a1, .int (1 : Int32), .int a3]) (rest := [.int r1]) E hC hW hl.1 (c_X10_numberOf a1 (1 : Int32) a3 r3 S g4) cv_X10_121 rfl (by decide) rfl rfl rfl ⟨Nat.le_of_ble_eq_true rfl, Nat.le_of_ble_eq_true rfl⟩ ⟨Nat.le_refl _, Nat.le_refl _⟩ (Nat.le_of_ble_eq_true rfl) dX10_difference_11 (fun H locs hW => ?_)
  refine lv_imul hx hb dX10_difference_14 ?_
  refine lv_aload_n hx hb dX10_difference_15 rfl (lv_at hl 0 rfl) ?_
  refine lv_iload_n hx hb dX10_difference_16 rfl (lv_at hl 1 rfl) ?_
  refine lv_iconst (v := 0) hx hb dX10_difference_17 (by decide) ?_
  refine lv_iload_n hx hb dX10_difference_18 rfl (lv_at hl 3 rfl) ?_
  obtain ⟨r5, g6, hf⟩ := cl1S hf
  refine x_Vr (k := 0) (As := [.int a1, .int (0 : Int32), .int a3]) (rest := [.int (r1 * r3)]) E hC hW hl.1 (c_X10_numberOf a1 (0 : Int32) a3 r5 S g6) cv_X10_121 rfl (by decide) rfl rfl rfl ⟨Nat.le_of_ble_eq_true rfl, Nat.le_of_ble_eq_true rfl⟩ ⟨Nat.le_refl _, Nat.le_refl _⟩ (Nat.le_of_ble_eq_true rfl) dX10_difference_19 (fun H locs hW => ?_)
  refine lv_aload_n hx hb dX10_difference_22 rfl (lv_at hl 0 rfl) ?_
  refine lv_iload_n hx hb dX10_difference_23 rfl (lv_at hl 1 rfl) ?_
  refine lv_iconst (v := 1) hx hb dX10_difference_24 (by decide) ?_
  refine lv_iload_n hx hb dX10_difference_25 rfl (lv_at hl 2 rfl) ?_
  obtain ⟨r7, g8, hf⟩ := cl1S hf
  refine x_Vr (k := 0) (As := [.int a1, .int (1 : Int32), .int a2]) (rest := [.int r5, .int (r1 * r3)]) E hC hW hl.1 (c_X10_numberOf a1 (1 : Int32) a2 r7 S g8) cv_X10_121 rfl (by decide) rfl rfl rfl ⟨Nat.le_of_ble_eq_true rfl, Nat.le_of_ble_eq_true rfl⟩ ⟨Nat.le_refl _, Nat.le_refl _⟩ (Nat.le_of_ble_eq_true rfl) dX10_difference_26 (fun H locs hW => ?_)
  refine lv_imul hx hb dX10_difference_29 ?_
  refine lv_isub hx hb dX10_difference_30 ?_
  exact x_iretP E hC hW hr hlk hQ dX10_difference_31 hf
set_option maxRecDepth 100000 in
set_option maxHeartbeats 4000000 in
theorem c_X10_tableAt {l : Launch} {D : va_G} {cy : Nat → ClassId} {L : Nat → Nat} {bA : Nat} (a1 : Int32) (a2 : Int32) (r : Int32) (S : Sg)  (hf : f_X10_tableAt a1 a2 S = some r) : MetX l D cy L shM 20 bA yX10_tableAt cX10_tableAt 5 (some .int) 3 71 [.ref (L 0), .int a1, .int a2] (some (.int r)) S S := by
  refine x_met (own := RX10) (by decide) rfl (Nat.le_of_ble_eq_true rfl) ?_
  intro p e s m below meth c ls E hC hr hlk hl hW
  generalize hargs : ([.ref (L 0), .int a1, .int a2] : List Value).toArray = args at E ⊢
  generalize hQ : MQ below (xQ D cy L shM 20 bA (some (.int r)) S) args s 0 0 (AL L 20) = Q
  have hl : lv_has ls 5 [(0, .ref (L 0)), (1, .int a1), (2, .int a2)] := hl
  have hx := E.1
  have hb := E.2.1
  have hts := E.2.2.2.2
  unfold f_X10_tableAt at hf
  refine lv_iconst (v := 0) hx hb dX10_tableAt_0 (by decide) ?_
  refine lv_istore_n (lv' := [(3, .int (0 : Int32)), (0, .ref (L 0)), (1, .int a1), (2, .int a2)]) hx hb dX10_tableAt_1 rfl hl (by decide) rfl (fun ls hl => ?_)
  refine lv_iconst (v := 0) hx hb dX10_tableAt_2 (by decide) ?_
  refine lv_istore (lv' := [(4, .int (0 : Int32)), (3, .int (0 : Int32)), (0, .ref (L 0)), (1, .int a1), (2, .int a2)]) hx hb dX10_tableAt_3 hl (by decide) rfl (fun ls hl => ?_)
  refine wp2S (fun (v1 : Int32) (v2 : Int32) => ∀ (H : Heap) (locs : List Loc) (ls : Array Slot), lv_has ls 5 [(0, .ref (L 0)), (1, .int a1), (2, .int a2), (3, .int v1), (4, .int v2)] → Wd D cy L shM 20 S s H locs → W p l e (rmk 3 71) s m args below meth c H locs 0 0 Q (F0 m 5 ls [])) ?_ hf _ _ _ (lv_sub hl [2, 3, 4, 1, 0] rfl) hW
  · intro self5 ih5 v1 v2 hf H locs ls hl hW
    unfold X10_tableAt_L5 at hf
    refine lv_iload hx hb dX10_tableAt_5 (lv_at hl 4 rfl) ?_
    refine lv_aload_n hx hb dX10_tableAt_7 rfl (lv_at hl 0 rfl) ?_
    refine x_geti (k := 0) E hC hW fl_X10_75 (by decide) rfl rfl dX10_tableAt_8 ?_
    refine lv_icmp_ge (tgt := 50) hx hb dX10_tableAt_11 (by decide) (fun c11 => ?_) (fun c11 => ?_)
    · have hf := xt hf c11
      refine lv_iload_n hx hb dX10_tableAt_50 rfl (lv_at hl 3 rfl) ?_
      exact x_iretP E hC hW hr hlk hQ dX10_tableAt_51 hf
    · have hf := xf hf c11
      refine lv_aload_n hx hb dX10_tableAt_14 rfl (lv_at hl 0 rfl) ?_
      refine lv_iload_n hx hb dX10_tableAt_15 rfl (lv_at hl 3 rfl) ?_
      refine lv_i2l hx hb dX10_tableAt_16 rfl ?_
      refine lv_aload_n hx hb dX10_tableAt_17 rfl (lv_at hl 0 rfl) ?_
      refine lv_aload_n hx hb dX10_tableAt_18 rfl (lv_at hl 0 rfl) ?_
      refine x_getr (k := 0) (k' := 7) E hC hW fl_X10_36 (by decide) rfl rfl dX10_tableAt_19 ?_
      refine lv_iload hx hb dX10_tableAt_22 (lv_at hl 4 rfl) ?_
      obtain ⟨hg3, hf⟩ := gdS hf
      refine x_lald (k := 7) E hC hW (by decide) rfl (inbS hg3) dX10_tableAt_24 ?_
      obtain ⟨r4, g5, hf⟩ := cl1S hf
      refine x_Vr (k := 0) (As := [.long (S.2 7 (ix v2))]) (rest := [.long v1.toInt64, .ref (L 0)]) E hC hW hl.1 (c_X10_rest (S.2 7 (ix v2)) r4 S g5) cv_X10_82 rfl (by decide) rfl rfl rfl ⟨Nat.le_of_ble_eq_true rfl, Nat.le_of_ble_eq_true rfl⟩ ⟨Nat.le_refl _, Nat.le_refl _⟩ (Nat.le_of_ble_eq_true rfl) dX10_tableAt_25 (fun H locs hW => ?_)
      refine lv_i2l hx hb dX10_tableAt_28 rfl ?_
      refine lv_aload_n hx hb dX10_tableAt_29 rfl (lv_at hl 0 rfl) ?_
      refine lv_iload hx hb dX10_tableAt_30 (lv_at hl 4 rfl) ?_
      refine lv_iload_n hx hb dX10_tableAt_32 rfl (lv_at hl 1 rfl) ?_
      refine lv_iload_n hx hb dX10_tableAt_33 rfl (lv_at hl 2 rfl) ?_
      obtain ⟨r6, g7, hf⟩ := cl1S hf
      refine x_Vr (k := 0) (As := [.int v2, .int a1, .int a2]) (rest := [.long r4.toInt64, .long v1.toInt64, .ref (L 0)]) E hC hW hl.1 (c_X10_difference v2 a1 a2 r6 S g7) cv_X10_190 rfl (by decide) rfl rfl rfl ⟨Nat.le_of_ble_eq_true rfl, Nat.le_of_ble_eq_true rfl⟩ ⟨Nat.le_refl _, Nat.le_refl _⟩ (Nat.le_of_ble_eq_true rfl) dX10_tableAt_34 (fun H locs hW => ?_)
      refine lv_i2l hx hb dX10_tableAt_37 rfl ?_
      refine lv_lmul hx hb dX10_tableAt_38 ?_
      refine lv_ladd hx hb dX10_tableAt_39 ?_
      obtain ⟨r8, g9, hf⟩ := cl1S hf
      refine x_Vr (k := 0) (As := [.long (v1.toInt64 + (r4.toInt64 * r6.toInt64))]) (rest := []) E hC hW hl.1 (c_X10_rest (v1.toInt64 + (r4.toInt64 * r6.toInt64)) r8 S g9) cv_X10_82 rfl (by decide) rfl rfl rfl ⟨Nat.le_of_ble_eq_true rfl, Nat.le_of_ble_eq_true rfl⟩ ⟨Nat.le_refl _, Nat.le_refl _⟩ (Nat.le_of_ble_eq_true rfl) dX10_tableAt_40 (fun H locs hW => ?_)
      refine lv_istore_n (lv' := [(3, .int r8), (0, .ref (L 0)), (1, .int a1), (2, .int a2), (4, .int v2)]) hx hb dX10_tableAt_43 rfl hl (by decide) rfl (fun ls hl => ?_)
      obtain ⟨x10, ex10⟩ : ∃ z : Int32, z = (v2 + 1) := ⟨_, rfl⟩
      have hf := bvS hf ex10
      refine lv_iinc (v := x10) (lv' := [(4, .int x10), (3, .int r8), (0, .ref (L 0)), (1, .int a1), (2, .int a2)]) hx hb dX10_tableAt_44 hl (k := 4) rfl (by rw [ex10]; rfl) (by decide) rfl (fun ls hl => ?_)
      refine lv_goto (tgt := 5) hx hb dX10_tableAt_47 (by decide) ?_
      exact ih5 _ _ hf _ _ _ (lv_sub hl [2, 3, 4, 1, 0] rfl) hW
set_option maxRecDepth 100000 in
set_option maxHeartbeats 4000000 in
theorem c_X10_table {l : Launch} {D : va_G} {cy : Nat → ClassId} {L : Nat → Nat} {bA : Nat} (a1 : Int32) (a2 : Int32) (a3 : Int32) (r : Int32) (S S' : Sg)  (hf : f_X10_table a1 a2 a3 S = some (r, S')) : MetX l D cy L shM 20 bA yX10_table cX10_table 5 (some .int) 4 95 [.ref (L 0), .int a1, .int a2, .int a3] (some (.int r)) S S' := by
  refine x_met (own := RX10) (by decide) rfl (Nat.le_of_ble_eq_true rfl) ?_
  intro p e s m below meth c ls E hC hr hlk hl hW
  generalize hargs : ([.ref (L 0), .int a1, .int a2, .int a3] : List Value).toArray = args at E ⊢
  generalize hQ : MQ below (xQ D cy L shM 20 bA (some (.int r)) S') args s 0 0 (AL L 20) = Q
  have hl : lv_has ls 5 [(0, .ref (L 0)), (1, .int a1), (2, .int a2), (3, .int a3)] := hl
  have hx := E.1
  have hb := E.2.1
  have hts := E.2.2.2.2
  unfold f_X10_table at hf
  refine lv_iload_n hx hb dX10_table_0 rfl (lv_at hl 1 rfl) ?_
  obtain ⟨r1, g2, hf⟩ := cl1S hf
  refine x_Sr (As := [.int a1]) (rest := []) E hC hW hl.1 (c_X10_isSheet a1 r1 S g2) cs_X10_187 rfl rfl ⟨Nat.le_of_ble_eq_true rfl, Nat.le_of_ble_eq_true rfl⟩ ⟨Nat.le_refl _, Nat.le_refl _⟩ (Nat.le_of_ble_eq_true rfl) dX10_table_1 (fun H locs hW => ?_)
  refine lv_if_eq (tgt := 39) hx hb dX10_table_4 (by decide) (fun c15 => ?_) (fun c15 => ?_)
  · have hf := xt hf c15
    refine lv_bipush (v := (-2)) hx hb dX10_table_39 (by decide) ?_
    exact x_iretI E hC hW hr hlk hQ dX10_table_41 hf
  · have hf := xf hf c15
    refine lv_iload_n hx hb dX10_table_7 rfl (lv_at hl 2 rfl) ?_
    refine lv_i2l hx hb dX10_table_8 rfl ?_
    refine lv_lconst (v := 0) hx hb dX10_table_9 (by decide) ?_
    refine lv_aload_n hx hb dX10_table_10 rfl (lv_at hl 0 rfl) ?_
    refine x_geti (k := 0) E hC hW fl_X10_13 (by decide) rfl rfl dX10_table_11 ?_
    refine lv_iconst (v := 1) hx hb dX10_table_14 (by decide) ?_
    refine lv_isub hx hb dX10_table_15 ?_
    refine lv_i2l hx hb dX10_table_16 rfl ?_
    obtain ⟨r3, g4, hf⟩ := cl1S hf
    refine x_Sr (As := [.long a2.toInt64, .long (0 : Int64), .long (((S.1 0 1) - (1 : Int32)).toInt64)]) (rest := []) E hC hW hl.1 (c_X10_in a2.toInt64 (0 : Int64) (((S.1 0 1) - (1 : Int32)).toInt64) r3 S g4) cs_X10_78 rfl rfl ⟨Nat.le_of_ble_eq_true rfl, Nat.le_of_ble_eq_true rfl⟩ ⟨Nat.le_refl _, Nat.le_refl _⟩ (Nat.le_of_ble_eq_true rfl) dX10_table_17 (fun H locs hW => ?_)
    refine lv_if_eq (tgt := 39) hx hb dX10_table_20 (by decide) (fun c14 => ?_) (fun c14 => ?_)
    · have hf := xt hf c14
      refine lv_bipush (v := (-2)) hx hb dX10_table_39 (by decide) ?_
      exact x_iretI E hC hW hr hlk hQ dX10_table_41 hf
    · have hf := xf hf c14
      refine lv_iload_n hx hb dX10_table_23 rfl (lv_at hl 3 rfl) ?_
      refine lv_i2l hx hb dX10_table_24 rfl ?_
      refine lv_lconst (v := 0) hx hb dX10_table_25 (by decide) ?_
      refine lv_aload_n hx hb dX10_table_26 rfl (lv_at hl 0 rfl) ?_
      refine x_geti (k := 0) E hC hW fl_X10_13 (by decide) rfl rfl dX10_table_27 ?_
      refine lv_iconst (v := 1) hx hb dX10_table_30 (by decide) ?_
      refine lv_isub hx hb dX10_table_31 ?_
      refine lv_i2l hx hb dX10_table_32 rfl ?_
      obtain ⟨r5, g6, hf⟩ := cl1S hf
      refine x_Sr (As := [.long a3.toInt64, .long (0 : Int64), .long (((S.1 0 1) - (1 : Int32)).toInt64)]) (rest := []) E hC hW hl.1 (c_X10_in a3.toInt64 (0 : Int64) (((S.1 0 1) - (1 : Int32)).toInt64) r5 S g6) cs_X10_78 rfl rfl ⟨Nat.le_of_ble_eq_true rfl, Nat.le_of_ble_eq_true rfl⟩ ⟨Nat.le_refl _, Nat.le_refl _⟩ (Nat.le_of_ble_eq_true rfl) dX10_table_33 (fun H locs hW => ?_)
      refine lv_if_ne (tgt := 42) hx hb dX10_table_36 (by decide) (fun c13 => ?_) (fun c13 => ?_)
      · have hf := xf hf c13
        refine lv_aload_n hx hb dX10_table_42 rfl (lv_at hl 0 rfl) ?_
        refine lv_iload_n hx hb dX10_table_43 rfl (lv_at hl 1 rfl) ?_
        obtain ⟨r7, S9, g8, hf⟩ := clS hf
        refine x_Vr (k := 0) (As := [.int a1]) (rest := []) E hC hW hl.1 (c_X10_tells a1 r7 S S9 g8) cv_X10_193 rfl (by decide) rfl rfl rfl ⟨Nat.le_of_ble_eq_true rfl, Nat.le_of_ble_eq_true rfl⟩ ⟨Nat.le_refl _, Nat.le_refl _⟩ (Nat.le_of_ble_eq_true rfl) dX10_table_44 (fun H locs hW => ?_)
        refine lv_istore (lv' := [(4, .int r7), (0, .ref (L 0)), (1, .int a1), (2, .int a2), (3, .int a3)]) hx hb dX10_table_47 hl (by decide) rfl (fun ls hl => ?_)
        refine lv_iload hx hb dX10_table_49 (lv_at hl 0 rfl) ?_
        refine lv_if_eq (tgt := 59) hx hb dX10_table_51 (by decide) (fun c12 => ?_) (fun c12 => ?_)
        · have hf := xt hf c12
          refine lv_aload_n hx hb dX10_table_59 rfl (lv_at hl 1 rfl) ?_
          refine lv_iload_n hx hb dX10_table_60 rfl (lv_at hl 3 rfl) ?_
          refine lv_iload_n hx hb dX10_table_61 rfl (lv_at hl 4 rfl) ?_
          obtain ⟨r10, g11, hf⟩ := cl1S hf
          refine x_Vr (k := 0) (As := [.int a2, .int a3]) (rest := []) E hC hW hl.1 (c_X10_tableAt a2 a3 r10 S9 g11) cv_X10_196 rfl (by decide) rfl rfl rfl ⟨Nat.le_of_ble_eq_true rfl, Nat.le_of_ble_eq_true rfl⟩ ⟨Nat.le_refl _, Nat.le_refl _⟩ (Nat.le_of_ble_eq_true rfl) dX10_table_62 (fun H locs hW => ?_)
          exact x_iretI E hC hW hr hlk hQ dX10_table_65 hf
        · have hf := xf hf c12
          refine lv_iload hx hb dX10_table_54 (lv_at hl 0 rfl) ?_
          refine lv_goto (tgt := 65) hx hb dX10_table_56 (by decide) ?_
          exact x_iretI E hC hW hr hlk hQ dX10_table_65 hf
      · have hf := xt hf c13
        refine lv_bipush (v := (-2)) hx hb dX10_table_39 (by decide) ?_
        exact x_iretI E hC hW hr hlk hQ dX10_table_41 hf
set_option maxRecDepth 100000 in
set_option maxHeartbeats 4000000 in
theorem c_X10_halfOf {l : Launch} {D : va_G} {cy : Nat → ClassId} {L : Nat → Nat} {bA : Nat}  (r : Int32) (S S' : Sg)  (hf : f_X10_halfOf S = some (r, S')) : MetX l D cy L shM 20 bA yX10_halfOf cX10_halfOf 3 (some .int) 4 95 [.ref (L 0)] (some (.int r)) S S' := by
  refine x_met (own := RX10) (by decide) rfl (Nat.le_of_ble_eq_true rfl) ?_
  intro p e s m below meth c ls E hC hr hlk hl hW
  generalize hargs : ([.ref (L 0)] : List Value).toArray = args at E ⊢
  generalize hQ : MQ below (xQ D cy L shM 20 bA (some (.int r)) S') args s 0 0 (AL L 20) = Q
  have hl : lv_has ls 3 [(0, .ref (L 0))] := hl
  have hx := E.1
  have hb := E.2.1
  have hts := E.2.2.2.2
  unfold f_X10_halfOf at hf
  refine lv_aload_n hx hb dX10_halfOf_0 rfl (lv_at hl 0 rfl) ?_
  refine lv_aload_n hx hb dX10_halfOf_1 rfl (lv_at hl 0 rfl) ?_
  refine x_geti (k := 0) E hC hW fl_X10_13 (by decide) rfl rfl dX10_halfOf_2 ?_
  refine x_put (k := 0) E hC hW fl_X10_138 pl_10_9 (by decide) rfl rfl rfl rfl dX10_halfOf_5 (fun H locs hW => ?_)
  obtain ⟨S1, eS1⟩ : ∃ z : Sg, z = si S 0 9 (S.1 0 1) := ⟨_, rfl⟩
  have hW : Wd D cy L shM 20 S1 s H locs := by rw [eS1]; exact hW
  have hf := bvS hf eS1
  refine lv_iconst (v := 0) hx hb dX10_halfOf_8 (by decide) ?_
  refine lv_istore_n (lv' := [(1, .int (0 : Int32)), (0, .ref (L 0))]) hx hb dX10_halfOf_9 rfl hl (by decide) rfl (fun ls hl => ?_)
  refine wp2K hf (fun (v6 : Int32) (S7 : Sg) => ∀ (H : Heap) (locs : List Loc) (ls : Array Slot), lv_has ls 3 [(0, .ref (L 0)), (1, .int v6)] → Wd D cy L shM 20 S7 s H locs → W p l e (rmk 4 95) s m args below meth c H locs 0 0 Q (F0 m 10 ls [])) (fun (j : Sg → Option (Int32 × Sg)) => ∀ (S2 : Sg), (j S2) = some (r, S') → ∀ (H : Heap) (locs : List Loc) (ls : Array Slot), lv_has ls 3 [(0, .ref (L 0))] → Wd D cy L shM 20 S2 s H locs → W p l e (rmk 4 95) s m args below meth c H locs 0 0 Q (F0 m 57 ls [])) ?_ ?_ _ _ _ (lv_sub hl [1, 0] rfl) hW
  · intro S2 hf H locs ls hl hW
    try dsimp only at hf
    refine lv_aload_n hx hb dX10_halfOf_57 rfl (lv_at hl 0 rfl) ?_
    obtain ⟨r3, S5, g4, hf⟩ := clS hf
    refine x_Vr (k := 0) (As := []) (rest := []) E hC hW hl.1 (c_X10_ranks r3 S2 S5 g4) cv_X10_160 rfl (by decide) rfl rfl rfl ⟨Nat.le_of_ble_eq_true rfl, Nat.le_of_ble_eq_true rfl⟩ ⟨Nat.le_refl _, Nat.le_refl _⟩ (Nat.le_of_ble_eq_true rfl) dX10_halfOf_58 (fun H locs hW => ?_)
    refine lv_iconst (v := 2) hx hb dX10_halfOf_61 (by decide) ?_
    refine lv_idiv hx hb dX10_halfOf_62 (by decide) ?_
    exact x_iretI E hC hW hr hlk hQ dX10_halfOf_63 hf
  · intro k57 K57 self10 ih10 v6 S7 hf H locs ls hl hW
    unfold X10_halfOf_L10 at hf
    refine lv_iload_n hx hb dX10_halfOf_10 rfl (lv_at hl 1 rfl) ?_
    refine lv_aload_n hx hb dX10_halfOf_11 rfl (lv_at hl 0 rfl) ?_
    refine x_geti (k := 0) E hC hW fl_X10_13 (by decide) rfl rfl dX10_halfOf_12 ?_
    refine lv_icmp_ge (tgt := 57) hx hb dX10_halfOf_15 (by decide) (fun c18 => ?_) (fun c18 => ?_)
    · have hf := xt hf c18
      exact K57 _ hf _ _ _ (lv_sub hl [0] rfl) hW
    · have hf := xf hf c18
      refine lv_iconst (v := 0) hx hb dX10_halfOf_18 (by decide) ?_
      refine lv_istore_n (lv' := [(2, .int (0 : Int32)), (0, .ref (L 0)), (1, .int v6)]) hx hb dX10_halfOf_19 rfl hl (by decide) rfl (fun ls hl => ?_)
      refine wp2K hf (fun (v10 : Int32) (S11 : Sg) => ∀ (H : Heap) (locs : List Loc) (ls : Array Slot), lv_has ls 3 [(0, .ref (L 0)), (1, .int v6), (2, .int v10)] → Wd D cy L shM 20 S11 s H locs → W p l e (rmk 4 95) s m args below meth c H locs 0 0 Q (F0 m 20 ls [])) (fun (j : Sg → Option (Int32 × Sg)) => ∀ (S8 : Sg), (j S8) = some (r, S') → ∀ (H : Heap) (locs : List Loc) (ls : Array Slot), lv_has ls 3 [(0, .ref (L 0)), (1, .int v6)] → Wd D cy L shM 20 S8 s H locs → W p l e (rmk 4 95) s m args below meth c H locs 0 0 Q (F0 m 51 ls [])) ?_ ?_ _ _ _ (lv_sub hl [1, 2, 0] rfl) hW
      · intro S8 hf H locs ls hl hW
        try dsimp only at hf
        obtain ⟨x9, ex9⟩ : ∃ z : Int32, z = (v6 + 1) := ⟨_, rfl⟩
        have hf := bvS hf ex9
        refine lv_iinc (v := x9) (lv' := [(1, .int x9), (0, .ref (L 0))]) hx hb dX10_halfOf_51 hl (k := 1) rfl (by rw [ex9]; rfl) (by decide) rfl (fun ls hl => ?_)
        refine lv_goto (tgt := 10) hx hb dX10_halfOf_54 (by decide) ?_
        exact ih10 _ _ hf _ _ _ (lv_sub hl [1, 0] rfl) hW
      · intro k51 K51 self20 ih20 v10 S11 hf H locs ls hl hW
        unfold X10_halfOf_L20 at hf
        refine lv_iload_n hx hb dX10_halfOf_20 rfl (lv_at hl 2 rfl) ?_
        refine lv_aload_n hx hb dX10_halfOf_21 rfl (lv_at hl 0 rfl) ?_
        refine x_geti (k := 0) E hC hW fl_X10_13 (by decide) rfl rfl dX10_halfOf_22 ?_
        refine lv_icmp_ge (tgt := 51) hx hb dX10_halfOf_25 (by decide) (fun c17 => ?_) (fun c17 => ?_)
        · have hf := xt hf c17
          exact K51 _ hf _ _ _ (lv_sub hl [0, 1] rfl) hW
        · have hf := xf hf c17
          refine lv_aload_n hx hb dX10_halfOf_28 rfl (lv_at hl 0 rfl) ?_
          refine x_getr (k := 0) (k' := 6) E hC hW fl_X10_33 (by decide) rfl rfl dX10_halfOf_29 ?_
          refine lv_bipush (v := 6) hx hb dX10_halfOf_32 (by decide) ?_
          refine lv_iload_n hx hb dX10_halfOf_34 rfl (lv_at hl 1 rfl) ?_
          refine lv_imul hx hb dX10_halfOf_35 ?_
          refine lv_iload_n hx hb dX10_halfOf_36 rfl (lv_at hl 2 rfl) ?_
          refine lv_iadd hx hb dX10_halfOf_37 ?_
          refine lv_aload_n hx hb dX10_halfOf_38 rfl (lv_at hl 0 rfl) ?_
          refine lv_iload_n hx hb dX10_halfOf_39 rfl (lv_at hl 1 rfl) ?_
          refine lv_iload_n hx hb dX10_halfOf_40 rfl (lv_at hl 2 rfl) ?_
          obtain ⟨r12, g13, hf⟩ := cl1S hf
          refine x_Vr (k := 0) (As := [.int v6, .int v10]) (rest := [.int (((6 : Int32) * v6) + v10), .ref (L 6)]) E hC hW hl.1 (c_X10_tableAt v6 v10 r12 S11 g13) cv_X10_196 rfl (by decide) rfl rfl rfl ⟨Nat.le_of_ble_eq_true rfl, Nat.le_of_ble_eq_true rfl⟩ ⟨Nat.le_refl _, Nat.le_refl _⟩ (Nat.le_of_ble_eq_true rfl) dX10_halfOf_41 (fun H locs hW => ?_)
          obtain ⟨hg14, hf⟩ := gdS hf
          refine x_iast (k := 6) E hC hW (by decide) rfl (inbS hg14) dX10_halfOf_44 (fun H locs hW => ?_)
          obtain ⟨S15, eS15⟩ : ∃ z : Sg, z = si S11 6 (ix (((6 : Int32) * v6) + v10)) r12 := ⟨_, rfl⟩
          have hW : Wd D cy L shM 20 S15 s H locs := by rw [eS15]; exact hW
          have hf := bvS hf eS15
          obtain ⟨x16, ex16⟩ : ∃ z : Int32, z = (v10 + 1) := ⟨_, rfl⟩
          have hf := bvS hf ex16
          refine lv_iinc (v := x16) (lv' := [(2, .int x16), (0, .ref (L 0)), (1, .int v6)]) hx hb dX10_halfOf_45 hl (k := 2) rfl (by rw [ex16]; rfl) (by decide) rfl (fun ls hl => ?_)
          refine lv_goto (tgt := 20) hx hb dX10_halfOf_48 (by decide) ?_
          exact ih20 _ _ hf _ _ _ (lv_sub hl [1, 2, 0] rfl) hW
set_option maxRecDepth 100000 in
set_option maxHeartbeats 4000000 in
theorem c_X10_half {l : Launch} {D : va_G} {cy : Nat → ClassId} {L : Nat → Nat} {bA : Nat} (a1 : Int32) (r : Int32) (S S' : Sg)  (hf : f_X10_half a1 S = some (r, S')) : MetX l D cy L shM 20 bA yX10_half cX10_half 3 (some .int) 5 117 [.ref (L 0), .int a1] (some (.int r)) S S' := by
  refine x_met (own := RX10) (by decide) rfl (Nat.le_of_ble_eq_true rfl) ?_
  intro p e s m below meth c ls E hC hr hlk hl hW
  generalize hargs : ([.ref (L 0), .int a1] : List Value).toArray = args at E ⊢
  generalize hQ : MQ below (xQ D cy L shM 20 bA (some (.int r)) S') args s 0 0 (AL L 20) = Q
  have hl : lv_has ls 3 [(0, .ref (L 0)), (1, .int a1)] := hl
  have hx := E.1
  have hb := E.2.1
  have hts := E.2.2.2.2
  unfold f_X10_half at hf
  refine lv_aload_n hx hb dX10_half_0 rfl (lv_at hl 0 rfl) ?_
  refine lv_iload_n hx hb dX10_half_1 rfl (lv_at hl 1 rfl) ?_
  obtain ⟨r1, S3, g2, hf⟩ := clS hf
  refine x_Vr (k := 0) (As := [.int a1]) (rest := []) E hC hW hl.1 (c_X10_tells a1 r1 S S3 g2) cv_X10_193 rfl (by decide) rfl rfl rfl ⟨Nat.le_of_ble_eq_true rfl, Nat.le_of_ble_eq_true rfl⟩ ⟨Nat.le_refl _, Nat.le_refl _⟩ (Nat.le_of_ble_eq_true rfl) dX10_half_2 (fun H locs hW => ?_)
  refine lv_istore_n (lv' := [(2, .int r1), (0, .ref (L 0)), (1, .int a1)]) hx hb dX10_half_5 rfl hl (by decide) rfl (fun ls hl => ?_)
  refine lv_iload_n hx hb dX10_half_6 rfl (lv_at hl 0 rfl) ?_
  refine lv_if_eq (tgt := 14) hx hb dX10_half_7 (by decide) (fun c7 => ?_) (fun c7 => ?_)
  · have hf := xt hf c7
    refine lv_aload_n hx hb dX10_half_14 rfl (lv_at hl 1 rfl) ?_
    obtain ⟨r4, S6, g5, hf⟩ := clS hf
    refine x_Vr (k := 0) (As := []) (rest := []) E hC hW hl.1 (c_X10_halfOf r4 S3 S6 g5) cv_X10_199 rfl (by decide) rfl rfl rfl ⟨Nat.le_of_ble_eq_true rfl, Nat.le_of_ble_eq_true rfl⟩ ⟨Nat.le_refl _, Nat.le_refl _⟩ (Nat.le_of_ble_eq_true rfl) dX10_half_15 (fun H locs hW => ?_)
    exact x_iretI E hC hW hr hlk hQ dX10_half_18 hf
  · have hf := xf hf c7
    refine lv_iload_n hx hb dX10_half_10 rfl (lv_at hl 0 rfl) ?_
    refine lv_goto (tgt := 18) hx hb dX10_half_11 (by decide) ?_
    exact x_iretI E hC hW hr hlk hQ dX10_half_18 hf
set_option maxRecDepth 100000 in
set_option maxHeartbeats 4000000 in
theorem c_X10_times {l : Launch} {D : va_G} {cy : Nat → ClassId} {L : Nat → Nat} {bA : Nat} (a1 : Int64) (a3 : Int64) (r : Int64) (S S' : Sg)  (hf : f_X10_times a1 a3 S = some (r, S')) : MetX l D cy L shM 20 bA yX10_times cX10_times 7 (some .long) 0 0 [.ref (L 0), .long a1, .long a3] (some (.long r)) S S' := by
  refine x_met (own := RX10) (by decide) rfl (Nat.le_of_ble_eq_true rfl) ?_
  intro p e s m below meth c ls E hC hr hlk hl hW
  generalize hargs : ([.ref (L 0), .long a1, .long a3] : List Value).toArray = args at E ⊢
  generalize hQ : MQ below (xQ D cy L shM 20 bA (some (.long r)) S') args s 0 0 (AL L 20) = Q
  have hl : lv_has ls 7 [(0, .ref (L 0)), (1, .long a1), (3, .long a3)] := hl
  have hx := E.1
  have hb := E.2.1
  have hts := E.2.2.2.2
  unfold f_X10_times at hf
  refine lv_lload_n hx hb dX10_times_0 rfl (lv_at hl 1 rfl) ?_
  refine lv_lload_n hx hb dX10_times_1 rfl (lv_at hl 2 rfl) ?_
  refine lv_lmul hx hb dX10_times_2 ?_
  refine lv_topl (fun x1 ex1 => ?_)
  have hf := bvS hf ex1
  refine lv_lstore (lv' := [(5, .long x1), (0, .ref (L 0)), (1, .long a1), (3, .long a3)]) hx hb dX10_times_3 hl (by decide) rfl (fun ls hl => ?_)
  refine lv_aload_n hx hb dX10_times_5 rfl (lv_at hl 1 rfl) ?_
  refine lv_dup hx hb dX10_times_6 rfl ?_
  refine x_geti (k := 0) E hC hW fl_X10_202 (by decide) rfl rfl dX10_times_7 ?_
  refine lv_lload_n hx hb dX10_times_10 rfl (lv_at hl 2 rfl) ?_
  refine lv_lconst (v := 0) hx hb dX10_times_11 (by decide) ?_
  refine W.lcmp hx hb dX10_times_12 ?_
  refine jnS hf (fun (j : Int32 → Option (Int64 × Sg)) => ∀ (x2 : Int32), (j x2) = some (r, S') → ∀ (H : Heap) (locs : List Loc) (ls : Array Slot), lv_has ls 7 [(5, .long x1)] → Wd D cy L shM 20 S s H locs → W p l e (rmk 0 0) s m args below meth c H locs 0 0 Q (F0 m 51 ls [.int x2, .int (S.1 0 11), .ref (L 0)])) ?_ ?_
  · intro x2 hf H locs ls hl hW
    try dsimp only at hf
    refine lv_ior hx hb dX10_times_51 ?_
    obtain ⟨hg3, hf⟩ := gdS hf
    refine x_put (k := 0) E hC hW fl_X10_202 pl_10_11 (by decide) rfl rfl (isB_narrow hg3) (isB_fits hg3) dX10_times_52 (fun H locs hW => ?_)
    obtain ⟨S4, eS4⟩ : ∃ z : Sg, z = si S 0 11 ((S.1 0 11) ||| x2) := ⟨_, rfl⟩
    have hW : Wd D cy L shM 20 S4 s H locs := by rw [eS4]; exact hW
    have hf := bvS hf eS4
    refine lv_lload hx hb dX10_times_55 (lv_at hl 0 rfl) ?_
    exact x_lretI E hC hW hr hlk hQ dX10_times_57 hf
  intro j51 J51 hf
  refine jnS hf (fun (j : Option (Int64 × Sg)) => (j) = some (r, S') → ∀ (H : Heap) (locs : List Loc) (ls : Array Slot), lv_has ls 7 [(5, .long x1)] → Wd D cy L shM 20 S s H locs → W p l e (rmk 0 0) s m args below meth c H locs 0 0 Q (F0 m 50 ls [.int (S.1 0 11), .ref (L 0)])) ?_ ?_
  · intro hf H locs ls hl hW
    try dsimp only at hf
    refine lv_iconst (v := 0) hx hb dX10_times_50 (by decide) ?_
    exact J51 _ hf _ _ _ (lv_sub hl [0] rfl) hW
  intro j50 J50 hf
  refine lv_if_eq (tgt := 50) hx hb dX10_times_13 (by decide) (fun c10 => ?_) (fun c10 => ?_)
  · have hf := xt hf c10
    exact J50 hf _ _ _ (lv_sub hl [0] rfl) hW
  · have hf := xf hf c10
    refine lv_lload hx hb dX10_times_16 (lv_at hl 0 rfl) ?_
    refine lv_lload_n hx hb dX10_times_18 rfl (lv_at hl 2 rfl) ?_
    obtain ⟨hg5, hf⟩ := gdS hf
    refine lv_ldiv hx hb dX10_times_19 (nzlS hg5) ?_
    refine lv_lload_n hx hb dX10_times_20 rfl (lv_at hl 3 rfl) ?_
    refine W.lcmp hx hb dX10_times_21 ?_
    refine jnS hf (fun (j : Option (Int64 × Sg)) => (j) = some (r, S') → ∀ (H : Heap) (locs : List Loc) (ls : Array Slot), lv_has ls 7 [(5, .long x1)] → Wd D cy L shM 20 S s H locs → W p l e (rmk 0 0) s m args below meth c H locs 0 0 Q (F0 m 46 ls [.int (S.1 0 11), .ref (L 0)])) ?_ ?_
    · intro hf H locs ls hl hW
      try dsimp only at hf
      refine lv_iconst (v := 1) hx hb dX10_times_46 (by decide) ?_
      refine lv_goto (tgt := 51) hx hb dX10_times_47 (by decide) ?_
      exact J51 _ hf _ _ _ (lv_sub hl [0] rfl) hW
    intro j46 J46 hf
    refine lv_if_ne (tgt := 46) hx hb dX10_times_22 (by decide) (fun c9 => ?_) (fun c9 => ?_)
    · have hf := xf hf c9
      exact J46 hf _ _ _ (lv_sub hl [0] rfl) hW
    · have hf := xt hf c9
      refine lv_lload_n hx hb dX10_times_25 rfl (lv_at hl 2 rfl) ?_
      refine lv_ldc2 hx hb E.2.2.2.1 (hts _ ww_1136) dX10_times_26 ?_
      refine W.lcmp hx hb dX10_times_29 ?_
      refine lv_if_ne (tgt := 50) hx hb dX10_times_30 (by decide) (fun c8 => ?_) (fun c8 => ?_)
      · have hf := xf hf c8
        exact J50 hf _ _ _ (lv_sub hl [0] rfl) hW
      · have hf := xt hf c8
        refine lv_lload_n hx hb dX10_times_33 rfl (lv_at hl 3 rfl) ?_
        refine lv_lconst (v := 0) hx hb dX10_times_34 (by decide) ?_
        refine W.lcmp hx hb dX10_times_35 ?_
        refine lv_if_ge (tgt := 50) hx hb dX10_times_36 (by decide) (fun c7 => ?_) (fun c7 => ?_)
        · have hf := xt hf c7
          exact J50 hf _ _ _ (lv_sub hl [0] rfl) hW
        · have hf := xf hf c7
          refine lv_lload hx hb dX10_times_39 (lv_at hl 0 rfl) ?_
          refine lv_lload_n hx hb dX10_times_41 rfl (lv_at hl 3 rfl) ?_
          refine W.lcmp hx hb dX10_times_42 ?_
          refine lv_if_ne (tgt := 50) hx hb dX10_times_43 (by decide) (fun c6 => ?_) (fun c6 => ?_)
          · have hf := xf hf c6
            exact J50 hf _ _ _ (lv_sub hl [0] rfl) hW
          · have hf := xt hf c6
            exact J46 hf _ _ _ (lv_sub hl [0] rfl) hW
set_option maxRecDepth 100000 in
set_option maxHeartbeats 4000000 in
theorem c_X10_plus {l : Launch} {D : va_G} {cy : Nat → ClassId} {L : Nat → Nat} {bA : Nat} (a1 : Int64) (a3 : Int64) (r : Int64) (S S' : Sg)  (hf : f_X10_plus a1 a3 S = some (r, S')) : MetX l D cy L shM 20 bA yX10_plus cX10_plus 7 (some .long) 0 0 [.ref (L 0), .long a1, .long a3] (some (.long r)) S S' := by
  refine x_met (own := RX10) (by decide) rfl (Nat.le_of_ble_eq_true rfl) ?_
  intro p e s m below meth c ls E hC hr hlk hl hW
  generalize hargs : ([.ref (L 0), .long a1, .long a3] : List Value).toArray = args at E ⊢
  generalize hQ : MQ below (xQ D cy L shM 20 bA (some (.long r)) S') args s 0 0 (AL L 20) = Q
  have hl : lv_has ls 7 [(0, .ref (L 0)), (1, .long a1), (3, .long a3)] := hl
  have hx := E.1
  have hb := E.2.1
  have hts := E.2.2.2.2
  unfold f_X10_plus at hf
  refine lv_lload_n hx hb dX10_plus_0 rfl (lv_at hl 1 rfl) ?_
  refine lv_lload_n hx hb dX10_plus_1 rfl (lv_at hl 2 rfl) ?_
  refine lv_ladd hx hb dX10_plus_2 ?_
  refine lv_topl (fun x1 ex1 => ?_)
  have hf := bvS hf ex1
  refine lv_lstore (lv' := [(5, .long x1), (0, .ref (L 0)), (1, .long a1), (3, .long a3)]) hx hb dX10_plus_3 hl (by decide) rfl (fun ls hl => ?_)
  refine lv_aload_n hx hb dX10_plus_5 rfl (lv_at hl 1 rfl) ?_
  refine lv_dup hx hb dX10_plus_6 rfl ?_
  refine x_geti (k := 0) E hC hW fl_X10_202 (by decide) rfl rfl dX10_plus_7 ?_
  refine lv_lload_n hx hb dX10_plus_10 rfl (lv_at hl 2 rfl) ?_
  refine lv_lload hx hb dX10_plus_11 (lv_at hl 0 rfl) ?_
  refine lv_lxor hx hb dX10_plus_13 ?_
  refine lv_lconst (v := 0) hx hb dX10_plus_14 (by decide) ?_
  refine W.lcmp hx hb dX10_plus_15 ?_
  refine jnS hf (fun (j : Int32 → Option (Int64 × Sg)) => ∀ (x2 : Int32), (j x2) = some (r, S') → ∀ (H : Heap) (locs : List Loc) (ls : Array Slot), lv_has ls 7 [(5, .long x1)] → Wd D cy L shM 20 S s H locs → W p l e (rmk 0 0) s m args below meth c H locs 0 0 Q (F0 m 33 ls [.int x2, .int (S.1 0 11), .ref (L 0)])) ?_ ?_
  · intro x2 hf H locs ls hl hW
    try dsimp only at hf
    refine lv_ior hx hb dX10_plus_33 ?_
    obtain ⟨hg3, hf⟩ := gdS hf
    refine x_put (k := 0) E hC hW fl_X10_202 pl_10_11 (by decide) rfl rfl (isB_narrow hg3) (isB_fits hg3) dX10_plus_34 (fun H locs hW => ?_)
    obtain ⟨S4, eS4⟩ : ∃ z : Sg, z = si S 0 11 ((S.1 0 11) ||| x2) := ⟨_, rfl⟩
    have hW : Wd D cy L shM 20 S4 s H locs := by rw [eS4]; exact hW
    have hf := bvS hf eS4
    refine lv_lload hx hb dX10_plus_37 (lv_at hl 0 rfl) ?_
    exact x_lretI E hC hW hr hlk hQ dX10_plus_39 hf
  intro j33 J33 hf
  refine jnS hf (fun (j : Option (Int64 × Sg)) => (j) = some (r, S') → ∀ (H : Heap) (locs : List Loc) (ls : Array Slot), lv_has ls 7 [(5, .long x1)] → Wd D cy L shM 20 S s H locs → W p l e (rmk 0 0) s m args below meth c H locs 0 0 Q (F0 m 32 ls [.int (S.1 0 11), .ref (L 0)])) ?_ ?_
  · intro hf H locs ls hl hW
    try dsimp only at hf
    refine lv_iconst (v := 0) hx hb dX10_plus_32 (by decide) ?_
    exact J33 _ hf _ _ _ (lv_sub hl [0] rfl) hW
  intro j32 J32 hf
  refine lv_if_ge (tgt := 32) hx hb dX10_plus_16 (by decide) (fun c6 => ?_) (fun c6 => ?_)
  · have hf := xt hf c6
    exact J32 hf _ _ _ (lv_sub hl [0] rfl) hW
  · have hf := xf hf c6
    refine lv_lload_n hx hb dX10_plus_19 rfl (lv_at hl 3 rfl) ?_
    refine lv_lload hx hb dX10_plus_20 (lv_at hl 0 rfl) ?_
    refine lv_lxor hx hb dX10_plus_22 ?_
    refine lv_lconst (v := 0) hx hb dX10_plus_23 (by decide) ?_
    refine W.lcmp hx hb dX10_plus_24 ?_
    refine lv_if_ge (tgt := 32) hx hb dX10_plus_25 (by decide) (fun c5 => ?_) (fun c5 => ?_)
    · have hf := xt hf c5
      exact J32 hf _ _ _ (lv_sub hl [0] rfl) hW
    · have hf := xf hf c5
      refine lv_iconst (v := 1) hx hb dX10_plus_28 (by decide) ?_
      refine lv_goto (tgt := 33) hx hb dX10_plus_29 (by decide) ?_
      exact J33 _ hf _ _ _ (lv_sub hl [0] rfl) hW
set_option maxRecDepth 100000 in
set_option maxHeartbeats 4000000 in
theorem c_X10_less {l : Launch} {D : va_G} {cy : Nat → ClassId} {L : Nat → Nat} {bA : Nat} (a1 : Int64) (a3 : Int64) (r : Int64) (S S' : Sg)  (hf : f_X10_less a1 a3 S = some (r, S')) : MetX l D cy L shM 20 bA yX10_less cX10_less 7 (some .long) 0 0 [.ref (L 0), .long a1, .long a3] (some (.long r)) S S' := by
  refine x_met (own := RX10) (by decide) rfl (Nat.le_of_ble_eq_true rfl) ?_
  intro p e s m below meth c ls E hC hr hlk hl hW
  generalize hargs : ([.ref (L 0), .long a1, .long a3] : List Value).toArray = args at E ⊢
  generalize hQ : MQ below (xQ D cy L shM 20 bA (some (.long r)) S') args s 0 0 (AL L 20) = Q
  have hl : lv_has ls 7 [(0, .ref (L 0)), (1, .long a1), (3, .long a3)] := hl
  have hx := E.1
  have hb := E.2.1
  have hts := E.2.2.2.2
  unfold f_X10_less at hf
  refine lv_lload_n hx hb dX10_less_0 rfl (lv_at hl 1 rfl) ?_
  refine lv_lload_n hx hb dX10_less_1 rfl (lv_at hl 2 rfl) ?_
  refine lv_lsub hx hb dX10_less_2 ?_
  refine lv_topl (fun x1 ex1 => ?_)
  have hf := bvS hf ex1
  refine lv_lstore (lv' := [(5, .long x1), (0, .ref (L 0)), (1, .long a1), (3, .long a3)]) hx hb dX10_less_3 hl (by decide) rfl (fun ls hl => ?_)
  refine lv_aload_n hx hb dX10_less_5 rfl (lv_at hl 1 rfl) ?_
  refine lv_dup hx hb dX10_less_6 rfl ?_
  refine x_geti (k := 0) E hC hW fl_X10_202 (by decide) rfl rfl dX10_less_7 ?_
  refine lv_lload_n hx hb dX10_less_10 rfl (lv_at hl 2 rfl) ?_
  refine lv_lload_n hx hb dX10_less_11 rfl (lv_at hl 3 rfl) ?_
  refine lv_lxor hx hb dX10_less_12 ?_
  refine lv_lconst (v := 0) hx hb dX10_less_13 (by decide) ?_
  refine W.lcmp hx hb dX10_less_14 ?_
  refine jnS hf (fun (j : Int32 → Option (Int64 × Sg)) => ∀ (x2 : Int32), (j x2) = some (r, S') → ∀ (H : Heap) (locs : List Loc) (ls : Array Slot), lv_has ls 7 [(5, .long x1)] → Wd D cy L shM 20 S s H locs → W p l e (rmk 0 0) s m args below meth c H locs 0 0 Q (F0 m 32 ls [.int x2, .int (S.1 0 11), .ref (L 0)])) ?_ ?_
  · intro x2 hf H locs ls hl hW
    try dsimp only at hf
    refine lv_ior hx hb dX10_less_32 ?_
    obtain ⟨hg3, hf⟩ := gdS hf
    refine x_put (k := 0) E hC hW fl_X10_202 pl_10_11 (by decide) rfl rfl (isB_narrow hg3) (isB_fits hg3) dX10_less_33 (fun H locs hW => ?_)
    obtain ⟨S4, eS4⟩ : ∃ z : Sg, z = si S 0 11 ((S.1 0 11) ||| x2) := ⟨_, rfl⟩
    have hW : Wd D cy L shM 20 S4 s H locs := by rw [eS4]; exact hW
    have hf := bvS hf eS4
    refine lv_lload hx hb dX10_less_36 (lv_at hl 0 rfl) ?_
    exact x_lretI E hC hW hr hlk hQ dX10_less_38 hf
  intro j32 J32 hf
  refine jnS hf (fun (j : Option (Int64 × Sg)) => (j) = some (r, S') → ∀ (H : Heap) (locs : List Loc) (ls : Array Slot), lv_has ls 7 [(5, .long x1)] → Wd D cy L shM 20 S s H locs → W p l e (rmk 0 0) s m args below meth c H locs 0 0 Q (F0 m 31 ls [.int (S.1 0 11), .ref (L 0)])) ?_ ?_
  · intro hf H locs ls hl hW
    try dsimp only at hf
    refine lv_iconst (v := 0) hx hb dX10_less_31 (by decide) ?_
    exact J32 _ hf _ _ _ (lv_sub hl [0] rfl) hW
  intro j31 J31 hf
  refine lv_if_ge (tgt := 31) hx hb dX10_less_15 (by decide) (fun c6 => ?_) (fun c6 => ?_)
  · have hf := xt hf c6
    exact J31 hf _ _ _ (lv_sub hl [0] rfl) hW
  · have hf := xf hf c6
    refine lv_lload_n hx hb dX10_less_18 rfl (lv_at hl 2 rfl) ?_
    refine lv_lload hx hb dX10_less_19 (lv_at hl 0 rfl) ?_
    refine lv_lxor hx hb dX10_less_21 ?_
    refine lv_lconst (v := 0) hx hb dX10_less_22 (by decide) ?_
    refine W.lcmp hx hb dX10_less_23 ?_
    refine lv_if_ge (tgt := 31) hx hb dX10_less_24 (by decide) (fun c5 => ?_) (fun c5 => ?_)
    · have hf := xt hf c5
      exact J31 hf _ _ _ (lv_sub hl [0] rfl) hW
    · have hf := xf hf c5
      refine lv_iconst (v := 1) hx hb dX10_less_27 (by decide) ?_
      refine lv_goto (tgt := 32) hx hb dX10_less_28 (by decide) ?_
      exact J32 _ hf _ _ _ (lv_sub hl [0] rfl) hW
set_option maxRecDepth 100000 in
set_option maxHeartbeats 4000000 in
theorem c_X10_laysWhole {l : Launch} {D : va_G} {cy : Nat → ClassId} {L : Nat → Nat} {bA : Nat}  (S S' : Sg)  (hf : f_X10_laysWhole S = some S') : MetX l D cy L shM 20 bA yX10_laysWhole cX10_laysWhole 6 none 3 71 [.ref (L 0)] none S S' := by
  refine x_met (own := RX10) (by decide) rfl (Nat.le_of_ble_eq_true rfl) ?_
  intro p e s m below meth c ls E hC hr hlk hl hW
  generalize hargs : ([.ref (L 0)] : List Value).toArray = args at E ⊢
  generalize hQ : MQ below (xQ D cy L shM 20 bA none S') args s 0 0 (AL L 20) = Q
  have hl : lv_has ls 6 [(0, .ref (L 0))] := hl
  have hx := E.1
  have hb := E.2.1
  have hts := E.2.2.2.2
  unfold f_X10_laysWhole at hf
  refine lv_iconst (v := 0) hx hb dX10_laysWhole_0 (by decide) ?_
  refine lv_istore_n (lv' := [(1, .int (0 : Int32)), (0, .ref (L 0))]) hx hb dX10_laysWhole_1 rfl hl (by decide) rfl (fun ls hl => ?_)
  refine wp2S (fun (v1 : Int32) (S2 : Sg) => ∀ (H : Heap) (locs : List Loc) (ls : Array Slot), lv_has ls 6 [(0, .ref (L 0)), (1, .int v1)] → Wd D cy L shM 20 S2 s H locs → W p l e (rmk 3 71) s m args below meth c H locs 0 0 Q (F0 m 2 ls [])) ?_ hf _ _ _ (lv_sub hl [1, 0] rfl) hW
  · intro self2 ih2 v1 S2 hf H locs ls hl hW
    unfold X10_laysWhole_L2 at hf
    refine lv_iload_n hx hb dX10_laysWhole_2 rfl (lv_at hl 1 rfl) ?_
    refine lv_aload_n hx hb dX10_laysWhole_3 rfl (lv_at hl 0 rfl) ?_
    refine x_geti (k := 0) E hC hW fl_X10_13 (by decide) rfl rfl dX10_laysWhole_4 ?_
    refine lv_icmp_ge (tgt := 114) hx hb dX10_laysWhole_7 (by decide) (fun c32 => ?_) (fun c32 => ?_)
    · have hf := xt hf c32
      exact x_vretI E hC hW hr hlk hQ dX10_laysWhole_114 hf
    · have hf := xf hf c32
      refine lv_iload_n hx hb dX10_laysWhole_10 rfl (lv_at hl 1 rfl) ?_
      refine lv_iconst (v := 1) hx hb dX10_laysWhole_11 (by decide) ?_
      refine lv_iadd hx hb dX10_laysWhole_12 ?_
      refine lv_topi (fun x3 ex3 => ?_)
      have hf := bvS hf ex3
      refine lv_istore_n (lv' := [(2, .int x3), (0, .ref (L 0)), (1, .int v1)]) hx hb dX10_laysWhole_13 rfl hl (by decide) rfl (fun ls hl => ?_)
      refine wp2K hf (fun (v6 : Int32) (S7 : Sg) => ∀ (H : Heap) (locs : List Loc) (ls : Array Slot), lv_has ls 6 [(0, .ref (L 0)), (1, .int v1), (2, .int v6)] → Wd D cy L shM 20 S7 s H locs → W p l e (rmk 3 71) s m args below meth c H locs 0 0 Q (F0 m 14 ls [])) (fun (j : Sg → Option (Sg)) => ∀ (S4 : Sg), (j S4) = some S' → ∀ (H : Heap) (locs : List Loc) (ls : Array Slot), lv_has ls 6 [(0, .ref (L 0)), (1, .int v1)] → Wd D cy L shM 20 S4 s H locs → W p l e (rmk 3 71) s m args below meth c H locs 0 0 Q (F0 m 108 ls [])) ?_ ?_ _ _ _ (lv_sub hl [1, 2, 0] rfl) hW
      · intro S4 hf H locs ls hl hW
        try dsimp only at hf
        obtain ⟨x5, ex5⟩ : ∃ z : Int32, z = (v1 + 1) := ⟨_, rfl⟩
        have hf := bvS hf ex5
        refine lv_iinc (v := x5) (lv' := [(1, .int x5), (0, .ref (L 0))]) hx hb dX10_laysWhole_108 hl (k := 1) rfl (by rw [ex5]; rfl) (by decide) rfl (fun ls hl => ?_)
        refine lv_goto (tgt := 2) hx hb dX10_laysWhole_111 (by decide) ?_
        exact ih2 _ _ hf _ _ _ (lv_sub hl [1, 0] rfl) hW
      · intro k108 K108 self14 ih14 v6 S7 hf H locs ls hl hW
        unfold X10_laysWhole_L14 at hf
        refine lv_iload_n hx hb dX10_laysWhole_14 rfl (lv_at hl 2 rfl) ?_
        refine lv_aload_n hx hb dX10_laysWhole_15 rfl (lv_at hl 0 rfl) ?_
        refine x_geti (k := 0) E hC hW fl_X10_13 (by decide) rfl rfl dX10_laysWhole_16 ?_
        refine lv_icmp_ge (tgt := 108) hx hb dX10_laysWhole_19 (by decide) (fun c31 => ?_) (fun c31 => ?_)
        · have hf := xt hf c31
          exact K108 _ hf _ _ _ (lv_sub hl [0, 1] rfl) hW
        · have hf := xf hf c31
          refine lv_lconst (v := 0) hx hb dX10_laysWhole_22 (by decide) ?_
          refine lv_lstore_n (lv' := [(3, .long (0 : Int64)), (0, .ref (L 0)), (1, .int v1), (2, .int v6)]) hx hb dX10_laysWhole_23 rfl hl (by decide) rfl (fun ls hl => ?_)
          refine lv_iconst (v := 0) hx hb dX10_laysWhole_24 (by decide) ?_
          refine lv_istore (lv' := [(5, .int (0 : Int32)), (3, .long (0 : Int64)), (0, .ref (L 0)), (1, .int v1), (2, .int v6)]) hx hb dX10_laysWhole_25 hl (by decide) rfl (fun ls hl => ?_)
          refine wp3K hf (fun (v17 : Int64) (v18 : Int32) (S19 : Sg) => ∀ (H : Heap) (locs : List Loc) (ls : Array Slot), lv_has ls 6 [(0, .ref (L 0)), (1, .int v1), (2, .int v6), (3, .long v17), (5, .int v18)] → Wd D cy L shM 20 S19 s H locs → W p l e (rmk 3 71) s m args below meth c H locs 0 0 Q (F0 m 27 ls [])) (fun (j : Int64 → Sg → Option (Sg)) => ∀ (v8 : Int64) (S9 : Sg), (j v8 S9) = some S' → ∀ (H : Heap) (locs : List Loc) (ls : Array Slot), lv_has ls 6 [(0, .ref (L 0)), (1, .int v1), (2, .int v6), (3, .long v8)] → Wd D cy L shM 20 S9 s H locs → W p l e (rmk 3 71) s m args below meth c H locs 0 0 Q (F0 m 68 ls [])) ?_ ?_ _ _ _ (lv_sub hl [2, 3, 4, 1, 0] rfl) hW
          · intro v8 S9 hf H locs ls hl hW
            try dsimp only at hf
            refine lv_aload_n hx hb dX10_laysWhole_68 rfl (lv_at hl 0 rfl) ?_
            refine lv_dup hx hb dX10_laysWhole_69 rfl ?_
            refine x_geti (k := 0) E hC hW fl_X10_202 (by decide) rfl rfl dX10_laysWhole_70 ?_
            refine lv_lload_n hx hb dX10_laysWhole_73 rfl (lv_at hl 3 rfl) ?_
            refine lv_lload_n hx hb dX10_laysWhole_74 rfl (lv_at hl 3 rfl) ?_
            refine lv_l2i hx hb dX10_laysWhole_75 rfl ?_
            refine lv_i2l hx hb dX10_laysWhole_76 rfl ?_
            refine W.lcmp hx hb dX10_laysWhole_77 ?_
            refine jnS hf (fun (j : Int32 → Option (Sg)) => ∀ (x10 : Int32), (j x10) = some S' → ∀ (H : Heap) (locs : List Loc) (ls : Array Slot), lv_has ls 6 [(0, .ref (L 0)), (1, .int v1), (2, .int v6), (3, .long v8)] → Wd D cy L shM 20 S9 s H locs → W p l e (rmk 3 71) s m args below meth c H locs 0 0 Q (F0 m 86 ls [.int x10, .int (S9.1 0 11), .ref (L 0)])) ?_ ?_
            · intro x10 hf H locs ls hl hW
              try dsimp only at hf
              refine lv_ior hx hb dX10_laysWhole_86 ?_
              obtain ⟨hg11, hf⟩ := gdS hf
              refine x_put (k := 0) E hC hW fl_X10_202 pl_10_11 (by decide) rfl rfl (isB_narrow hg11) (isB_fits hg11) dX10_laysWhole_87 (fun H locs hW => ?_)
              obtain ⟨S12, eS12⟩ : ∃ z : Sg, z = si S9 0 11 ((S9.1 0 11) ||| x10) := ⟨_, rfl⟩
              have hW : Wd D cy L shM 20 S12 s H locs := by rw [eS12]; exact hW
              have hf := bvS hf eS12
              refine lv_aload_n hx hb dX10_laysWhole_90 rfl (lv_at hl 0 rfl) ?_
              refine x_getr (k := 0) (k' := 8) E hC hW fl_X10_39 (by decide) rfl rfl dX10_laysWhole_91 ?_
              refine lv_bipush (v := 6) hx hb dX10_laysWhole_94 (by decide) ?_
              refine lv_iload_n hx hb dX10_laysWhole_96 rfl (lv_at hl 1 rfl) ?_
              refine lv_imul hx hb dX10_laysWhole_97 ?_
              refine lv_iload_n hx hb dX10_laysWhole_98 rfl (lv_at hl 2 rfl) ?_
              refine lv_iadd hx hb dX10_laysWhole_99 ?_
              refine lv_lload_n hx hb dX10_laysWhole_100 rfl (lv_at hl 3 rfl) ?_
              obtain ⟨hg13, hf⟩ := gdS hf
              refine x_last (k := 8) E hC hW (by decide) rfl (inbS hg13) dX10_laysWhole_101 (fun H locs hW => ?_)
              obtain ⟨S14, eS14⟩ : ∃ z : Sg, z = sl S12 8 (ix (((6 : Int32) * v1) + v6)) v8 := ⟨_, rfl⟩
              have hW : Wd D cy L shM 20 S14 s H locs := by rw [eS14]; exact hW
              have hf := bvS hf eS14
              obtain ⟨x15, ex15⟩ : ∃ z : Int32, z = (v6 + 1) := ⟨_, rfl⟩
              have hf := bvS hf ex15
              refine lv_iinc (v := x15) (lv' := [(2, .int x15), (0, .ref (L 0)), (1, .int v1), (3, .long v8)]) hx hb dX10_laysWhole_102 hl (k := 2) rfl (by rw [ex15]; rfl) (by decide) rfl (fun ls hl => ?_)
              refine lv_goto (tgt := 14) hx hb dX10_laysWhole_105 (by decide) ?_
              exact ih14 _ _ hf _ _ _ (lv_sub hl [1, 2, 0] rfl) hW
            intro j86 J86 hf
            refine lv_if_eq (tgt := 85) hx hb dX10_laysWhole_78 (by decide) (fun c16 => ?_) (fun c16 => ?_)
            · have hf := xt hf c16
              refine lv_iconst (v := 0) hx hb dX10_laysWhole_85 (by decide) ?_
              exact J86 _ hf _ _ _ (lv_sub hl [0, 1, 2, 3] rfl) hW
            · have hf := xf hf c16
              refine lv_iconst (v := 1) hx hb dX10_laysWhole_81 (by decide) ?_
              refine lv_goto (tgt := 86) hx hb dX10_laysWhole_82 (by decide) ?_
              exact J86 _ hf _ _ _ (lv_sub hl [0, 1, 2, 3] rfl) hW
          · intro k68 K68 self27 ih27 v17 v18 S19 hf H locs ls hl hW
            unfold X10_laysWhole_L27 at hf
            refine lv_iload hx hb dX10_laysWhole_27 (lv_at hl 4 rfl) ?_
            refine lv_aload_n hx hb dX10_laysWhole_29 rfl (lv_at hl 0 rfl) ?_
            refine x_geti (k := 0) E hC hW fl_X10_75 (by decide) rfl rfl dX10_laysWhole_30 ?_
            refine lv_icmp_ge (tgt := 68) hx hb dX10_laysWhole_33 (by decide) (fun c30 => ?_) (fun c30 => ?_)
            · have hf := xt hf c30
              exact K68 _ _ hf _ _ _ (lv_sub hl [0, 1, 2, 3] rfl) hW
            · have hf := xf hf c30
              refine lv_aload_n hx hb dX10_laysWhole_36 rfl (lv_at hl 0 rfl) ?_
              refine lv_lload_n hx hb dX10_laysWhole_37 rfl (lv_at hl 3 rfl) ?_
              refine lv_aload_n hx hb dX10_laysWhole_38 rfl (lv_at hl 0 rfl) ?_
              refine lv_aload_n hx hb dX10_laysWhole_39 rfl (lv_at hl 0 rfl) ?_
              refine x_getr (k := 0) (k' := 7) E hC hW fl_X10_36 (by decide) rfl rfl dX10_laysWhole_40 ?_
              refine lv_iload hx hb dX10_laysWhole_43 (lv_at hl 4 rfl) ?_
              obtain ⟨hg20, hf⟩ := gdS hf
              refine x_lald (k := 7) E hC hW (by decide) rfl (inbS hg20) dX10_laysWhole_45 ?_
              refine lv_aload_n hx hb dX10_laysWhole_46 rfl (lv_at hl 0 rfl) ?_
              refine lv_iload hx hb dX10_laysWhole_47 (lv_at hl 4 rfl) ?_
              refine lv_iload_n hx hb dX10_laysWhole_49 rfl (lv_at hl 1 rfl) ?_
              refine lv_iload_n hx hb dX10_laysWhole_50 rfl (lv_at hl 2 rfl) ?_
              obtain ⟨r21, g22, hf⟩ := cl1S hf
              refine x_Vr (k := 0) (As := [.int v18, .int v1, .int v6]) (rest := [.long (S19.2 7 (ix v18)), .ref (L 0), .long v17, .ref (L 0)]) E hC hW hl.1 (c_X10_difference v18 v1 v6 r21 S19 g22) cv_X10_190 rfl (by decide) rfl rfl rfl ⟨Nat.le_of_ble_eq_true rfl, Nat.le_of_ble_eq_true rfl⟩ ⟨Nat.le_refl _, Nat.le_refl _⟩ (Nat.le_of_ble_eq_true rfl) dX10_laysWhole_51 (fun H locs hW => ?_)
              refine lv_i2l hx hb dX10_laysWhole_54 rfl ?_
              obtain ⟨r23, S25, g24, hf⟩ := clS hf
              refine x_Vr (k := 0) (As := [.long (S19.2 7 (ix v18)), .long r21.toInt64]) (rest := [.long v17, .ref (L 0)]) E hC hW hl.1 (c_X10_times (S19.2 7 (ix v18)) r21.toInt64 r23 S19 S25 g24) cv_X10_208 rfl (by decide) rfl rfl rfl ⟨Nat.le_of_ble_eq_true rfl, Nat.le_of_ble_eq_true rfl⟩ ⟨Nat.le_refl _, Nat.le_refl _⟩ (Nat.le_of_ble_eq_true rfl) dX10_laysWhole_55 (fun H locs hW => ?_)
              obtain ⟨r26, S28, g27, hf⟩ := clS hf
              refine x_Vr (k := 0) (As := [.long v17, .long r23]) (rest := []) E hC hW hl.1 (c_X10_plus v17 r23 r26 S25 S28 g27) cv_X10_212 rfl (by decide) rfl rfl rfl ⟨Nat.le_of_ble_eq_true rfl, Nat.le_of_ble_eq_true rfl⟩ ⟨Nat.le_refl _, Nat.le_refl _⟩ (Nat.le_of_ble_eq_true rfl) dX10_laysWhole_58 (fun H locs hW => ?_)
              refine lv_lstore_n (lv' := [(3, .long r26), (0, .ref (L 0)), (1, .int v1), (2, .int v6), (5, .int v18)]) hx hb dX10_laysWhole_61 rfl hl (by decide) rfl (fun ls hl => ?_)
              obtain ⟨x29, ex29⟩ : ∃ z : Int32, z = (v18 + 1) := ⟨_, rfl⟩
              have hf := bvS hf ex29
              refine lv_iinc (v := x29) (lv' := [(5, .int x29), (3, .long r26), (0, .ref (L 0)), (1, .int v1), (2, .int v6)]) hx hb dX10_laysWhole_62 hl (k := 4) rfl (by rw [ex29]; rfl) (by decide) rfl (fun ls hl => ?_)
              refine lv_goto (tgt := 27) hx hb dX10_laysWhole_65 (by decide) ?_
              exact ih27 _ _ _ hf _ _ _ (lv_sub hl [2, 3, 4, 1, 0] rfl) hW
