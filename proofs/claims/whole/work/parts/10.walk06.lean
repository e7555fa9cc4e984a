set_option maxRecDepth 100000 in
set_option maxHeartbeats 4000000 in
theorem c_X10_set {l : Launch} {D : va_G} {cy : Nat → ClassId} {L : Nat → Nat} {bA : Nat} (a1 : Int32) (a2 : Int32) (a3 : Int32) (r : Int32) (S S' : Sg)  (hf : f_X10_set a1 a2 a3 S = some (r, S')) : MetX l D cy L shM 20 bA yX10_set cX10_set 5 (some .int) 2 46 [.ref (L 0), .int a1, .int a2, .int a3] (some (.int r)) S S' := by
  refine x_met (own := RX10) (by decide) rfl (Nat.le_of_ble_eq_true rfl) ?_
  intro p e s m below meth c ls E hC hr hlk hl hW
  generalize hargs : ([.ref (L 0), .int a1, .int a2, .int a3] : List Value).toArray = args at E ⊢
  generalize hQ : MQ below (xQ D cy L shM 20 bA (some (.int r)) S') args s 0 0 (AL L 20) = Q
  have hl : lv_has ls 5 [(0, .ref (L 0)), (1, .int a1), (2, .int a2), (3, .int a3)] := hl
  have hx := E.1
  have hb := E.2.1
  have hts := E.2.2.2.2
  unfold f_X10_set at hf
  refine lv_aload_n hx hb dX10_set_0 rfl (lv_at hl 0 rfl) ?_
  refine lv_iload_n hx hb dX10_set_1 rfl (lv_at hl 1 rfl) ?_
  obtain ⟨r1, g2, hf⟩ := cl1S hf
  refine x_Vr (k := 0) (As := [.int a1]) (rest := []) E hC hW hl.1 (c_X10_isPair a1 r1 S g2) cv_X10_104 rfl (by decide) rfl rfl rfl ⟨Nat.le_of_ble_eq_true rfl, Nat.le_of_ble_eq_true rfl⟩ ⟨Nat.le_refl _, Nat.le_refl _⟩ (Nat.le_of_ble_eq_true rfl) dX10_set_2 (fun H locs hW => ?_)
  refine lv_if_eq (tgt := 40) hx hb dX10_set_5 (by decide) (fun c20 => ?_) (fun c20 => ?_)
  · have hf := xt hf c20
    refine lv_bipush (v := (-2)) hx hb dX10_set_40 (by decide) ?_
    exact x_iretI E hC hW hr hlk hQ dX10_set_42 hf
  · have hf := xf hf c20
    refine lv_iload_n hx hb dX10_set_8 rfl (lv_at hl 2 rfl) ?_
    refine lv_i2l hx hb dX10_set_9 rfl ?_
    refine lv_lconst (v := 0) hx hb dX10_set_10 (by decide) ?_
    refine lv_lconst (v := 1) hx hb dX10_set_11 (by decide) ?_
    obtain ⟨r3, g4, hf⟩ := cl1S hf
    refine x_Sr (As := [.long a2.toInt64, .long (0 : Int64), .long (1 : Int64)]) (rest := []) E hC hW hl.1 (c_X10_in a2.toInt64 (0 : Int64) (1 : Int64) r3 S g4) cs_X10_78 rfl rfl ⟨Nat.le_of_ble_eq_true rfl, Nat.le_of_ble_eq_true rfl⟩ ⟨Nat.le_refl _, Nat.le_refl _⟩ (Nat.le_of_ble_eq_true rfl) dX10_set_12 (fun H locs hW => ?_)
    refine lv_if_eq (tgt := 40) hx hb dX10_set_15 (by decide) (fun c19 => ?_) (fun c19 => ?_)
    · have hf := xt hf c19
      refine lv_bipush (v := (-2)) hx hb dX10_set_40 (by decide) ?_
      exact x_iretI E hC hW hr hlk hQ dX10_set_42 hf
    · have hf := xf hf c19
      refine lv_iload_n hx hb dX10_set_18 rfl (lv_at hl 3 rfl) ?_
      refine lv_i2l hx hb dX10_set_19 rfl ?_
      refine lv_lconst (v := 0) hx hb dX10_set_20 (by decide) ?_
      refine lv_iload_n hx hb dX10_set_21 rfl (lv_at hl 2 rfl) ?_
      refine jnS hf (fun (j : Int64 → Option (Int32 × Sg)) => ∀ (x5 : Int64), (j x5) = some (r, S') → ∀ (H : Heap) (locs : List Loc) (ls : Array Slot), lv_has ls 5 [(0, .ref (L 0)), (1, .int a1), (2, .int a2), (3, .int a3)] → Wd D cy L shM 20 S s H locs → W p l e (rmk 2 46) s m args below meth c H locs 0 0 Q (F0 m 34 ls [.long x5, .long (0 : Int64), .long a3.toInt64])) ?_ ?_
      · intro x5 hf H locs ls hl hW
        try dsimp only at hf
        obtain ⟨r6, g7, hf⟩ := cl1S hf
        refine x_Sr (As := [.long a3.toInt64, .long (0 : Int64), .long x5]) (rest := []) E hC hW hl.1 (c_X10_in a3.toInt64 (0 : Int64) x5 r6 S g7) cs_X10_78 rfl rfl ⟨Nat.le_of_ble_eq_true rfl, Nat.le_of_ble_eq_true rfl⟩ ⟨Nat.le_refl _, Nat.le_refl _⟩ (Nat.le_of_ble_eq_true rfl) dX10_set_34 (fun H locs hW => ?_)
        refine lv_if_ne (tgt := 43) hx hb dX10_set_37 (by decide) (fun c17 => ?_) (fun c17 => ?_)
        · have hf := xf hf c17
          refine lv_iload_n hx hb dX10_set_43 rfl (lv_at hl 2 rfl) ?_
          refine jnS hf (fun (j : Int32 → Option (Int32 × Sg)) => ∀ (x8 : Int32), (j x8) = some (r, S') → ∀ (H : Heap) (locs : List Loc) (ls : Array Slot), lv_has ls 5 [(0, .ref (L 0)), (1, .int a1), (2, .int a2), (3, .int a3)] → Wd D cy L shM 20 S s H locs → W p l e (rmk 2 46) s m args below meth c H locs 0 0 Q (F0 m 62 ls [.int x8])) ?_ ?_
          · intro x8 hf H locs ls hl hW
            try dsimp only at hf
            refine lv_istore (lv' := [(4, .int x8), (0, .ref (L 0)), (1, .int a1), (2, .int a2), (3, .int a3)]) hx hb dX10_set_62 hl (by decide) rfl (fun ls hl => ?_)
            refine lv_iload_n hx hb dX10_set_64 rfl (lv_at hl 3 rfl) ?_
            refine lv_if_ne (tgt := 78) hx hb dX10_set_65 (by decide) (fun c13 => ?_) (fun c13 => ?_)
            · have hf := xf hf c13
              refine lv_aload_n hx hb dX10_set_78 rfl (lv_at hl 1 rfl) ?_
              refine x_getr (k := 0) (k' := 2) E hC hW fl_X10_20 (by decide) rfl rfl dX10_set_79 ?_
              refine lv_iload_n hx hb dX10_set_82 rfl (lv_at hl 2 rfl) ?_
              refine lv_iload_n hx hb dX10_set_83 rfl (lv_at hl 4 rfl) ?_
              obtain ⟨hg9, hf⟩ := gdS hf
              refine x_iast (k := 2) E hC hW (by decide) rfl (inbS hg9) dX10_set_84 (fun H locs hW => ?_)
              obtain ⟨S10, eS10⟩ : ∃ z : Sg, z = si S 2 (ix a1) a3 := ⟨_, rfl⟩
              have hW : Wd D cy L shM 20 S10 s H locs := by rw [eS10]; exact hW
              have hf := bvS hf eS10
              refine lv_iload hx hb dX10_set_85 (lv_at hl 0 rfl) ?_
              exact x_iretI E hC hW hr hlk hQ dX10_set_87 hf
            · have hf := xt hf c13
              refine lv_aload_n hx hb dX10_set_68 rfl (lv_at hl 1 rfl) ?_
              refine x_getr (k := 0) (k' := 1) E hC hW fl_X10_16 (by decide) rfl rfl dX10_set_69 ?_
              refine lv_iload_n hx hb dX10_set_72 rfl (lv_at hl 2 rfl) ?_
              refine lv_iload_n hx hb dX10_set_73 rfl (lv_at hl 4 rfl) ?_
              obtain ⟨hg11, hf⟩ := gdS hf
              refine x_iast (k := 1) E hC hW (by decide) rfl (inbS hg11) dX10_set_74 (fun H locs hW => ?_)
              obtain ⟨S12, eS12⟩ : ∃ z : Sg, z = si S 1 (ix a1) a3 := ⟨_, rfl⟩
              have hW : Wd D cy L shM 20 S12 s H locs := by rw [eS12]; exact hW
              have hf := bvS hf eS12
              refine lv_goto (tgt := 85) hx hb dX10_set_75 (by decide) ?_
              refine lv_iload hx hb dX10_set_85 (lv_at hl 0 rfl) ?_
              exact x_iretI E hC hW hr hlk hQ dX10_set_87 hf
          intro j62 J62 hf
          refine lv_if_ne (tgt := 56) hx hb dX10_set_44 (by decide) (fun c16 => ?_) (fun c16 => ?_)
          · have hf := xf hf c16
            refine lv_aload_n hx hb dX10_set_56 rfl (lv_at hl 0 rfl) ?_
            refine x_getr (k := 0) (k' := 2) E hC hW fl_X10_20 (by decide) rfl rfl dX10_set_57 ?_
            refine lv_iload_n hx hb dX10_set_60 rfl (lv_at hl 1 rfl) ?_
            obtain ⟨hg14, hf⟩ := gdS hf
            refine x_iald (k := 2) E hC hW (by decide) rfl (inbS hg14) dX10_set_61 ?_
            exact J62 _ hf _ _ _ (lv_sub hl [0, 1, 2, 3] rfl) hW
          · have hf := xt hf c16
            refine lv_aload_n hx hb dX10_set_47 rfl (lv_at hl 0 rfl) ?_
            refine x_getr (k := 0) (k' := 1) E hC hW fl_X10_16 (by decide) rfl rfl dX10_set_48 ?_
            refine lv_iload_n hx hb dX10_set_51 rfl (lv_at hl 1 rfl) ?_
            obtain ⟨hg15, hf⟩ := gdS hf
            refine x_iald (k := 1) E hC hW (by decide) rfl (inbS hg15) dX10_set_52 ?_
            refine lv_goto (tgt := 62) hx hb dX10_set_53 (by decide) ?_
            exact J62 _ hf _ _ _ (lv_sub hl [0, 1, 2, 3] rfl) hW
        · have hf := xt hf c17
          refine lv_bipush (v := (-2)) hx hb dX10_set_40 (by decide) ?_
          exact x_iretI E hC hW hr hlk hQ dX10_set_42 hf
      intro j34 J34 hf
      refine lv_if_ne (tgt := 31) hx hb dX10_set_22 (by decide) (fun c18 => ?_) (fun c18 => ?_)
      · have hf := xf hf c18
        refine lv_ldc2 hx hb E.2.2.2.1 (hts _ ww_947) dX10_set_31 ?_
        exact J34 _ hf _ _ _ (lv_sub hl [0, 1, 2, 3] rfl) hW
      · have hf := xt hf c18
        refine lv_ldc2 hx hb E.2.2.2.1 (hts _ ww_946) dX10_set_25 ?_
        refine lv_goto (tgt := 34) hx hb dX10_set_28 (by decide) ?_
        exact J34 _ hf _ _ _ (lv_sub hl [0, 1, 2, 3] rfl) hW
set_option maxRecDepth 100000 in
set_option maxHeartbeats 4000000 in
theorem c_X10_ahead {l : Launch} {D : va_G} {cy : Nat → ClassId} {L : Nat → Nat} {bA : Nat} (a1 : Int32) (r : Int32) (S : Sg)  (hf : f_X10_ahead a1 S = some r) : MetX l D cy L shM 20 bA yX10_ahead cX10_ahead 5 (some .int) 0 0 [.ref (L 0), .int a1] (some (.int r)) S S := by
  refine x_met (own := RX10) (by decide) rfl (Nat.le_of_ble_eq_true rfl) ?_
  intro p e s m below meth c ls E hC hr hlk hl hW
  generalize hargs : ([.ref (L 0), .int a1] : List Value).toArray = args at E ⊢
  generalize hQ : MQ below (xQ D cy L shM 20 bA (some (.int r)) S) args s 0 0 (AL L 20) = Q
  have hl : lv_has ls 5 [(0, .ref (L 0)), (1, .int a1)] := hl
  have hx := E.1
  have hb := E.2.1
  have hts := E.2.2.2.2
  unfold f_X10_ahead at hf
  refine lv_iconst (v := 0) hx hb dX10_ahead_0 (by decide) ?_
  refine lv_istore_n (lv' := [(2, .int (0 : Int32)), (0, .ref (L 0)), (1, .int a1)]) hx hb dX10_ahead_1 rfl hl (by decide) rfl (fun ls hl => ?_)
  refine lv_iconst (v := 0) hx hb dX10_ahead_2 (by decide) ?_
  refine lv_istore_n (lv' := [(3, .int (0 : Int32)), (2, .int (0 : Int32)), (0, .ref (L 0)), (1, .int a1)]) hx hb dX10_ahead_3 rfl hl (by decide) rfl (fun ls hl => ?_)
  refine wp2S (fun (v1 : Int32) (v2 : Int32) => ∀ (H : Heap) (locs : List Loc) (ls : Array Slot), lv_has ls 5 [(0, .ref (L 0)), (1, .int a1), (2, .int v1), (3, .int v2)] → Wd D cy L shM 20 S s H locs → W p l e (rmk 0 0) s m args below meth c H locs 0 0 Q (F0 m 4 ls [])) ?_ hf _ _ _ (lv_sub hl [2, 3, 1, 0] rfl) hW
  · intro self4 ih4 v1 v2 hf H locs ls hl hW
    unfold X10_ahead_L4 at hf
    refine lv_iload_n hx hb dX10_ahead_4 rfl (lv_at hl 3 rfl) ?_
    refine lv_aload_n hx hb dX10_ahead_5 rfl (lv_at hl 0 rfl) ?_
    refine x_geti (k := 0) E hC hW fl_X10_75 (by decide) rfl rfl dX10_ahead_6 ?_
    refine lv_icmp_ge (tgt := 103) hx hb dX10_ahead_9 (by decide) (fun c21 => ?_) (fun c21 => ?_)
    · have hf := xt hf c21
      refine lv_iload_n hx hb dX10_ahead_103 rfl (lv_at hl 2 rfl) ?_
      exact x_iretP E hC hW hr hlk hQ dX10_ahead_104 hf
    · have hf := xf hf c21
      refine lv_aload_n hx hb dX10_ahead_12 rfl (lv_at hl 0 rfl) ?_
      refine x_getr (k := 0) (k' := 2) E hC hW fl_X10_20 (by decide) rfl rfl dX10_ahead_13 ?_
      refine lv_iload_n hx hb dX10_ahead_16 rfl (lv_at hl 3 rfl) ?_
      obtain ⟨hg3, hf⟩ := gdS hf
      refine x_iald (k := 2) E hC hW (by decide) rfl (inbS hg3) dX10_ahead_17 ?_
      refine lv_aload_n hx hb dX10_ahead_18 rfl (lv_at hl 0 rfl) ?_
      refine x_getr (k := 0) (k' := 2) E hC hW fl_X10_20 (by decide) rfl rfl dX10_ahead_19 ?_
      refine lv_iload_n hx hb dX10_ahead_22 rfl (lv_at hl 1 rfl) ?_
      obtain ⟨hg4, hf⟩ := gdS hf
      refine x_iald (k := 2) E hC hW (by decide) rfl (inbS hg4) dX10_ahead_23 ?_
      refine jnS hf (fun (j : Int32 → Option (Int32)) => ∀ (x5 : Int32), (j x5) = some r → ∀ (H : Heap) (locs : List Loc) (ls : Array Slot), lv_has ls 5 [(0, .ref (L 0)), (1, .int a1), (2, .int v1), (3, .int v2)] → Wd D cy L shM 20 S s H locs → W p l e (rmk 0 0) s m args below meth c H locs 0 0 Q (F0 m 82 ls [.int x5])) ?_ ?_
      · intro x5 hf H locs ls hl hW
        try dsimp only at hf
        refine lv_istore (lv' := [(4, .int x5), (0, .ref (L 0)), (1, .int a1), (2, .int v1), (3, .int v2)]) hx hb dX10_ahead_82 hl (by decide) rfl (fun ls hl => ?_)
        refine lv_iload_n hx hb dX10_ahead_84 rfl (lv_at hl 3 rfl) ?_
        refine lv_iload hx hb dX10_ahead_85 (lv_at hl 0 rfl) ?_
        refine jnS hf (fun (j : Int32 → Option (Int32)) => ∀ (x6 : Int32), (j x6) = some r → ∀ (H : Heap) (locs : List Loc) (ls : Array Slot), lv_has ls 5 [(0, .ref (L 0)), (1, .int a1), (3, .int v2)] → Wd D cy L shM 20 S s H locs → W p l e (rmk 0 0) s m args below meth c H locs 0 0 Q (F0 m 95 ls [.int x6, .int v1])) ?_ ?_
        · intro x6 hf H locs ls hl hW
          try dsimp only at hf
          refine lv_iadd hx hb dX10_ahead_95 ?_
          refine lv_topi (fun x7 ex7 => ?_)
          have hf := bvS hf ex7
          refine lv_istore_n (lv' := [(2, .int x7), (0, .ref (L 0)), (1, .int a1), (3, .int v2)]) hx hb dX10_ahead_96 rfl hl (by decide) rfl (fun ls hl => ?_)
          obtain ⟨x8, ex8⟩ : ∃ z : Int32, z = (v2 + 1) := ⟨_, rfl⟩
          have hf := bvS hf ex8
          refine lv_iinc (v := x8) (lv' := [(3, .int x8), (2, .int x7), (0, .ref (L 0)), (1, .int a1)]) hx hb dX10_ahead_97 hl (k := 3) rfl (by rw [ex8]; rfl) (by decide) rfl (fun ls hl => ?_)
          refine lv_goto (tgt := 4) hx hb dX10_ahead_100 (by decide) ?_
          exact ih4 _ _ hf _ _ _ (lv_sub hl [2, 3, 1, 0] rfl) hW
        intro j95 J95 hf
        refine lv_if_eq (tgt := 94) hx hb dX10_ahead_87 (by decide) (fun c9 => ?_) (fun c9 => ?_)
        · have hf := xt hf c9
          refine lv_iconst (v := 0) hx hb dX10_ahead_94 (by decide) ?_
          exact J95 _ hf _ _ _ (lv_sub hl [1, 2, 4] rfl) hW
        · have hf := xf hf c9
          refine lv_iconst (v := 1) hx hb dX10_ahead_90 (by decide) ?_
          refine lv_goto (tgt := 95) hx hb dX10_ahead_91 (by decide) ?_
          exact J95 _ hf _ _ _ (lv_sub hl [1, 2, 4] rfl) hW
      intro j82 J82 hf
      refine jnS hf (fun (j : Option (Int32)) => (j) = some r → ∀ (H : Heap) (locs : List Loc) (ls : Array Slot), lv_has ls 5 [(0, .ref (L 0)), (1, .int a1), (2, .int v1), (3, .int v2)] → Wd D cy L shM 20 S s H locs → W p l e (rmk 0 0) s m args below meth c H locs 0 0 Q (F0 m 77 ls [])) ?_ ?_
      · intro hf H locs ls hl hW
        try dsimp only at hf
        refine lv_iconst (v := 1) hx hb dX10_ahead_77 (by decide) ?_
        refine lv_goto (tgt := 82) hx hb dX10_ahead_78 (by decide) ?_
        exact J82 _ hf _ _ _ (lv_sub hl [0, 1, 2, 3] rfl) hW
      intro j77 J77 hf
      refine lv_icmp_gt (tgt := 77) hx hb dX10_ahead_24 (by decide) (fun c20 => ?_) (fun c20 => ?_)
      · have hf := xt hf c20
        exact J77 hf _ _ _ (lv_sub hl [0, 1, 2, 3] rfl) hW
      · have hf := xf hf c20
        refine lv_aload_n hx hb dX10_ahead_27 rfl (lv_at hl 0 rfl) ?_
        refine x_getr (k := 0) (k' := 2) E hC hW fl_X10_20 (by decide) rfl rfl dX10_ahead_28 ?_
        refine lv_iload_n hx hb dX10_ahead_31 rfl (lv_at hl 3 rfl) ?_
        obtain ⟨hg10, hf⟩ := gdS hf
        refine x_iald (k := 2) E hC hW (by decide) rfl (inbS hg10) dX10_ahead_32 ?_
        refine lv_aload_n hx hb dX10_ahead_33 rfl (lv_at hl 0 rfl) ?_
        refine x_getr (k := 0) (k' := 2) E hC hW fl_X10_20 (by decide) rfl rfl dX10_ahead_34 ?_
        refine lv_iload_n hx hb dX10_ahead_37 rfl (lv_at hl 1 rfl) ?_
        obtain ⟨hg11, hf⟩ := gdS hf
        refine x_iald (k := 2) E hC hW (by decide) rfl (inbS hg11) dX10_ahead_38 ?_
        refine jnS hf (fun (j : Option (Int32)) => (j) = some r → ∀ (H : Heap) (locs : List Loc) (ls : Array Slot), lv_has ls 5 [(0, .ref (L 0)), (1, .int a1), (2, .int v1), (3, .int v2)] → Wd D cy L shM 20 S s H locs → W p l e (rmk 0 0) s m args below meth c H locs 0 0 Q (F0 m 81 ls [])) ?_ ?_
        · intro hf H locs ls hl hW
          try dsimp only at hf
          refine lv_iconst (v := 0) hx hb dX10_ahead_81 (by decide) ?_
          exact J82 _ hf _ _ _ (lv_sub hl [0, 1, 2, 3] rfl) hW
        intro j81 J81 hf
        refine lv_icmp_ne (tgt := 81) hx hb dX10_ahead_39 (by decide) (fun c19 => ?_) (fun c19 => ?_)
        · have hf := xf hf c19
          exact J81 hf _ _ _ (lv_sub hl [0, 1, 2, 3] rfl) hW
        · have hf := xt hf c19
          refine lv_aload_n hx hb dX10_ahead_42 rfl (lv_at hl 0 rfl) ?_
          refine x_getr (k := 0) (k' := 1) E hC hW fl_X10_16 (by decide) rfl rfl dX10_ahead_43 ?_
          refine lv_iload_n hx hb dX10_ahead_46 rfl (lv_at hl 3 rfl) ?_
          obtain ⟨hg12, hf⟩ := gdS hf
          refine x_iald (k := 1) E hC hW (by decide) rfl (inbS hg12) dX10_ahead_47 ?_
          refine lv_aload_n hx hb dX10_ahead_48 rfl (lv_at hl 0 rfl) ?_
          refine x_getr (k := 0) (k' := 1) E hC hW fl_X10_16 (by decide) rfl rfl dX10_ahead_49 ?_
          refine lv_iload_n hx hb dX10_ahead_52 rfl (lv_at hl 1 rfl) ?_
          obtain ⟨hg13, hf⟩ := gdS hf
          refine x_iald (k := 1) E hC hW (by decide) rfl (inbS hg13) dX10_ahead_53 ?_
          refine lv_icmp_lt (tgt := 77) hx hb dX10_ahead_54 (by decide) (fun c18 => ?_) (fun c18 => ?_)
          · have hf := xt hf c18
            exact J77 hf _ _ _ (lv_sub hl [0, 1, 2, 3] rfl) hW
          · have hf := xf hf c18
            refine lv_aload_n hx hb dX10_ahead_57 rfl (lv_at hl 0 rfl) ?_
            refine x_getr (k := 0) (k' := 1) E hC hW fl_X10_16 (by decide) rfl rfl dX10_ahead_58 ?_
            refine lv_iload_n hx hb dX10_ahead_61 rfl (lv_at hl 3 rfl) ?_
            obtain ⟨hg14, hf⟩ := gdS hf
            refine x_iald (k := 1) E hC hW (by decide) rfl (inbS hg14) dX10_ahead_62 ?_
            refine lv_aload_n hx hb dX10_ahead_63 rfl (lv_at hl 0 rfl) ?_
            refine x_getr (k := 0) (k' := 1) E hC hW fl_X10_16 (by decide) rfl rfl dX10_ahead_64 ?_
            refine lv_iload_n hx hb dX10_ahead_67 rfl (lv_at hl 1 rfl) ?_
            obtain ⟨hg15, hf⟩ := gdS hf
            refine x_iald (k := 1) E hC hW (by decide) rfl (inbS hg15) dX10_ahead_68 ?_
            refine lv_icmp_ne (tgt := 81) hx hb dX10_ahead_69 (by decide) (fun c17 => ?_) (fun c17 => ?_)
            · have hf := xf hf c17
              exact J81 hf _ _ _ (lv_sub hl [0, 1, 2, 3] rfl) hW
            · have hf := xt hf c17
              refine lv_iload_n hx hb dX10_ahead_72 rfl (lv_at hl 3 rfl) ?_
              refine lv_iload_n hx hb dX10_ahead_73 rfl (lv_at hl 1 rfl) ?_
              refine lv_icmp_ge (tgt := 81) hx hb dX10_ahead_74 (by decide) (fun c16 => ?_) (fun c16 => ?_)
              · have hf := xt hf c16
                exact J81 hf _ _ _ (lv_sub hl [0, 1, 2, 3] rfl) hW
              · have hf := xf hf c16
                exact J77 hf _ _ _ (lv_sub hl [0, 1, 2, 3] rfl) hW
set_option maxRecDepth 100000 in
set_option maxHeartbeats 4000000 in
theorem c_X10_namePlace {l : Launch} {D : va_G} {cy : Nat → ClassId} {L : Nat → Nat} {bA : Nat} (a1 : Int32) (r : Int32) (S : Sg)  (hf : f_X10_namePlace a1 S = some r) : MetX l D cy L shM 20 bA yX10_namePlace cX10_namePlace 4 (some .int) 0 0 [.ref (L 0), .int a1] (some (.int r)) S S := by
  refine x_met (own := RX10) (by decide) rfl (Nat.le_of_ble_eq_true rfl) ?_
  intro p e s m below meth c ls E hC hr hlk hl hW
  generalize hargs : ([.ref (L 0), .int a1] : List Value).toArray = args at E ⊢
  generalize hQ : MQ below (xQ D cy L shM 20 bA (some (.int r)) S) args s 0 0 (AL L 20) = Q
  have hl : lv_has ls 4 [(0, .ref (L 0)), (1, .int a1)] := hl
  have hx := E.1
  have hb := E.2.1
  have hts := E.2.2.2.2
  unfold f_X10_namePlace at hf
  refine lv_iconst (v := 0) hx hb dX10_namePlace_0 (by decide) ?_
  refine lv_istore_n (lv' := [(2, .int (0 : Int32)), (0, .ref (L 0)), (1, .int a1)]) hx hb dX10_namePlace_1 rfl hl (by decide) rfl (fun ls hl => ?_)
  refine lv_iconst (v := 0) hx hb dX10_namePlace_2 (by decide) ?_
  refine lv_istore_n (lv' := [(3, .int (0 : Int32)), (2, .int (0 : Int32)), (0, .ref (L 0)), (1, .int a1)]) hx hb dX10_namePlace_3 rfl hl (by decide) rfl (fun ls hl => ?_)
  refine wp2K hf (fun (v4 : Int32) (v5 : Int32) => ∀ (H : Heap) (locs : List Loc) (ls : Array Slot), lv_has ls 4 [(0, .ref (L 0)), (1, .int a1), (2, .int v4), (3, .int v5)] → Wd D cy L shM 20 S s H locs → W p l e (rmk 0 0) s m args below meth c H locs 0 0 Q (F0 m 4 ls [])) (fun (j : Int32 → Option (Int32)) => ∀ (v1 : Int32), (j v1) = some r → ∀ (H : Heap) (locs : List Loc) (ls : Array Slot), lv_has ls 4 [(0, .ref (L 0)), (1, .int a1), (2, .int v1)] → Wd D cy L shM 20 S s H locs → W p l e (rmk 0 0) s m args below meth c H locs 0 0 Q (F0 m 53 ls [])) ?_ ?_ _ _ _ (lv_sub hl [2, 3, 1, 0] rfl) hW
  · intro v1 hf H locs ls hl hW
    try dsimp only at hf
    refine lv_aload_n hx hb dX10_namePlace_53 rfl (lv_at hl 0 rfl) ?_
    refine x_getr (k := 0) (k' := 3) E hC hW fl_X10_23 (by decide) rfl rfl dX10_namePlace_54 ?_
    refine lv_iload_n hx hb dX10_namePlace_57 rfl (lv_at hl 1 rfl) ?_
    obtain ⟨hg2, hf⟩ := gdS hf
    refine x_lald (k := 3) E hC hW (by decide) rfl (inbS hg2) dX10_namePlace_58 ?_
    refine lv_lconst (v := 0) hx hb dX10_namePlace_59 (by decide) ?_
    refine W.lcmp hx hb dX10_namePlace_60 ?_
    refine lv_if_ne (tgt := 68) hx hb dX10_namePlace_61 (by decide) (fun c3 => ?_) (fun c3 => ?_)
    · have hf := xf hf c3
      refine lv_iload_n hx hb dX10_namePlace_68 rfl (lv_at hl 2 rfl) ?_
      exact x_iretP E hC hW hr hlk hQ dX10_namePlace_69 hf
    · have hf := xt hf c3
      refine lv_iconst (v := (-1)) hx hb dX10_namePlace_64 (by decide) ?_
      refine lv_goto (tgt := 69) hx hb dX10_namePlace_65 (by decide) ?_
      exact x_iretP E hC hW hr hlk hQ dX10_namePlace_69 hf
  · intro k53 K53 self4 ih4 v4 v5 hf H locs ls hl hW
    unfold X10_namePlace_L4 at hf
    refine lv_iload_n hx hb dX10_namePlace_4 rfl (lv_at hl 3 rfl) ?_
    refine lv_aload_n hx hb dX10_namePlace_5 rfl (lv_at hl 0 rfl) ?_
    refine x_geti (k := 0) E hC hW fl_X10_75 (by decide) rfl rfl dX10_namePlace_6 ?_
    refine lv_icmp_ge (tgt := 53) hx hb dX10_namePlace_9 (by decide) (fun c14 => ?_) (fun c14 => ?_)
    · have hf := xt hf c14
      exact K53 _ hf _ _ _ (lv_sub hl [0, 1, 2] rfl) hW
    · have hf := xf hf c14
      refine lv_iload_n hx hb dX10_namePlace_12 rfl (lv_at hl 2 rfl) ?_
      refine lv_aload_n hx hb dX10_namePlace_13 rfl (lv_at hl 0 rfl) ?_
      refine x_getr (k := 0) (k' := 3) E hC hW fl_X10_23 (by decide) rfl rfl dX10_namePlace_14 ?_
      refine lv_iload_n hx hb dX10_namePlace_17 rfl (lv_at hl 3 rfl) ?_
      obtain ⟨hg6, hf⟩ := gdS hf
      refine x_lald (k := 3) E hC hW (by decide) rfl (inbS hg6) dX10_namePlace_18 ?_
      refine lv_lconst (v := 0) hx hb dX10_namePlace_19 (by decide) ?_
      refine W.lcmp hx hb dX10_namePlace_20 ?_
      refine jnS hf (fun (j : Int32 → Option (Int32)) => ∀ (x7 : Int32), (j x7) = some r → ∀ (H : Heap) (locs : List Loc) (ls : Array Slot), lv_has ls 4 [(0, .ref (L 0)), (1, .int a1), (3, .int v5)] → Wd D cy L shM 20 S s H locs → W p l e (rmk 0 0) s m args below meth c H locs 0 0 Q (F0 m 45 ls [.int x7, .int v4])) ?_ ?_
      · intro x7 hf H locs ls hl hW
        try dsimp only at hf
        refine lv_iadd hx hb dX10_namePlace_45 ?_
        refine lv_topi (fun x8 ex8 => ?_)
        have hf := bvS hf ex8
        refine lv_istore_n (lv' := [(2, .int x8), (0, .ref (L 0)), (1, .int a1), (3, .int v5)]) hx hb dX10_namePlace_46 rfl hl (by decide) rfl (fun ls hl => ?_)
        obtain ⟨x9, ex9⟩ : ∃ z : Int32, z = (v5 + 1) := ⟨_, rfl⟩
        have hf := bvS hf ex9
        refine lv_iinc (v := x9) (lv' := [(3, .int x9), (2, .int x8), (0, .ref (L 0)), (1, .int a1)]) hx hb dX10_namePlace_47 hl (k := 3) rfl (by rw [ex9]; rfl) (by decide) rfl (fun ls hl => ?_)
        refine lv_goto (tgt := 4) hx hb dX10_namePlace_50 (by decide) ?_
        exact ih4 _ _ hf _ _ _ (lv_sub hl [2, 3, 1, 0] rfl) hW
      intro j45 J45 hf
      refine jnS hf (fun (j : Option (Int32)) => (j) = some r → ∀ (H : Heap) (locs : List Loc) (ls : Array Slot), lv_has ls 4 [(0, .ref (L 0)), (1, .int a1), (3, .int v5)] → Wd D cy L shM 20 S s H locs → W p l e (rmk 0 0) s m args below meth c H locs 0 0 Q (F0 m 44 ls [.int v4])) ?_ ?_
      · intro hf H locs ls hl hW
        try dsimp only at hf
        refine lv_iconst (v := 0) hx hb dX10_namePlace_44 (by decide) ?_
        exact J45 _ hf _ _ _ (lv_sub hl [0, 1, 2] rfl) hW
      intro j44 J44 hf
      refine lv_if_eq (tgt := 44) hx hb dX10_namePlace_21 (by decide) (fun c13 => ?_) (fun c13 => ?_)
      · have hf := xt hf c13
        exact J44 hf _ _ _ (lv_sub hl [0, 1, 3] rfl) hW
      · have hf := xf hf c13
        refine lv_aload_n hx hb dX10_namePlace_24 rfl (lv_at hl 0 rfl) ?_
        refine x_getr (k := 0) (k' := 3) E hC hW fl_X10_23 (by decide) rfl rfl dX10_namePlace_25 ?_
        refine lv_iload_n hx hb dX10_namePlace_28 rfl (lv_at hl 3 rfl) ?_
        obtain ⟨hg10, hf⟩ := gdS hf
        refine x_lald (k := 3) E hC hW (by decide) rfl (inbS hg10) dX10_namePlace_29 ?_
        refine lv_aload_n hx hb dX10_namePlace_30 rfl (lv_at hl 0 rfl) ?_
        refine x_getr (k := 0) (k' := 3) E hC hW fl_X10_23 (by decide) rfl rfl dX10_namePlace_31 ?_
        refine lv_iload_n hx hb dX10_namePlace_34 rfl (lv_at hl 1 rfl) ?_
        obtain ⟨hg11, hf⟩ := gdS hf
        refine x_lald (k := 3) E hC hW (by decide) rfl (inbS hg11) dX10_namePlace_35 ?_
        refine W.lcmp hx hb dX10_namePlace_36 ?_
        refine lv_if_ge (tgt := 44) hx hb dX10_namePlace_37 (by decide) (fun c12 => ?_) (fun c12 => ?_)
        · have hf := xt hf c12
          exact J44 hf _ _ _ (lv_sub hl [0, 1, 3] rfl) hW
        · have hf := xf hf c12
          refine lv_iconst (v := 1) hx hb dX10_namePlace_40 (by decide) ?_
          refine lv_goto (tgt := 45) hx hb dX10_namePlace_41 (by decide) ?_
          exact J45 _ hf _ _ _ (lv_sub hl [0, 1, 3] rfl) hW
set_option maxRecDepth 100000 in
set_option maxHeartbeats 4000000 in
theorem c_X10_laysAxis {l : Launch} {D : va_G} {cy : Nat → ClassId} {L : Nat → Nat} {bA : Nat} (a1 : Int32) (S S' : Sg)  (hf : f_X10_laysAxis a1 S = some S') : MetX l D cy L shM 20 bA yX10_laysAxis cX10_laysAxis 3 none 0 0 [.ref (L 0), .int a1] none S S' := by
  refine x_met (own := RX10) (by decide) rfl (Nat.le_of_ble_eq_true rfl) ?_
  intro p e s m below meth c ls E hC hr hlk hl hW
  generalize hargs : ([.ref (L 0), .int a1] : List Value).toArray = args at E ⊢
  generalize hQ : MQ below (xQ D cy L shM 20 bA none S') args s 0 0 (AL L 20) = Q
  have hl : lv_has ls 3 [(0, .ref (L 0)), (1, .int a1)] := hl
  have hx := E.1
  have hb := E.2.1
  have hts := E.2.2.2.2
  unfold f_X10_laysAxis at hf
  refine lv_iconst (v := 0) hx hb dX10_laysAxis_0 (by decide) ?_
  refine lv_istore_n (lv' := [(2, .int (0 : Int32)), (0, .ref (L 0)), (1, .int a1)]) hx hb dX10_laysAxis_1 rfl hl (by decide) rfl (fun ls hl => ?_)
  refine wp2K hf (fun (v3 : Int32) (S4 : Sg) => ∀ (H : Heap) (locs : List Loc) (ls : Array Slot), lv_has ls 3 [(0, .ref (L 0)), (1, .int a1), (2, .int v3)] → Wd D cy L shM 20 S4 s H locs → W p l e (rmk 0 0) s m args below meth c H locs 0 0 Q (F0 m 2 ls [])) (fun (j : Sg → Option (Sg)) => ∀ (S1 : Sg), (j S1) = some S' → ∀ (H : Heap) (locs : List Loc) (ls : Array Slot), lv_has ls 3 [(0, .ref (L 0))] → Wd D cy L shM 20 S1 s H locs → W p l e (rmk 0 0) s m args below meth c H locs 0 0 Q (F0 m 40 ls [])) ?_ ?_ _ _ _ (lv_sub hl [1, 2, 0] rfl) hW
  · intro S1 hf H locs ls hl hW
    try dsimp only at hf
    refine lv_aload_n hx hb dX10_laysAxis_40 rfl (lv_at hl 0 rfl) ?_
    refine lv_dup hx hb dX10_laysAxis_41 rfl ?_
    refine x_geti (k := 0) E hC hW fl_X10_138 (by decide) rfl rfl dX10_laysAxis_42 ?_
    refine lv_iconst (v := 1) hx hb dX10_laysAxis_45 (by decide) ?_
    refine lv_iadd hx hb dX10_laysAxis_46 ?_
    refine x_put (k := 0) E hC hW fl_X10_138 pl_10_9 (by decide) rfl rfl rfl rfl dX10_laysAxis_47 (fun H locs hW => ?_)
    obtain ⟨S2, eS2⟩ : ∃ z : Sg, z = si S1 0 9 ((S1.1 0 9) + (1 : Int32)) := ⟨_, rfl⟩
    have hW : Wd D cy L shM 20 S2 s H locs := by rw [eS2]; exact hW
    have hf := bvS hf eS2
    exact x_vretI E hC hW hr hlk hQ dX10_laysAxis_50 hf
  · intro k40 K40 self2 ih2 v3 S4 hf H locs ls hl hW
    unfold X10_laysAxis_L2 at hf
    refine lv_iload_n hx hb dX10_laysAxis_2 rfl (lv_at hl 2 rfl) ?_
    refine lv_aload_n hx hb dX10_laysAxis_3 rfl (lv_at hl 0 rfl) ?_
    refine x_geti (k := 0) E hC hW fl_X10_13 (by decide) rfl rfl dX10_laysAxis_4 ?_
    refine lv_icmp_ge (tgt := 40) hx hb dX10_laysAxis_7 (by decide) (fun c10 => ?_) (fun c10 => ?_)
    · have hf := xt hf c10
      exact K40 _ hf _ _ _ (lv_sub hl [0] rfl) hW
    · have hf := xf hf c10
      refine lv_aload_n hx hb dX10_laysAxis_10 rfl (lv_at hl 0 rfl) ?_
      refine x_getr (k := 0) (k' := 6) E hC hW fl_X10_33 (by decide) rfl rfl dX10_laysAxis_11 ?_
      refine lv_bipush (v := 6) hx hb dX10_laysAxis_14 (by decide) ?_
      refine lv_aload_n hx hb dX10_laysAxis_16 rfl (lv_at hl 0 rfl) ?_
      refine x_geti (k := 0) E hC hW fl_X10_138 (by decide) rfl rfl dX10_laysAxis_17 ?_
      refine lv_imul hx hb dX10_laysAxis_20 ?_
      refine lv_iload_n hx hb dX10_laysAxis_21 rfl (lv_at hl 2 rfl) ?_
      refine lv_iadd hx hb dX10_laysAxis_22 ?_
      refine lv_iload_n hx hb dX10_laysAxis_23 rfl (lv_at hl 2 rfl) ?_
      refine lv_iload_n hx hb dX10_laysAxis_24 rfl (lv_at hl 1 rfl) ?_
      refine jnS hf (fun (j : Int32 → Option (Sg)) => ∀ (x5 : Int32), (j x5) = some S' → ∀ (H : Heap) (locs : List Loc) (ls : Array Slot), lv_has ls 3 [(0, .ref (L 0)), (1, .int a1), (2, .int v3)] → Wd D cy L shM 20 S4 s H locs → W p l e (rmk 0 0) s m args below meth c H locs 0 0 Q (F0 m 33 ls [.int x5, .int (((6 : Int32) * (S4.1 0 9)) + v3), .ref (L 6)])) ?_ ?_
      · intro x5 hf H locs ls hl hW
        try dsimp only at hf
        obtain ⟨hg6, hf⟩ := gdS hf
        refine x_iast (k := 6) E hC hW (by decide) rfl (inbS hg6) dX10_laysAxis_33 (fun H locs hW => ?_)
        obtain ⟨S7, eS7⟩ : ∃ z : Sg, z = si S4 6 (ix (((6 : Int32) * (S4.1 0 9)) + v3)) x5 := ⟨_, rfl⟩
        have hW : Wd D cy L shM 20 S7 s H locs := by rw [eS7]; exact hW
        have hf := bvS hf eS7
        obtain ⟨x8, ex8⟩ : ∃ z : Int32, z = (v3 + 1) := ⟨_, rfl⟩
        have hf := bvS hf ex8
        refine lv_iinc (v := x8) (lv' := [(2, .int x8), (0, .ref (L 0)), (1, .int a1)]) hx hb dX10_laysAxis_34 hl (k := 2) rfl (by rw [ex8]; rfl) (by decide) rfl (fun ls hl => ?_)
        refine lv_goto (tgt := 2) hx hb dX10_laysAxis_37 (by decide) ?_
        exact ih2 _ _ hf _ _ _ (lv_sub hl [1, 2, 0] rfl) hW
      intro j33 J33 hf
      refine lv_icmp_ne (tgt := 32) hx hb dX10_laysAxis_25 (by decide) (fun c9 => ?_) (fun c9 => ?_)
      · have hf := xf hf c9
        refine lv_iconst (v := 0) hx hb dX10_laysAxis_32 (by decide) ?_
        exact J33 _ hf _ _ _ (lv_sub hl [0, 1, 2] rfl) hW
      · have hf := xt hf c9
        refine lv_iconst (v := 1) hx hb dX10_laysAxis_28 (by decide) ?_
        refine lv_goto (tgt := 33) hx hb dX10_laysAxis_29 (by decide) ?_
        exact J33 _ hf _ _ _ (lv_sub hl [0, 1, 2] rfl) hW
set_option maxRecDepth 100000 in
set_option maxHeartbeats 4000000 in
theorem c_X10_numberOf {l : Launch} {D : va_G} {cy : Nat → ClassId} {L : Nat → Nat} {bA : Nat} (a1 : Int32) (a2 : Int32) (a3 : Int32) (r : Int32) (S : Sg)  (hf : f_X10_numberOf a1 a2 a3 S = some r) : MetX l D cy L shM 20 bA yX10_numberOf cX10_numberOf 6 (some .int) 1 23 [.ref (L 0), .int a1, .int a2, .int a3] (some (.int r)) S S := by
  refine x_met (own := RX10) (by decide) rfl (Nat.le_of_ble_eq_true rfl) ?_
  intro p e s m below meth c ls E hC hr hlk hl hW
  generalize hargs : ([.ref (L 0), .int a1, .int a2, .int a3] : List Value).toArray = args at E ⊢
  generalize hQ : MQ below (xQ D cy L shM 20 bA (some (.int r)) S) args s 0 0 (AL L 20) = Q
  have hl : lv_has ls 6 [(0, .ref (L 0)), (1, .int a1), (2, .int a2), (3, .int a3)] := hl
  have hx := E.1
  have hb := E.2.1
  have hts := E.2.2.2.2
  unfold f_X10_numberOf at hf
  refine lv_aload_n hx hb dX10_numberOf_0 rfl (lv_at hl 0 rfl) ?_
  refine x_getr (k := 0) (k' := 4) E hC hW fl_X10_27 (by decide) rfl rfl dX10_numberOf_1 ?_
  refine lv_bipush (v := 12) hx hb dX10_numberOf_4 (by decide) ?_
  refine lv_iload_n hx hb dX10_numberOf_6 rfl (lv_at hl 1 rfl) ?_
  refine lv_imul hx hb dX10_numberOf_7 ?_
  refine lv_iload_n hx hb dX10_numberOf_8 rfl (lv_at hl 3 rfl) ?_
  refine lv_iadd hx hb dX10_numberOf_9 ?_
  obtain ⟨hg1, hf⟩ := gdS hf
  refine x_iald (k := 4) E hC hW (by decide) rfl (inbS hg1) dX10_numberOf_10 ?_
  refine lv_topi (fun x2 ex2 => ?_)
  have hf := bvS hf ex2
  refine lv_istore (lv' := [(4, .int x2), (0, .ref (L 0)), (1, .int a1), (2, .int a2), (3, .int a3)]) hx hb dX10_numberOf_11 hl (by decide) rfl (fun ls hl => ?_)
  refine lv_aload_n hx hb dX10_numberOf_13 rfl (lv_at hl 1 rfl) ?_
  refine x_getr (k := 0) (k' := 4) E hC hW fl_X10_27 (by decide) rfl rfl dX10_numberOf_14 ?_
  refine lv_bipush (v := 12) hx hb dX10_numberOf_17 (by decide) ?_
  refine lv_iload_n hx hb dX10_numberOf_19 rfl (lv_at hl 2 rfl) ?_
  refine lv_imul hx hb dX10_numberOf_20 ?_
  refine lv_bipush (v := 6) hx hb dX10_numberOf_21 (by decide) ?_
  refine lv_iadd hx hb dX10_numberOf_23 ?_
  refine lv_iload_n hx hb dX10_numberOf_24 rfl (lv_at hl 4 rfl) ?_
  refine lv_iadd hx hb dX10_numberOf_25 ?_
  obtain ⟨hg3, hf⟩ := gdS hf
  refine x_iald (k := 4) E hC hW (by decide) rfl (inbS hg3) dX10_numberOf_26 ?_
  refine lv_topi (fun x4 ex4 => ?_)
  have hf := bvS hf ex4
  refine lv_istore (lv' := [(5, .int x4), (4, .int x2), (0, .ref (L 0)), (1, .int a1), (2, .int a2), (3, .int a3)]) hx hb dX10_numberOf_27 hl (by decide) rfl (fun ls hl => ?_)
  refine lv_aload_n hx hb dX10_numberOf_29 rfl (lv_at hl 2 rfl) ?_
  refine x_getr (k := 0) (k' := 1) E hC hW fl_X10_16 (by decide) rfl rfl dX10_numberOf_30 ?_
  refine lv_iload_n hx hb dX10_numberOf_33 rfl (lv_at hl 3 rfl) ?_
  obtain ⟨hg5, hf⟩ := gdS hf
  refine x_iald (k := 1) E hC hW (by decide) rfl (inbS hg5) dX10_numberOf_34 ?_
  refine lv_topi (fun x6 ex6 => ?_)
  have hf := bvS hf ex6
  by_cases c7 : x6 = 1
  · have hf := xt hf c7
    refine lv_tableIn (off := 33) (tgt := 68) hx hb dX10_numberOf_35 (by rw [c7]; decide) (by rw [c7]; decide) (by rw [c7]; rfl) (by decide) ?_
    refine lv_aload_n hx hb dX10_numberOf_68 rfl (lv_at hl 2 rfl) ?_
    refine lv_iload_n hx hb dX10_numberOf_69 rfl (lv_at hl 4 rfl) ?_
    refine jnS hf (fun (j : Int64 → Option (Int32)) => ∀ (x8 : Int64), (j x8) = some r → ∀ (H : Heap) (locs : List Loc) (ls : Array Slot), lv_has ls 6 [] → Wd D cy L shM 20 S s H locs → W p l e (rmk 1 23) s m args below meth c H locs 0 0 Q (F0 m 85 ls [.long x8, .ref (L 0)])) ?_ ?_
    · intro x8 hf H locs ls hl hW
      try dsimp only at hf
      obtain ⟨r9, g10, hf⟩ := cl1S hf
      refine x_Vr (k := 0) (As := [.long x8]) (rest := []) E hC hW hl.1 (c_X10_rest x8 r9 S g10) cv_X10_82 rfl (by decide) rfl rfl rfl ⟨Nat.le_of_ble_eq_true rfl, Nat.le_of_ble_eq_true rfl⟩ ⟨Nat.le_refl _, Nat.le_refl _⟩ (Nat.le_of_ble_eq_true rfl) dX10_numberOf_85 (fun H locs hW => ?_)
      exact x_iretP E hC hW hr hlk hQ dX10_numberOf_88 hf
    intro j85 J85 hf
    refine lv_if_ne (tgt := 79) hx hb dX10_numberOf_70 (by decide) (fun c11 => ?_) (fun c11 => ?_)
    · have hf := xf hf c11
      refine lv_iload hx hb dX10_numberOf_79 (lv_at hl 1 rfl) ?_
      refine lv_iload hx hb dX10_numberOf_81 (lv_at hl 0 rfl) ?_
      refine lv_iadd hx hb dX10_numberOf_83 ?_
      refine lv_i2l hx hb dX10_numberOf_84 rfl ?_
      exact J85 _ hf _ _ _ (lv_sub hl [] rfl) hW
    · have hf := xt hf c11
      refine lv_iload hx hb dX10_numberOf_73 (lv_at hl 1 rfl) ?_
      refine lv_i2l hx hb dX10_numberOf_75 rfl ?_
      refine lv_goto (tgt := 85) hx hb dX10_numberOf_76 (by decide) ?_
      exact J85 _ hf _ _ _ (lv_sub hl [] rfl) hW
  · have hf := xf hf c7
    by_cases c12 : x6 = 2
    · have hf := xt hf c12
      refine lv_tableIn (off := 54) (tgt := 89) hx hb dX10_numberOf_35 (by rw [c12]; decide) (by rw [c12]; decide) (by rw [c12]; rfl) (by decide) ?_
      refine lv_aload_n hx hb dX10_numberOf_89 rfl (lv_at hl 2 rfl) ?_
      refine lv_iload_n hx hb dX10_numberOf_90 rfl (lv_at hl 4 rfl) ?_
      refine jnS hf (fun (j : Int64 → Option (Int32)) => ∀ (x13 : Int64), (j x13) = some r → ∀ (H : Heap) (locs : List Loc) (ls : Array Slot), lv_has ls 6 [] → Wd D cy L shM 20 S s H locs → W p l e (rmk 1 23) s m args below meth c H locs 0 0 Q (F0 m 103 ls [.long x13, .ref (L 0)])) ?_ ?_
      · intro x13 hf H locs ls hl hW
        try dsimp only at hf
        obtain ⟨r14, g15, hf⟩ := cl1S hf
        refine x_Vr (k := 0) (As := [.long x13]) (rest := []) E hC hW hl.1 (c_X10_rest x13 r14 S g15) cv_X10_82 rfl (by decide) rfl rfl rfl ⟨Nat.le_of_ble_eq_true rfl, Nat.le_of_ble_eq_true rfl⟩ ⟨Nat.le_refl _, Nat.le_refl _⟩ (Nat.le_of_ble_eq_true rfl) dX10_numberOf_103 (fun H locs hW => ?_)
        exact x_iretP E hC hW hr hlk hQ dX10_numberOf_106 hf
      intro j103 J103 hf
      refine lv_if_ne (tgt := 100) hx hb dX10_numberOf_91 (by decide) (fun c16 => ?_) (fun c16 => ?_)
      · have hf := xf hf c16
        refine lv_iload hx hb dX10_numberOf_100 (lv_at hl 1 rfl) ?_
        refine lv_i2l hx hb dX10_numberOf_102 rfl ?_
        exact J103 _ hf _ _ _ (lv_sub hl [] rfl) hW
      · have hf := xt hf c16
        refine lv_iload hx hb dX10_numberOf_94 (lv_at hl 0 rfl) ?_
        refine lv_i2l hx hb dX10_numberOf_96 rfl ?_
        refine lv_goto (tgt := 103) hx hb dX10_numberOf_97 (by decide) ?_
        exact J103 _ hf _ _ _ (lv_sub hl [] rfl) hW
    · have hf := xf hf c12
      by_cases c17 : x6 = 3
      · have hf := xt hf c17
        refine lv_tableIn (off := 72) (tgt := 107) hx hb dX10_numberOf_35 (by rw [c17]; decide) (by rw [c17]; decide) (by rw [c17]; rfl) (by decide) ?_
        refine lv_aload_n hx hb dX10_numberOf_107 rfl (lv_at hl 2 rfl) ?_
        refine lv_iload_n hx hb dX10_numberOf_108 rfl (lv_at hl 4 rfl) ?_
        refine jnS hf (fun (j : Int64 → Option (Int32)) => ∀ (x18 : Int64), (j x18) = some r → ∀ (H : Heap) (locs : List Loc) (ls : Array Slot), lv_has ls 6 [] → Wd D cy L shM 20 S s H locs → W p l e (rmk 1 23) s m args below meth c H locs 0 0 Q (F0 m 127 ls [.long x18, .ref (L 0)])) ?_ ?_
        · intro x18 hf H locs ls hl hW
          try dsimp only at hf
          obtain ⟨r19, g20, hf⟩ := cl1S hf
          refine x_Vr (k := 0) (As := [.long x18]) (rest := []) E hC hW hl.1 (c_X10_rest x18 r19 S g20) cv_X10_82 rfl (by decide) rfl rfl rfl ⟨Nat.le_of_ble_eq_true rfl, Nat.le_of_ble_eq_true rfl⟩ ⟨Nat.le_refl _, Nat.le_refl _⟩ (Nat.le_of_ble_eq_true rfl) dX10_numberOf_127 (fun H locs hW => ?_)
          exact x_iretP E hC hW hr hlk hQ dX10_numberOf_130 hf
        intro j127 J127 hf
        refine lv_if_ne (tgt := 118) hx hb dX10_numberOf_109 (by decide) (fun c21 => ?_) (fun c21 => ?_)
        · have hf := xf hf c21
          refine lv_iload hx hb dX10_numberOf_118 (lv_at hl 1 rfl) ?_
          refine lv_iload hx hb dX10_numberOf_120 (lv_at hl 0 rfl) ?_
          refine lv_iadd hx hb dX10_numberOf_122 ?_
          refine lv_iload hx hb dX10_numberOf_123 (lv_at hl 1 rfl) ?_
          refine lv_iadd hx hb dX10_numberOf_125 ?_
          refine lv_i2l hx hb dX10_numberOf_126 rfl ?_
          exact J127 _ hf _ _ _ (lv_sub hl [] rfl) hW
        · have hf := xt hf c21
          refine lv_iload hx hb dX10_numberOf_112 (lv_at hl 1 rfl) ?_
          refine lv_i2l hx hb dX10_numberOf_114 rfl ?_
          refine lv_goto (tgt := 127) hx hb dX10_numberOf_115 (by decide) ?_
          exact J127 _ hf _ _ _ (lv_sub hl [] rfl) hW
      · have hf := xf hf c17
        by_cases c22 : x6 = 4
        · have hf := xt hf c22
          refine lv_tableIn (off := 96) (tgt := 131) hx hb dX10_numberOf_35 (by rw [c22]; decide) (by rw [c22]; decide) (by rw [c22]; rfl) (by decide) ?_
          refine lv_aload_n hx hb dX10_numberOf_131 rfl (lv_at hl 2 rfl) ?_
          refine lv_iload_n hx hb dX10_numberOf_132 rfl (lv_at hl 4 rfl) ?_
          refine lv_iconst (v := 1) hx hb dX10_numberOf_133 (by decide) ?_
          refine jnS hf (fun (j : Int64 → Option (Int32)) => ∀ (x23 : Int64), (j x23) = some r → ∀ (H : Heap) (locs : List Loc) (ls : Array Slot), lv_has ls 6 [] → Wd D cy L shM 20 S s H locs → W p l e (rmk 1 23) s m args below meth c H locs 0 0 Q (F0 m 154 ls [.long x23, .ref (L 0)])) ?_ ?_
          · intro x23 hf H locs ls hl hW
            try dsimp only at hf
            obtain ⟨r24, g25, hf⟩ := cl1S hf
            refine x_Vr (k := 0) (As := [.long x23]) (rest := []) E hC hW hl.1 (c_X10_rest x23 r24 S g25) cv_X10_82 rfl (by decide) rfl rfl rfl ⟨Nat.le_of_ble_eq_true rfl, Nat.le_of_ble_eq_true rfl⟩ ⟨Nat.le_refl _, Nat.le_refl _⟩ (Nat.le_of_ble_eq_true rfl) dX10_numberOf_154 (fun H locs hW => ?_)
            exact x_iretP E hC hW hr hlk hQ dX10_numberOf_157 hf
          intro j154 J154 hf
          refine lv_icmp_ne (tgt := 143) hx hb dX10_numberOf_134 (by decide) (fun c27 => ?_) (fun c27 => ?_)
          · have hf := xf hf c27
            refine lv_iload_n hx hb dX10_numberOf_143 rfl (lv_at hl 5 rfl) ?_
            refine lv_if_ne (tgt := 151) hx hb dX10_numberOf_144 (by decide) (fun c26 => ?_) (fun c26 => ?_)
            · have hf := xf hf c26
              refine lv_iload hx hb dX10_numberOf_151 (lv_at hl 0 rfl) ?_
              refine lv_i2l hx hb dX10_numberOf_153 rfl ?_
              exact J154 _ hf _ _ _ (lv_sub hl [] rfl) hW
            · have hf := xt hf c26
              refine lv_lconst (v := 0) hx hb dX10_numberOf_147 (by decide) ?_
              refine lv_goto (tgt := 154) hx hb dX10_numberOf_148 (by decide) ?_
              exact J154 _ hf _ _ _ (lv_sub hl [] rfl) hW
          · have hf := xt hf c27
            refine lv_iload hx hb dX10_numberOf_137 (lv_at hl 1 rfl) ?_
            refine lv_i2l hx hb dX10_numberOf_139 rfl ?_
            refine lv_goto (tgt := 154) hx hb dX10_numberOf_140 (by decide) ?_
            exact J154 _ hf _ _ _ (lv_sub hl [] rfl) hW
        · have hf := xf hf c22
          by_cases c28 : x6 = 5
          · have hf := xt hf c28
            refine lv_tableIn (off := 123) (tgt := 158) hx hb dX10_numberOf_35 (by rw [c28]; decide) (by rw [c28]; decide) (by rw [c28]; rfl) (by decide) ?_
            refine lv_aload_n hx hb dX10_numberOf_158 rfl (lv_at hl 2 rfl) ?_
            refine lv_iload hx hb dX10_numberOf_159 (lv_at hl 1 rfl) ?_
            refine lv_i2l hx hb dX10_numberOf_161 rfl ?_
            obtain ⟨r29, g30, hf⟩ := cl1S hf
            refine x_Vr (k := 0) (As := [.long x2.toInt64]) (rest := []) E hC hW hl.1 (c_X10_rest x2.toInt64 r29 S g30) cv_X10_82 rfl (by decide) rfl rfl rfl ⟨Nat.le_of_ble_eq_true rfl, Nat.le_of_ble_eq_true rfl⟩ ⟨Nat.le_refl _, Nat.le_refl _⟩ (Nat.le_of_ble_eq_true rfl) dX10_numberOf_162 (fun H locs hW => ?_)
            exact x_iretP E hC hW hr hlk hQ dX10_numberOf_165 hf
          · have hf := xf hf c28
            refine lv_tableOut (tgt := 166) hx hb dX10_numberOf_35 (by have q0 := lv_neT c7 (a := 1) (by decide); have q1 := lv_neT c12 (a := 2) (by decide); have q2 := lv_neT c17 (a := 3) (by decide); have q3 := lv_neT c22 (a := 4) (by decide); have q4 := lv_neT c28 (a := 5) (by decide); omega) (by decide) ?_
            refine lv_aload_n hx hb dX10_numberOf_166 rfl (lv_at hl 2 rfl) ?_
            refine lv_iload_n hx hb dX10_numberOf_167 rfl (lv_at hl 4 rfl) ?_
            refine jnS hf (fun (j : Int64 → Option (Int32)) => ∀ (x31 : Int64), (j x31) = some r → ∀ (H : Heap) (locs : List Loc) (ls : Array Slot), lv_has ls 6 [] → Wd D cy L shM 20 S s H locs → W p l e (rmk 1 23) s m args below meth c H locs 0 0 Q (F0 m 180 ls [.long x31, .ref (L 0)])) ?_ ?_
            · intro x31 hf H locs ls hl hW
              try dsimp only at hf
              obtain ⟨r32, g33, hf⟩ := cl1S hf
              refine x_Vr (k := 0) (As := [.long x31]) (rest := []) E hC hW hl.1 (c_X10_rest x31 r32 S g33) cv_X10_82 rfl (by decide) rfl rfl rfl ⟨Nat.le_of_ble_eq_true rfl, Nat.le_of_ble_eq_true rfl⟩ ⟨Nat.le_refl _, Nat.le_refl _⟩ (Nat.le_of_ble_eq_true rfl) dX10_numberOf_180 (fun H locs hW => ?_)
              exact x_iretP E hC hW hr hlk hQ dX10_numberOf_183 hf
            intro j180 J180 hf
            refine lv_if_ne (tgt := 177) hx hb dX10_numberOf_168 (by decide) (fun c34 => ?_) (fun c34 => ?_)
            · have hf := xf hf c34
              refine lv_iload hx hb dX10_numberOf_177 (lv_at hl 0 rfl) ?_
              refine lv_i2l hx hb dX10_numberOf_179 rfl ?_
              exact J180 _ hf _ _ _ (lv_sub hl [] rfl) hW
            · have hf := xt hf c34
              refine lv_iload hx hb dX10_numberOf_171 (lv_at hl 1 rfl) ?_
              refine lv_i2l hx hb dX10_numberOf_173 rfl ?_
              refine lv_goto (tgt := 180) hx hb dX10_numberOf_174 (by decide) ?_
              exact J180 _ hf _ _ _ (lv_sub hl [] rfl) hW
set_option maxRecDepth 100000 in
set_option maxHeartbeats 4000000 in
theorem c_X10_laysRow {l : Launch} {D : va_G} {cy : Nat → ClassId} {L : Nat → Nat} {bA : Nat} (a1 : Int32) (a2 : Int32) (S S' : Sg)  (hf : f_X10_laysRow a1 a2 S = some S') : MetX l D cy L shM 20 bA yX10_laysRow cX10_laysRow 4 none 2 48 [.ref (L 0), .int a1, .int a2] none S S' := by
  refine x_met (own := RX10) (by decide) rfl (Nat.le_of_ble_eq_true rfl) ?_
  intro p e s m below meth c ls E hC hr hlk hl hW
  generalize hargs : ([.ref (L 0), .int a1, .int a2] : List Value).toArray = args at E ⊢
  generalize hQ : MQ below (xQ D cy L shM 20 bA none S') args s 0 0 (AL L 20) = Q
  have hl : lv_has ls 4 [(0, .ref (L 0)), (1, .int a1), (2, .int a2)] := hl
  have hx := E.1
  have hb := E.2.1
  have hts := E.2.2.2.2
  unfold f_X10_laysRow at hf
  refine lv_iconst (v := 0) hx hb dX10_laysRow_0 (by decide) ?_
  refine lv_istore_n (lv' := [(3, .int (0 : Int32)), (0, .ref (L 0)), (1, .int a1), (2, .int a2)]) hx hb dX10_laysRow_1 rfl hl (by decide) rfl (fun ls hl => ?_)
  refine wp2K hf (fun (v3 : Int32) (S4 : Sg) => ∀ (H : Heap) (locs : List Loc) (ls : Array Slot), lv_has ls 4 [(0, .ref (L 0)), (1, .int a1), (2, .int a2), (3, .int v3)] → Wd D cy L shM 20 S4 s H locs → W p l e (rmk 2 48) s m args below meth c H locs 0 0 Q (F0 m 2 ls [])) (fun (j : Sg → Option (Sg)) => ∀ (S1 : Sg), (j S1) = some S' → ∀ (H : Heap) (locs : List Loc) (ls : Array Slot), lv_has ls 4 [(0, .ref (L 0))] → Wd D cy L shM 20 S1 s H locs → W p l e (rmk 2 48) s m args below meth c H locs 0 0 Q (F0 m 37 ls [])) ?_ ?_ _ _ _ (lv_sub hl [1, 2, 3, 0] rfl) hW
  · intro S1 hf H locs ls hl hW
    try dsimp only at hf
    refine lv_aload_n hx hb dX10_laysRow_37 rfl (lv_at hl 0 rfl) ?_
    refine lv_dup hx hb dX10_laysRow_38 rfl ?_
    refine x_geti (k := 0) E hC hW fl_X10_138 (by decide) rfl rfl dX10_laysRow_39 ?_
    refine lv_iconst (v := 1) hx hb dX10_laysRow_42 (by decide) ?_
    refine lv_iadd hx hb dX10_laysRow_43 ?_
    refine x_put (k := 0) E hC hW fl_X10_138 pl_10_9 (by decide) rfl rfl rfl rfl dX10_laysRow_44 (fun H locs hW => ?_)
    obtain ⟨S2, eS2⟩ : ∃ z : Sg, z = si S1 0 9 ((S1.1 0 9) + (1 : Int32)) := ⟨_, rfl⟩
    have hW : Wd D cy L shM 20 S2 s H locs := by rw [eS2]; exact hW
    have hf := bvS hf eS2
    exact x_vretI E hC hW hr hlk hQ dX10_laysRow_47 hf
  · intro k37 K37 self2 ih2 v3 S4 hf H locs ls hl hW
    unfold X10_laysRow_L2 at hf
    refine lv_iload_n hx hb dX10_laysRow_2 rfl (lv_at hl 3 rfl) ?_
    refine lv_aload_n hx hb dX10_laysRow_3 rfl (lv_at hl 0 rfl) ?_
    refine x_geti (k := 0) E hC hW fl_X10_13 (by decide) rfl rfl dX10_laysRow_4 ?_
    refine lv_icmp_ge (tgt := 37) hx hb dX10_laysRow_7 (by decide) (fun c10 => ?_) (fun c10 => ?_)
    · have hf := xt hf c10
      exact K37 _ hf _ _ _ (lv_sub hl [0] rfl) hW
    · have hf := xf hf c10
      refine lv_aload_n hx hb dX10_laysRow_10 rfl (lv_at hl 0 rfl) ?_
      refine x_getr (k := 0) (k' := 6) E hC hW fl_X10_33 (by decide) rfl rfl dX10_laysRow_11 ?_
      refine lv_bipush (v := 6) hx hb dX10_laysRow_14 (by decide) ?_
      refine lv_aload_n hx hb dX10_laysRow_16 rfl (lv_at hl 0 rfl) ?_
      refine x_geti (k := 0) E hC hW fl_X10_138 (by decide) rfl rfl dX10_laysRow_17 ?_
      refine lv_imul hx hb dX10_laysRow_20 ?_
      refine lv_iload_n hx hb dX10_laysRow_21 rfl (lv_at hl 3 rfl) ?_
      refine lv_iadd hx hb dX10_laysRow_22 ?_
      refine lv_aload_n hx hb dX10_laysRow_23 rfl (lv_at hl 0 rfl) ?_
      refine lv_iload_n hx hb dX10_laysRow_24 rfl (lv_at hl 1 rfl) ?_
      refine lv_iload_n hx hb dX10_laysRow_25 rfl (lv_at hl 2 rfl) ?_
      refine lv_iload_n hx hb dX10_laysRow_26 rfl (lv_at hl 3 rfl) ?_
      obtain ⟨r5, g6, hf⟩ := cl1S hf
      refine x_Vr (k := 0) (As := [.int a1, .int a2, .int v3]) (rest := [.int (((6 : Int32) * (S4.1 0 9)) + v3), .ref (L 6)]) E hC hW hl.1 (c_X10_numberOf a1 a2 v3 r5 S4 g6) cv_X10_121 rfl (by decide) rfl rfl rfl ⟨Nat.le_of_ble_eq_true rfl, Nat.le_of_ble_eq_true rfl⟩ ⟨Nat.le_refl _, Nat.le_refl _⟩ (Nat.le_of_ble_eq_true rfl) dX10_laysRow_27 (fun H locs hW => ?_)
      obtain ⟨hg7, hf⟩ := gdS hf
      refine x_iast (k := 6) E hC hW (by decide) rfl (inbS hg7) dX10_laysRow_30 (fun H locs hW => ?_)
      obtain ⟨S8, eS8⟩ : ∃ z : Sg, z = si S4 6 (ix (((6 : Int32) * (S4.1 0 9)) + v3)) r5 := ⟨_, rfl⟩
      have hW : Wd D cy L shM 20 S8 s H locs := by rw [eS8]; exact hW
      have hf := bvS hf eS8
      obtain ⟨x9, ex9⟩ : ∃ z : Int32, z = (v3 + 1) := ⟨_, rfl⟩
      have hf := bvS hf ex9
      refine lv_iinc (v := x9) (lv' := [(3, .int x9), (0, .ref (L 0)), (1, .int a1), (2, .int a2)]) hx hb dX10_laysRow_31 hl (k := 3) rfl (by rw [ex9]; rfl) (by decide) rfl (fun ls hl => ?_)
      refine lv_goto (tgt := 2) hx hb dX10_laysRow_34 (by decide) ?_
      exact ih2 _ _ hf _ _ _ (lv_sub hl [1, 2, 3, 0] rfl) hW
set_option maxRecDepth 100000 in
set_option maxHeartbeats 4000000 in
theorem c_X10_adds {l : Launch} {D : va_G} {cy : Nat → ClassId} {L : Nat → Nat} {bA : Nat} (a1 : Int32) (a2 : Int32) (a3 : Int32) (S S' : Sg)  (hf : f_X10_adds a1 a2 a3 S = some S') : MetX l D cy L shM 20 bA yX10_adds cX10_adds 5 none 1 23 [.ref (L 0), .int a1, .int a2, .int a3] none S S' := by
  refine x_met (own := RX10) (by decide) rfl (Nat.le_of_ble_eq_true rfl) ?_
  intro p e s m below meth c ls E hC hr hlk hl hW
  generalize hargs : ([.ref (L 0), .int a1, .int a2, .int a3] : List Value).toArray = args at E ⊢
  generalize hQ : MQ below (xQ D cy L shM 20 bA none S') args s 0 0 (AL L 20) = Q
  have hl : lv_has ls 5 [(0, .ref (L 0)), (1, .int a1), (2, .int a2), (3, .int a3)] := hl
  have hx := E.1
  have hb := E.2.1
  have hts := E.2.2.2.2
  unfold f_X10_adds at hf
  refine lv_iconst (v := 0) hx hb dX10_adds_0 (by decide) ?_
  refine lv_istore (lv' := [(4, .int (0 : Int32)), (0, .ref (L 0)), (1, .int a1), (2, .int a2), (3, .int a3)]) hx hb dX10_adds_1 hl (by decide) rfl (fun ls hl => ?_)
  refine wp2S (fun (v1 : Int32) (S2 : Sg) => ∀ (H : Heap) (locs : List Loc) (ls : Array Slot), lv_has ls 5 [(0, .ref (L 0)), (1, .int a1), (2, .int a2), (3, .int a3), (4, .int v1)] → Wd D cy L shM 20 S2 s H locs → W p l e (rmk 1 23) s m args below meth c H locs 0 0 Q (F0 m 3 ls [])) ?_ hf _ _ _ (lv_sub hl [1, 2, 3, 4, 0] rfl) hW
  · intro self3 ih3 v1 S2 hf H locs ls hl hW
    unfold X10_adds_L3 at hf
    refine lv_iload hx hb dX10_adds_3 (lv_at hl 4 rfl) ?_
    refine lv_aload_n hx hb dX10_adds_5 rfl (lv_at hl 0 rfl) ?_
    refine x_geti (k := 0) E hC hW fl_X10_13 (by decide) rfl rfl dX10_adds_6 ?_
    refine lv_icmp_ge (tgt := 64) hx hb dX10_adds_9 (by decide) (fun c10 => ?_) (fun c10 => ?_)
    · have hf := xt hf c10
      exact x_vretI E hC hW hr hlk hQ dX10_adds_64 hf
    · have hf := xf hf c10
      refine lv_aload_n hx hb dX10_adds_12 rfl (lv_at hl 0 rfl) ?_
      refine x_getr (k := 0) (k' := 6) E hC hW fl_X10_33 (by decide) rfl rfl dX10_adds_13 ?_
      refine lv_bipush (v := 6) hx hb dX10_adds_16 (by decide) ?_
      refine lv_iload_n hx hb dX10_adds_18 rfl (lv_at hl 1 rfl) ?_
      refine lv_imul hx hb dX10_adds_19 ?_
      refine lv_iload hx hb dX10_adds_20 (lv_at hl 4 rfl) ?_
      refine lv_iadd hx hb dX10_adds_22 ?_
      refine lv_aload_n hx hb dX10_adds_23 rfl (lv_at hl 0 rfl) ?_
      refine lv_aload_n hx hb dX10_adds_24 rfl (lv_at hl 0 rfl) ?_
      refine x_getr (k := 0) (k' := 6) E hC hW fl_X10_33 (by decide) rfl rfl dX10_adds_25 ?_
      refine lv_bipush (v := 6) hx hb dX10_adds_28 (by decide) ?_
      refine lv_iload_n hx hb dX10_adds_30 rfl (lv_at hl 1 rfl) ?_
      refine lv_imul hx hb dX10_adds_31 ?_
      refine lv_iload hx hb dX10_adds_32 (lv_at hl 4 rfl) ?_
      refine lv_iadd hx hb dX10_adds_34 ?_
      obtain ⟨hg3, hf⟩ := gdS hf
      refine x_iald (k := 6) E hC hW (by decide) rfl (inbS hg3) dX10_adds_35 ?_
      refine lv_i2l hx hb dX10_adds_36 rfl ?_
      refine lv_iload_n hx hb dX10_adds_37 rfl (lv_at hl 3 rfl) ?_
      refine lv_i2l hx hb dX10_adds_38 rfl ?_
      refine lv_aload_n hx hb dX10_adds_39 rfl (lv_at hl 0 rfl) ?_
      refine x_getr (k := 0) (k' := 6) E hC hW fl_X10_33 (by decide) rfl rfl dX10_adds_40 ?_
      refine lv_bipush (v := 6) hx hb dX10_adds_43 (by decide) ?_
      refine lv_iload_n hx hb dX10_adds_45 rfl (lv_at hl 2 rfl) ?_
      refine lv_imul hx hb dX10_adds_46 ?_
      refine lv_iload hx hb dX10_adds_47 (lv_at hl 4 rfl) ?_
      refine lv_iadd hx hb dX10_adds_49 ?_
      obtain ⟨hg4, hf⟩ := gdS hf
      refine x_iald (k := 6) E hC hW (by decide) rfl (inbS hg4) dX10_adds_50 ?_
      refine lv_i2l hx hb dX10_adds_51 rfl ?_
      refine lv_lmul hx hb dX10_adds_52 ?_
      refine lv_ladd hx hb dX10_adds_53 ?_
      obtain ⟨r5, g6, hf⟩ := cl1S hf
      refine x_Vr (k := 0) (As := [.long ((S2.1 6 (ix (((6 : Int32) * a1) + v1))).toInt64 + (a3.toInt64 * (S2.1 6 (ix (((6 : Int32) * a2) + v1))).toInt64))]) (rest := [.int (((6 : Int32) * a1) + v1), .ref (L 6)]) E hC hW hl.1 (c_X10_rest ((S2.1 6 (ix (((6 : Int32) * a1) + v1))).toInt64 + (a3.toInt64 * (S2.1 6 (ix (((6 : Int32) * a2) + v1))).toInt64)) r5 S2 g6) cv_X10_82 rfl (by decide) rfl rfl rfl ⟨Nat.le_of_ble_eq_true rfl, Nat.le_of_ble_eq_true rfl⟩ ⟨Nat.le_refl _, Nat.le_refl _⟩ (Nat.le_of_ble_eq_true rfl) dX10_adds_54 (fun H locs hW => ?_)
      obtain ⟨hg7, hf⟩ := gdS hf
      refine x_iast (k := 6) E hC hW (by decide) rfl (inbS hg7) dX10_adds_57 (fun H locs hW => ?_)
      obtain ⟨S8, eS8⟩ : ∃ z : Sg, z = si S2 6 (ix (((6 : Int32) * a1) + v1)) r5 := ⟨_, rfl⟩
      have hW : Wd D cy L shM 20 S8 s H locs := by rw [eS8]; exact hW
      have hf := bvS hf eS8
      obtain ⟨x9, ex9⟩ : ∃ z : Int32, z = (v1 + 1) := ⟨_, rfl⟩
      have hf := bvS hf ex9
      refine lv_iinc (v := x9) (lv' := [(4, .int x9), (0, .ref (L 0)), (1, .int a1), (2, .int a2), (3, .int a3)]) hx hb dX10_adds_58 hl (k := 4) rfl (by rw [ex9]; rfl) (by decide) rfl (fun ls hl => ?_)
      refine lv_goto (tgt := 3) hx hb dX10_adds_61 (by decide) ?_
      exact ih3 _ _ hf _ _ _ (lv_sub hl [1, 2, 3, 4, 0] rfl) hW
set_option maxRecDepth 100000 in
set_option maxHeartbeats 4000000 in
theorem c_X10_changes {l : Launch} {D : va_G} {cy : Nat → ClassId} {L : Nat → Nat} {bA : Nat} (a1 : Int32) (a2 : Int32) (S S' : Sg)  (hf : f_X10_changes a1 a2 S = some S') : MetX l D cy L shM 20 bA yX10_changes cX10_changes 5 none 0 0 [.ref (L 0), .int a1, .int a2] none S S' := by
  refine x_met (own := RX10) (by decide) rfl (Nat.le_of_ble_eq_true rfl) ?_
  intro p e s m below meth c ls E hC hr hlk hl hW
  generalize hargs : ([.ref (L 0), .int a1, .int a2] : List Value).toArray = args at E ⊢
  generalize hQ : MQ below (xQ D cy L shM 20 bA none S') args s 0 0 (AL L 20) = Q
  have hl : lv_has ls 5 [(0, .ref (L 0)), (1, .int a1), (2, .int a2)] := hl
  have hx := E.1
  have hb := E.2.1
  have hts := E.2.2.2.2
  unfold f_X10_changes at hf
  refine lv_iconst (v := 0) hx hb dX10_changes_0 (by decide) ?_
  refine lv_istore_n (lv' := [(3, .int (0 : Int32)), (0, .ref (L 0)), (1, .int a1), (2, .int a2)]) hx hb dX10_changes_1 rfl hl (by decide) rfl (fun ls hl => ?_)
  refine wp2S (fun (v1 : Int32) (S2 : Sg) => ∀ (H : Heap) (locs : List Loc) (ls : Array Slot), lv_has ls 5 [(0, .ref (L 0)), (1, .int a1), (2, .int a2), (3, .int v1)] → Wd D cy L shM 20 S2 s H locs → W p l e (rmk 0 0) s m args below meth c H locs 0 0 Q (F0 m 2 ls [])) ?_ hf _ _ _ (lv_sub hl [1, 2, 3, 0] rfl) hW
  · intro self2 ih2 v1 S2 hf H locs ls hl hW
    unfold X10_changes_L2 at hf
    refine lv_iload_n hx hb dX10_changes_2 rfl (lv_at hl 3 rfl) ?_
    refine lv_aload_n hx hb dX10_changes_3 rfl (lv_at hl 0 rfl) ?_
    refine x_geti (k := 0) E hC hW fl_X10_13 (by decide) rfl rfl dX10_changes_4 ?_
    refine lv_icmp_ge (tgt := 64) hx hb dX10_changes_7 (by decide) (fun c11 => ?_) (fun c11 => ?_)
    · have hf := xt hf c11
      exact x_vretI E hC hW hr hlk hQ dX10_changes_64 hf
    · have hf := xf hf c11
      refine lv_aload_n hx hb dX10_changes_10 rfl (lv_at hl 0 rfl) ?_
      refine x_getr (k := 0) (k' := 6) E hC hW fl_X10_33 (by decide) rfl rfl dX10_changes_11 ?_
      refine lv_bipush (v := 6) hx hb dX10_changes_14 (by decide) ?_
      refine lv_iload_n hx hb dX10_changes_16 rfl (lv_at hl 1 rfl) ?_
      refine lv_imul hx hb dX10_changes_17 ?_
      refine lv_iload_n hx hb dX10_changes_18 rfl (lv_at hl 3 rfl) ?_
      refine lv_iadd hx hb dX10_changes_19 ?_
      obtain ⟨hg3, hf⟩ := gdS hf
      refine x_iald (k := 6) E hC hW (by decide) rfl (inbS hg3) dX10_changes_20 ?_
      refine lv_topi (fun x4 ex4 => ?_)
      have hf := bvS hf ex4
      refine lv_istore (lv' := [(4, .int x4), (0, .ref (L 0)), (1, .int a1), (2, .int a2), (3, .int v1)]) hx hb dX10_changes_21 hl (by decide) rfl (fun ls hl => ?_)
      refine lv_aload_n hx hb dX10_changes_23 rfl (lv_at hl 1 rfl) ?_
      refine x_getr (k := 0) (k' := 6) E hC hW fl_X10_33 (by decide) rfl rfl dX10_changes_24 ?_
      refine lv_bipush (v := 6) hx hb dX10_changes_27 (by decide) ?_
      refine lv_iload_n hx hb dX10_changes_29 rfl (lv_at hl 2 rfl) ?_
      refine lv_imul hx hb dX10_changes_30 ?_
      refine lv_iload_n hx hb dX10_changes_31 rfl (lv_at hl 4 rfl) ?_
      refine lv_iadd hx hb dX10_changes_32 ?_
      refine lv_aload_n hx hb dX10_changes_33 rfl (lv_at hl 1 rfl) ?_
      refine x_getr (k := 0) (k' := 6) E hC hW fl_X10_33 (by decide) rfl rfl dX10_changes_34 ?_
      refine lv_bipush (v := 6) hx hb dX10_changes_37 (by decide) ?_
      refine lv_iload_n hx hb dX10_changes_39 rfl (lv_at hl 3 rfl) ?_
      refine lv_imul hx hb dX10_changes_40 ?_
      refine lv_iload_n hx hb dX10_changes_41 rfl (lv_at hl 4 rfl) ?_
      refine lv_iadd hx hb dX10_changes_42 ?_
      obtain ⟨hg5, hf⟩ := gdS hf
      refine x_iald (k := 6) E hC hW (by decide) rfl (inbS hg5) dX10_changes_43 ?_
      obtain ⟨hg6, hf⟩ := gdS hf
      refine x_iast (k := 6) E hC hW (by decide) rfl (inbS hg6) dX10_changes_44 (fun H locs hW => ?_)
      obtain ⟨S7, eS7⟩ : ∃ z : Sg, z = si S2 6 (ix (((6 : Int32) * a1) + v1)) (S2.1 6 (ix (((6 : Int32) * a2) + v1))) := ⟨_, rfl⟩
      have hW : Wd D cy L shM 20 S7 s H locs := by rw [eS7]; exact hW
      have hf := bvS hf eS7
      refine lv_aload_n hx hb dX10_changes_45 rfl (lv_at hl 1 rfl) ?_
      refine x_getr (k := 0) (k' := 6) E hC hW fl_X10_33 (by decide) rfl rfl dX10_changes_46 ?_
      refine lv_bipush (v := 6) hx hb dX10_changes_49 (by decide) ?_
      refine lv_iload_n hx hb dX10_changes_51 rfl (lv_at hl 3 rfl) ?_
      refine lv_imul hx hb dX10_changes_52 ?_
      refine lv_iload_n hx hb dX10_changes_53 rfl (lv_at hl 4 rfl) ?_
      refine lv_iadd hx hb dX10_changes_54 ?_
      refine lv_iload hx hb dX10_changes_55 (lv_at hl 0 rfl) ?_
      obtain ⟨hg8, hf⟩ := gdS hf
      refine x_iast (k := 6) E hC hW (by decide) rfl (inbS hg8) dX10_changes_57 (fun H locs hW => ?_)
      obtain ⟨S9, eS9⟩ : ∃ z : Sg, z = si S7 6 (ix (((6 : Int32) * a2) + v1)) x4 := ⟨_, rfl⟩
      have hW : Wd D cy L shM 20 S9 s H locs := by rw [eS9]; exact hW
      have hf := bvS hf eS9
      obtain ⟨x10, ex10⟩ : ∃ z : Int32, z = (v1 + 1) := ⟨_, rfl⟩
      have hf := bvS hf ex10
      refine lv_iinc (v := x10) (lv' := [(3, .int x10), (4, .int x4), (0, .ref (L 0)), (1, .int a1), (2, .int a2)]) hx hb dX10_changes_58 hl (k := 4) rfl (by rw [ex10]; rfl) (by decide) rfl (fun ls hl => ?_)
      refine lv_goto (tgt := 2) hx hb dX10_changes_61 (by decide) ?_
      exact ih2 _ _ hf _ _ _ (lv_sub hl [2, 3, 4, 0] rfl) hW
set_option maxRecDepth 100000 in
set_option maxHeartbeats 4000000 in
theorem c_X10_ranks {l : Launch} {D : va_G} {cy : Nat → ClassId} {L : Nat → Nat} {bA : Nat}  (r : Int32) (S S' : Sg)  (hf : f_X10_ranks S = some (r, S')) : MetX l D cy L shM 20 bA yX10_ranks cX10_ranks 5 (some .int) 2 47 [.ref (L 0)] (some (.int r)) S S' := by
  refine x_met (own := RX10) (by decide) rfl (Nat.le_of_ble_eq_true rfl) ?_
  intro p e s m below meth c ls E hC hr hlk hl hW
  generalize hargs : ([.ref (L 0)] : List Value).toArray = args at E ⊢
  generalize hQ : MQ below (xQ D cy L shM 20 bA (some (.int r)) S') args s 0 0 (AL L 20) = Q
  have hl : lv_has ls 5 [(0, .ref (L 0))] := hl
  have hx := E.1
  have hb := E.2.1
  have hts := E.2.2.2.2
  unfold f_X10_ranks at hf
  refine lv_iconst (v := 0) hx hb dX10_ranks_0 (by decide) ?_
  refine lv_istore_n (lv' := [(1, .int (0 : Int32)), (0, .ref (L 0))]) hx hb dX10_ranks_1 rfl hl (by decide) rfl (fun ls hl => ?_)
  refine lv_iconst (v := 0) hx hb dX10_ranks_2 (by decide) ?_
  refine lv_istore_n (lv' := [(2, .int (0 : Int32)), (1, .int (0 : Int32)), (0, .ref (L 0))]) hx hb dX10_ranks_3 rfl hl (by decide) rfl (fun ls hl => ?_)
  refine wp3S (fun (v1 : Int32) (v2 : Int32) (S3 : Sg) => ∀ (H : Heap) (locs : List Loc) (ls : Array Slot), lv_has ls 5 [(0, .ref (L 0)), (1, .int v1), (2, .int v2)] → Wd D cy L shM 20 S3 s H locs → W p l e (rmk 2 47) s m args below meth c H locs 0 0 Q (F0 m 4 ls [])) ?_ hf _ _ _ (lv_sub hl [2, 1, 0] rfl) hW
  · intro self4 ih4 v1 v2 S3 hf H locs ls hl hW
    unfold X10_ranks_L4 at hf
    refine lv_iload_n hx hb dX10_ranks_4 rfl (lv_at hl 2 rfl) ?_
    refine lv_aload_n hx hb dX10_ranks_5 rfl (lv_at hl 0 rfl) ?_
    refine x_geti (k := 0) E hC hW fl_X10_13 (by decide) rfl rfl dX10_ranks_6 ?_
    refine lv_icmp_ge (tgt := 150) hx hb dX10_ranks_9 (by decide) (fun c33 => ?_) (fun c33 => ?_)
    · have hf := xt hf c33
      refine lv_iload_n hx hb dX10_ranks_150 rfl (lv_at hl 1 rfl) ?_
      exact x_iretI E hC hW hr hlk hQ dX10_ranks_151 hf
    · have hf := xf hf c33
      refine lv_iload_n hx hb dX10_ranks_12 rfl (lv_at hl 1 rfl) ?_
      refine lv_aload_n hx hb dX10_ranks_13 rfl (lv_at hl 0 rfl) ?_
      refine x_geti (k := 0) E hC hW fl_X10_138 (by decide) rfl rfl dX10_ranks_14 ?_
      refine lv_icmp_ge (tgt := 150) hx hb dX10_ranks_17 (by decide) (fun c32 => ?_) (fun c32 => ?_)
      · have hf := xt hf c32
        refine lv_iload_n hx hb dX10_ranks_150 rfl (lv_at hl 1 rfl) ?_
        exact x_iretI E hC hW hr hlk hQ dX10_ranks_151 hf
      · have hf := xf hf c32
        refine lv_iload_n hx hb dX10_ranks_20 rfl (lv_at hl 1 rfl) ?_
        refine lv_istore_n (lv' := [(3, .int v1), (0, .ref (L 0)), (1, .int v1), (2, .int v2)]) hx hb dX10_ranks_21 rfl hl (by decide) rfl (fun ls hl => ?_)
        refine wp1K hf (fun (v27 : Int32) => ∀ (H : Heap) (locs : List Loc) (ls : Array Slot), lv_has ls 5 [(0, .ref (L 0)), (1, .int v1), (2, .int v2), (3, .int v27)] → Wd D cy L shM 20 S3 s H locs → W p l e (rmk 2 47) s m args below meth c H locs 0 0 Q (F0 m 22 ls [])) (fun (j : Int32 → Option (Int32 × Sg)) => ∀ (v4 : Int32), (j v4) = some (r, S') → ∀ (H : Heap) (locs : List Loc) (ls : Array Slot), lv_has ls 5 [(0, .ref (L 0)), (1, .int v1), (2, .int v2), (3, .int v4)] → Wd D cy L shM 20 S3 s H locs → W p l e (rmk 2 47) s m args below meth c H locs 0 0 Q (F0 m 50 ls [])) ?_ ?_ _ _ _ (lv_sub hl [1, 2, 3, 0] rfl) hW
        · intro v4 hf H locs ls hl hW
          try dsimp only at hf
          refine lv_iload_n hx hb dX10_ranks_50 rfl (lv_at hl 3 rfl) ?_
          refine lv_aload_n hx hb dX10_ranks_51 rfl (lv_at hl 0 rfl) ?_
          refine x_geti (k := 0) E hC hW fl_X10_138 (by decide) rfl rfl dX10_ranks_52 ?_
          refine jnS hf (fun (j : Int32 → Sg → Option (Int32 × Sg)) => ∀ (v5 : Int32) (S6 : Sg), (j v5 S6) = some (r, S') → ∀ (H : Heap) (locs : List Loc) (ls : Array Slot), lv_has ls 5 [(0, .ref (L 0)), (1, .int v5), (2, .int v2)] → Wd D cy L shM 20 S6 s H locs → W p l e (rmk 2 47) s m args below meth c H locs 0 0 Q (F0 m 144 ls [])) ?_ ?_
          · intro v5 S6 hf H locs ls hl hW
            try dsimp only at hf
            obtain ⟨x7, ex7⟩ : ∃ z : Int32, z = (v2 + 1) := ⟨_, rfl⟩
            have hf := bvS hf ex7
            refine lv_iinc (v := x7) (lv' := [(2, .int x7), (0, .ref (L 0)), (1, .int v5)]) hx hb dX10_ranks_144 hl (k := 2) rfl (by rw [ex7]; rfl) (by decide) rfl (fun ls hl => ?_)
            refine lv_goto (tgt := 4) hx hb dX10_ranks_147 (by decide) ?_
            exact ih4 _ _ _ hf _ _ _ (lv_sub hl [1, 2, 0] rfl) hW
          intro j144 J144 hf
          refine lv_icmp_ne (tgt := 61) hx hb dX10_ranks_55 (by decide) (fun c26 => ?_) (fun c26 => ?_)
          · have hf := xf hf c26
            refine lv_aload_n hx hb dX10_ranks_61 rfl (lv_at hl 0 rfl) ?_
            refine lv_iload_n hx hb dX10_ranks_62 rfl (lv_at hl 1 rfl) ?_
            refine lv_iload_n hx hb dX10_ranks_63 rfl (lv_at hl 3 rfl) ?_
            obtain ⟨S9, g8, hf⟩ := cl1S hf
            refine x_Vv (k := 0) (As := [.int v1, .int v4]) (rest := []) E hC hW hl.1 (c_X10_changes v1 v4 S3 S9 g8) cv_X10_141 rfl (by decide) rfl rfl rfl ⟨Nat.le_of_ble_eq_true rfl, Nat.le_of_ble_eq_true rfl⟩ ⟨Nat.le_refl _, Nat.le_refl _⟩ (Nat.le_of_ble_eq_true rfl) dX10_ranks_64 (fun H locs hW => ?_)
            refine lv_iload_n hx hb dX10_ranks_67 rfl (lv_at hl 1 rfl) ?_
            refine lv_iconst (v := 1) hx hb dX10_ranks_68 (by decide) ?_
            refine lv_iadd hx hb dX10_ranks_69 ?_
            refine lv_topi (fun x10 ex10 => ?_)
            have hf := bvS hf ex10
            refine lv_istore (lv' := [(4, .int x10), (0, .ref (L 0)), (1, .int v1), (2, .int v2), (3, .int v4)]) hx hb dX10_ranks_70 hl (by decide) rfl (fun ls hl => ?_)
            refine wp2K hf (fun (v13 : Int32) (S14 : Sg) => ∀ (H : Heap) (locs : List Loc) (ls : Array Slot), lv_has ls 5 [(0, .ref (L 0)), (1, .int v1), (2, .int v2), (4, .int v13)] → Wd D cy L shM 20 S14 s H locs → W p l e (rmk 2 47) s m args below meth c H locs 0 0 Q (F0 m 72 ls [])) (fun (j : Sg → Option (Int32 × Sg)) => ∀ (S11 : Sg), (j S11) = some (r, S') → ∀ (H : Heap) (locs : List Loc) (ls : Array Slot), lv_has ls 5 [(0, .ref (L 0)), (1, .int v1), (2, .int v2)] → Wd D cy L shM 20 S11 s H locs → W p l e (rmk 2 47) s m args below meth c H locs 0 0 Q (F0 m 141 ls [])) ?_ ?_ _ _ _ (lv_sub hl [1, 2, 3, 0] rfl) hW
            · intro S11 hf H locs ls hl hW
              try dsimp only at hf
              obtain ⟨x12, ex12⟩ : ∃ z : Int32, z = (v1 + 1) := ⟨_, rfl⟩
              have hf := bvS hf ex12
              refine lv_iinc (v := x12) (lv' := [(1, .int x12), (0, .ref (L 0)), (2, .int v2)]) hx hb dX10_ranks_141 hl (k := 1) rfl (by rw [ex12]; rfl) (by decide) rfl (fun ls hl => ?_)
              exact J144 _ _ hf _ _ _ (lv_sub hl [1, 0, 2] rfl) hW
            · intro k141 K141 self72 ih72 v13 S14 hf H locs ls hl hW
              unfold X10_ranks_L72 at hf
              refine lv_iload hx hb dX10_ranks_72 (lv_at hl 3 rfl) ?_
              refine lv_aload_n hx hb dX10_ranks_74 rfl (lv_at hl 0 rfl) ?_
              refine x_geti (k := 0) E hC hW fl_X10_138 (by decide) rfl rfl dX10_ranks_75 ?_
              refine lv_icmp_ge (tgt := 141) hx hb dX10_ranks_78 (by decide) (fun c25 => ?_) (fun c25 => ?_)
              · have hf := xt hf c25
                exact K141 _ hf _ _ _ (lv_sub hl [0, 1, 2] rfl) hW
              · have hf := xf hf c25
                refine lv_aload_n hx hb dX10_ranks_81 rfl (lv_at hl 0 rfl) ?_
                refine x_getr (k := 0) (k' := 6) E hC hW fl_X10_33 (by decide) rfl rfl dX10_ranks_82 ?_
                refine lv_bipush (v := 6) hx hb dX10_ranks_85 (by decide) ?_
                refine lv_iload hx hb dX10_ranks_87 (lv_at hl 3 rfl) ?_
                refine lv_imul hx hb dX10_ranks_89 ?_
                refine lv_iload_n hx hb dX10_ranks_90 rfl (lv_at hl 2 rfl) ?_
                refine lv_iadd hx hb dX10_ranks_91 ?_
                obtain ⟨hg15, hf⟩ := gdS hf
                refine x_iald (k := 6) E hC hW (by decide) rfl (inbS hg15) dX10_ranks_92 ?_
                refine jnS hf (fun (j : Sg → Option (Int32 × Sg)) => ∀ (S16 : Sg), (j S16) = some (r, S') → ∀ (H : Heap) (locs : List Loc) (ls : Array Slot), lv_has ls 5 [(0, .ref (L 0)), (1, .int v1), (2, .int v2), (4, .int v13)] → Wd D cy L shM 20 S16 s H locs → W p l e (rmk 2 47) s m args below meth c H locs 0 0 Q (F0 m 135 ls [])) ?_ ?_
                · intro S16 hf H locs ls hl hW
                  try dsimp only at hf
                  obtain ⟨x17, ex17⟩ : ∃ z : Int32, z = (v13 + 1) := ⟨_, rfl⟩
                  have hf := bvS hf ex17
                  refine lv_iinc (v := x17) (lv' := [(4, .int x17), (0, .ref (L 0)), (1, .int v1), (2, .int v2)]) hx hb dX10_ranks_135 hl (k := 3) rfl (by rw [ex17]; rfl) (by decide) rfl (fun ls hl => ?_)
                  refine lv_goto (tgt := 72) hx hb dX10_ranks_138 (by decide) ?_
                  exact ih72 _ _ hf _ _ _ (lv_sub hl [1, 2, 3, 0] rfl) hW
                intro j135 J135 hf
                refine lv_if_eq (tgt := 135) hx hb dX10_ranks_93 (by decide) (fun c24 => ?_) (fun c24 => ?_)
                · have hf := xt hf c24
                  exact J135 _ hf _ _ _ (lv_sub hl [0, 1, 2, 3] rfl) hW
                · have hf := xf hf c24
                  refine lv_aload_n hx hb dX10_ranks_96 rfl (lv_at hl 0 rfl) ?_
                  refine lv_iload hx hb dX10_ranks_97 (lv_at hl 3 rfl) ?_
                  refine lv_iload_n hx hb dX10_ranks_99 rfl (lv_at hl 1 rfl) ?_
                  refine lv_aload_n hx hb dX10_ranks_100 rfl (lv_at hl 0 rfl) ?_
                  refine x_geti (k := 0) E hC hW fl_X10_7 (by decide) rfl rfl dX10_ranks_101 ?_
                  refine lv_aload_n hx hb dX10_ranks_104 rfl (lv_at hl 0 rfl) ?_
                  refine lv_aload_n hx hb dX10_ranks_105 rfl (lv_at hl 0 rfl) ?_
                  refine x_getr (k := 0) (k' := 6) E hC hW fl_X10_33 (by decide) rfl rfl dX10_ranks_106 ?_
                  refine lv_bipush (v := 6) hx hb dX10_ranks_109 (by decide) ?_
                  refine lv_iload hx hb dX10_ranks_111 (lv_at hl 3 rfl) ?_
                  refine lv_imul hx hb dX10_ranks_113 ?_
                  refine lv_iload_n hx hb dX10_ranks_114 rfl (lv_at hl 2 rfl) ?_
                  refine lv_iadd hx hb dX10_ranks_115 ?_
                  obtain ⟨hg18, hf⟩ := gdS hf
                  refine x_iald (k := 6) E hC hW (by decide) rfl (inbS hg18) dX10_ranks_116 ?_
                  refine lv_aload_n hx hb dX10_ranks_117 rfl (lv_at hl 0 rfl) ?_
                  refine x_getr (k := 0) (k' := 6) E hC hW fl_X10_33 (by decide) rfl rfl dX10_ranks_118 ?_
                  refine lv_bipush (v := 6) hx hb dX10_ranks_121 (by decide) ?_
                  refine lv_iload_n hx hb dX10_ranks_123 rfl (lv_at hl 1 rfl) ?_
                  refine lv_imul hx hb dX10_ranks_124 ?_
                  refine lv_iload_n hx hb dX10_ranks_125 rfl (lv_at hl 2 rfl) ?_
                  refine lv_iadd hx hb dX10_ranks_126 ?_
                  obtain ⟨hg19, hf⟩ := gdS hf
                  refine x_iald (k := 6) E hC hW (by decide) rfl (inbS hg19) dX10_ranks_127 ?_
                  obtain ⟨r20, g21, hf⟩ := cl1S hf
                  refine x_Vr (k := 0) (As := [.int (S14.1 6 (ix (((6 : Int32) * v13) + v2))), .int (S14.1 6 (ix (((6 : Int32) * v1) + v2)))]) (rest := [.int (S14.1 0 0), .int v1, .int v13, .ref (L 0)]) E hC hW hl.1 (c_X10_over (S14.1 6 (ix (((6 : Int32) * v13) + v2))) (S14.1 6 (ix (((6 : Int32) * v1) + v2))) r20 S14 g21) cv_X10_96 rfl (by decide) rfl rfl rfl ⟨Nat.le_of_ble_eq_true rfl, Nat.le_of_ble_eq_true rfl⟩ ⟨Nat.le_refl _, Nat.le_refl _⟩ (Nat.le_of_ble_eq_true rfl) dX10_ranks_128 (fun H locs hW => ?_)
                  refine lv_isub hx hb dX10_ranks_131 ?_
                  obtain ⟨S23, g22, hf⟩ := cl1S hf
                  refine x_Vv (k := 0) (As := [.int v13, .int v1, .int ((S14.1 0 0) - r20)]) (rest := []) E hC hW hl.1 (c_X10_adds v13 v1 ((S14.1 0 0) - r20) S14 S23 g22) cv_X10_145 rfl (by decide) rfl rfl rfl ⟨Nat.le_of_ble_eq_true rfl, Nat.le_of_ble_eq_true rfl⟩ ⟨Nat.le_refl _, Nat.le_refl _⟩ (Nat.le_of_ble_eq_true rfl) dX10_ranks_132 (fun H locs hW => ?_)
                  exact J135 _ hf _ _ _ (lv_sub hl [0, 1, 2, 3] rfl) hW
          · have hf := xt hf c26
            refine lv_goto (tgt := 144) hx hb dX10_ranks_58 (by decide) ?_
            exact J144 _ _ hf _ _ _ (lv_sub hl [0, 1, 2] rfl) hW
        · intro k50 K50 self22 ih22 v27 hf H locs ls hl hW
          unfold X10_ranks_L22 at hf
          refine lv_iload_n hx hb dX10_ranks_22 rfl (lv_at hl 3 rfl) ?_
          refine lv_aload_n hx hb dX10_ranks_23 rfl (lv_at hl 0 rfl) ?_
          refine x_geti (k := 0) E hC hW fl_X10_138 (by decide) rfl rfl dX10_ranks_24 ?_
          refine lv_icmp_ge (tgt := 50) hx hb dX10_ranks_27 (by decide) (fun c31 => ?_) (fun c31 => ?_)
          · have hf := xt hf c31
            exact K50 _ hf _ _ _ (lv_sub hl [0, 1, 2, 3] rfl) hW
          · have hf := xf hf c31
            refine lv_aload_n hx hb dX10_ranks_30 rfl (lv_at hl 0 rfl) ?_
            refine x_getr (k := 0) (k' := 6) E hC hW fl_X10_33 (by decide) rfl rfl dX10_ranks_31 ?_
            refine lv_bipush (v := 6) hx hb dX10_ranks_34 (by decide) ?_
            refine lv_iload_n hx hb dX10_ranks_36 rfl (lv_at hl 3 rfl) ?_
            refine lv_imul hx hb dX10_ranks_37 ?_
            refine lv_iload_n hx hb dX10_ranks_38 rfl (lv_at hl 2 rfl) ?_
            refine lv_iadd hx hb dX10_ranks_39 ?_
            obtain ⟨hg28, hf⟩ := gdS hf
            refine x_iald (k := 6) E hC hW (by decide) rfl (inbS hg28) dX10_ranks_40 ?_
            refine lv_if_ne (tgt := 50) hx hb dX10_ranks_41 (by decide) (fun c30 => ?_) (fun c30 => ?_)
            · have hf := xf hf c30
              exact K50 _ hf _ _ _ (lv_sub hl [0, 1, 2, 3] rfl) hW
            · have hf := xt hf c30
              obtain ⟨x29, ex29⟩ : ∃ z : Int32, z = (v27 + 1) := ⟨_, rfl⟩
              have hf := bvS hf ex29
              refine lv_iinc (v := x29) (lv' := [(3, .int x29), (0, .ref (L 0)), (1, .int v1), (2, .int v2)]) hx hb dX10_ranks_44 hl (k := 3) rfl (by rw [ex29]; rfl) (by decide) rfl (fun ls hl => ?_)
              refine lv_goto (tgt := 22) hx hb dX10_ranks_47 (by decide) ?_
              exact ih22 _ hf _ _ _ (lv_sub hl [1, 2, 3, 0] rfl) hW
set_option maxRecDepth 100000 in
set_option maxHeartbeats 4000000 in
theorem c_X10_rankOf {l : Launch} {D : va_G} {cy : Nat → ClassId} {L : Nat → Nat} {bA : Nat} (a1 : Int32) (a2 : Int32) (r : Int32) (S S' : Sg)  (hf : f_X10_rankOf a1 a2 S = some (r, S')) : MetX l D cy L shM 20 bA yX10_rankOf cX10_rankOf 4 (some .int) 3 71 [.ref (L 0), .int a1, .int a2] (some (.int r)) S S' := by
  refine x_met (own := RX10) (by decide) rfl (Nat.le_of_ble_eq_true rfl) ?_
  intro p e s m below meth c ls E hC hr hlk hl hW
  generalize hargs : ([.ref (L 0), .int a1, .int a2] : List Value).toArray = args at E ⊢
  generalize hQ : MQ below (xQ D cy L shM 20 bA (some (.int r)) S') args s 0 0 (AL L 20) = Q
  have hl : lv_has ls 4 [(0, .ref (L 0)), (1, .int a1), (2, .int a2)] := hl
  have hx := E.1
  have hb := E.2.1
  have hts := E.2.2.2.2
  unfold f_X10_rankOf at hf
  refine lv_aload_n hx hb dX10_rankOf_0 rfl (lv_at hl 0 rfl) ?_
  refine lv_iconst (v := 0) hx hb dX10_rankOf_1 (by decide) ?_
  refine x_put (k := 0) E hC hW fl_X10_138 pl_10_9 (by decide) rfl rfl rfl rfl dX10_rankOf_2 (fun H locs hW => ?_)
  obtain ⟨S1, eS1⟩ : ∃ z : Sg, z = si S 0 9 (0 : Int32) := ⟨_, rfl⟩
  have hW : Wd D cy L shM 20 S1 s H locs := by rw [eS1]; exact hW
  have hf := bvS hf eS1
  refine lv_iconst (v := 0) hx hb dX10_rankOf_5 (by decide) ?_
  refine lv_istore_n (lv' := [(3, .int (0 : Int32)), (0, .ref (L 0)), (1, .int a1), (2, .int a2)]) hx hb dX10_rankOf_6 rfl hl (by decide) rfl (fun ls hl => ?_)
  refine wp2K hf (fun (v19 : Int32) (S20 : Sg) => ∀ (H : Heap) (locs : List Loc) (ls : Array Slot), lv_has ls 4 [(0, .ref (L 0)), (1, .int a1), (2, .int a2), (3, .int v19)] → Wd D cy L shM 20 S20 s H locs → W p l e (rmk 3 71) s m args below meth c H locs 0 0 Q (F0 m 7 ls [])) (fun (j : Sg → Option (Int32 × Sg)) => ∀ (S2 : Sg), (j S2) = some (r, S') → ∀ (H : Heap) (locs : List Loc) (ls : Array Slot), lv_has ls 4 [(0, .ref (L 0)), (1, .int a1)] → Wd D cy L shM 20 S2 s H locs → W p l e (rmk 3 71) s m args below meth c H locs 0 0 Q (F0 m 34 ls [])) ?_ ?_ _ _ _ (lv_sub hl [1, 2, 3, 0] rfl) hW
  · intro S2 hf H locs ls hl hW
    try dsimp only at hf
    refine lv_iconst (v := 0) hx hb dX10_rankOf_34 (by decide) ?_
    refine lv_istore_n (lv' := [(3, .int (0 : Int32)), (0, .ref (L 0)), (1, .int a1)]) hx hb dX10_rankOf_35 rfl hl (by decide) rfl (fun ls hl => ?_)
    refine wp2K hf (fun (v7 : Int32) (S8 : Sg) => ∀ (H : Heap) (locs : List Loc) (ls : Array Slot), lv_has ls 4 [(0, .ref (L 0)), (1, .int a1), (3, .int v7)] → Wd D cy L shM 20 S8 s H locs → W p l e (rmk 3 71) s m args below meth c H locs 0 0 Q (F0 m 36 ls [])) (fun (j : Sg → Option (Int32 × Sg)) => ∀ (S3 : Sg), (j S3) = some (r, S') → ∀ (H : Heap) (locs : List Loc) (ls : Array Slot), lv_has ls 4 [(0, .ref (L 0))] → Wd D cy L shM 20 S3 s H locs → W p l e (rmk 3 71) s m args below meth c H locs 0 0 Q (F0 m 70 ls [])) ?_ ?_ _ _ _ (lv_sub hl [1, 2, 0] rfl) hW
    · intro S3 hf H locs ls hl hW
      try dsimp only at hf
      refine lv_aload_n hx hb dX10_rankOf_70 rfl (lv_at hl 0 rfl) ?_
      obtain ⟨r4, S6, g5, hf⟩ := clS hf
      refine x_Vr (k := 0) (As := []) (rest := []) E hC hW hl.1 (c_X10_ranks r4 S3 S6 g5) cv_X10_160 rfl (by decide) rfl rfl rfl ⟨Nat.le_of_ble_eq_true rfl, Nat.le_of_ble_eq_true rfl⟩ ⟨Nat.le_refl _, Nat.le_refl _⟩ (Nat.le_of_ble_eq_true rfl) dX10_rankOf_71 (fun H locs hW => ?_)
      exact x_iretI E hC hW hr hlk hQ dX10_rankOf_74 hf
    · intro k70 K70 self36 ih36 v7 S8 hf H locs ls hl hW
      unfold X10_rankOf_L36 at hf
      refine lv_iload_n hx hb dX10_rankOf_36 rfl (lv_at hl 2 rfl) ?_
      refine lv_aload_n hx hb dX10_rankOf_37 rfl (lv_at hl 0 rfl) ?_
      refine x_geti (k := 0) E hC hW fl_X10_75 (by decide) rfl rfl dX10_rankOf_38 ?_
      refine lv_icmp_ge (tgt := 70) hx hb dX10_rankOf_41 (by decide) (fun c18 => ?_) (fun c18 => ?_)
      · have hf := xt hf c18
        exact K70 _ hf _ _ _ (lv_sub hl [0] rfl) hW
      · have hf := xf hf c18
        refine lv_iload_n hx hb dX10_rankOf_44 rfl (lv_at hl 1 rfl) ?_
        refine lv_iload_n hx hb dX10_rankOf_45 rfl (lv_at hl 2 rfl) ?_
        obtain ⟨r9, g10, hf⟩ := cl1S hf
        refine x_Sr (As := [.int a1, .int v7]) (rest := []) E hC hW hl.1 (c_X10_has a1 v7 r9 S8 g10) cs_X10_149 rfl rfl ⟨Nat.le_of_ble_eq_true rfl, Nat.le_of_ble_eq_true rfl⟩ ⟨Nat.le_refl _, Nat.le_refl _⟩ (Nat.le_of_ble_eq_true rfl) dX10_rankOf_46 (fun H locs hW => ?_)
        refine jnS hf (fun (j : Sg → Option (Int32 × Sg)) => ∀ (S11 : Sg), (j S11) = some (r, S') → ∀ (H : Heap) (locs : List Loc) (ls : Array Slot), lv_has ls 4 [(0, .ref (L 0)), (1, .int a1), (3, .int v7)] → Wd D cy L shM 20 S11 s H locs → W p l e (rmk 3 71) s m args below meth c H locs 0 0 Q (F0 m 64 ls [])) ?_ ?_
        · intro S11 hf H locs ls hl hW
          try dsimp only at hf
          obtain ⟨x12, ex12⟩ : ∃ z : Int32, z = (v7 + 1) := ⟨_, rfl⟩
          have hf := bvS hf ex12
          refine lv_iinc (v := x12) (lv' := [(3, .int x12), (0, .ref (L 0)), (1, .int a1)]) hx hb dX10_rankOf_64 hl (k := 2) rfl (by rw [ex12]; rfl) (by decide) rfl (fun ls hl => ?_)
          refine lv_goto (tgt := 36) hx hb dX10_rankOf_67 (by decide) ?_
          exact ih36 _ _ hf _ _ _ (lv_sub hl [1, 2, 0] rfl) hW
        intro j64 J64 hf
        refine lv_if_eq (tgt := 64) hx hb dX10_rankOf_49 (by decide) (fun c17 => ?_) (fun c17 => ?_)
        · have hf := xt hf c17
          exact J64 _ hf _ _ _ (lv_sub hl [0, 1, 2] rfl) hW
        · have hf := xf hf c17
          refine lv_aload_n hx hb dX10_rankOf_52 rfl (lv_at hl 0 rfl) ?_
          refine lv_iload_n hx hb dX10_rankOf_53 rfl (lv_at hl 2 rfl) ?_
          refine lv_iconst (v := 0) hx hb dX10_rankOf_54 (by decide) ?_
          obtain ⟨S14, g13, hf⟩ := cl1S hf
          refine x_Vv (k := 0) (As := [.int v7, .int (0 : Int32)]) (rest := []) E hC hW hl.1 (c_X10_laysRow v7 (0 : Int32) S8 S14 g13) cv_X10_157 rfl (by decide) rfl rfl rfl ⟨Nat.le_of_ble_eq_true rfl, Nat.le_of_ble_eq_true rfl⟩ ⟨Nat.le_refl _, Nat.le_refl _⟩ (Nat.le_of_ble_eq_true rfl) dX10_rankOf_55 (fun H locs hW => ?_)
          refine lv_aload_n hx hb dX10_rankOf_58 rfl (lv_at hl 0 rfl) ?_
          refine lv_iload_n hx hb dX10_rankOf_59 rfl (lv_at hl 2 rfl) ?_
          refine lv_iconst (v := 1) hx hb dX10_rankOf_60 (by decide) ?_
          obtain ⟨S16, g15, hf⟩ := cl1S hf
          refine x_Vv (k := 0) (As := [.int v7, .int (1 : Int32)]) (rest := []) E hC hW hl.1 (c_X10_laysRow v7 (1 : Int32) S14 S16 g15) cv_X10_157 rfl (by decide) rfl rfl rfl ⟨Nat.le_of_ble_eq_true rfl, Nat.le_of_ble_eq_true rfl⟩ ⟨Nat.le_refl _, Nat.le_refl _⟩ (Nat.le_of_ble_eq_true rfl) dX10_rankOf_61 (fun H locs hW => ?_)
          exact J64 _ hf _ _ _ (lv_sub hl [0, 1, 2] rfl) hW
  · intro k34 K34 self7 ih7 v19 S20 hf H locs ls hl hW
    unfold X10_rankOf_L7 at hf
    refine lv_iload_n hx hb dX10_rankOf_7 rfl (lv_at hl 3 rfl) ?_
    refine lv_aload_n hx hb dX10_rankOf_8 rfl (lv_at hl 0 rfl) ?_
    refine x_geti (k := 0) E hC hW fl_X10_13 (by decide) rfl rfl dX10_rankOf_9 ?_
    refine lv_icmp_ge (tgt := 34) hx hb dX10_rankOf_12 (by decide) (fun c28 => ?_) (fun c28 => ?_)
    · have hf := xt hf c28
      exact K34 _ hf _ _ _ (lv_sub hl [0, 1] rfl) hW
    · have hf := xf hf c28
      refine lv_iload_n hx hb dX10_rankOf_15 rfl (lv_at hl 2 rfl) ?_
      refine lv_iload_n hx hb dX10_rankOf_16 rfl (lv_at hl 3 rfl) ?_
      obtain ⟨r21, g22, hf⟩ := cl1S hf
      refine x_Sr (As := [.int a2, .int v19]) (rest := []) E hC hW hl.1 (c_X10_has a2 v19 r21 S20 g22) cs_X10_149 rfl rfl ⟨Nat.le_of_ble_eq_true rfl, Nat.le_of_ble_eq_true rfl⟩ ⟨Nat.le_refl _, Nat.le_refl _⟩ (Nat.le_of_ble_eq_true rfl) dX10_rankOf_17 (fun H locs hW => ?_)
      refine jnS hf (fun (j : Sg → Option (Int32 × Sg)) => ∀ (S23 : Sg), (j S23) = some (r, S') → ∀ (H : Heap) (locs : List Loc) (ls : Array Slot), lv_has ls 4 [(0, .ref (L 0)), (1, .int a1), (2, .int a2), (3, .int v19)] → Wd D cy L shM 20 S23 s H locs → W p l e (rmk 3 71) s m args below meth c H locs 0 0 Q (F0 m 28 ls [])) ?_ ?_
      · intro S23 hf H locs ls hl hW
        try dsimp only at hf
        obtain ⟨x24, ex24⟩ : ∃ z : Int32, z = (v19 + 1) := ⟨_, rfl⟩
        have hf := bvS hf ex24
        refine lv_iinc (v := x24) (lv' := [(3, .int x24), (0, .ref (L 0)), (1, .int a1), (2, .int a2)]) hx hb dX10_rankOf_28 hl (k := 3) rfl (by rw [ex24]; rfl) (by decide) rfl (fun ls hl => ?_)
        refine lv_goto (tgt := 7) hx hb dX10_rankOf_31 (by decide) ?_
        exact ih7 _ _ hf _ _ _ (lv_sub hl [1, 2, 3, 0] rfl) hW
      intro j28 J28 hf
      refine lv_if_eq (tgt := 28) hx hb dX10_rankOf_20 (by decide) (fun c27 => ?_) (fun c27 => ?_)
      · have hf := xt hf c27
        exact J28 _ hf _ _ _ (lv_sub hl [0, 1, 2, 3] rfl) hW
      · have hf := xf hf c27
        refine lv_aload_n hx hb dX10_rankOf_23 rfl (lv_at hl 0 rfl) ?_
        refine lv_iload_n hx hb dX10_rankOf_24 rfl (lv_at hl 3 rfl) ?_
        obtain ⟨S26, g25, hf⟩ := cl1S hf
        refine x_Vv (k := 0) (As := [.int v19]) (rest := []) E hC hW hl.1 (c_X10_laysAxis v19 S20 S26 g25) cv_X10_153 rfl (by decide) rfl rfl rfl ⟨Nat.le_of_ble_eq_true rfl, Nat.le_of_ble_eq_true rfl⟩ ⟨Nat.le_refl _, Nat.le_refl _⟩ (Nat.le_of_ble_eq_true rfl) dX10_rankOf_25 (fun H locs hW => ?_)
        exact J28 _ hf _ _ _ (lv_sub hl [0, 1, 2, 3] rfl) hW
set_option maxRecDepth 100000 in
set_option maxHeartbeats 4000000 in
theorem c_X10_told {l : Launch} {D : va_G} {cy : Nat → ClassId} {L : Nat → Nat} {bA : Nat} (a1 : Int32) (a2 : Int32) (r : Int32) (S S' : Sg)  (hf : f_X10_told a1 a2 S = some (r, S')) : MetX l D cy L shM 20 bA yX10_told cX10_told 3 (some .int) 4 94 [.ref (L 0), .int a1, .int a2] (some (.int r)) S S' := by
  refine x_met (own := RX10) (by decide) rfl (Nat.le_of_ble_eq_true rfl) ?_
  intro p e s m below meth c ls E hC hr hlk hl hW
  generalize hargs : ([.ref (L 0), .int a1, .int a2] : List Value).toArray = args at E ⊢
  generalize hQ : MQ below (xQ D cy L shM 20 bA (some (.int r)) S') args s 0 0 (AL L 20) = Q
  have hl : lv_has ls 3 [(0, .ref (L 0)), (1, .int a1), (2, .int a2)] := hl
  have hx := E.1
  have hb := E.2.1
  have hts := E.2.2.2.2
  unfold f_X10_told at hf
  refine lv_aload_n hx hb dX10_told_0 rfl (lv_at hl 0 rfl) ?_
  refine lv_iload_n hx hb dX10_told_1 rfl (lv_at hl 1 rfl) ?_
  obtain ⟨r1, g2, hf⟩ := cl1S hf
  refine x_Vr (k := 0) (As := [.int a1]) (rest := []) E hC hW hl.1 (c_X10_isPair a1 r1 S g2) cv_X10_104 rfl (by decide) rfl rfl rfl ⟨Nat.le_of_ble_eq_true rfl, Nat.le_of_ble_eq_true rfl⟩ ⟨Nat.le_refl _, Nat.le_refl _⟩ (Nat.le_of_ble_eq_true rfl) dX10_told_2 (fun H locs hW => ?_)
  refine lv_if_ne (tgt := 11) hx hb dX10_told_5 (by decide) (fun c17 => ?_) (fun c17 => ?_)
  · have hf := xf hf c17
    refine lv_iload_n hx hb dX10_told_11 rfl (lv_at hl 2 rfl) ?_
    by_cases c3 : a2 = 0
    · have hf := xt hf c3
      refine lv_tableIn (off := 36) (tgt := 48) hx hb dX10_told_12 (by rw [c3]; decide) (by rw [c3]; decide) (by rw [c3]; rfl) (by decide) ?_
      refine lv_aload_n hx hb dX10_told_48 rfl (lv_at hl 0 rfl) ?_
      refine x_getr (k := 0) (k' := 1) E hC hW fl_X10_16 (by decide) rfl rfl dX10_told_49 ?_
      refine lv_iload_n hx hb dX10_told_52 rfl (lv_at hl 1 rfl) ?_
      obtain ⟨hg4, hf⟩ := gdS hf
      refine x_iald (k := 1) E hC hW (by decide) rfl (inbS hg4) dX10_told_53 ?_
      exact x_iretI E hC hW hr hlk hQ dX10_told_54 hf
    · have hf := xf hf c3
      by_cases c5 : a2 = 1
      · have hf := xt hf c5
        refine lv_tableIn (off := 43) (tgt := 55) hx hb dX10_told_12 (by rw [c5]; decide) (by rw [c5]; decide) (by rw [c5]; rfl) (by decide) ?_
        refine lv_aload_n hx hb dX10_told_55 rfl (lv_at hl 0 rfl) ?_
        refine x_getr (k := 0) (k' := 2) E hC hW fl_X10_20 (by decide) rfl rfl dX10_told_56 ?_
        refine lv_iload_n hx hb dX10_told_59 rfl (lv_at hl 1 rfl) ?_
        obtain ⟨hg6, hf⟩ := gdS hf
        refine x_iald (k := 2) E hC hW (by decide) rfl (inbS hg6) dX10_told_60 ?_
        exact x_iretI E hC hW hr hlk hQ dX10_told_61 hf
      · have hf := xf hf c5
        by_cases c7 : a2 = 2
        · have hf := xt hf c7
          refine lv_tableIn (off := 50) (tgt := 62) hx hb dX10_told_12 (by rw [c7]; decide) (by rw [c7]; decide) (by rw [c7]; rfl) (by decide) ?_
          refine lv_aload_n hx hb dX10_told_62 rfl (lv_at hl 0 rfl) ?_
          refine lv_iload_n hx hb dX10_told_63 rfl (lv_at hl 1 rfl) ?_
          obtain ⟨r8, g9, hf⟩ := cl1S hf
          refine x_Vr (k := 0) (As := [.int a1]) (rest := []) E hC hW hl.1 (c_X10_ahead a1 r8 S g9) cv_X10_111 rfl (by decide) rfl rfl rfl ⟨Nat.le_of_ble_eq_true rfl, Nat.le_of_ble_eq_true rfl⟩ ⟨Nat.le_refl _, Nat.le_refl _⟩ (Nat.le_of_ble_eq_true rfl) dX10_told_64 (fun H locs hW => ?_)
          exact x_iretI E hC hW hr hlk hQ dX10_told_67 hf
        · have hf := xf hf c7
          by_cases c10 : a2 = 3
          · have hf := xt hf c10
            refine lv_tableIn (off := 56) (tgt := 68) hx hb dX10_told_12 (by rw [c10]; decide) (by rw [c10]; decide) (by rw [c10]; rfl) (by decide) ?_
            refine lv_aload_n hx hb dX10_told_68 rfl (lv_at hl 0 rfl) ?_
            refine lv_iload_n hx hb dX10_told_69 rfl (lv_at hl 1 rfl) ?_
            obtain ⟨r11, g12, hf⟩ := cl1S hf
            refine x_Vr (k := 0) (As := [.int a1]) (rest := []) E hC hW hl.1 (c_X10_namePlace a1 r11 S g12) cv_X10_115 rfl (by decide) rfl rfl rfl ⟨Nat.le_of_ble_eq_true rfl, Nat.le_of_ble_eq_true rfl⟩ ⟨Nat.le_refl _, Nat.le_refl _⟩ (Nat.le_of_ble_eq_true rfl) dX10_told_70 (fun H locs hW => ?_)
            exact x_iretI E hC hW hr hlk hQ dX10_told_73 hf
          · have hf := xf hf c10
            by_cases c13 : a2 = 4
            · have hf := xt hf c13
              refine lv_tableIn (off := 62) (tgt := 74) hx hb dX10_told_12 (by rw [c13]; decide) (by rw [c13]; decide) (by rw [c13]; rfl) (by decide) ?_
              refine lv_aload_n hx hb dX10_told_74 rfl (lv_at hl 0 rfl) ?_
              refine lv_iconst (v := 1) hx hb dX10_told_75 (by decide) ?_
              refine lv_iload_n hx hb dX10_told_76 rfl (lv_at hl 1 rfl) ?_
              refine lv_ishl hx hb dX10_told_77 ?_
              refine lv_iconst (v := 0) hx hb dX10_told_78 (by decide) ?_
              obtain ⟨r14, S16, g15, hf⟩ := clS hf
              refine x_Vr (k := 0) (As := [.int ((1 : Int32) <<< (a1 &&& 31)), .int (0 : Int32)]) (rest := []) E hC hW hl.1 (c_X10_rankOf ((1 : Int32) <<< (a1 &&& 31)) (0 : Int32) r14 S S16 g15) cv_X10_118 rfl (by decide) rfl rfl rfl ⟨Nat.le_of_ble_eq_true rfl, Nat.le_of_ble_eq_true rfl⟩ ⟨Nat.le_refl _, Nat.le_refl _⟩ (Nat.le_of_ble_eq_true rfl) dX10_told_79 (fun H locs hW => ?_)
              exact x_iretI E hC hW hr hlk hQ dX10_told_82 hf
            · have hf := xf hf c13
              refine lv_tableOut (tgt := 83) hx hb dX10_told_12 (by have q0 := lv_neT c3 (a := 0) (by decide); have q1 := lv_neT c5 (a := 1) (by decide); have q2 := lv_neT c7 (a := 2) (by decide); have q3 := lv_neT c10 (a := 3) (by decide); have q4 := lv_neT c13 (a := 4) (by decide); omega) (by decide) ?_
              refine lv_bipush (v := (-2)) hx hb dX10_told_83 (by decide) ?_
              exact x_iretI E hC hW hr hlk hQ dX10_told_85 hf
  · have hf := xt hf c17
    refine lv_bipush (v := (-2)) hx hb dX10_told_8 (by decide) ?_
    exact x_iretI E hC hW hr hlk hQ dX10_told_10 hf
set_option maxRecDepth 100000 in
set_option maxHeartbeats 4000000 in
theorem c_X10_number {l : Launch} {D : va_G} {cy : Nat → ClassId} {L : Nat → Nat} {bA : Nat} (a1 : Int32) (a2 : Int32) (a3 : Int32) (r : Int32) (S : Sg)  (hf : f_X10_number a1 a2 a3 S = some r) : MetX l D cy L shM 20 bA yX10_number cX10_number 4 (some .int) 2 48 [.ref (L 0), .int a1, .int a2, .int a3] (some (.int r)) S S := by
  refine x_met (own := RX10) (by decide) rfl (Nat.le_of_ble_eq_true rfl) ?_
  intro p e s m below meth c ls E hC hr hlk hl hW
  generalize hargs : ([.ref (L 0), .int a1, .int a2, .int a3] : List Value).toArray = args at E ⊢
  generalize hQ : MQ below (xQ D cy L shM 20 bA (some (.int r)) S) args s 0 0 (AL L 20) = Q
  have hl : lv_has ls 4 [(0, .ref (L 0)), (1, .int a1), (2, .int a2), (3, .int a3)] := hl
  have hx := E.1
  have hb := E.2.1
  have hts := E.2.2.2.2
  unfold f_X10_number at hf
  refine lv_aload_n hx hb dX10_number_0 rfl (lv_at hl 0 rfl) ?_
  refine lv_iload_n hx hb dX10_number_1 rfl (lv_at hl 1 rfl) ?_
  obtain ⟨r1, g2, hf⟩ := cl1S hf
  refine x_Vr (k := 0) (As := [.int a1]) (rest := []) E hC hW hl.1 (c_X10_isPair a1 r1 S g2) cv_X10_104 rfl (by decide) rfl rfl rfl ⟨Nat.le_of_ble_eq_true rfl, Nat.le_of_ble_eq_true rfl⟩ ⟨Nat.le_refl _, Nat.le_refl _⟩ (Nat.le_of_ble_eq_true rfl) dX10_number_2 (fun H locs hW => ?_)
  refine lv_if_eq (tgt := 44) hx hb dX10_number_5 (by decide) (fun c11 => ?_) (fun c11 => ?_)
  · have hf := xt hf c11
    refine lv_bipush (v := (-2)) hx hb dX10_number_44 (by decide) ?_
    exact x_iretP E hC hW hr hlk hQ dX10_number_46 hf
  · have hf := xf hf c11
    refine lv_iload_n hx hb dX10_number_8 rfl (lv_at hl 2 rfl) ?_
    refine lv_i2l hx hb dX10_number_9 rfl ?_
    refine lv_lconst (v := 0) hx hb dX10_number_10 (by decide) ?_
    refine lv_lconst (v := 1) hx hb dX10_number_11 (by decide) ?_
    obtain ⟨r3, g4, hf⟩ := cl1S hf
    refine x_Sr (As := [.long a2.toInt64, .long (0 : Int64), .long (1 : Int64)]) (rest := []) E hC hW hl.1 (c_X10_in a2.toInt64 (0 : Int64) (1 : Int64) r3 S g4) cs_X10_78 rfl rfl ⟨Nat.le_of_ble_eq_true rfl, Nat.le_of_ble_eq_true rfl⟩ ⟨Nat.le_refl _, Nat.le_refl _⟩ (Nat.le_of_ble_eq_true rfl) dX10_number_12 (fun H locs hW => ?_)
    refine lv_if_eq (tgt := 44) hx hb dX10_number_15 (by decide) (fun c10 => ?_) (fun c10 => ?_)
    · have hf := xt hf c10
      refine lv_bipush (v := (-2)) hx hb dX10_number_44 (by decide) ?_
      exact x_iretP E hC hW hr hlk hQ dX10_number_46 hf
    · have hf := xf hf c10
      refine lv_iload_n hx hb dX10_number_18 rfl (lv_at hl 3 rfl) ?_
      refine lv_i2l hx hb dX10_number_19 rfl ?_
      refine lv_lconst (v := 0) hx hb dX10_number_20 (by decide) ?_
      refine lv_aload_n hx hb dX10_number_21 rfl (lv_at hl 0 rfl) ?_
      refine x_geti (k := 0) E hC hW fl_X10_13 (by decide) rfl rfl dX10_number_22 ?_
      refine lv_iconst (v := 1) hx hb dX10_number_25 (by decide) ?_
      refine lv_isub hx hb dX10_number_26 ?_
      refine lv_i2l hx hb dX10_number_27 rfl ?_
      obtain ⟨r5, g6, hf⟩ := cl1S hf
      refine x_Sr (As := [.long a3.toInt64, .long (0 : Int64), .long (((S.1 0 1) - (1 : Int32)).toInt64)]) (rest := []) E hC hW hl.1 (c_X10_in a3.toInt64 (0 : Int64) (((S.1 0 1) - (1 : Int32)).toInt64) r5 S g6) cs_X10_78 rfl rfl ⟨Nat.le_of_ble_eq_true rfl, Nat.le_of_ble_eq_true rfl⟩ ⟨Nat.le_refl _, Nat.le_refl _⟩ (Nat.le_of_ble_eq_true rfl) dX10_number_28 (fun H locs hW => ?_)
      refine lv_if_eq (tgt := 44) hx hb dX10_number_31 (by decide) (fun c9 => ?_) (fun c9 => ?_)
      · have hf := xt hf c9
        refine lv_bipush (v := (-2)) hx hb dX10_number_44 (by decide) ?_
        exact x_iretP E hC hW hr hlk hQ dX10_number_46 hf
      · have hf := xf hf c9
        refine lv_aload_n hx hb dX10_number_34 rfl (lv_at hl 0 rfl) ?_
        refine lv_iload_n hx hb dX10_number_35 rfl (lv_at hl 1 rfl) ?_
        refine lv_iload_n hx hb dX10_number_36 rfl (lv_at hl 2 rfl) ?_
        refine lv_iload_n hx hb dX10_number_37 rfl (lv_at hl 3 rfl) ?_
        obtain ⟨r7, g8, hf⟩ := cl1S hf
        refine x_Vr (k := 0) (As := [.int a1, .int a2, .int a3]) (rest := []) E hC hW hl.1 (c_X10_numberOf a1 a2 a3 r7 S g8) cv_X10_121 rfl (by decide) rfl rfl rfl ⟨Nat.le_of_ble_eq_true rfl, Nat.le_of_ble_eq_true rfl⟩ ⟨Nat.le_refl _, Nat.le_refl _⟩ (Nat.le_of_ble_eq_true rfl) dX10_number_38 (fun H locs hW => ?_)
        refine lv_goto (tgt := 46) hx hb dX10_number_41 (by decide) ?_
        exact x_iretP E hC hW hr hlk hQ dX10_number_46 hf
set_option maxRecDepth 100000 in
set_option maxHeartbeats 4000000 in
theorem c_X10_drop {l : Launch} {D : va_G} {cy : Nat → ClassId} {L : Nat → Nat} {bA : Nat}  (r : Int32) (S S' : Sg)  (hf : f_X10_drop S = some (r, S')) : MetX l D cy L shM 20 bA yX10_drop cX10_drop 1 (some .int) 0 0 [.ref (L 0)] (some (.int r)) S S' := by
  refine x_met (own := RX10) (by decide) rfl (Nat.le_of_ble_eq_true rfl) ?_
  intro p e s m below meth c ls E hC hr hlk hl hW
  generalize hargs : ([.ref (L 0)] : List Value).toArray = args at E ⊢
  generalize hQ : MQ below (xQ D cy L shM 20 bA (some (.int r)) S') args s 0 0 (AL L 20) = Q
  have hl : lv_has ls 1 [(0, .ref (L 0))] := hl
  have hx := E.1
  have hb := E.2.1
  have hts := E.2.2.2.2
  unfold f_X10_drop at hf
  refine lv_aload_n hx hb dX10_drop_0 rfl (lv_at hl 0 rfl) ?_
  refine x_geti (k := 0) E hC hW fl_X10_75 (by decide) rfl rfl dX10_drop_1 ?_
  refine lv_if_ne (tgt := 10) hx hb dX10_drop_4 (by decide) (fun c2 => ?_) (fun c2 => ?_)
  · have hf := xf hf c2
    refine lv_aload_n hx hb dX10_drop_10 rfl (lv_at hl 0 rfl) ?_
    refine lv_dup hx hb dX10_drop_11 rfl ?_
    refine x_geti (k := 0) E hC hW fl_X10_75 (by decide) rfl rfl dX10_drop_12 ?_
    refine lv_iconst (v := 1) hx hb dX10_drop_15 (by decide) ?_
    refine lv_isub hx hb dX10_drop_16 ?_
    refine x_put (k := 0) E hC hW fl_X10_75 pl_10_2 (by decide) rfl rfl rfl rfl dX10_drop_17 (fun H locs hW => ?_)
    obtain ⟨S1, eS1⟩ : ∃ z : Sg, z = si S 0 2 ((S.1 0 2) - (1 : Int32)) := ⟨_, rfl⟩
    have hW : Wd D cy L shM 20 S1 s H locs := by rw [eS1]; exact hW
    have hf := bvS hf eS1
    refine lv_aload_n hx hb dX10_drop_20 rfl (lv_at hl 0 rfl) ?_
    refine x_geti (k := 0) E hC hW fl_X10_75 (by decide) rfl rfl dX10_drop_21 ?_
    exact x_iretI E hC hW hr hlk hQ dX10_drop_24 hf
  · have hf := xt hf c2
    refine lv_bipush (v := (-3)) hx hb dX10_drop_7 (by decide) ?_
    exact x_iretI E hC hW hr hlk hQ dX10_drop_9 hf
set_option maxRecDepth 100000 in
set_option maxHeartbeats 4000000 in
theorem c_X10_isName {l : Launch} {D : va_G} {cy : Nat → ClassId} {L : Nat → Nat} {bA : Nat} (a0 : Int64) (r : Int32) (S : Sg)  (hf : f_X10_isName a0 = some r) : MetX l D cy L shM 20 bA yX10_isName cX10_isName 6 (some .boolean) 1 25 [.long a0] (some (.int r)) S S := by
  refine x_met (own := RX10) (by decide) rfl (Nat.le_of_ble_eq_true rfl) ?_
  intro p e s m below meth c ls E hC hr hlk hl hW
  generalize hargs : ([.long a0] : List Value).toArray = args at E ⊢
  generalize hQ : MQ below (xQ D cy L shM 20 bA (some (.int r)) S) args s 0 0 (AL L 20) = Q
  have hl : lv_has ls 6 [(0, .long a0)] := hl
  have hx := E.1
  have hb := E.2.1
  have hts := E.2.2.2.2
  unfold f_X10_isName at hf
  refine lv_iconst (v := 0) hx hb dX10_isName_0 (by decide) ?_
  refine lv_istore_n (lv' := [(2, .int (0 : Int32)), (0, .long a0)]) hx hb dX10_isName_1 rfl hl (by decide) rfl (fun ls hl => ?_)
  refine lv_iconst (v := 0) hx hb dX10_isName_2 (by decide) ?_
  refine lv_istore_n (lv' := [(3, .int (0 : Int32)), (2, .int (0 : Int32)), (0, .long a0)]) hx hb dX10_isName_3 rfl hl (by decide) rfl (fun ls hl => ?_)
  refine wp2K hf (fun (v4 : Int32) (v5 : Int32) => ∀ (H : Heap) (locs : List Loc) (ls : Array Slot), lv_has ls 6 [(0, .long a0), (2, .int v4), (3, .int v5)] → Wd D cy L shM 20 S s H locs → W p l e (rmk 1 25) s m args below meth c H locs 0 0 Q (F0 m 4 ls [])) (fun (j : Int32 → Option (Int32)) => ∀ (v1 : Int32), (j v1) = some r → ∀ (H : Heap) (locs : List Loc) (ls : Array Slot), lv_has ls 6 [(0, .long a0), (2, .int v1)] → Wd D cy L shM 20 S s H locs → W p l e (rmk 1 25) s m args below meth c H locs 0 0 Q (F0 m 73 ls [])) ?_ ?_ _ _ _ (lv_sub hl [2, 1, 0] rfl) hW
  · intro v1 hf H locs ls hl hW
    try dsimp only at hf
    refine lv_iload_n hx hb dX10_isName_73 rfl (lv_at hl 1 rfl) ?_
    refine lv_if_eq (tgt := 87) hx hb dX10_isName_74 (by decide) (fun c3 => ?_) (fun c3 => ?_)
    · have hf := xt hf c3
      refine lv_iconst (v := 0) hx hb dX10_isName_87 (by decide) ?_
      exact x_zretP E hC hW hr hlk hQ (by decide) dX10_isName_88 hf
    · have hf := xf hf c3
      refine lv_lload_n hx hb dX10_isName_77 rfl (lv_at hl 0 rfl) ?_
      refine lv_lconst (v := 0) hx hb dX10_isName_78 (by decide) ?_
      refine W.lcmp hx hb dX10_isName_79 ?_
      refine lv_if_eq (tgt := 87) hx hb dX10_isName_80 (by decide) (fun c2 => ?_) (fun c2 => ?_)
      · have hf := xt hf c2
        refine lv_iconst (v := 0) hx hb dX10_isName_87 (by decide) ?_
        exact x_zretP E hC hW hr hlk hQ (by decide) dX10_isName_88 hf
      · have hf := xf hf c2
        refine lv_iconst (v := 1) hx hb dX10_isName_83 (by decide) ?_
        refine lv_goto (tgt := 88) hx hb dX10_isName_84 (by decide) ?_
        exact x_zretP E hC hW hr hlk hQ (by decide) dX10_isName_88 hf
  · intro k73 K73 self4 ih4 v4 v5 hf H locs ls hl hW
    unfold X10_isName_L4 at hf
    refine lv_iload_n hx hb dX10_isName_4 rfl (lv_at hl 2 rfl) ?_
    refine lv_bipush (v := 8) hx hb dX10_isName_5 (by decide) ?_
    refine lv_icmp_ge (tgt := 73) hx hb dX10_isName_7 (by decide) (fun c16 => ?_) (fun c16 => ?_)
    · have hf := xt hf c16
      exact K73 _ hf _ _ _ (lv_sub hl [0, 1] rfl) hW
    · have hf := xf hf c16
      refine lv_lload_n hx hb dX10_isName_10 rfl (lv_at hl 0 rfl) ?_
      refine lv_bipush (v := 56) hx hb dX10_isName_11 (by decide) ?_
      refine lv_bipush (v := 8) hx hb dX10_isName_13 (by decide) ?_
      refine lv_iload_n hx hb dX10_isName_15 rfl (lv_at hl 2 rfl) ?_
      refine lv_imul hx hb dX10_isName_16 ?_
      refine lv_isub hx hb dX10_isName_17 ?_
      refine lv_lushr (v := lush a0 ((56 : Int32) - ((8 : Int32) * v5))) hx hb dX10_isName_18 rfl ?_
      refine lv_ldc2 hx hb E.2.2.2.1 (hts _ ww_1020) dX10_isName_19 ?_
      refine lv_land hx hb dX10_isName_22 ?_
      refine lv_topl (fun x6 ex6 => ?_)
      have hf := bvS hf ex6
      refine lv_lstore (lv' := [(4, .long x6), (0, .long a0), (2, .int v4), (3, .int v5)]) hx hb dX10_isName_23 hl (by decide) rfl (fun ls hl => ?_)
      refine lv_lload hx hb dX10_isName_25 (lv_at hl 0 rfl) ?_
      refine lv_lconst (v := 0) hx hb dX10_isName_27 (by decide) ?_
      refine W.lcmp hx hb dX10_isName_28 ?_
      refine jnS hf (fun (j : Option (Int32)) => (j) = some r → ∀ (H : Heap) (locs : List Loc) (ls : Array Slot), lv_has ls 6 [(0, .long a0), (2, .int v4), (3, .int v5), (4, .long x6)] → Wd D cy L shM 20 S s H locs → W p l e (rmk 1 25) s m args below meth c H locs 0 0 Q (F0 m 52 ls [])) ?_ ?_
      · intro hf H locs ls hl hW
        try dsimp only at hf
        refine lv_iload_n hx hb dX10_isName_52 rfl (lv_at hl 1 rfl) ?_
        refine lv_lload hx hb dX10_isName_53 (lv_at hl 3 rfl) ?_
        refine lv_lconst (v := 0) hx hb dX10_isName_55 (by decide) ?_
        refine W.lcmp hx hb dX10_isName_56 ?_
        refine jnS hf (fun (j : Int32 → Option (Int32)) => ∀ (x7 : Int32), (j x7) = some r → ∀ (H : Heap) (locs : List Loc) (ls : Array Slot), lv_has ls 6 [(0, .long a0), (3, .int v5)] → Wd D cy L shM 20 S s H locs → W p l e (rmk 1 25) s m args below meth c H locs 0 0 Q (F0 m 65 ls [.int x7, .int v4])) ?_ ?_
        · intro x7 hf H locs ls hl hW
          try dsimp only at hf
          refine lv_ior hx hb dX10_isName_65 ?_
          refine lv_topi (fun x8 ex8 => ?_)
          have hf := bvS hf ex8
          refine lv_istore_n (lv' := [(2, .int x8), (0, .long a0), (3, .int v5)]) hx hb dX10_isName_66 rfl hl (by decide) rfl (fun ls hl => ?_)
          obtain ⟨x9, ex9⟩ : ∃ z : Int32, z = (v5 + 1) := ⟨_, rfl⟩
          have hf := bvS hf ex9
          refine lv_iinc (v := x9) (lv' := [(3, .int x9), (2, .int x8), (0, .long a0)]) hx hb dX10_isName_67 hl (k := 2) rfl (by rw [ex9]; rfl) (by decide) rfl (fun ls hl => ?_)
          refine lv_goto (tgt := 4) hx hb dX10_isName_70 (by decide) ?_
          exact ih4 _ _ hf _ _ _ (lv_sub hl [2, 1, 0] rfl) hW
        intro j65 J65 hf
        refine lv_if_ne (tgt := 64) hx hb dX10_isName_57 (by decide) (fun c10 => ?_) (fun c10 => ?_)
        · have hf := xf hf c10
          refine lv_iconst (v := 0) hx hb dX10_isName_64 (by decide) ?_
          exact J65 _ hf _ _ _ (lv_sub hl [0, 2] rfl) hW
        · have hf := xt hf c10
          refine lv_iconst (v := 1) hx hb dX10_isName_60 (by decide) ?_
          refine lv_goto (tgt := 65) hx hb dX10_isName_61 (by decide) ?_
          exact J65 _ hf _ _ _ (lv_sub hl [0, 2] rfl) hW
      intro j52 J52 hf
      refine lv_if_eq (tgt := 52) hx hb dX10_isName_29 (by decide) (fun c15 => ?_) (fun c15 => ?_)
      · have hf := xt hf c15
        exact J52 hf _ _ _ (lv_sub hl [1, 2, 3, 0] rfl) hW
      · have hf := xf hf c15
        refine lv_iload_n hx hb dX10_isName_32 rfl (lv_at hl 2 rfl) ?_
        refine lv_if_ne (tgt := 50) hx hb dX10_isName_33 (by decide) (fun c14 => ?_) (fun c14 => ?_)
        · have hf := xf hf c14
          refine lv_iconst (v := 0) hx hb dX10_isName_50 (by decide) ?_
          exact x_zretP E hC hW hr hlk hQ (by decide) dX10_isName_51 hf
        · have hf := xt hf c14
          refine lv_lload hx hb dX10_isName_36 (lv_at hl 0 rfl) ?_
          refine lv_ldc2 hx hb E.2.2.2.1 (hts _ ww_922) dX10_isName_38 ?_
          refine lv_ldc2 hx hb E.2.2.2.1 (hts _ ww_1021) dX10_isName_41 ?_
          obtain ⟨r11, g12, hf⟩ := cl1S hf
          refine x_Sr (As := [.long x6, .long (97 : Int64), .long (122 : Int64)]) (rest := []) E hC hW hl.1 (c_X10_in x6 (97 : Int64) (122 : Int64) r11 S g12) cs_X10_78 rfl rfl ⟨Nat.le_of_ble_eq_true rfl, Nat.le_of_ble_eq_true rfl⟩ ⟨Nat.le_refl _, Nat.le_refl _⟩ (Nat.le_of_ble_eq_true rfl) dX10_isName_44 (fun H locs hW => ?_)
          refine lv_if_ne (tgt := 52) hx hb dX10_isName_47 (by decide) (fun c13 => ?_) (fun c13 => ?_)
          · have hf := xf hf c13
            exact J52 hf _ _ _ (lv_sub hl [1, 2, 3, 0] rfl) hW
          · have hf := xt hf c13
            refine lv_iconst (v := 0) hx hb dX10_isName_50 (by decide) ?_
            exact x_zretP E hC hW hr hlk hQ (by decide) dX10_isName_51 hf
set_option maxRecDepth 100000 in
set_option maxHeartbeats 4000000 in
theorem c_X10_whoIs {l : Launch} {D : va_G} {cy : Nat → ClassId} {L : Nat → Nat} {bA : Nat} (a1 : Int64) (r : Int32) (S : Sg)  (hf : f_X10_whoIs a1 S = some r) : MetX l D cy L shM 20 bA yX10_whoIs cX10_whoIs 4 (some .int) 0 0 [.ref (L 0), .long a1] (some (.int r)) S S := by
  refine x_met (own := RX10) (by decide) rfl (Nat.le_of_ble_eq_true rfl) ?_
  intro p e s m below meth c ls E hC hr hlk hl hW
  generalize hargs : ([.ref (L 0), .long a1] : List Value).toArray = args at E ⊢
  generalize hQ : MQ below (xQ D cy L shM 20 bA (some (.int r)) S) args s 0 0 (AL L 20) = Q
  have hl : lv_has ls 4 [(0, .ref (L 0)), (1, .long a1)] := hl
  have hx := E.1
  have hb := E.2.1
  have hts := E.2.2.2.2
  unfold f_X10_whoIs at hf
  refine lv_iconst (v := 0) hx hb dX10_whoIs_0 (by decide) ?_
  refine lv_istore_n (lv' := [(3, .int (0 : Int32)), (0, .ref (L 0)), (1, .long a1)]) hx hb dX10_whoIs_1 rfl hl (by decide) rfl (fun ls hl => ?_)
  refine wp1S (fun (v1 : Int32) => ∀ (H : Heap) (locs : List Loc) (ls : Array Slot), lv_has ls 4 [(0, .ref (L 0)), (1, .long a1), (3, .int v1)] → Wd D cy L shM 20 S s H locs → W p l e (rmk 0 0) s m args below meth c H locs 0 0 Q (F0 m 2 ls [])) ?_ hf _ _ _ (lv_sub hl [1, 2, 0] rfl) hW
  · intro self2 ih2 v1 hf H locs ls hl hW
    unfold X10_whoIs_L2 at hf
    refine lv_iload_n hx hb dX10_whoIs_2 rfl (lv_at hl 2 rfl) ?_
    refine lv_aload_n hx hb dX10_whoIs_3 rfl (lv_at hl 0 rfl) ?_
    refine x_geti (k := 0) E hC hW fl_X10_75 (by decide) rfl rfl dX10_whoIs_4 ?_
    refine lv_icmp_ge (tgt := 29) hx hb dX10_whoIs_7 (by decide) (fun c5 => ?_) (fun c5 => ?_)
    · have hf := xt hf c5
      refine lv_iconst (v := (-1)) hx hb dX10_whoIs_29 (by decide) ?_
      exact x_iretP E hC hW hr hlk hQ dX10_whoIs_30 hf
    · have hf := xf hf c5
      refine lv_aload_n hx hb dX10_whoIs_10 rfl (lv_at hl 0 rfl) ?_
      refine x_getr (k := 0) (k' := 3) E hC hW fl_X10_23 (by decide) rfl rfl dX10_whoIs_11 ?_
      refine lv_iload_n hx hb dX10_whoIs_14 rfl (lv_at hl 2 rfl) ?_
      obtain ⟨hg2, hf⟩ := gdS hf
      refine x_lald (k := 3) E hC hW (by decide) rfl (inbS hg2) dX10_whoIs_15 ?_
      refine lv_lload_n hx hb dX10_whoIs_16 rfl (lv_at hl 1 rfl) ?_
      refine W.lcmp hx hb dX10_whoIs_17 ?_
      refine lv_if_ne (tgt := 23) hx hb dX10_whoIs_18 (by decide) (fun c4 => ?_) (fun c4 => ?_)
      · have hf := xf hf c4
        obtain ⟨x3, ex3⟩ : ∃ z : Int32, z = (v1 + 1) := ⟨_, rfl⟩
        have hf := bvS hf ex3
        refine lv_iinc (v := x3) (lv' := [(3, .int x3), (0, .ref (L 0)), (1, .long a1)]) hx hb dX10_whoIs_23 hl (k := 2) rfl (by rw [ex3]; rfl) (by decide) rfl (fun ls hl => ?_)
        refine lv_goto (tgt := 2) hx hb dX10_whoIs_26 (by decide) ?_
        exact ih2 _ hf _ _ _ (lv_sub hl [1, 2, 0] rfl) hW
      · have hf := xt hf c4
        refine lv_iload_n hx hb dX10_whoIs_21 rfl (lv_at hl 2 rfl) ?_
        exact x_iretP E hC hW hr hlk hQ dX10_whoIs_22 hf
set_option maxRecDepth 100000 in
set_option maxHeartbeats 4000000 in
theorem c_X10_name {l : Launch} {D : va_G} {cy : Nat → ClassId} {L : Nat → Nat} {bA : Nat} (a1 : Int32) (a2 : Int64) (r : Int32) (S S' : Sg)  (hf : f_X10_name a1 a2 S = some (r, S')) : MetX l D cy L shM 20 bA yX10_name cX10_name 5 (some .int) 2 50 [.ref (L 0), .int a1, .long a2] (some (.int r)) S S' := by
  refine x_met (own := RX10) (by decide) rfl (Nat.le_of_ble_eq_true rfl) ?_
  intro p e s m below meth c ls E hC hr hlk hl hW
  generalize hargs : ([.ref (L 0), .int a1, .long a2] : List Value).toArray = args at E ⊢
  generalize hQ : MQ below (xQ D cy L shM 20 bA (some (.int r)) S') args s 0 0 (AL L 20) = Q
  have hl : lv_has ls 5 [(0, .ref (L 0)), (1, .int a1), (2, .long a2)] := hl
  have hx := E.1
  have hb := E.2.1
  have hts := E.2.2.2.2
  unfold f_X10_name at hf
  refine lv_aload_n hx hb dX10_name_0 rfl (lv_at hl 0 rfl) ?_
  refine lv_iload_n hx hb dX10_name_1 rfl (lv_at hl 1 rfl) ?_
  obtain ⟨r1, g2, hf⟩ := cl1S hf
  refine x_Vr (k := 0) (As := [.int a1]) (rest := []) E hC hW hl.1 (c_X10_isPair a1 r1 S g2) cv_X10_104 rfl (by decide) rfl rfl rfl ⟨Nat.le_of_ble_eq_true rfl, Nat.le_of_ble_eq_true rfl⟩ ⟨Nat.le_refl _, Nat.le_refl _⟩ (Nat.le_of_ble_eq_true rfl) dX10_name_2 (fun H locs hW => ?_)
  refine lv_if_eq (tgt := 15) hx hb dX10_name_5 (by decide) (fun c12 => ?_) (fun c12 => ?_)
  · have hf := xt hf c12
    refine lv_bipush (v := (-2)) hx hb dX10_name_15 (by decide) ?_
    exact x_iretI E hC hW hr hlk hQ dX10_name_17 hf
  · have hf := xf hf c12
    refine lv_lload_n hx hb dX10_name_8 rfl (lv_at hl 2 rfl) ?_
    obtain ⟨r3, g4, hf⟩ := cl1S hf
    refine x_Sr (As := [.long a2]) (rest := []) E hC hW hl.1 (c_X10_isName a2 r3 S g4) cs_X10_129 rfl rfl ⟨Nat.le_of_ble_eq_true rfl, Nat.le_of_ble_eq_true rfl⟩ ⟨Nat.le_refl _, Nat.le_refl _⟩ (Nat.le_of_ble_eq_true rfl) dX10_name_9 (fun H locs hW => ?_)
    refine lv_if_ne (tgt := 18) hx hb dX10_name_12 (by decide) (fun c11 => ?_) (fun c11 => ?_)
    · have hf := xf hf c11
      refine lv_aload_n hx hb dX10_name_18 rfl (lv_at hl 0 rfl) ?_
      refine lv_lload_n hx hb dX10_name_19 rfl (lv_at hl 2 rfl) ?_
      obtain ⟨r5, g6, hf⟩ := cl1S hf
      refine x_Vr (k := 0) (As := [.long a2]) (rest := []) E hC hW hl.1 (c_X10_whoIs a2 r5 S g6) cv_X10_133 rfl (by decide) rfl rfl rfl ⟨Nat.le_of_ble_eq_true rfl, Nat.le_of_ble_eq_true rfl⟩ ⟨Nat.le_refl _, Nat.le_refl _⟩ (Nat.le_of_ble_eq_true rfl) dX10_name_20 (fun H locs hW => ?_)
      refine lv_istore (lv' := [(4, .int r5), (0, .ref (L 0)), (1, .int a1), (2, .long a2)]) hx hb dX10_name_23 hl (by decide) rfl (fun ls hl => ?_)
      refine lv_iload hx hb dX10_name_25 (lv_at hl 0 rfl) ?_
      refine lv_iconst (v := (-1)) hx hb dX10_name_27 (by decide) ?_
      refine jnS hf (fun (j : Option (Int32 × Sg)) => (j) = some (r, S') → ∀ (H : Heap) (locs : List Loc) (ls : Array Slot), lv_has ls 5 [(0, .ref (L 0)), (1, .int a1), (2, .long a2)] → Wd D cy L shM 20 S s H locs → W p l e (rmk 2 50) s m args below meth c H locs 0 0 Q (F0 m 40 ls [])) ?_ ?_
      · intro hf H locs ls hl hW
        try dsimp only at hf
        refine lv_aload_n hx hb dX10_name_40 rfl (lv_at hl 0 rfl) ?_
        refine x_getr (k := 0) (k' := 3) E hC hW fl_X10_23 (by decide) rfl rfl dX10_name_41 ?_
        refine lv_iload_n hx hb dX10_name_44 rfl (lv_at hl 1 rfl) ?_
        refine lv_lload_n hx hb dX10_name_45 rfl (lv_at hl 2 rfl) ?_
        obtain ⟨hg7, hf⟩ := gdS hf
        refine x_last (k := 3) E hC hW (by decide) rfl (inbS hg7) dX10_name_46 (fun H locs hW => ?_)
        obtain ⟨S8, eS8⟩ : ∃ z : Sg, z = sl S 3 (ix a1) a2 := ⟨_, rfl⟩
        have hW : Wd D cy L shM 20 S8 s H locs := by rw [eS8]; exact hW
        have hf := bvS hf eS8
        refine lv_iconst (v := 1) hx hb dX10_name_47 (by decide) ?_
        exact x_iretI E hC hW hr hlk hQ dX10_name_48 hf
      intro j40 J40 hf
      refine lv_icmp_eq (tgt := 40) hx hb dX10_name_28 (by decide) (fun c10 => ?_) (fun c10 => ?_)
      · have hf := xt hf c10
        exact J40 hf _ _ _ (lv_sub hl [1, 2, 3] rfl) hW
      · have hf := xf hf c10
        refine lv_iload hx hb dX10_name_31 (lv_at hl 0 rfl) ?_
        refine lv_iload_n hx hb dX10_name_33 rfl (lv_at hl 2 rfl) ?_
        refine lv_icmp_eq (tgt := 40) hx hb dX10_name_34 (by decide) (fun c9 => ?_) (fun c9 => ?_)
        · have hf := xt hf c9
          exact J40 hf _ _ _ (lv_sub hl [1, 2, 3] rfl) hW
        · have hf := xf hf c9
          refine lv_bipush (v := (-3)) hx hb dX10_name_37 (by decide) ?_
          exact x_iretI E hC hW hr hlk hQ dX10_name_39 hf
    · have hf := xt hf c11
      refine lv_bipush (v := (-2)) hx hb dX10_name_15 (by decide) ?_
      exact x_iretI E hC hW hr hlk hQ dX10_name_17 hf
set_option maxRecDepth 100000 in
set_option maxHeartbeats 4000000 in
theorem c_X10_named {l : Launch} {D : va_G} {cy : Nat → ClassId} {L : Nat → Nat} {bA : Nat} (a1 : Int64) (r : Int32) (S : Sg)  (hf : f_X10_named a1 S = some r) : MetX l D cy L shM 20 bA yX10_named cX10_named 3 (some .int) 2 50 [.ref (L 0), .long a1] (some (.int r)) S S := by
  refine x_met (own := RX10) (by decide) rfl (Nat.le_of_ble_eq_true rfl) ?_
  intro p e s m below meth c ls E hC hr hlk hl hW
  generalize hargs : ([.ref (L 0), .long a1] : List Value).toArray = args at E ⊢
  generalize hQ : MQ below (xQ D cy L shM 20 bA (some (.int r)) S) args s 0 0 (AL L 20) = Q
  have hl : lv_has ls 3 [(0, .ref (L 0)), (1, .long a1)] := hl
  have hx := E.1
  have hb := E.2.1
  have hts := E.2.2.2.2
  unfold f_X10_named at hf
  refine lv_lload_n hx hb dX10_named_0 rfl (lv_at hl 1 rfl) ?_
  obtain ⟨r1, g2, hf⟩ := cl1S hf
  refine x_Sr (As := [.long a1]) (rest := []) E hC hW hl.1 (c_X10_isName a1 r1 S g2) cs_X10_129 rfl rfl ⟨Nat.le_of_ble_eq_true rfl, Nat.le_of_ble_eq_true rfl⟩ ⟨Nat.le_refl _, Nat.le_refl _⟩ (Nat.le_of_ble_eq_true rfl) dX10_named_1 (fun H locs hW => ?_)
  refine lv_if_eq (tgt := 15) hx hb dX10_named_4 (by decide) (fun c5 => ?_) (fun c5 => ?_)
  · have hf := xt hf c5
    refine lv_bipush (v := (-2)) hx hb dX10_named_15 (by decide) ?_
    exact x_iretP E hC hW hr hlk hQ dX10_named_17 hf
  · have hf := xf hf c5
    refine lv_aload_n hx hb dX10_named_7 rfl (lv_at hl 0 rfl) ?_
    refine lv_lload_n hx hb dX10_named_8 rfl (lv_at hl 1 rfl) ?_
    obtain ⟨r3, g4, hf⟩ := cl1S hf
    refine x_Vr (k := 0) (As := [.long a1]) (rest := []) E hC hW hl.1 (c_X10_whoIs a1 r3 S g4) cv_X10_133 rfl (by decide) rfl rfl rfl ⟨Nat.le_of_ble_eq_true rfl, Nat.le_of_ble_eq_true rfl⟩ ⟨Nat.le_refl _, Nat.le_refl _⟩ (Nat.le_of_ble_eq_true rfl) dX10_named_9 (fun H locs hW => ?_)
    refine lv_goto (tgt := 17) hx hb dX10_named_12 (by decide) ?_
    exact x_iretP E hC hW hr hlk hQ dX10_named_17 hf
set_option maxRecDepth 100000 in
set_option maxHeartbeats 4000000 in
theorem c_X10_unname {l : Launch} {D : va_G} {cy : Nat → ClassId} {L : Nat → Nat} {bA : Nat} (a1 : Int32) (r : Int32) (S S' : Sg)  (hf : f_X10_unname a1 S = some (r, S')) : MetX l D cy L shM 20 bA yX10_unname cX10_unname 3 (some .int) 2 46 [.ref (L 0), .int a1] (some (.int r)) S S' := by
  refine x_met (own := RX10) (by decide) rfl (Nat.le_of_ble_eq_true rfl) ?_
  intro p e s m below meth c ls E hC hr hlk hl hW
  generalize hargs : ([.ref (L 0), .int a1] : List Value).toArray = args at E ⊢
  generalize hQ : MQ below (xQ D cy L shM 20 bA (some (.int r)) S') args s 0 0 (AL L 20) = Q
  have hl : lv_has ls 3 [(0, .ref (L 0)), (1, .int a1)] := hl
  have hx := E.1
  have hb := E.2.1
  have hts := E.2.2.2.2
  unfold f_X10_unname at hf
  refine lv_aload_n hx hb dX10_unname_0 rfl (lv_at hl 0 rfl) ?_
  refine lv_iload_n hx hb dX10_unname_1 rfl (lv_at hl 1 rfl) ?_
  obtain ⟨r1, g2, hf⟩ := cl1S hf
  refine x_Vr (k := 0) (As := [.int a1]) (rest := []) E hC hW hl.1 (c_X10_isPair a1 r1 S g2) cv_X10_104 rfl (by decide) rfl rfl rfl ⟨Nat.le_of_ble_eq_true rfl, Nat.le_of_ble_eq_true rfl⟩ ⟨Nat.le_refl _, Nat.le_refl _⟩ (Nat.le_of_ble_eq_true rfl) dX10_unname_2 (fun H locs hW => ?_)
  refine lv_if_ne (tgt := 11) hx hb dX10_unname_5 (by decide) (fun c8 => ?_) (fun c8 => ?_)
  · have hf := xf hf c8
    refine lv_aload_n hx hb dX10_unname_11 rfl (lv_at hl 0 rfl) ?_
    refine x_getr (k := 0) (k' := 3) E hC hW fl_X10_23 (by decide) rfl rfl dX10_unname_12 ?_
    refine lv_iload_n hx hb dX10_unname_15 rfl (lv_at hl 1 rfl) ?_
    obtain ⟨hg3, hf⟩ := gdS hf
    refine x_lald (k := 3) E hC hW (by decide) rfl (inbS hg3) dX10_unname_16 ?_
    refine lv_lconst (v := 0) hx hb dX10_unname_17 (by decide) ?_
    refine W.lcmp hx hb dX10_unname_18 ?_
    refine jnS hf (fun (j : Int32 → Option (Int32 × Sg)) => ∀ (x4 : Int32), (j x4) = some (r, S') → ∀ (H : Heap) (locs : List Loc) (ls : Array Slot), lv_has ls 3 [(0, .ref (L 0)), (1, .int a1)] → Wd D cy L shM 20 S s H locs → W p l e (rmk 2 46) s m args below meth c H locs 0 0 Q (F0 m 27 ls [.int x4])) ?_ ?_
    · intro x4 hf H locs ls hl hW
      try dsimp only at hf
      refine lv_istore_n (lv' := [(2, .int x4), (0, .ref (L 0)), (1, .int a1)]) hx hb dX10_unname_27 rfl hl (by decide) rfl (fun ls hl => ?_)
      refine lv_aload_n hx hb dX10_unname_28 rfl (lv_at hl 1 rfl) ?_
      refine x_getr (k := 0) (k' := 3) E hC hW fl_X10_23 (by decide) rfl rfl dX10_unname_29 ?_
      refine lv_iload_n hx hb dX10_unname_32 rfl (lv_at hl 2 rfl) ?_
      refine lv_lconst (v := 0) hx hb dX10_unname_33 (by decide) ?_
      obtain ⟨hg5, hf⟩ := gdS hf
      refine x_last (k := 3) E hC hW (by decide) rfl (inbS hg5) dX10_unname_34 (fun H locs hW => ?_)
      obtain ⟨S6, eS6⟩ : ∃ z : Sg, z = sl S 3 (ix a1) (0 : Int64) := ⟨_, rfl⟩
      have hW : Wd D cy L shM 20 S6 s H locs := by rw [eS6]; exact hW
      have hf := bvS hf eS6
      refine lv_iload_n hx hb dX10_unname_35 rfl (lv_at hl 0 rfl) ?_
      exact x_iretI E hC hW hr hlk hQ dX10_unname_36 hf
    intro j27 J27 hf
    refine lv_if_ne (tgt := 26) hx hb dX10_unname_19 (by decide) (fun c7 => ?_) (fun c7 => ?_)
    · have hf := xf hf c7
      refine lv_iconst (v := 1) hx hb dX10_unname_26 (by decide) ?_
      exact J27 _ hf _ _ _ (lv_sub hl [0, 1] rfl) hW
    · have hf := xt hf c7
      refine lv_iconst (v := 0) hx hb dX10_unname_22 (by decide) ?_
      refine lv_goto (tgt := 27) hx hb dX10_unname_23 (by decide) ?_
      exact J27 _ hf _ _ _ (lv_sub hl [0, 1] rfl) hW
  · have hf := xt hf c8
    refine lv_bipush (v := (-2)) hx hb dX10_unname_8 (by decide) ?_
    exact x_iretI E hC hW hr hlk hQ dX10_unname_10 hf
set_option maxRecDepth 100000 in
set_option maxHeartbeats 4000000 in
theorem c_X10_nameAt {l : Launch} {D : va_G} {cy : Nat → ClassId} {L : Nat → Nat} {bA : Nat} (a1 : Int32) (r : Int64) (S : Sg)  (hf : f_X10_nameAt a1 S = some r) : MetX l D cy L shM 20 bA yX10_nameAt cX10_nameAt 3 (some .long) 1 23 [.ref (L 0), .int a1] (some (.long r)) S S := by
  refine x_met (own := RX10) (by decide) rfl (Nat.le_of_ble_eq_true rfl) ?_
  intro p e s m below meth c ls E hC hr hlk hl hW
  generalize hargs : ([.ref (L 0), .int a1] : List Value).toArray = args at E ⊢
  generalize hQ : MQ below (xQ D cy L shM 20 bA (some (.long r)) S) args s 0 0 (AL L 20) = Q
  have hl : lv_has ls 3 [(0, .ref (L 0)), (1, .int a1)] := hl
  have hx := E.1
  have hb := E.2.1
  have hts := E.2.2.2.2
  unfold f_X10_nameAt at hf
  refine lv_iconst (v := 0) hx hb dX10_nameAt_0 (by decide) ?_
  refine lv_istore_n (lv' := [(2, .int (0 : Int32)), (0, .ref (L 0)), (1, .int a1)]) hx hb dX10_nameAt_1 rfl hl (by decide) rfl (fun ls hl => ?_)
  refine wp1S (fun (v1 : Int32) => ∀ (H : Heap) (locs : List Loc) (ls : Array Slot), lv_has ls 3 [(0, .ref (L 0)), (1, .int a1), (2, .int v1)] → Wd D cy L shM 20 S s H locs → W p l e (rmk 1 23) s m args below meth c H locs 0 0 Q (F0 m 2 ls [])) ?_ hf _ _ _ (lv_sub hl [1, 2, 0] rfl) hW
  · intro self2 ih2 v1 hf H locs ls hl hW
    unfold X10_nameAt_L2 at hf
    refine lv_iload_n hx hb dX10_nameAt_2 rfl (lv_at hl 2 rfl) ?_
    refine lv_aload_n hx hb dX10_nameAt_3 rfl (lv_at hl 0 rfl) ?_
    refine x_geti (k := 0) E hC hW fl_X10_75 (by decide) rfl rfl dX10_nameAt_4 ?_
    refine lv_icmp_ge (tgt := 43) hx hb dX10_nameAt_7 (by decide) (fun c9 => ?_) (fun c9 => ?_)
    · have hf := xt hf c9
      refine lv_ldc2 hx hb E.2.2.2.1 (hts _ ww_1038) dX10_nameAt_43 ?_
      exact x_lretP E hC hW hr hlk hQ dX10_nameAt_46 hf
    · have hf := xf hf c9
      refine lv_aload_n hx hb dX10_nameAt_10 rfl (lv_at hl 0 rfl) ?_
      refine x_getr (k := 0) (k' := 3) E hC hW fl_X10_23 (by decide) rfl rfl dX10_nameAt_11 ?_
      refine lv_iload_n hx hb dX10_nameAt_14 rfl (lv_at hl 2 rfl) ?_
      obtain ⟨hg2, hf⟩ := gdS hf
      refine x_lald (k := 3) E hC hW (by decide) rfl (inbS hg2) dX10_nameAt_15 ?_
      refine lv_lconst (v := 0) hx hb dX10_nameAt_16 (by decide) ?_
      refine W.lcmp hx hb dX10_nameAt_17 ?_
      refine jnS hf (fun (j : Option (Int64)) => (j) = some r → ∀ (H : Heap) (locs : List Loc) (ls : Array Slot), lv_has ls 3 [(0, .ref (L 0)), (1, .int a1), (2, .int v1)] → Wd D cy L shM 20 S s H locs → W p l e (rmk 1 23) s m args below meth c H locs 0 0 Q (F0 m 37 ls [])) ?_ ?_
      · intro hf H locs ls hl hW
        try dsimp only at hf
        obtain ⟨x3, ex3⟩ : ∃ z : Int32, z = (v1 + 1) := ⟨_, rfl⟩
        have hf := bvS hf ex3
        refine lv_iinc (v := x3) (lv' := [(2, .int x3), (0, .ref (L 0)), (1, .int a1)]) hx hb dX10_nameAt_37 hl (k := 2) rfl (by rw [ex3]; rfl) (by decide) rfl (fun ls hl => ?_)
        refine lv_goto (tgt := 2) hx hb dX10_nameAt_40 (by decide) ?_
        exact ih2 _ hf _ _ _ (lv_sub hl [1, 2, 0] rfl) hW
      intro j37 J37 hf
      refine lv_if_eq (tgt := 37) hx hb dX10_nameAt_18 (by decide) (fun c8 => ?_) (fun c8 => ?_)
      · have hf := xt hf c8
        exact J37 hf _ _ _ (lv_sub hl [0, 1, 2] rfl) hW
      · have hf := xf hf c8
        refine lv_aload_n hx hb dX10_nameAt_21 rfl (lv_at hl 0 rfl) ?_
        refine lv_iload_n hx hb dX10_nameAt_22 rfl (lv_at hl 2 rfl) ?_
        obtain ⟨r4, g5, hf⟩ := cl1S hf
        refine x_Vr (k := 0) (As := [.int v1]) (rest := []) E hC hW hl.1 (c_X10_namePlace v1 r4 S g5) cv_X10_115 rfl (by decide) rfl rfl rfl ⟨Nat.le_of_ble_eq_true rfl, Nat.le_of_ble_eq_true rfl⟩ ⟨Nat.le_refl _, Nat.le_refl _⟩ (Nat.le_of_ble_eq_true rfl) dX10_nameAt_23 (fun H locs hW => ?_)
        refine lv_iload_n hx hb dX10_nameAt_26 rfl (lv_at hl 1 rfl) ?_
        refine lv_icmp_ne (tgt := 37) hx hb dX10_nameAt_27 (by decide) (fun c7 => ?_) (fun c7 => ?_)
        · have hf := xf hf c7
          exact J37 hf _ _ _ (lv_sub hl [0, 1, 2] rfl) hW
        · have hf := xt hf c7
          refine lv_aload_n hx hb dX10_nameAt_30 rfl (lv_at hl 0 rfl) ?_
          refine x_getr (k := 0) (k' := 3) E hC hW fl_X10_23 (by decide) rfl rfl dX10_nameAt_31 ?_
          refine lv_iload_n hx hb dX10_nameAt_34 rfl (lv_at hl 2 rfl) ?_
          obtain ⟨hg6, hf⟩ := gdS hf
          refine x_lald (k := 3) E hC hW (by decide) rfl (inbS hg6) dX10_nameAt_35 ?_
          exact x_lretP E hC hW hr hlk hQ dX10_nameAt_36 hf
