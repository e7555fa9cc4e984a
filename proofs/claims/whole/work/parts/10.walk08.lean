set_option maxRecDepth 100000 in
set_option maxHeartbeats 4000000 in
theorem rc_X10_rootOf {l : Launch} {D : va_G} {cy : Nat → ClassId} {L : Nat → Nat} {bA : Nat}  : ∀ (n : Nat) (a1 : Int32) (r : Int64) (S S' : Sg), wp2 g_X10_rootOf n a1 S = some (r, S') → MetX l D cy L shM 20 bA yX10_rootOf cX10_rootOf 9 (some .long) (1 + n) (26 + 28 * n) [.ref (L 0), .int a1] (some (.long r)) S S'
  | 0, _, _, _, _, hf => by cases hf
  | n + 1, a1, r, S, S', hf => by
    have hrc := rc_X10_rootOf (l := l) (D := D) (cy := cy) (L := L) (bA := bA) n
    have hf : g_X10_rootOf (wp2 g_X10_rootOf n) a1 S = some (r, S') := hf
    refine x_met (own := RX10) (by decide) rfl (Nat.le_of_ble_eq_true rfl) ?_
    intro p e s m below meth c ls E hC hr hlk hl hW
    generalize hargs : ([.ref (L 0), .int a1] : List Value).toArray = args at E ⊢
    generalize hQ : MQ below (xQ D cy L shM 20 bA (some (.long r)) S') args s 0 0 (AL L 20) = Q
    have hl : lv_has ls 9 [(0, .ref (L 0)), (1, .int a1)] := hl
    have hx := E.1
    have hb := E.2.1
    have hts := E.2.2.2.2
    unfold g_X10_rootOf at hf
    refine lv_iconst (v := 0) hx hb dX10_rootOf_0 (by decide) ?_
    refine lv_istore_n (lv' := [(2, .int (0 : Int32)), (0, .ref (L 0)), (1, .int a1)]) hx hb dX10_rootOf_1 rfl hl (by decide) rfl (fun ls hl => ?_)
    refine wp1K hf (fun (v35 : Int32) => ∀ (H : Heap) (locs : List Loc) (ls : Array Slot), lv_has ls 9 [(0, .ref (L 0)), (1, .int a1), (2, .int v35)] → Wd D cy L shM 20 S s H locs → W p l e (rmk (1 + (n + 1)) (26 + 28 * (n + 1))) s m args below meth c H locs 0 0 Q (F0 m 2 ls [])) (fun (j : Int32 → Option (Int64 × Sg)) => ∀ (v1 : Int32), (j v1) = some (r, S') → ∀ (H : Heap) (locs : List Loc) (ls : Array Slot), lv_has ls 9 [(0, .ref (L 0)), (1, .int a1), (2, .int v1)] → Wd D cy L shM 20 S s H locs → W p l e (rmk (1 + (n + 1)) (26 + 28 * (n + 1))) s m args below meth c H locs 0 0 Q (F0 m 24 ls [])) ?_ ?_ _ _ _ (lv_sub hl [1, 2, 0] rfl) hW
    · intro v1 hf H locs ls hl hW
      try dsimp only at hf
      refine lv_iload_n hx hb dX10_rootOf_24 rfl (lv_at hl 1 rfl) ?_
      refine jnS hf (fun (j : Int64 → Option (Int64 × Sg)) => ∀ (x2 : Int64), (j x2) = some (r, S') → ∀ (H : Heap) (locs : List Loc) (ls : Array Slot), lv_has ls 9 [(0, .ref (L 0)), (1, .int a1), (2, .int v1)] → Wd D cy L shM 20 S s H locs → W p l e (rmk (1 + (n + 1)) (26 + 28 * (n + 1))) s m args below meth c H locs 0 0 Q (F0 m 33 ls [.long x2])) ?_ ?_
      · intro x2 hf H locs ls hl hW
        try dsimp only at hf
        refine lv_lstore_n (lv' := [(3, .long x2), (0, .ref (L 0)), (1, .int a1), (2, .int v1)]) hx hb dX10_rootOf_33 rfl hl (by decide) rfl (fun ls hl => ?_)
        refine lv_iconst (v := 1) hx hb dX10_rootOf_34 (by decide) ?_
        refine lv_istore (lv' := [(5, .int (1 : Int32)), (3, .long x2), (0, .ref (L 0)), (1, .int a1), (2, .int v1)]) hx hb dX10_rootOf_35 hl (by decide) rfl (fun ls hl => ?_)
        refine lv_iload_n hx hb dX10_rootOf_37 rfl (lv_at hl 4 rfl) ?_
        refine lv_iconst (v := 1) hx hb dX10_rootOf_38 (by decide) ?_
        refine lv_iadd hx hb dX10_rootOf_39 ?_
        refine lv_topi (fun x3 ex3 => ?_)
        have hf := bvS hf ex3
        refine lv_istore (lv' := [(6, .int x3), (5, .int (1 : Int32)), (3, .long x2), (0, .ref (L 0)), (1, .int a1), (2, .int v1)]) hx hb dX10_rootOf_40 hl (by decide) rfl (fun ls hl => ?_)
        refine wp4S (fun (v4 : Int64) (v5 : Int32) (v6 : Int32) (S7 : Sg) => ∀ (H : Heap) (locs : List Loc) (ls : Array Slot), lv_has ls 9 [(0, .ref (L 0)), (1, .int a1), (2, .int v1), (3, .long v4), (5, .int v5), (6, .int v6)] → Wd D cy L shM 20 S7 s H locs → W p l e (rmk (1 + (n + 1)) (26 + 28 * (n + 1))) s m args below meth c H locs 0 0 Q (F0 m 42 ls [])) ?_ hf _ _ _ (lv_sub hl [3, 4, 5, 2, 1, 0] rfl) hW
        · intro self42 ih42 v4 v5 v6 S7 hf H locs ls hl hW
          unfold X10_rootOf_L42 at hf
          refine lv_iload hx hb dX10_rootOf_42 (lv_at hl 5 rfl) ?_
          refine lv_aload_n hx hb dX10_rootOf_44 rfl (lv_at hl 0 rfl) ?_
          refine x_geti (k := 0) E hC hW fl_X10_13 (by decide) rfl rfl dX10_rootOf_45 ?_
          refine lv_icmp_ge (tgt := 137) hx hb dX10_rootOf_48 (by decide) (fun c33 => ?_) (fun c33 => ?_)
          · have hf := xt hf c33
            refine lv_lload_n hx hb dX10_rootOf_137 rfl (lv_at hl 3 rfl) ?_
            exact x_lretI E hC hW hr hlk hQ dX10_rootOf_138 hf
          · have hf := xf hf c33
            refine lv_iload_n hx hb dX10_rootOf_51 rfl (lv_at hl 1 rfl) ?_
            refine lv_iload hx hb dX10_rootOf_52 (lv_at hl 5 rfl) ?_
            obtain ⟨r8, g9, hf⟩ := cl1S hf
            refine x_Sr (As := [.int a1, .int v6]) (rest := []) E hC hW hl.1 (c_X10_has a1 v6 r8 S7 g9) cs_X10_149 rfl rfl ⟨by simp only [rmk]; omega, by simp only [rmk]; omega⟩ ⟨Nat.le_refl _, Nat.le_refl _⟩ (Nat.le_of_ble_eq_true rfl) dX10_rootOf_54 (fun H locs hW => ?_)
            refine jnS hf (fun (j : Int64 → Int32 → Sg → Option (Int64 × Sg)) => ∀ (v10 : Int64) (v11 : Int32) (S12 : Sg), (j v10 v11 S12) = some (r, S') → ∀ (H : Heap) (locs : List Loc) (ls : Array Slot), lv_has ls 9 [(0, .ref (L 0)), (1, .int a1), (2, .int v1), (3, .long v10), (5, .int v11), (6, .int v6)] → Wd D cy L shM 20 S12 s H locs → W p l e (rmk (1 + (n + 1)) (26 + 28 * (n + 1))) s m args below meth c H locs 0 0 Q (F0 m 131 ls [])) ?_ ?_
            · intro v10 v11 S12 hf H locs ls hl hW
              try dsimp only at hf
              obtain ⟨x13, ex13⟩ : ∃ z : Int32, z = (v6 + 1) := ⟨_, rfl⟩
              have hf := bvS hf ex13
              refine lv_iinc (v := x13) (lv' := [(6, .int x13), (0, .ref (L 0)), (1, .int a1), (2, .int v1), (3, .long v10), (5, .int v11)]) hx hb dX10_rootOf_131 hl (k := 5) rfl (by rw [ex13]; rfl) (by decide) rfl (fun ls hl => ?_)
              refine lv_goto (tgt := 42) hx hb dX10_rootOf_134 (by decide) ?_
              exact ih42 _ _ _ _ hf _ _ _ (lv_sub hl [1, 2, 3, 4, 5, 0] rfl) hW
            intro j131 J131 hf
            refine lv_if_eq (tgt := 131) hx hb dX10_rootOf_57 (by decide) (fun c32 => ?_) (fun c32 => ?_)
            · have hf := xt hf c32
              exact J131 _ _ _ hf _ _ _ (lv_sub hl [0, 1, 2, 3, 4, 5] rfl) hW
            · have hf := xf hf c32
              refine lv_aload_n hx hb dX10_rootOf_60 rfl (lv_at hl 0 rfl) ?_
              refine lv_aload_n hx hb dX10_rootOf_61 rfl (lv_at hl 0 rfl) ?_
              refine x_getr (k := 0) (k' := 8) E hC hW fl_X10_39 (by decide) rfl rfl dX10_rootOf_62 ?_
              refine lv_bipush (v := 6) hx hb dX10_rootOf_65 (by decide) ?_
              refine lv_iload_n hx hb dX10_rootOf_67 rfl (lv_at hl 2 rfl) ?_
              refine lv_imul hx hb dX10_rootOf_68 ?_
              refine lv_iload hx hb dX10_rootOf_69 (lv_at hl 5 rfl) ?_
              refine lv_iadd hx hb dX10_rootOf_71 ?_
              obtain ⟨hg14, hf⟩ := gdS hf
              refine x_lald (k := 8) E hC hW (by decide) rfl (inbS hg14) dX10_rootOf_72 ?_
              refine lv_aload_n hx hb dX10_rootOf_73 rfl (lv_at hl 0 rfl) ?_
              refine lv_iload_n hx hb dX10_rootOf_74 rfl (lv_at hl 1 rfl) ?_
              refine lv_iconst (v := 1) hx hb dX10_rootOf_75 (by decide) ?_
              refine lv_iload_n hx hb dX10_rootOf_76 rfl (lv_at hl 2 rfl) ?_
              refine lv_ishl hx hb dX10_rootOf_77 ?_
              refine lv_iconst (v := (-1)) hx hb dX10_rootOf_78 (by decide) ?_
              refine lv_ixor hx hb dX10_rootOf_79 ?_
              refine lv_iand hx hb dX10_rootOf_80 ?_
              refine lv_iconst (v := 1) hx hb dX10_rootOf_81 (by decide) ?_
              refine lv_iload hx hb dX10_rootOf_82 (lv_at hl 5 rfl) ?_
              refine lv_ishl hx hb dX10_rootOf_84 ?_
              refine lv_iconst (v := (-1)) hx hb dX10_rootOf_85 (by decide) ?_
              refine lv_ixor hx hb dX10_rootOf_86 ?_
              refine lv_iand hx hb dX10_rootOf_87 ?_
              obtain ⟨r15, S17, g16, hf⟩ := clS hf
              refine x_Vr (k := 0) (As := [.int ((a1 &&& (((1 : Int32) <<< (v1 &&& 31)) ^^^ (-1 : Int32))) &&& (((1 : Int32) <<< (v6 &&& 31)) ^^^ (-1 : Int32)))]) (rest := [.long (S7.2 8 (ix (((6 : Int32) * v1) + v6))), .ref (L 0)]) E hC hW hl.1 (hrc ((a1 &&& (((1 : Int32) <<< (v1 &&& 31)) ^^^ (-1 : Int32))) &&& (((1 : Int32) <<< (v6 &&& 31)) ^^^ (-1 : Int32))) r15 S7 S17 g16) cv_X10_215 rfl (by decide) rfl rfl rfl ⟨by simp only [rmk]; omega, by simp only [rmk]; omega⟩ ⟨Nat.le_refl _, Nat.le_refl _⟩ (Nat.le_of_ble_eq_true rfl) dX10_rootOf_88 (fun H locs hW => ?_)
              obtain ⟨r18, S20, g19, hf⟩ := clS hf
              refine x_Vr (k := 0) (As := [.long (S7.2 8 (ix (((6 : Int32) * v1) + v6))), .long r15]) (rest := []) E hC hW hl.1 (c_X10_times (S7.2 8 (ix (((6 : Int32) * v1) + v6))) r15 r18 S17 S20 g19) cv_X10_208 rfl (by decide) rfl rfl rfl ⟨by simp only [rmk]; omega, by simp only [rmk]; omega⟩ ⟨Nat.le_refl _, Nat.le_refl _⟩ (Nat.le_of_ble_eq_true rfl) dX10_rootOf_91 (fun H locs hW => ?_)
              refine lv_lstore (lv' := [(7, .long r18), (0, .ref (L 0)), (1, .int a1), (2, .int v1), (3, .long v4), (5, .int v5), (6, .int v6)]) hx hb dX10_rootOf_94 hl (by decide) rfl (fun ls hl => ?_)
              refine lv_iload hx hb dX10_rootOf_96 (lv_at hl 5 rfl) ?_
              refine jnS hf (fun (j : Int64 → Sg → Option (Int64 × Sg)) => ∀ (x21 : Int64) (S22 : Sg), (j x21 S22) = some (r, S') → ∀ (H : Heap) (locs : List Loc) (ls : Array Slot), lv_has ls 9 [(0, .ref (L 0)), (1, .int a1), (2, .int v1), (5, .int v5), (6, .int v6)] → Wd D cy L shM 20 S22 s H locs → W p l e (rmk (1 + (n + 1)) (26 + 28 * (n + 1))) s m args below meth c H locs 0 0 Q (F0 m 118 ls [.long x21])) ?_ ?_
              · intro x21 S22 hf H locs ls hl hW
                try dsimp only at hf
                refine lv_lstore_n (lv' := [(3, .long x21), (0, .ref (L 0)), (1, .int a1), (2, .int v1), (5, .int v5), (6, .int v6)]) hx hb dX10_rootOf_118 rfl hl (by decide) rfl (fun ls hl => ?_)
                refine lv_iload hx hb dX10_rootOf_119 (lv_at hl 4 rfl) ?_
                refine jnS hf (fun (j : Int32 → Option (Int64 × Sg)) => ∀ (x23 : Int32), (j x23) = some (r, S') → ∀ (H : Heap) (locs : List Loc) (ls : Array Slot), lv_has ls 9 [(0, .ref (L 0)), (1, .int a1), (2, .int v1), (3, .long x21), (6, .int v6)] → Wd D cy L shM 20 S22 s H locs → W p l e (rmk (1 + (n + 1)) (26 + 28 * (n + 1))) s m args below meth c H locs 0 0 Q (F0 m 129 ls [.int x23])) ?_ ?_
                · intro x23 hf H locs ls hl hW
                  try dsimp only at hf
                  refine lv_istore (lv' := [(5, .int x23), (0, .ref (L 0)), (1, .int a1), (2, .int v1), (3, .long x21), (6, .int v6)]) hx hb dX10_rootOf_129 hl (by decide) rfl (fun ls hl => ?_)
                  exact J131 _ _ _ hf _ _ _ (lv_sub hl [1, 2, 3, 4, 0, 5] rfl) hW
                intro j129 J129 hf
                refine lv_if_ne (tgt := 128) hx hb dX10_rootOf_121 (by decide) (fun c24 => ?_) (fun c24 => ?_)
                · have hf := xf hf c24
                  refine lv_iconst (v := 0) hx hb dX10_rootOf_128 (by decide) ?_
                  exact J129 _ hf _ _ _ (lv_sub hl [1, 2, 3, 0, 5] rfl) hW
                · have hf := xt hf c24
                  refine lv_iconst (v := 1) hx hb dX10_rootOf_124 (by decide) ?_
                  refine lv_goto (tgt := 129) hx hb dX10_rootOf_125 (by decide) ?_
                  exact J129 _ hf _ _ _ (lv_sub hl [1, 2, 3, 0, 5] rfl) hW
              intro j118 J118 hf
              refine lv_if_eq (tgt := 111) hx hb dX10_rootOf_98 (by decide) (fun c31 => ?_) (fun c31 => ?_)
              · have hf := xt hf c31
                refine lv_aload_n hx hb dX10_rootOf_111 rfl (lv_at hl 1 rfl) ?_
                refine lv_lload_n hx hb dX10_rootOf_112 rfl (lv_at hl 4 rfl) ?_
                refine lv_lload hx hb dX10_rootOf_113 (lv_at hl 0 rfl) ?_
                obtain ⟨r25, S27, g26, hf⟩ := clS hf
                refine x_Vr (k := 0) (As := [.long v4, .long r18]) (rest := []) E hC hW hl.1 (c_X10_less v4 r18 r25 S20 S27 g26) cv_X10_219 rfl (by decide) rfl rfl rfl ⟨by simp only [rmk]; omega, by simp only [rmk]; omega⟩ ⟨Nat.le_refl _, Nat.le_refl _⟩ (Nat.le_of_ble_eq_true rfl) dX10_rootOf_115 (fun H locs hW => ?_)
                exact J118 _ _ hf _ _ _ (lv_sub hl [1, 2, 3, 5, 6] rfl) hW
              · have hf := xf hf c31
                refine lv_aload_n hx hb dX10_rootOf_101 rfl (lv_at hl 1 rfl) ?_
                refine lv_lload_n hx hb dX10_rootOf_102 rfl (lv_at hl 4 rfl) ?_
                refine lv_lload hx hb dX10_rootOf_103 (lv_at hl 0 rfl) ?_
                obtain ⟨r28, S30, g29, hf⟩ := clS hf
                refine x_Vr (k := 0) (As := [.long v4, .long r18]) (rest := []) E hC hW hl.1 (c_X10_plus v4 r18 r28 S20 S30 g29) cv_X10_212 rfl (by decide) rfl rfl rfl ⟨by simp only [rmk]; omega, by simp only [rmk]; omega⟩ ⟨Nat.le_refl _, Nat.le_refl _⟩ (Nat.le_of_ble_eq_true rfl) dX10_rootOf_105 (fun H locs hW => ?_)
                refine lv_goto (tgt := 118) hx hb dX10_rootOf_108 (by decide) ?_
                exact J118 _ _ hf _ _ _ (lv_sub hl [1, 2, 3, 5, 6] rfl) hW
      intro j33 J33 hf
      refine lv_if_ne (tgt := 32) hx hb dX10_rootOf_25 (by decide) (fun c34 => ?_) (fun c34 => ?_)
      · have hf := xf hf c34
        refine lv_lconst (v := 0) hx hb dX10_rootOf_32 (by decide) ?_
        exact J33 _ hf _ _ _ (lv_sub hl [0, 1, 2] rfl) hW
      · have hf := xt hf c34
        refine lv_lconst (v := 1) hx hb dX10_rootOf_28 (by decide) ?_
        refine lv_goto (tgt := 33) hx hb dX10_rootOf_29 (by decide) ?_
        exact J33 _ hf _ _ _ (lv_sub hl [0, 1, 2] rfl) hW
    · intro k24 K24 self2 ih2 v35 hf H locs ls hl hW
      unfold X10_rootOf_L2 at hf
      refine lv_iload_n hx hb dX10_rootOf_2 rfl (lv_at hl 2 rfl) ?_
      refine lv_aload_n hx hb dX10_rootOf_3 rfl (lv_at hl 0 rfl) ?_
      refine x_geti (k := 0) E hC hW fl_X10_13 (by decide) rfl rfl dX10_rootOf_4 ?_
      refine lv_icmp_ge (tgt := 24) hx hb dX10_rootOf_7 (by decide) (fun c40 => ?_) (fun c40 => ?_)
      · have hf := xt hf c40
        exact K24 _ hf _ _ _ (lv_sub hl [0, 1, 2] rfl) hW
      · have hf := xf hf c40
        refine lv_iload_n hx hb dX10_rootOf_10 rfl (lv_at hl 1 rfl) ?_
        refine lv_iload_n hx hb dX10_rootOf_11 rfl (lv_at hl 2 rfl) ?_
        obtain ⟨r36, g37, hf⟩ := cl1S hf
        refine x_Sr (As := [.int a1, .int v35]) (rest := []) E hC hW hl.1 (c_X10_has a1 v35 r36 S g37) cs_X10_149 rfl rfl ⟨by simp only [rmk]; omega, by simp only [rmk]; omega⟩ ⟨Nat.le_refl _, Nat.le_refl _⟩ (Nat.le_of_ble_eq_true rfl) dX10_rootOf_12 (fun H locs hW => ?_)
        refine lv_if_ne (tgt := 24) hx hb dX10_rootOf_15 (by decide) (fun c39 => ?_) (fun c39 => ?_)
        · have hf := xf hf c39
          exact K24 _ hf _ _ _ (lv_sub hl [0, 1, 2] rfl) hW
        · have hf := xt hf c39
          obtain ⟨x38, ex38⟩ : ∃ z : Int32, z = (v35 + 1) := ⟨_, rfl⟩
          have hf := bvS hf ex38
          refine lv_iinc (v := x38) (lv' := [(2, .int x38), (0, .ref (L 0)), (1, .int a1)]) hx hb dX10_rootOf_18 hl (k := 2) rfl (by rw [ex38]; rfl) (by decide) rfl (fun ls hl => ?_)
          refine lv_goto (tgt := 2) hx hb dX10_rootOf_21 (by decide) ?_
          exact ih2 _ hf _ _ _ (lv_sub hl [1, 2, 0] rfl) hW
theorem c_X10_rootOf {l : Launch} {D : va_G} {cy : Nat → ClassId} {L : Nat → Nat} {bA : Nat} (a1 : Int32) (r : Int64) (S S' : Sg)  (hf : f_X10_rootOf a1 S = some (r, S')) : MetX l D cy L shM 20 bA yX10_rootOf cX10_rootOf 9 (some .long) 9 250 [.ref (L 0), .int a1] (some (.long r)) S S' := rc_X10_rootOf 8 a1 r S S' hf
set_option maxRecDepth 100000 in
set_option maxHeartbeats 4000000 in
theorem c_X10_root {l : Launch} {D : va_G} {cy : Nat → ClassId} {L : Nat → Nat} {bA : Nat} (a1 : Int32) (r : Int64) (S S' : Sg)  (hf : f_X10_root a1 S = some (r, S')) : MetX l D cy L shM 20 bA yX10_root cX10_root 5 (some .long) 10 278 [.ref (L 0), .int a1] (some (.long r)) S S' := by
  refine x_met (own := RX10) (by decide) rfl (Nat.le_of_ble_eq_true rfl) ?_
  intro p e s m below meth c ls E hC hr hlk hl hW
  generalize hargs : ([.ref (L 0), .int a1] : List Value).toArray = args at E ⊢
  generalize hQ : MQ below (xQ D cy L shM 20 bA (some (.long r)) S') args s 0 0 (AL L 20) = Q
  have hl : lv_has ls 5 [(0, .ref (L 0)), (1, .int a1)] := hl
  have hx := E.1
  have hb := E.2.1
  have hts := E.2.2.2.2
  unfold f_X10_root at hf
  refine lv_aload_n hx hb dX10_root_0 rfl (lv_at hl 0 rfl) ?_
  refine lv_iload_n hx hb dX10_root_1 rfl (lv_at hl 1 rfl) ?_
  obtain ⟨r1, S3, g2, hf⟩ := clS hf
  refine x_Vr (k := 0) (As := [.int a1]) (rest := []) E hC hW hl.1 (c_X10_tells a1 r1 S S3 g2) cv_X10_193 rfl (by decide) rfl rfl rfl ⟨Nat.le_of_ble_eq_true rfl, Nat.le_of_ble_eq_true rfl⟩ ⟨Nat.le_refl _, Nat.le_refl _⟩ (Nat.le_of_ble_eq_true rfl) dX10_root_2 (fun H locs hW => ?_)
  refine lv_istore_n (lv' := [(2, .int r1), (0, .ref (L 0)), (1, .int a1)]) hx hb dX10_root_5 rfl hl (by decide) rfl (fun ls hl => ?_)
  refine lv_iload_n hx hb dX10_root_6 rfl (lv_at hl 0 rfl) ?_
  refine lv_if_eq (tgt := 13) hx hb dX10_root_7 (by decide) (fun c15 => ?_) (fun c15 => ?_)
  · have hf := xt hf c15
    refine lv_aload_n hx hb dX10_root_13 rfl (lv_at hl 1 rfl) ?_
    refine x_geti (k := 0) E hC hW fl_X10_13 (by decide) rfl rfl dX10_root_14 ?_
    refine lv_iconst (v := 2) hx hb dX10_root_17 (by decide) ?_
    refine lv_irem hx hb dX10_root_18 (by decide) ?_
    refine lv_iconst (v := 1) hx hb dX10_root_19 (by decide) ?_
    refine lv_icmp_ne (tgt := 27) hx hb dX10_root_20 (by decide) (fun c14 => ?_) (fun c14 => ?_)
    · have hf := xf hf c14
      refine lv_aload_n hx hb dX10_root_27 rfl (lv_at hl 1 rfl) ?_
      refine lv_iconst (v := 0) hx hb dX10_root_28 (by decide) ?_
      refine x_put (k := 0) E hC hW fl_X10_202 pl_10_11 (by decide) rfl rfl (isB_narrow (by decide)) (isB_fits (by decide)) dX10_root_29 (fun H locs hW => ?_)
      obtain ⟨S4, eS4⟩ : ∃ z : Sg, z = si S3 0 11 (0 : Int32) := ⟨_, rfl⟩
      have hW : Wd D cy L shM 20 S4 s H locs := by rw [eS4]; exact hW
      have hf := bvS hf eS4
      refine lv_aload_n hx hb dX10_root_32 rfl (lv_at hl 1 rfl) ?_
      obtain ⟨S6, g5, hf⟩ := cl1S hf
      refine x_Vv (k := 0) (As := []) (rest := []) E hC hW hl.1 (c_X10_laysWhole S4 S6 g5) cv_X10_224 rfl (by decide) rfl rfl rfl ⟨Nat.le_of_ble_eq_true rfl, Nat.le_of_ble_eq_true rfl⟩ ⟨Nat.le_refl _, Nat.le_refl _⟩ (Nat.le_of_ble_eq_true rfl) dX10_root_33 (fun H locs hW => ?_)
      refine lv_aload_n hx hb dX10_root_36 rfl (lv_at hl 1 rfl) ?_
      refine x_geti (k := 0) E hC hW fl_X10_202 (by decide) rfl rfl dX10_root_37 ?_
      refine jnS hf (fun (j : Int64 → Sg → Option (Int64 × Sg)) => ∀ (x7 : Int64) (S8 : Sg), (j x7 S8) = some (r, S') → ∀ (H : Heap) (locs : List Loc) (ls : Array Slot), lv_has ls 5 [(0, .ref (L 0))] → Wd D cy L shM 20 S8 s H locs → W p l e (rmk 10 278) s m args below meth c H locs 0 0 Q (F0 m 59 ls [.long x7])) ?_ ?_
      · intro x7 S8 hf H locs ls hl hW
        try dsimp only at hf
        refine lv_lstore_n (lv' := [(3, .long x7), (0, .ref (L 0))]) hx hb dX10_root_59 rfl hl (by decide) rfl (fun ls hl => ?_)
        refine lv_aload_n hx hb dX10_root_60 rfl (lv_at hl 1 rfl) ?_
        refine x_geti (k := 0) E hC hW fl_X10_202 (by decide) rfl rfl dX10_root_61 ?_
        refine lv_if_eq (tgt := 73) hx hb dX10_root_64 (by decide) (fun c9 => ?_) (fun c9 => ?_)
        · have hf := xt hf c9
          refine lv_lload_n hx hb dX10_root_73 rfl (lv_at hl 0 rfl) ?_
          exact x_lretI E hC hW hr hlk hQ dX10_root_74 hf
        · have hf := xf hf c9
          refine lv_ldc2 hx hb E.2.2.2.1 (hts _ ww_1149) dX10_root_67 ?_
          refine lv_goto (tgt := 74) hx hb dX10_root_70 (by decide) ?_
          exact x_lretI E hC hW hr hlk hQ dX10_root_74 hf
      intro j59 J59 hf
      refine lv_if_eq (tgt := 47) hx hb dX10_root_40 (by decide) (fun c13 => ?_) (fun c13 => ?_)
      · have hf := xt hf c13
        refine lv_aload_n hx hb dX10_root_47 rfl (lv_at hl 1 rfl) ?_
        refine lv_iconst (v := 1) hx hb dX10_root_48 (by decide) ?_
        refine lv_aload_n hx hb dX10_root_49 rfl (lv_at hl 1 rfl) ?_
        refine x_geti (k := 0) E hC hW fl_X10_13 (by decide) rfl rfl dX10_root_50 ?_
        refine lv_ishl hx hb dX10_root_53 ?_
        refine lv_iconst (v := 1) hx hb dX10_root_54 (by decide) ?_
        refine lv_isub hx hb dX10_root_55 ?_
        obtain ⟨r10, S12, g11, hf⟩ := clS hf
        refine x_Vr (k := 0) (As := [.int (((1 : Int32) <<< ((S6.1 0 1) &&& 31)) - (1 : Int32))]) (rest := []) E hC hW hl.1 (c_X10_rootOf (((1 : Int32) <<< ((S6.1 0 1) &&& 31)) - (1 : Int32)) r10 S6 S12 g11) cv_X10_215 rfl (by decide) rfl rfl rfl ⟨Nat.le_of_ble_eq_true rfl, Nat.le_of_ble_eq_true rfl⟩ ⟨Nat.le_refl _, Nat.le_refl _⟩ (Nat.le_of_ble_eq_true rfl) dX10_root_56 (fun H locs hW => ?_)
        exact J59 _ _ hf _ _ _ (lv_sub hl [1] rfl) hW
      · have hf := xf hf c13
        refine lv_lconst (v := 0) hx hb dX10_root_43 (by decide) ?_
        refine lv_goto (tgt := 59) hx hb dX10_root_44 (by decide) ?_
        exact J59 _ _ hf _ _ _ (lv_sub hl [1] rfl) hW
    · have hf := xt hf c14
      refine lv_ldc2 hx hb E.2.2.2.1 (hts _ ww_1127) dX10_root_23 ?_
      exact x_lretI E hC hW hr hlk hQ dX10_root_26 hf
  · have hf := xf hf c15
    refine lv_iload_n hx hb dX10_root_10 rfl (lv_at hl 0 rfl) ?_
    refine lv_i2l hx hb dX10_root_11 rfl ?_
    exact x_lretI E hC hW hr hlk hQ dX10_root_12 hf
set_option maxRecDepth 100000 in
set_option maxHeartbeats 4000000 in
theorem c_X10_draws {l : Launch} {D : va_G} {cy : Nat → ClassId} {L : Nat → Nat} {bA : Nat}  (S S' : Sg)  (hf : f_X10_draws S = some S') : MetX l D cy L shM 20 bA yX10_draws cX10_draws 2 none 0 0 [.ref (L 0)] none S S' := by
  refine x_met (own := RX10) (by decide) rfl (Nat.le_of_ble_eq_true rfl) ?_
  intro p e s m below meth c ls E hC hr hlk hl hW
  generalize hargs : ([.ref (L 0)] : List Value).toArray = args at E ⊢
  generalize hQ : MQ below (xQ D cy L shM 20 bA none S') args s 0 0 (AL L 20) = Q
  have hl : lv_has ls 2 [(0, .ref (L 0))] := hl
  have hx := E.1
  have hb := E.2.1
  have hts := E.2.2.2.2
  unfold f_X10_draws at hf
  refine lv_iconst (v := 0) hx hb dX10_draws_0 (by decide) ?_
  refine lv_istore_n (lv' := [(1, .int (0 : Int32)), (0, .ref (L 0))]) hx hb dX10_draws_1 rfl hl (by decide) rfl (fun ls hl => ?_)
  refine wp2S (fun (v1 : Int32) (S2 : Sg) => ∀ (H : Heap) (locs : List Loc) (ls : Array Slot), lv_has ls 2 [(0, .ref (L 0)), (1, .int v1)] → Wd D cy L shM 20 S2 s H locs → W p l e (rmk 0 0) s m args below meth c H locs 0 0 Q (F0 m 2 ls [])) ?_ hf _ _ _ (lv_sub hl [1, 0] rfl) hW
  · intro self2 ih2 v1 S2 hf H locs ls hl hW
    unfold X10_draws_L2 at hf
    refine lv_iload_n hx hb dX10_draws_2 rfl (lv_at hl 1 rfl) ?_
    refine lv_aload_n hx hb dX10_draws_3 rfl (lv_at hl 0 rfl) ?_
    refine x_geti (k := 0) E hC hW fl_X10_75 (by decide) rfl rfl dX10_draws_4 ?_
    refine lv_icmp_ge (tgt := 50) hx hb dX10_draws_7 (by decide) (fun c8 => ?_) (fun c8 => ?_)
    · have hf := xt hf c8
      exact x_vretI E hC hW hr hlk hQ dX10_draws_50 hf
    · have hf := xf hf c8
      refine lv_aload_n hx hb dX10_draws_10 rfl (lv_at hl 0 rfl) ?_
      refine lv_aload_n hx hb dX10_draws_11 rfl (lv_at hl 0 rfl) ?_
      refine x_geti (k := 0) E hC hW fl_X10_229 (by decide) rfl rfl dX10_draws_12 ?_
      refine lv_ldc hx hb E.2.2.2.1 (hts _ ww_1159) dX10_draws_15 ?_
      refine lv_imul hx hb dX10_draws_17 ?_
      refine lv_sipush (v := 12345) hx hb dX10_draws_18 (by decide) ?_
      refine lv_iadd hx hb dX10_draws_21 ?_
      refine x_put (k := 0) E hC hW fl_X10_229 pl_10_13 (by decide) rfl rfl rfl rfl dX10_draws_22 (fun H locs hW => ?_)
      obtain ⟨S3, eS3⟩ : ∃ z : Sg, z = si S2 0 13 (((S2.1 0 13) * (1103515245 : Int32)) + (12345 : Int32)) := ⟨_, rfl⟩
      have hW : Wd D cy L shM 20 S3 s H locs := by rw [eS3]; exact hW
      have hf := bvS hf eS3
      refine lv_aload_n hx hb dX10_draws_25 rfl (lv_at hl 0 rfl) ?_
      refine x_getr (k := 0) (k' := 7) E hC hW fl_X10_36 (by decide) rfl rfl dX10_draws_26 ?_
      refine lv_iload_n hx hb dX10_draws_29 rfl (lv_at hl 1 rfl) ?_
      refine lv_aload_n hx hb dX10_draws_30 rfl (lv_at hl 0 rfl) ?_
      refine x_geti (k := 0) E hC hW fl_X10_229 (by decide) rfl rfl dX10_draws_31 ?_
      refine lv_bipush (v := 8) hx hb dX10_draws_34 (by decide) ?_
      refine lv_iushr (v := ush (S3.1 0 13) (8 : Int32)) hx hb dX10_draws_36 rfl ?_
      refine lv_aload_n hx hb dX10_draws_37 rfl (lv_at hl 0 rfl) ?_
      refine x_geti (k := 0) E hC hW fl_X10_7 (by decide) rfl rfl dX10_draws_38 ?_
      obtain ⟨hg4, hf⟩ := gdS hf
      refine lv_irem hx hb dX10_draws_41 (nzS hg4) ?_
      refine lv_i2l hx hb dX10_draws_42 rfl ?_
      obtain ⟨hg5, hf⟩ := gdS hf
      refine x_last (k := 7) E hC hW (by decide) rfl (inbS hg5) dX10_draws_43 (fun H locs hW => ?_)
      obtain ⟨S6, eS6⟩ : ∃ z : Sg, z = sl S3 7 (ix v1) ((irm (ush (S3.1 0 13) (8 : Int32)) (S3.1 0 0)).toInt64) := ⟨_, rfl⟩
      have hW : Wd D cy L shM 20 S6 s H locs := by rw [eS6]; exact hW
      have hf := bvS hf eS6
      obtain ⟨x7, ex7⟩ : ∃ z : Int32, z = (v1 + 1) := ⟨_, rfl⟩
      have hf := bvS hf ex7
      refine lv_iinc (v := x7) (lv' := [(1, .int x7), (0, .ref (L 0))]) hx hb dX10_draws_44 hl (k := 1) rfl (by rw [ex7]; rfl) (by decide) rfl (fun ls hl => ?_)
      refine lv_goto (tgt := 2) hx hb dX10_draws_47 (by decide) ?_
      exact ih2 _ _ hf _ _ _ (lv_sub hl [1, 0] rfl) hW
set_option maxRecDepth 100000 in
set_option maxHeartbeats 4000000 in
theorem c_X10_claim {l : Launch} {D : va_G} {cy : Nat → ClassId} {L : Nat → Nat} {bA : Nat} (a1 : Int32) (a2 : Int32) (r : Int32) (S S' : Sg)  (hf : f_X10_claim a1 a2 S = some (r, S')) : MetX l D cy L shM 20 bA yX10_claim cX10_claim 6 (some .int) 5 117 [.ref (L 0), .int a1, .int a2] (some (.int r)) S S' := by
  refine x_met (own := RX10) (by decide) rfl (Nat.le_of_ble_eq_true rfl) ?_
  intro p e s m below meth c ls E hC hr hlk hl hW
  generalize hargs : ([.ref (L 0), .int a1, .int a2] : List Value).toArray = args at E ⊢
  generalize hQ : MQ below (xQ D cy L shM 20 bA (some (.int r)) S') args s 0 0 (AL L 20) = Q
  have hl : lv_has ls 6 [(0, .ref (L 0)), (1, .int a1), (2, .int a2)] := hl
  have hx := E.1
  have hb := E.2.1
  have hts := E.2.2.2.2
  unfold f_X10_claim at hf
  refine lv_iload_n hx hb dX10_claim_0 rfl (lv_at hl 2 rfl) ?_
  refine lv_i2l hx hb dX10_claim_1 rfl ?_
  refine lv_lconst (v := 1) hx hb dX10_claim_2 (by decide) ?_
  refine lv_ldc2 hx hb E.2.2.2.1 (hts _ ww_1154) dX10_claim_3 ?_
  obtain ⟨r1, g2, hf⟩ := cl1S hf
  refine x_Sr (As := [.long a2.toInt64, .long (1 : Int64), .long (20 : Int64)]) (rest := []) E hC hW hl.1 (c_X10_in a2.toInt64 (1 : Int64) (20 : Int64) r1 S g2) cs_X10_78 rfl rfl ⟨Nat.le_of_ble_eq_true rfl, Nat.le_of_ble_eq_true rfl⟩ ⟨Nat.le_refl _, Nat.le_refl _⟩ (Nat.le_of_ble_eq_true rfl) dX10_claim_6 (fun H locs hW => ?_)
  refine lv_if_ne (tgt := 15) hx hb dX10_claim_9 (by decide) (fun c16 => ?_) (fun c16 => ?_)
  · have hf := xf hf c16
    refine lv_aload_n hx hb dX10_claim_15 rfl (lv_at hl 0 rfl) ?_
    refine lv_iload_n hx hb dX10_claim_16 rfl (lv_at hl 1 rfl) ?_
    refine x_put (k := 0) E hC hW fl_X10_229 pl_10_13 (by decide) rfl rfl rfl rfl dX10_claim_17 (fun H locs hW => ?_)
    obtain ⟨S3, eS3⟩ : ∃ z : Sg, z = si S 0 13 a1 := ⟨_, rfl⟩
    have hW : Wd D cy L shM 20 S3 s H locs := by rw [eS3]; exact hW
    have hf := bvS hf eS3
    refine lv_iconst (v := 0) hx hb dX10_claim_20 (by decide) ?_
    refine lv_istore_n (lv' := [(3, .int (0 : Int32)), (0, .ref (L 0)), (1, .int a1), (2, .int a2)]) hx hb dX10_claim_21 rfl hl (by decide) rfl (fun ls hl => ?_)
    refine lv_iconst (v := 0) hx hb dX10_claim_22 (by decide) ?_
    refine lv_istore (lv' := [(4, .int (0 : Int32)), (3, .int (0 : Int32)), (0, .ref (L 0)), (1, .int a1), (2, .int a2)]) hx hb dX10_claim_23 hl (by decide) rfl (fun ls hl => ?_)
    refine wp3S (fun (v4 : Int32) (v5 : Int32) (S6 : Sg) => ∀ (H : Heap) (locs : List Loc) (ls : Array Slot), lv_has ls 6 [(0, .ref (L 0)), (2, .int a2), (3, .int v4), (4, .int v5)] → Wd D cy L shM 20 S6 s H locs → W p l e (rmk 5 117) s m args below meth c H locs 0 0 Q (F0 m 25 ls [])) ?_ hf _ _ _ (lv_sub hl [2, 4, 1, 0] rfl) hW
    · intro self25 ih25 v4 v5 S6 hf H locs ls hl hW
      unfold X10_claim_L25 at hf
      refine lv_iload hx hb dX10_claim_25 (lv_at hl 3 rfl) ?_
      refine lv_iload_n hx hb dX10_claim_27 rfl (lv_at hl 1 rfl) ?_
      refine lv_icmp_ge (tgt := 60) hx hb dX10_claim_28 (by decide) (fun c15 => ?_) (fun c15 => ?_)
      · have hf := xt hf c15
        refine lv_iload_n hx hb dX10_claim_60 rfl (lv_at hl 2 rfl) ?_
        exact x_iretI E hC hW hr hlk hQ dX10_claim_61 hf
      · have hf := xf hf c15
        refine lv_aload_n hx hb dX10_claim_31 rfl (lv_at hl 0 rfl) ?_
        obtain ⟨S8, g7, hf⟩ := cl1S hf
        refine x_Vv (k := 0) (As := []) (rest := []) E hC hW hl.1 (c_X10_draws S6 S8 g7) cv_X10_235 rfl (by decide) rfl rfl rfl ⟨Nat.le_of_ble_eq_true rfl, Nat.le_of_ble_eq_true rfl⟩ ⟨Nat.le_refl _, Nat.le_refl _⟩ (Nat.le_of_ble_eq_true rfl) dX10_claim_32 (fun H locs hW => ?_)
        refine lv_aload_n hx hb dX10_claim_35 rfl (lv_at hl 0 rfl) ?_
        obtain ⟨r9, S11, g10, hf⟩ := clS hf
        refine x_Vr (k := 0) (As := []) (rest := []) E hC hW hl.1 (c_X10_halfOf r9 S8 S11 g10) cv_X10_199 rfl (by decide) rfl rfl rfl ⟨Nat.le_of_ble_eq_true rfl, Nat.le_of_ble_eq_true rfl⟩ ⟨Nat.le_refl _, Nat.le_refl _⟩ (Nat.le_of_ble_eq_true rfl) dX10_claim_36 (fun H locs hW => ?_)
        refine lv_istore (lv' := [(5, .int r9), (0, .ref (L 0)), (2, .int a2), (3, .int v4), (4, .int v5)]) hx hb dX10_claim_39 hl (by decide) rfl (fun ls hl => ?_)
        refine lv_iload hx hb dX10_claim_41 (lv_at hl 0 rfl) ?_
        refine lv_iload_n hx hb dX10_claim_43 rfl (lv_at hl 3 rfl) ?_
        refine jnS hf (fun (j : Int32 → Option (Int32 × Sg)) => ∀ (x12 : Int32), (j x12) = some (r, S') → ∀ (H : Heap) (locs : List Loc) (ls : Array Slot), lv_has ls 6 [(0, .ref (L 0)), (2, .int a2), (4, .int v5)] → Wd D cy L shM 20 S11 s H locs → W p l e (rmk 5 117) s m args below meth c H locs 0 0 Q (F0 m 53 ls [.int x12])) ?_ ?_
        · intro x12 hf H locs ls hl hW
          try dsimp only at hf
          refine lv_istore_n (lv' := [(3, .int x12), (0, .ref (L 0)), (2, .int a2), (4, .int v5)]) hx hb dX10_claim_53 rfl hl (by decide) rfl (fun ls hl => ?_)
          obtain ⟨x13, ex13⟩ : ∃ z : Int32, z = (v5 + 1) := ⟨_, rfl⟩
          have hf := bvS hf ex13
          refine lv_iinc (v := x13) (lv' := [(4, .int x13), (3, .int x12), (0, .ref (L 0)), (2, .int a2)]) hx hb dX10_claim_54 hl (k := 3) rfl (by rw [ex13]; rfl) (by decide) rfl (fun ls hl => ?_)
          refine lv_goto (tgt := 25) hx hb dX10_claim_57 (by decide) ?_
          exact ih25 _ _ _ hf _ _ _ (lv_sub hl [2, 3, 1, 0] rfl) hW
        intro j53 J53 hf
        refine lv_icmp_le (tgt := 52) hx hb dX10_claim_44 (by decide) (fun c14 => ?_) (fun c14 => ?_)
        · have hf := xt hf c14
          refine lv_iload_n hx hb dX10_claim_52 rfl (lv_at hl 3 rfl) ?_
          exact J53 _ hf _ _ _ (lv_sub hl [1, 2, 4] rfl) hW
        · have hf := xf hf c14
          refine lv_iload hx hb dX10_claim_47 (lv_at hl 0 rfl) ?_
          refine lv_goto (tgt := 53) hx hb dX10_claim_49 (by decide) ?_
          exact J53 _ hf _ _ _ (lv_sub hl [1, 2, 4] rfl) hW
  · have hf := xt hf c16
    refine lv_bipush (v := (-2)) hx hb dX10_claim_12 (by decide) ?_
    exact x_iretI E hC hW hr hlk hQ dX10_claim_14 hf
set_option maxRecDepth 100000 in
set_option maxHeartbeats 4000000 in
theorem c_X10_sure {l : Launch} {D : va_G} {cy : Nat → ClassId} {L : Nat → Nat} {bA : Nat} (a1 : Int32) (a2 : Int32) (r : Int32) (S S' : Sg)  (hf : f_X10_sure a1 a2 S = some (r, S')) : MetX l D cy L shM 20 bA yX10_sure cX10_sure 6 (some .int) 6 137 [.ref (L 0), .int a1, .int a2] (some (.int r)) S S' := by
  refine x_met (own := RX10) (by decide) rfl (Nat.le_of_ble_eq_true rfl) ?_
  intro p e s m below meth c ls E hC hr hlk hl hW
  generalize hargs : ([.ref (L 0), .int a1, .int a2] : List Value).toArray = args at E ⊢
  generalize hQ : MQ below (xQ D cy L shM 20 bA (some (.int r)) S') args s 0 0 (AL L 20) = Q
  have hl : lv_has ls 6 [(0, .ref (L 0)), (1, .int a1), (2, .int a2)] := hl
  have hx := E.1
  have hb := E.2.1
  have hts := E.2.2.2.2
  unfold f_X10_sure at hf
  refine lv_iload_n hx hb dX10_sure_0 rfl (lv_at hl 2 rfl) ?_
  refine lv_i2l hx hb dX10_sure_1 rfl ?_
  refine lv_lconst (v := 1) hx hb dX10_sure_2 (by decide) ?_
  refine lv_ldc2 hx hb E.2.2.2.1 (hts _ ww_1154) dX10_sure_3 ?_
  obtain ⟨r1, g2, hf⟩ := cl1S hf
  refine x_Sr (As := [.long a2.toInt64, .long (1 : Int64), .long (20 : Int64)]) (rest := []) E hC hW hl.1 (c_X10_in a2.toInt64 (1 : Int64) (20 : Int64) r1 S g2) cs_X10_78 rfl rfl ⟨Nat.le_of_ble_eq_true rfl, Nat.le_of_ble_eq_true rfl⟩ ⟨Nat.le_refl _, Nat.le_refl _⟩ (Nat.le_of_ble_eq_true rfl) dX10_sure_6 (fun H locs hW => ?_)
  refine lv_if_ne (tgt := 15) hx hb dX10_sure_9 (by decide) (fun c20 => ?_) (fun c20 => ?_)
  · have hf := xf hf c20
    refine lv_aload_n hx hb dX10_sure_15 rfl (lv_at hl 0 rfl) ?_
    obtain ⟨r3, S5, g4, hf⟩ := clS hf
    refine x_Vr (k := 0) (As := []) (rest := []) E hC hW hl.1 (c_X10_mostOf r3 S S5 g4) cv_X10_173 rfl (by decide) rfl rfl rfl ⟨Nat.le_of_ble_eq_true rfl, Nat.le_of_ble_eq_true rfl⟩ ⟨Nat.le_refl _, Nat.le_refl _⟩ (Nat.le_of_ble_eq_true rfl) dX10_sure_16 (fun H locs hW => ?_)
    refine lv_istore_n (lv' := [(3, .int r3), (0, .ref (L 0)), (1, .int a1), (2, .int a2)]) hx hb dX10_sure_19 rfl hl (by decide) rfl (fun ls hl => ?_)
    refine lv_aload_n hx hb dX10_sure_20 rfl (lv_at hl 1 rfl) ?_
    refine lv_iload_n hx hb dX10_sure_21 rfl (lv_at hl 2 rfl) ?_
    refine x_put (k := 0) E hC hW fl_X10_229 pl_10_13 (by decide) rfl rfl rfl rfl dX10_sure_22 (fun H locs hW => ?_)
    obtain ⟨S6, eS6⟩ : ∃ z : Sg, z = si S5 0 13 a1 := ⟨_, rfl⟩
    have hW : Wd D cy L shM 20 S6 s H locs := by rw [eS6]; exact hW
    have hf := bvS hf eS6
    refine lv_iconst (v := 0) hx hb dX10_sure_25 (by decide) ?_
    refine lv_istore (lv' := [(4, .int (0 : Int32)), (3, .int r3), (0, .ref (L 0)), (1, .int a1), (2, .int a2)]) hx hb dX10_sure_26 hl (by decide) rfl (fun ls hl => ?_)
    refine lv_iconst (v := 0) hx hb dX10_sure_28 (by decide) ?_
    refine lv_istore (lv' := [(5, .int (0 : Int32)), (4, .int (0 : Int32)), (3, .int r3), (0, .ref (L 0)), (1, .int a1), (2, .int a2)]) hx hb dX10_sure_29 hl (by decide) rfl (fun ls hl => ?_)
    refine wp3S (fun (v7 : Int32) (v8 : Int32) (S9 : Sg) => ∀ (H : Heap) (locs : List Loc) (ls : Array Slot), lv_has ls 6 [(0, .ref (L 0)), (2, .int a2), (3, .int r3), (4, .int v7), (5, .int v8)] → Wd D cy L shM 20 S9 s H locs → W p l e (rmk 6 137) s m args below meth c H locs 0 0 Q (F0 m 31 ls [])) ?_ hf _ _ _ (lv_sub hl [3, 5, 2, 1, 0] rfl) hW
    · intro self31 ih31 v7 v8 S9 hf H locs ls hl hW
      unfold X10_sure_L31 at hf
      refine lv_iload hx hb dX10_sure_31 (lv_at hl 4 rfl) ?_
      refine lv_iload_n hx hb dX10_sure_33 rfl (lv_at hl 1 rfl) ?_
      refine lv_icmp_ge (tgt := 65) hx hb dX10_sure_34 (by decide) (fun c19 => ?_) (fun c19 => ?_)
      · have hf := xt hf c19
        refine lv_iload hx hb dX10_sure_65 (lv_at hl 3 rfl) ?_
        exact x_iretI E hC hW hr hlk hQ dX10_sure_67 hf
      · have hf := xf hf c19
        refine lv_aload_n hx hb dX10_sure_37 rfl (lv_at hl 0 rfl) ?_
        obtain ⟨S11, g10, hf⟩ := cl1S hf
        refine x_Vv (k := 0) (As := []) (rest := []) E hC hW hl.1 (c_X10_draws S9 S11 g10) cv_X10_235 rfl (by decide) rfl rfl rfl ⟨Nat.le_of_ble_eq_true rfl, Nat.le_of_ble_eq_true rfl⟩ ⟨Nat.le_refl _, Nat.le_refl _⟩ (Nat.le_of_ble_eq_true rfl) dX10_sure_38 (fun H locs hW => ?_)
        refine lv_iload hx hb dX10_sure_41 (lv_at hl 3 rfl) ?_
        refine lv_aload_n hx hb dX10_sure_43 rfl (lv_at hl 0 rfl) ?_
        obtain ⟨r12, S14, g13, hf⟩ := clS hf
        refine x_Vr (k := 0) (As := []) (rest := [.int v7]) E hC hW hl.1 (c_X10_halfOf r12 S11 S14 g13) cv_X10_199 rfl (by decide) rfl rfl rfl ⟨Nat.le_of_ble_eq_true rfl, Nat.le_of_ble_eq_true rfl⟩ ⟨Nat.le_refl _, Nat.le_refl _⟩ (Nat.le_of_ble_eq_true rfl) dX10_sure_44 (fun H locs hW => ?_)
        refine lv_iload_n hx hb dX10_sure_47 rfl (lv_at hl 2 rfl) ?_
        refine jnS hf (fun (j : Int32 → Option (Int32 × Sg)) => ∀ (x15 : Int32), (j x15) = some (r, S') → ∀ (H : Heap) (locs : List Loc) (ls : Array Slot), lv_has ls 6 [(0, .ref (L 0)), (2, .int a2), (3, .int r3), (5, .int v8)] → Wd D cy L shM 20 S14 s H locs → W p l e (rmk 6 137) s m args below meth c H locs 0 0 Q (F0 m 56 ls [.int x15, .int v7])) ?_ ?_
        · intro x15 hf H locs ls hl hW
          try dsimp only at hf
          refine lv_iadd hx hb dX10_sure_56 ?_
          refine lv_topi (fun x16 ex16 => ?_)
          have hf := bvS hf ex16
          refine lv_istore (lv' := [(4, .int x16), (0, .ref (L 0)), (2, .int a2), (3, .int r3), (5, .int v8)]) hx hb dX10_sure_57 hl (by decide) rfl (fun ls hl => ?_)
          obtain ⟨x17, ex17⟩ : ∃ z : Int32, z = (v8 + 1) := ⟨_, rfl⟩
          have hf := bvS hf ex17
          refine lv_iinc (v := x17) (lv' := [(5, .int x17), (4, .int x16), (0, .ref (L 0)), (2, .int a2), (3, .int r3)]) hx hb dX10_sure_59 hl (k := 4) rfl (by rw [ex17]; rfl) (by decide) rfl (fun ls hl => ?_)
          refine lv_goto (tgt := 31) hx hb dX10_sure_62 (by decide) ?_
          exact ih31 _ _ _ hf _ _ _ (lv_sub hl [2, 3, 4, 1, 0] rfl) hW
        intro j56 J56 hf
        refine lv_icmp_ne (tgt := 55) hx hb dX10_sure_48 (by decide) (fun c18 => ?_) (fun c18 => ?_)
        · have hf := xf hf c18
          refine lv_iconst (v := 0) hx hb dX10_sure_55 (by decide) ?_
          exact J56 _ hf _ _ _ (lv_sub hl [0, 1, 2, 4] rfl) hW
        · have hf := xt hf c18
          refine lv_iconst (v := 1) hx hb dX10_sure_51 (by decide) ?_
          refine lv_goto (tgt := 56) hx hb dX10_sure_52 (by decide) ?_
          exact J56 _ hf _ _ _ (lv_sub hl [0, 1, 2, 4] rfl) hW
  · have hf := xt hf c20
    refine lv_bipush (v := (-2)) hx hb dX10_sure_12 (by decide) ?_
    exact x_iretI E hC hW hr hlk hQ dX10_sure_14 hf
set_option maxRecDepth 100000 in
set_option maxHeartbeats 4000000 in
theorem c_X10_classWorth {l : Launch} {D : va_G} {cy : Nat → ClassId} {L : Nat → Nat} {bA : Nat} (a1 : Int32) (a2 : Int32) (r : Int32) (S S' : Sg)  (hf : f_X10_classWorth a1 a2 S = some (r, S')) : MetX l D cy L shM 20 bA yX10_classWorth cX10_classWorth 3 (some .int) 4 94 [.ref (L 0), .int a1, .int a2] (some (.int r)) S S' := by
  refine x_met (own := RX10) (by decide) rfl (Nat.le_of_ble_eq_true rfl) ?_
  intro p e s m below meth c ls E hC hr hlk hl hW
  generalize hargs : ([.ref (L 0), .int a1, .int a2] : List Value).toArray = args at E ⊢
  generalize hQ : MQ below (xQ D cy L shM 20 bA (some (.int r)) S') args s 0 0 (AL L 20) = Q
  have hl : lv_has ls 3 [(0, .ref (L 0)), (1, .int a1), (2, .int a2)] := hl
  have hx := E.1
  have hb := E.2.1
  have hts := E.2.2.2.2
  unfold f_X10_classWorth at hf
  refine lv_aload_n hx hb dX10_classWorth_0 rfl (lv_at hl 0 rfl) ?_
  refine lv_iload_n hx hb dX10_classWorth_1 rfl (lv_at hl 1 rfl) ?_
  refine lv_iload_n hx hb dX10_classWorth_2 rfl (lv_at hl 2 rfl) ?_
  obtain ⟨r1, S3, g2, hf⟩ := clS hf
  refine x_Vr (k := 0) (As := [.int a1, .int a2]) (rest := []) E hC hW hl.1 (c_X10_rankOf a1 a2 r1 S S3 g2) cv_X10_118 rfl (by decide) rfl rfl rfl ⟨Nat.le_of_ble_eq_true rfl, Nat.le_of_ble_eq_true rfl⟩ ⟨Nat.le_refl _, Nat.le_refl _⟩ (Nat.le_of_ble_eq_true rfl) dX10_classWorth_3 (fun H locs hW => ?_)
  refine lv_iload_n hx hb dX10_classWorth_6 rfl (lv_at hl 2 rfl) ?_
  obtain ⟨r4, g5, hf⟩ := cl1S hf
  refine x_Sr (As := [.int a2]) (rest := [.int r1]) E hC hW hl.1 (c_X10_many a2 r4 S3 g5) cs_X10_164 rfl rfl ⟨Nat.le_of_ble_eq_true rfl, Nat.le_of_ble_eq_true rfl⟩ ⟨Nat.le_refl _, Nat.le_refl _⟩ (Nat.le_of_ble_eq_true rfl) dX10_classWorth_7 (fun H locs hW => ?_)
  refine lv_isub hx hb dX10_classWorth_10 ?_
  refine lv_iconst (v := 2) hx hb dX10_classWorth_11 (by decide) ?_
  refine lv_idiv hx hb dX10_classWorth_12 (by decide) ?_
  exact x_iretI E hC hW hr hlk hQ dX10_classWorth_13 hf
set_option maxRecDepth 100000 in
set_option maxHeartbeats 4000000 in
theorem c_X10_areAxes {l : Launch} {D : va_G} {cy : Nat → ClassId} {L : Nat → Nat} {bA : Nat} (a1 : Int32) (r : Int32) (S : Sg)  (hf : f_X10_areAxes a1 S = some r) : MetX l D cy L shM 20 bA yX10_areAxes cX10_areAxes 2 (some .boolean) 1 25 [.ref (L 0), .int a1] (some (.int r)) S S := by
  refine x_met (own := RX10) (by decide) rfl (Nat.le_of_ble_eq_true rfl) ?_
  intro p e s m below meth c ls E hC hr hlk hl hW
  generalize hargs : ([.ref (L 0), .int a1] : List Value).toArray = args at E ⊢
  generalize hQ : MQ below (xQ D cy L shM 20 bA (some (.int r)) S) args s 0 0 (AL L 20) = Q
  have hl : lv_has ls 2 [(0, .ref (L 0)), (1, .int a1)] := hl
  have hx := E.1
  have hb := E.2.1
  have hts := E.2.2.2.2
  unfold f_X10_areAxes at hf
  refine lv_iload_n hx hb dX10_areAxes_0 rfl (lv_at hl 1 rfl) ?_
  refine lv_i2l hx hb dX10_areAxes_1 rfl ?_
  refine lv_lconst (v := 0) hx hb dX10_areAxes_2 (by decide) ?_
  refine lv_iconst (v := 1) hx hb dX10_areAxes_3 (by decide) ?_
  refine lv_aload_n hx hb dX10_areAxes_4 rfl (lv_at hl 0 rfl) ?_
  refine x_geti (k := 0) E hC hW fl_X10_13 (by decide) rfl rfl dX10_areAxes_5 ?_
  refine lv_ishl hx hb dX10_areAxes_8 ?_
  refine lv_iconst (v := 1) hx hb dX10_areAxes_9 (by decide) ?_
  refine lv_isub hx hb dX10_areAxes_10 ?_
  refine lv_i2l hx hb dX10_areAxes_11 rfl ?_
  obtain ⟨r1, g2, hf⟩ := cl1S hf
  refine x_Sr (As := [.long a1.toInt64, .long (0 : Int64), .long ((((1 : Int32) <<< ((S.1 0 1) &&& 31)) - (1 : Int32)).toInt64)]) (rest := []) E hC hW hl.1 (c_X10_in a1.toInt64 (0 : Int64) ((((1 : Int32) <<< ((S.1 0 1) &&& 31)) - (1 : Int32)).toInt64) r1 S g2) cs_X10_78 rfl rfl ⟨Nat.le_of_ble_eq_true rfl, Nat.le_of_ble_eq_true rfl⟩ ⟨Nat.le_refl _, Nat.le_refl _⟩ (Nat.le_of_ble_eq_true rfl) dX10_areAxes_12 (fun H locs hW => ?_)
  obtain ⟨hg, hf⟩ := gdS hf
  exact x_zretP E hC hW hr hlk hQ hg dX10_areAxes_15 hf
set_option maxRecDepth 100000 in
set_option maxHeartbeats 4000000 in
theorem c_X10_cover {l : Launch} {D : va_G} {cy : Nat → ClassId} {L : Nat → Nat} {bA : Nat} (a1 : Int32) (a2 : Int32) (r : Int32) (S S' : Sg)  (hf : f_X10_cover a1 a2 S = some (r, S')) : MetX l D cy L shM 20 bA yX10_cover cX10_cover 8 (some .int) 5 116 [.ref (L 0), .int a1, .int a2] (some (.int r)) S S' := by
  refine x_met (own := RX10) (by decide) rfl (Nat.le_of_ble_eq_true rfl) ?_
  intro p e s m below meth c ls E hC hr hlk hl hW
  generalize hargs : ([.ref (L 0), .int a1, .int a2] : List Value).toArray = args at E ⊢
  generalize hQ : MQ below (xQ D cy L shM 20 bA (some (.int r)) S') args s 0 0 (AL L 20) = Q
  have hl : lv_has ls 8 [(0, .ref (L 0)), (1, .int a1), (2, .int a2)] := hl
  have hx := E.1
  have hb := E.2.1
  have hts := E.2.2.2.2
  unfold f_X10_cover at hf
  refine lv_iload_n hx hb dX10_cover_0 rfl (lv_at hl 1 rfl) ?_
  obtain ⟨r1, g2, hf⟩ := cl1S hf
  refine x_Sr (As := [.int a1]) (rest := []) E hC hW hl.1 (c_X10_isSheet a1 r1 S g2) cs_X10_187 rfl rfl ⟨Nat.le_of_ble_eq_true rfl, Nat.le_of_ble_eq_true rfl⟩ ⟨Nat.le_refl _, Nat.le_refl _⟩ (Nat.le_of_ble_eq_true rfl) dX10_cover_1 (fun H locs hW => ?_)
  refine lv_if_eq (tgt := 15) hx hb dX10_cover_4 (by decide) (fun c40 => ?_) (fun c40 => ?_)
  · have hf := xt hf c40
    refine lv_bipush (v := (-2)) hx hb dX10_cover_15 (by decide) ?_
    exact x_iretI E hC hW hr hlk hQ dX10_cover_17 hf
  · have hf := xf hf c40
    refine lv_aload_n hx hb dX10_cover_7 rfl (lv_at hl 0 rfl) ?_
    refine lv_iload_n hx hb dX10_cover_8 rfl (lv_at hl 2 rfl) ?_
    obtain ⟨r3, g4, hf⟩ := cl1S hf
    refine x_Vr (k := 0) (As := [.int a2]) (rest := []) E hC hW hl.1 (c_X10_areAxes a2 r3 S g4) cv_X10_238 rfl (by decide) rfl rfl rfl ⟨Nat.le_of_ble_eq_true rfl, Nat.le_of_ble_eq_true rfl⟩ ⟨Nat.le_refl _, Nat.le_refl _⟩ (Nat.le_of_ble_eq_true rfl) dX10_cover_9 (fun H locs hW => ?_)
    refine lv_if_ne (tgt := 18) hx hb dX10_cover_12 (by decide) (fun c39 => ?_) (fun c39 => ?_)
    · have hf := xf hf c39
      refine lv_aload_n hx hb dX10_cover_18 rfl (lv_at hl 0 rfl) ?_
      refine x_getr (k := 0) (k' := 15) E hC hW fl_X10_60 (by decide) rfl rfl dX10_cover_19 ?_
      refine lv_iload_n hx hb dX10_cover_22 rfl (lv_at hl 1 rfl) ?_
      obtain ⟨hg5, hf⟩ := gdS hf
      refine x_iald (k := 15) E hC hW (by decide) rfl (inbS hg5) dX10_cover_23 ?_
      refine lv_if_ge (tgt := 30) hx hb dX10_cover_24 (by decide) (fun c38 => ?_) (fun c38 => ?_)
      · have hf := xt hf c38
        refine lv_iload_n hx hb dX10_cover_30 rfl (lv_at hl 2 rfl) ?_
        obtain ⟨r6, g7, hf⟩ := cl1S hf
        refine x_Sr (As := [.int a2]) (rest := []) E hC hW hl.1 (c_X10_many a2 r6 S g7) cs_X10_164 rfl rfl ⟨Nat.le_of_ble_eq_true rfl, Nat.le_of_ble_eq_true rfl⟩ ⟨Nat.le_refl _, Nat.le_refl _⟩ (Nat.le_of_ble_eq_true rfl) dX10_cover_31 (fun H locs hW => ?_)
        refine lv_istore_n (lv' := [(3, .int r6), (0, .ref (L 0)), (1, .int a1), (2, .int a2)]) hx hb dX10_cover_34 rfl hl (by decide) rfl (fun ls hl => ?_)
        refine lv_iconst (v := 0) hx hb dX10_cover_35 (by decide) ?_
        refine lv_istore (lv' := [(4, .int (0 : Int32)), (3, .int r6), (0, .ref (L 0)), (1, .int a1), (2, .int a2)]) hx hb dX10_cover_36 hl (by decide) rfl (fun ls hl => ?_)
        refine lv_iconst (v := 0) hx hb dX10_cover_38 (by decide) ?_
        refine lv_istore (lv' := [(5, .int (0 : Int32)), (4, .int (0 : Int32)), (3, .int r6), (0, .ref (L 0)), (1, .int a1), (2, .int a2)]) hx hb dX10_cover_39 hl (by decide) rfl (fun ls hl => ?_)
        refine wp4S (fun (v8 : Int32) (v9 : Int32) (v10 : Int32) (S11 : Sg) => ∀ (H : Heap) (locs : List Loc) (ls : Array Slot), lv_has ls 8 [(0, .ref (L 0)), (1, .int a1), (2, .int a2), (3, .int v8), (4, .int v9), (5, .int v10)] → Wd D cy L shM 20 S11 s H locs → W p l e (rmk 5 116) s m args below meth c H locs 0 0 Q (F0 m 41 ls [])) ?_ hf _ _ _ (lv_sub hl [3, 4, 5, 2, 1, 0] rfl) hW
        · intro self41 ih41 v8 v9 v10 S11 hf H locs ls hl hW
          unfold X10_cover_L41 at hf
          refine lv_iload hx hb dX10_cover_41 (lv_at hl 5 rfl) ?_
          refine lv_aload_n hx hb dX10_cover_43 rfl (lv_at hl 0 rfl) ?_
          refine x_geti (k := 0) E hC hW fl_X10_75 (by decide) rfl rfl dX10_cover_44 ?_
          refine lv_icmp_ge (tgt := 166) hx hb dX10_cover_47 (by decide) (fun c37 => ?_) (fun c37 => ?_)
          · have hf := xt hf c37
            refine lv_iload_n hx hb dX10_cover_166 rfl (lv_at hl 3 rfl) ?_
            exact x_iretI E hC hW hr hlk hQ dX10_cover_167 hf
          · have hf := xf hf c37
            refine lv_iconst (v := 1) hx hb dX10_cover_50 (by decide) ?_
            refine lv_iload hx hb dX10_cover_51 (lv_at hl 5 rfl) ?_
            refine lv_ishl hx hb dX10_cover_53 ?_
            refine lv_topi (fun x12 ex12 => ?_)
            have hf := bvS hf ex12
            refine lv_istore (lv' := [(6, .int x12), (0, .ref (L 0)), (1, .int a1), (2, .int a2), (3, .int v8), (4, .int v9), (5, .int v10)]) hx hb dX10_cover_54 hl (by decide) rfl (fun ls hl => ?_)
            refine lv_iload hx hb dX10_cover_56 (lv_at hl 6 rfl) ?_
            refine lv_iconst (v := 1) hx hb dX10_cover_58 (by decide) ?_
            refine lv_iadd hx hb dX10_cover_59 ?_
            refine lv_topi (fun x13 ex13 => ?_)
            have hf := bvS hf ex13
            refine lv_istore (lv' := [(7, .int x13), (6, .int x12), (0, .ref (L 0)), (1, .int a1), (2, .int a2), (3, .int v8), (4, .int v9), (5, .int v10)]) hx hb dX10_cover_60 hl (by decide) rfl (fun ls hl => ?_)
            refine wp2K hf (fun (v26 : Int32) (v27 : Int32) => ∀ (H : Heap) (locs : List Loc) (ls : Array Slot), lv_has ls 8 [(0, .ref (L 0)), (1, .int a1), (2, .int a2), (3, .int v8), (4, .int v9), (5, .int v10), (6, .int v26), (7, .int v27)] → Wd D cy L shM 20 S11 s H locs → W p l e (rmk 5 116) s m args below meth c H locs 0 0 Q (F0 m 62 ls [])) (fun (j : Int32 → Option (Int32 × Sg)) => ∀ (v14 : Int32), (j v14) = some (r, S') → ∀ (H : Heap) (locs : List Loc) (ls : Array Slot), lv_has ls 8 [(0, .ref (L 0)), (1, .int a1), (2, .int a2), (3, .int v8), (4, .int v9), (5, .int v10), (6, .int v14)] → Wd D cy L shM 20 S11 s H locs → W p l e (rmk 5 116) s m args below meth c H locs 0 0 Q (F0 m 129 ls [])) ?_ ?_ _ _ _ (lv_sub hl [2, 3, 4, 5, 6, 7, 1, 0] rfl) hW
            · intro v14 hf H locs ls hl hW
              try dsimp only at hf
              refine lv_iload_n hx hb dX10_cover_129 rfl (lv_at hl 3 rfl) ?_
              refine lv_iload hx hb dX10_cover_130 (lv_at hl 4 rfl) ?_
              refine lv_iload hx hb dX10_cover_132 (lv_at hl 5 rfl) ?_
              obtain ⟨r15, g16, hf⟩ := cl1S hf
              refine x_Sr (As := [.int v9, .int v10]) (rest := [.int v8]) E hC hW hl.1 (c_X10_has v9 v10 r15 S11 g16) cs_X10_149 rfl rfl ⟨Nat.le_of_ble_eq_true rfl, Nat.le_of_ble_eq_true rfl⟩ ⟨Nat.le_refl _, Nat.le_refl _⟩ (Nat.le_of_ble_eq_true rfl) dX10_cover_134 (fun H locs hW => ?_)
              refine jnS hf (fun (j : Int32 → Sg → Option (Int32 × Sg)) => ∀ (x17 : Int32) (S18 : Sg), (j x17 S18) = some (r, S') → ∀ (H : Heap) (locs : List Loc) (ls : Array Slot), lv_has ls 8 [(0, .ref (L 0)), (1, .int a1), (2, .int a2), (4, .int v9), (5, .int v10), (6, .int v14)] → Wd D cy L shM 20 S18 s H locs → W p l e (rmk 5 116) s m args below meth c H locs 0 0 Q (F0 m 151 ls [.int x17, .int v8])) ?_ ?_
              · intro x17 S18 hf H locs ls hl hW
                try dsimp only at hf
                refine lv_iadd hx hb dX10_cover_151 ?_
                refine lv_topi (fun x19 ex19 => ?_)
                have hf := bvS hf ex19
                refine lv_istore_n (lv' := [(3, .int x19), (0, .ref (L 0)), (1, .int a1), (2, .int a2), (4, .int v9), (5, .int v10), (6, .int v14)]) hx hb dX10_cover_152 rfl hl (by decide) rfl (fun ls hl => ?_)
                refine lv_iload hx hb dX10_cover_153 (lv_at hl 4 rfl) ?_
                refine lv_iload hx hb dX10_cover_155 (lv_at hl 6 rfl) ?_
                refine lv_ior hx hb dX10_cover_157 ?_
                refine lv_topi (fun x20 ex20 => ?_)
                have hf := bvS hf ex20
                refine lv_istore (lv' := [(4, .int x20), (3, .int x19), (0, .ref (L 0)), (1, .int a1), (2, .int a2), (5, .int v10), (6, .int v14)]) hx hb dX10_cover_158 hl (by decide) rfl (fun ls hl => ?_)
                obtain ⟨x21, ex21⟩ : ∃ z : Int32, z = (v10 + 1) := ⟨_, rfl⟩
                have hf := bvS hf ex21
                refine lv_iinc (v := x21) (lv' := [(5, .int x21), (4, .int x20), (3, .int x19), (0, .ref (L 0)), (1, .int a1), (2, .int a2), (6, .int v14)]) hx hb dX10_cover_160 hl (k := 5) rfl (by rw [ex21]; rfl) (by decide) rfl (fun ls hl => ?_)
                refine lv_goto (tgt := 41) hx hb dX10_cover_163 (by decide) ?_
                exact ih41 _ _ _ _ hf _ _ _ (lv_sub hl [3, 4, 5, 2, 1, 0] rfl) hW
              intro j151 J151 hf
              refine lv_if_eq (tgt := 144) hx hb dX10_cover_137 (by decide) (fun c25 => ?_) (fun c25 => ?_)
              · have hf := xt hf c25
                refine lv_aload_n hx hb dX10_cover_144 rfl (lv_at hl 0 rfl) ?_
                refine lv_iload hx hb dX10_cover_145 (lv_at hl 6 rfl) ?_
                refine lv_iload_n hx hb dX10_cover_147 rfl (lv_at hl 2 rfl) ?_
                obtain ⟨r22, S24, g23, hf⟩ := clS hf
                refine x_Vr (k := 0) (As := [.int v14, .int a2]) (rest := [.int v8]) E hC hW hl.1 (c_X10_classWorth v14 a2 r22 S11 S24 g23) cv_X10_241 rfl (by decide) rfl rfl rfl ⟨Nat.le_of_ble_eq_true rfl, Nat.le_of_ble_eq_true rfl⟩ ⟨Nat.le_refl _, Nat.le_refl _⟩ (Nat.le_of_ble_eq_true rfl) dX10_cover_148 (fun H locs hW => ?_)
                exact J151 _ _ hf _ _ _ (lv_sub hl [0, 1, 2, 4, 5, 6] rfl) hW
              · have hf := xf hf c25
                refine lv_iconst (v := 0) hx hb dX10_cover_140 (by decide) ?_
                refine lv_goto (tgt := 151) hx hb dX10_cover_141 (by decide) ?_
                exact J151 _ _ hf _ _ _ (lv_sub hl [0, 1, 2, 4, 5, 6] rfl) hW
            · intro k129 K129 self62 ih62 v26 v27 hf H locs ls hl hW
              unfold X10_cover_L62 at hf
              refine lv_iload hx hb dX10_cover_62 (lv_at hl 7 rfl) ?_
              refine lv_aload_n hx hb dX10_cover_64 rfl (lv_at hl 0 rfl) ?_
              refine x_geti (k := 0) E hC hW fl_X10_75 (by decide) rfl rfl dX10_cover_65 ?_
              refine lv_icmp_ge (tgt := 129) hx hb dX10_cover_68 (by decide) (fun c36 => ?_) (fun c36 => ?_)
              · have hf := xt hf c36
                exact K129 _ hf _ _ _ (lv_sub hl [0, 1, 2, 3, 4, 5, 6] rfl) hW
              · have hf := xf hf c36
                refine lv_iload hx hb dX10_cover_71 (lv_at hl 7 rfl) ?_
                refine lv_aload_n hx hb dX10_cover_73 rfl (lv_at hl 0 rfl) ?_
                refine x_getr (k := 0) (k' := 16) E hC hW fl_X10_63 (by decide) rfl rfl dX10_cover_74 ?_
                refine lv_iload_n hx hb dX10_cover_77 rfl (lv_at hl 1 rfl) ?_
                obtain ⟨hg28, hf⟩ := gdS hf
                refine x_iald (k := 16) E hC hW (by decide) rfl (inbS hg28) dX10_cover_78 ?_
                refine lv_icmp_ge (tgt := 129) hx hb dX10_cover_79 (by decide) (fun c35 => ?_) (fun c35 => ?_)
                · have hf := xt hf c35
                  exact K129 _ hf _ _ _ (lv_sub hl [0, 1, 2, 3, 4, 5, 6] rfl) hW
                · have hf := xf hf c35
                  refine lv_iload hx hb dX10_cover_82 (lv_at hl 6 rfl) ?_
                  refine lv_aload_n hx hb dX10_cover_84 rfl (lv_at hl 0 rfl) ?_
                  refine x_getr (k := 0) (k' := 17) E hC hW fl_X10_66 (by decide) rfl rfl dX10_cover_85 ?_
                  refine lv_bipush (v := 30) hx hb dX10_cover_88 (by decide) ?_
                  refine lv_iload_n hx hb dX10_cover_90 rfl (lv_at hl 1 rfl) ?_
                  refine lv_imul hx hb dX10_cover_91 ?_
                  refine lv_iload hx hb dX10_cover_92 (lv_at hl 7 rfl) ?_
                  refine lv_iadd hx hb dX10_cover_94 ?_
                  obtain ⟨hg29, hf⟩ := gdS hf
                  refine x_lald (k := 17) E hC hW (by decide) rfl (inbS hg29) dX10_cover_95 ?_
                  refine lv_aload_n hx hb dX10_cover_96 rfl (lv_at hl 0 rfl) ?_
                  refine x_getr (k := 0) (k' := 17) E hC hW fl_X10_66 (by decide) rfl rfl dX10_cover_97 ?_
                  refine lv_bipush (v := 30) hx hb dX10_cover_100 (by decide) ?_
                  refine lv_iload_n hx hb dX10_cover_102 rfl (lv_at hl 1 rfl) ?_
                  refine lv_imul hx hb dX10_cover_103 ?_
                  refine lv_iload hx hb dX10_cover_104 (lv_at hl 5 rfl) ?_
                  refine lv_iadd hx hb dX10_cover_106 ?_
                  obtain ⟨hg30, hf⟩ := gdS hf
                  refine x_lald (k := 17) E hC hW (by decide) rfl (inbS hg30) dX10_cover_107 ?_
                  refine W.lcmp hx hb dX10_cover_108 ?_
                  refine jnS hf (fun (j : Int32 → Option (Int32 × Sg)) => ∀ (x31 : Int32), (j x31) = some (r, S') → ∀ (H : Heap) (locs : List Loc) (ls : Array Slot), lv_has ls 8 [(0, .ref (L 0)), (1, .int a1), (2, .int a2), (3, .int v8), (4, .int v9), (5, .int v10), (7, .int v27)] → Wd D cy L shM 20 S11 s H locs → W p l e (rmk 5 116) s m args below meth c H locs 0 0 Q (F0 m 120 ls [.int x31, .int v26])) ?_ ?_
                  · intro x31 hf H locs ls hl hW
                    try dsimp only at hf
                    refine lv_ior hx hb dX10_cover_120 ?_
                    refine lv_topi (fun x32 ex32 => ?_)
                    have hf := bvS hf ex32
                    refine lv_istore (lv' := [(6, .int x32), (0, .ref (L 0)), (1, .int a1), (2, .int a2), (3, .int v8), (4, .int v9), (5, .int v10), (7, .int v27)]) hx hb dX10_cover_121 hl (by decide) rfl (fun ls hl => ?_)
                    obtain ⟨x33, ex33⟩ : ∃ z : Int32, z = (v27 + 1) := ⟨_, rfl⟩
                    have hf := bvS hf ex33
                    refine lv_iinc (v := x33) (lv' := [(7, .int x33), (6, .int x32), (0, .ref (L 0)), (1, .int a1), (2, .int a2), (3, .int v8), (4, .int v9), (5, .int v10)]) hx hb dX10_cover_123 hl (k := 7) rfl (by rw [ex33]; rfl) (by decide) rfl (fun ls hl => ?_)
                    refine lv_goto (tgt := 62) hx hb dX10_cover_126 (by decide) ?_
                    exact ih62 _ _ hf _ _ _ (lv_sub hl [2, 3, 4, 5, 6, 7, 1, 0] rfl) hW
                  intro j120 J120 hf
                  refine lv_if_ne (tgt := 119) hx hb dX10_cover_109 (by decide) (fun c34 => ?_) (fun c34 => ?_)
                  · have hf := xf hf c34
                    refine lv_iconst (v := 0) hx hb dX10_cover_119 (by decide) ?_
                    exact J120 _ hf _ _ _ (lv_sub hl [0, 1, 2, 3, 4, 5, 7] rfl) hW
                  · have hf := xt hf c34
                    refine lv_iconst (v := 1) hx hb dX10_cover_112 (by decide) ?_
                    refine lv_iload hx hb dX10_cover_113 (lv_at hl 7 rfl) ?_
                    refine lv_ishl hx hb dX10_cover_115 ?_
                    refine lv_goto (tgt := 120) hx hb dX10_cover_116 (by decide) ?_
                    exact J120 _ hf _ _ _ (lv_sub hl [0, 1, 2, 3, 4, 5, 7] rfl) hW
      · have hf := xf hf c38
        refine lv_bipush (v := (-11)) hx hb dX10_cover_27 (by decide) ?_
        exact x_iretI E hC hW hr hlk hQ dX10_cover_29 hf
    · have hf := xt hf c39
      refine lv_bipush (v := (-2)) hx hb dX10_cover_15 (by decide) ?_
      exact x_iretI E hC hW hr hlk hQ dX10_cover_17 hf
set_option maxRecDepth 100000 in
set_option maxHeartbeats 4000000 in
theorem c_X10_cheap {l : Launch} {D : va_G} {cy : Nat → ClassId} {L : Nat → Nat} {bA : Nat} (a1 : Int32) (a2 : Int32) (r : Int32) (S S' : Sg)  (hf : f_X10_cheap a1 a2 S = some (r, S')) : MetX l D cy L shM 20 bA yX10_cheap cX10_cheap 8 (some .int) 5 116 [.ref (L 0), .int a1, .int a2] (some (.int r)) S S' := by
  refine x_met (own := RX10) (by decide) rfl (Nat.le_of_ble_eq_true rfl) ?_
  intro p e s m below meth c ls E hC hr hlk hl hW
  generalize hargs : ([.ref (L 0), .int a1, .int a2] : List Value).toArray = args at E ⊢
  generalize hQ : MQ below (xQ D cy L shM 20 bA (some (.int r)) S') args s 0 0 (AL L 20) = Q
  have hl : lv_has ls 8 [(0, .ref (L 0)), (1, .int a1), (2, .int a2)] := hl
  have hx := E.1
  have hb := E.2.1
  have hts := E.2.2.2.2
  unfold f_X10_cheap at hf
  refine lv_iload_n hx hb dX10_cheap_0 rfl (lv_at hl 1 rfl) ?_
  refine lv_i2l hx hb dX10_cheap_1 rfl ?_
  refine lv_lconst (v := 0) hx hb dX10_cheap_2 (by decide) ?_
  refine lv_lconst (v := 1) hx hb dX10_cheap_3 (by decide) ?_
  obtain ⟨r1, g2, hf⟩ := cl1S hf
  refine x_Sr (As := [.long a1.toInt64, .long (0 : Int64), .long (1 : Int64)]) (rest := []) E hC hW hl.1 (c_X10_in a1.toInt64 (0 : Int64) (1 : Int64) r1 S g2) cs_X10_78 rfl rfl ⟨Nat.le_of_ble_eq_true rfl, Nat.le_of_ble_eq_true rfl⟩ ⟨Nat.le_refl _, Nat.le_refl _⟩ (Nat.le_of_ble_eq_true rfl) dX10_cheap_4 (fun H locs hW => ?_)
  refine lv_if_eq (tgt := 20) hx hb dX10_cheap_7 (by decide) (fun c43 => ?_) (fun c43 => ?_)
  · have hf := xt hf c43
    refine lv_bipush (v := (-2)) hx hb dX10_cheap_20 (by decide) ?_
    exact x_iretI E hC hW hr hlk hQ dX10_cheap_22 hf
  · have hf := xf hf c43
    refine lv_iload_n hx hb dX10_cheap_10 rfl (lv_at hl 2 rfl) ?_
    refine lv_i2l hx hb dX10_cheap_11 rfl ?_
    refine lv_lconst (v := 0) hx hb dX10_cheap_12 (by decide) ?_
    refine lv_lconst (v := 1) hx hb dX10_cheap_13 (by decide) ?_
    obtain ⟨r3, g4, hf⟩ := cl1S hf
    refine x_Sr (As := [.long a2.toInt64, .long (0 : Int64), .long (1 : Int64)]) (rest := []) E hC hW hl.1 (c_X10_in a2.toInt64 (0 : Int64) (1 : Int64) r3 S g4) cs_X10_78 rfl rfl ⟨Nat.le_of_ble_eq_true rfl, Nat.le_of_ble_eq_true rfl⟩ ⟨Nat.le_refl _, Nat.le_refl _⟩ (Nat.le_of_ble_eq_true rfl) dX10_cheap_14 (fun H locs hW => ?_)
    refine lv_if_ne (tgt := 23) hx hb dX10_cheap_17 (by decide) (fun c42 => ?_) (fun c42 => ?_)
    · have hf := xf hf c42
      refine lv_iconst (v := (-1)) hx hb dX10_cheap_23 (by decide) ?_
      refine lv_istore_n (lv' := [(3, .int (-1 : Int32)), (0, .ref (L 0)), (1, .int a1), (2, .int a2)]) hx hb dX10_cheap_24 rfl hl (by decide) rfl (fun ls hl => ?_)
      refine lv_iconst (v := 0) hx hb dX10_cheap_25 (by decide) ?_
      refine lv_istore (lv' := [(4, .int (0 : Int32)), (3, .int (-1 : Int32)), (0, .ref (L 0)), (1, .int a1), (2, .int a2)]) hx hb dX10_cheap_26 hl (by decide) rfl (fun ls hl => ?_)
      refine lv_iconst (v := 0) hx hb dX10_cheap_28 (by decide) ?_
      refine lv_istore (lv' := [(5, .int (0 : Int32)), (4, .int (0 : Int32)), (3, .int (-1 : Int32)), (0, .ref (L 0)), (1, .int a1), (2, .int a2)]) hx hb dX10_cheap_29 hl (by decide) rfl (fun ls hl => ?_)
      refine wp4K hf (fun (v9 : Int32) (v10 : Int32) (v11 : Int32) (S12 : Sg) => ∀ (H : Heap) (locs : List Loc) (ls : Array Slot), lv_has ls 8 [(0, .ref (L 0)), (1, .int a1), (2, .int a2), (3, .int v9), (4, .int v10), (5, .int v11)] → Wd D cy L shM 20 S12 s H locs → W p l e (rmk 5 116) s m args below meth c H locs 0 0 Q (F0 m 31 ls [])) (fun (j : Int32 → Int32 → Sg → Option (Int32 × Sg)) => ∀ (v5 : Int32) (v6 : Int32) (S7 : Sg), (j v5 v6 S7) = some (r, S') → ∀ (H : Heap) (locs : List Loc) (ls : Array Slot), lv_has ls 8 [(2, .int a2), (3, .int v5), (4, .int v6)] → Wd D cy L shM 20 S7 s H locs → W p l e (rmk 5 116) s m args below meth c H locs 0 0 Q (F0 m 133 ls [])) ?_ ?_ _ _ _ (lv_sub hl [3, 4, 5, 2, 1, 0] rfl) hW
      · intro v5 v6 S7 hf H locs ls hl hW
        try dsimp only at hf
        refine lv_iload_n hx hb dX10_cheap_133 rfl (lv_at hl 0 rfl) ?_
        refine lv_if_ne (tgt := 142) hx hb dX10_cheap_134 (by decide) (fun c8 => ?_) (fun c8 => ?_)
        · have hf := xf hf c8
          refine lv_iload_n hx hb dX10_cheap_142 rfl (lv_at hl 1 rfl) ?_
          exact x_iretI E hC hW hr hlk hQ dX10_cheap_143 hf
        · have hf := xt hf c8
          refine lv_iload hx hb dX10_cheap_137 (lv_at hl 2 rfl) ?_
          refine lv_goto (tgt := 143) hx hb dX10_cheap_139 (by decide) ?_
          exact x_iretI E hC hW hr hlk hQ dX10_cheap_143 hf
      · intro k133 K133 self31 ih31 v9 v10 v11 S12 hf H locs ls hl hW
        unfold X10_cheap_L31 at hf
        refine lv_aload_n hx hb dX10_cheap_31 rfl (lv_at hl 0 rfl) ?_
        refine lv_iload hx hb dX10_cheap_32 (lv_at hl 5 rfl) ?_
        obtain ⟨r13, g14, hf⟩ := cl1S hf
        refine x_Vr (k := 0) (As := [.int v11]) (rest := []) E hC hW hl.1 (c_X10_areAxes v11 r13 S12 g14) cv_X10_238 rfl (by decide) rfl rfl rfl ⟨Nat.le_of_ble_eq_true rfl, Nat.le_of_ble_eq_true rfl⟩ ⟨Nat.le_refl _, Nat.le_refl _⟩ (Nat.le_of_ble_eq_true rfl) dX10_cheap_34 (fun H locs hW => ?_)
        refine lv_if_eq (tgt := 133) hx hb dX10_cheap_37 (by decide) (fun c41 => ?_) (fun c41 => ?_)
        · have hf := xt hf c41
          exact K133 _ _ _ hf _ _ _ (lv_sub hl [2, 3, 4] rfl) hW
        · have hf := xf hf c41
          refine lv_iload hx hb dX10_cheap_40 (lv_at hl 5 rfl) ?_
          obtain ⟨r15, g16, hf⟩ := cl1S hf
          refine x_Sr (As := [.int v11]) (rest := []) E hC hW hl.1 (c_X10_many v11 r15 S12 g16) cs_X10_164 rfl rfl ⟨Nat.le_of_ble_eq_true rfl, Nat.le_of_ble_eq_true rfl⟩ ⟨Nat.le_refl _, Nat.le_refl _⟩ (Nat.le_of_ble_eq_true rfl) dX10_cheap_42 (fun H locs hW => ?_)
          refine lv_istore (lv' := [(6, .int r15), (0, .ref (L 0)), (1, .int a1), (2, .int a2), (3, .int v9), (4, .int v10), (5, .int v11)]) hx hb dX10_cheap_45 hl (by decide) rfl (fun ls hl => ?_)
          refine lv_iload_n hx hb dX10_cheap_47 rfl (lv_at hl 2 rfl) ?_
          refine jnS hf (fun (j : Int32 → Sg → Option (Int32 × Sg)) => ∀ (v17 : Int32) (S18 : Sg), (j v17 S18) = some (r, S') → ∀ (H : Heap) (locs : List Loc) (ls : Array Slot), lv_has ls 8 [(0, .ref (L 0)), (1, .int a1), (2, .int a2), (3, .int v9), (4, .int v10), (5, .int v11), (6, .int v17)] → Wd D cy L shM 20 S18 s H locs → W p l e (rmk 5 116) s m args below meth c H locs 0 0 Q (F0 m 70 ls [])) ?_ ?_
          · intro v17 S18 hf H locs ls hl hW
            try dsimp only at hf
            refine lv_iconst (v := 0) hx hb dX10_cheap_70 (by decide) ?_
            refine lv_istore (lv' := [(7, .int (0 : Int32)), (0, .ref (L 0)), (1, .int a1), (2, .int a2), (3, .int v9), (4, .int v10), (5, .int v11), (6, .int v17)]) hx hb dX10_cheap_71 hl (by decide) rfl (fun ls hl => ?_)
            refine wp3K hf (fun (v26 : Int32) (v27 : Int32) (S28 : Sg) => ∀ (H : Heap) (locs : List Loc) (ls : Array Slot), lv_has ls 8 [(0, .ref (L 0)), (1, .int a1), (2, .int a2), (3, .int v9), (4, .int v10), (5, .int v11), (6, .int v26), (7, .int v27)] → Wd D cy L shM 20 S28 s H locs → W p l e (rmk 5 116) s m args below meth c H locs 0 0 Q (F0 m 73 ls [])) (fun (j : Int32 → Sg → Option (Int32 × Sg)) => ∀ (v19 : Int32) (S20 : Sg), (j v19 S20) = some (r, S') → ∀ (H : Heap) (locs : List Loc) (ls : Array Slot), lv_has ls 8 [(0, .ref (L 0)), (1, .int a1), (2, .int a2), (3, .int v9), (4, .int v10), (5, .int v11), (6, .int v19)] → Wd D cy L shM 20 S20 s H locs → W p l e (rmk 5 116) s m args below meth c H locs 0 0 Q (F0 m 108 ls [])) ?_ ?_ _ _ _ (lv_sub hl [1, 2, 3, 4, 5, 6, 7, 0] rfl) hW
            · intro v19 S20 hf H locs ls hl hW
              try dsimp only at hf
              refine lv_iload_n hx hb dX10_cheap_108 rfl (lv_at hl 3 rfl) ?_
              refine lv_iconst (v := (-1)) hx hb dX10_cheap_109 (by decide) ?_
              refine jnS hf (fun (j : Int32 → Int32 → Option (Int32 × Sg)) => ∀ (v21 : Int32) (v22 : Int32), (j v21 v22) = some (r, S') → ∀ (H : Heap) (locs : List Loc) (ls : Array Slot), lv_has ls 8 [(0, .ref (L 0)), (1, .int a1), (2, .int a2), (3, .int v21), (4, .int v22), (5, .int v11)] → Wd D cy L shM 20 S20 s H locs → W p l e (rmk 5 116) s m args below meth c H locs 0 0 Q (F0 m 127 ls [])) ?_ ?_
              · intro v21 v22 hf H locs ls hl hW
                try dsimp only at hf
                obtain ⟨x23, ex23⟩ : ∃ z : Int32, z = (v11 + 1) := ⟨_, rfl⟩
                have hf := bvS hf ex23
                refine lv_iinc (v := x23) (lv' := [(5, .int x23), (0, .ref (L 0)), (1, .int a1), (2, .int a2), (3, .int v21), (4, .int v22)]) hx hb dX10_cheap_127 hl (k := 5) rfl (by rw [ex23]; rfl) (by decide) rfl (fun ls hl => ?_)
                refine lv_goto (tgt := 31) hx hb dX10_cheap_130 (by decide) ?_
                exact ih31 _ _ _ _ hf _ _ _ (lv_sub hl [1, 2, 3, 4, 5, 0] rfl) hW
              intro j127 J127 hf
              refine jnS hf (fun (j : Option (Int32 × Sg)) => (j) = some (r, S') → ∀ (H : Heap) (locs : List Loc) (ls : Array Slot), lv_has ls 8 [(0, .ref (L 0)), (1, .int a1), (2, .int a2), (5, .int v11), (6, .int v19)] → Wd D cy L shM 20 S20 s H locs → W p l e (rmk 5 116) s m args below meth c H locs 0 0 Q (F0 m 120 ls [])) ?_ ?_
              · intro hf H locs ls hl hW
                try dsimp only at hf
                refine lv_iload hx hb dX10_cheap_120 (lv_at hl 3 rfl) ?_
                refine lv_istore_n (lv' := [(3, .int v11), (0, .ref (L 0)), (1, .int a1), (2, .int a2), (5, .int v11), (6, .int v19)]) hx hb dX10_cheap_122 rfl hl (by decide) rfl (fun ls hl => ?_)
                refine lv_iload hx hb dX10_cheap_123 (lv_at hl 5 rfl) ?_
                refine lv_istore (lv' := [(4, .int v19), (3, .int v11), (0, .ref (L 0)), (1, .int a1), (2, .int a2), (5, .int v11), (6, .int v19)]) hx hb dX10_cheap_125 hl (by decide) rfl (fun ls hl => ?_)
                exact J127 _ _ hf _ _ _ (lv_sub hl [2, 3, 4, 1, 0, 5] rfl) hW
              intro j120 J120 hf
              refine lv_icmp_eq (tgt := 120) hx hb dX10_cheap_110 (by decide) (fun c25 => ?_) (fun c25 => ?_)
              · have hf := xt hf c25
                exact J120 hf _ _ _ (lv_sub hl [0, 1, 2, 5, 6] rfl) hW
              · have hf := xf hf c25
                refine lv_iload hx hb dX10_cheap_113 (lv_at hl 6 rfl) ?_
                refine lv_iload hx hb dX10_cheap_115 (lv_at hl 4 rfl) ?_
                refine lv_icmp_ge (tgt := 127) hx hb dX10_cheap_117 (by decide) (fun c24 => ?_) (fun c24 => ?_)
                · have hf := xt hf c24
                  exact J127 _ _ hf _ _ _ (lv_sub hl [0, 1, 2, 3, 4, 5] rfl) hW
                · have hf := xf hf c24
                  exact J120 hf _ _ _ (lv_sub hl [0, 1, 2, 5, 6] rfl) hW
            · intro k108 K108 self73 ih73 v26 v27 S28 hf H locs ls hl hW
              unfold X10_cheap_L73 at hf
              refine lv_iload hx hb dX10_cheap_73 (lv_at hl 7 rfl) ?_
              refine lv_aload_n hx hb dX10_cheap_75 rfl (lv_at hl 0 rfl) ?_
              refine x_geti (k := 0) E hC hW fl_X10_75 (by decide) rfl rfl dX10_cheap_76 ?_
              refine lv_icmp_ge (tgt := 108) hx hb dX10_cheap_79 (by decide) (fun c35 => ?_) (fun c35 => ?_)
              · have hf := xt hf c35
                exact K108 _ _ hf _ _ _ (lv_sub hl [0, 1, 2, 3, 4, 5, 6] rfl) hW
              · have hf := xf hf c35
                refine lv_iload_n hx hb dX10_cheap_82 rfl (lv_at hl 1 rfl) ?_
                refine lv_iconst (v := 1) hx hb dX10_cheap_83 (by decide) ?_
                refine lv_icmp_ne (tgt := 108) hx hb dX10_cheap_84 (by decide) (fun c34 => ?_) (fun c34 => ?_)
                · have hf := xf hf c34
                  exact K108 _ _ hf _ _ _ (lv_sub hl [0, 1, 2, 3, 4, 5, 6] rfl) hW
                · have hf := xt hf c34
                  refine lv_iload hx hb dX10_cheap_87 (lv_at hl 6 rfl) ?_
                  refine lv_aload_n hx hb dX10_cheap_89 rfl (lv_at hl 0 rfl) ?_
                  refine lv_iconst (v := 1) hx hb dX10_cheap_90 (by decide) ?_
                  refine lv_iload hx hb dX10_cheap_91 (lv_at hl 7 rfl) ?_
                  refine lv_ishl hx hb dX10_cheap_93 ?_
                  refine lv_iload hx hb dX10_cheap_94 (lv_at hl 5 rfl) ?_
                  obtain ⟨r29, S31, g30, hf⟩ := clS hf
                  refine x_Vr (k := 0) (As := [.int ((1 : Int32) <<< (v27 &&& 31)), .int v11]) (rest := [.int v26]) E hC hW hl.1 (c_X10_classWorth ((1 : Int32) <<< (v27 &&& 31)) v11 r29 S28 S31 g30) cv_X10_241 rfl (by decide) rfl rfl rfl ⟨Nat.le_of_ble_eq_true rfl, Nat.le_of_ble_eq_true rfl⟩ ⟨Nat.le_refl _, Nat.le_refl _⟩ (Nat.le_of_ble_eq_true rfl) dX10_cheap_96 (fun H locs hW => ?_)
                  refine lv_iadd hx hb dX10_cheap_99 ?_
                  refine lv_topi (fun x32 ex32 => ?_)
                  have hf := bvS hf ex32
                  refine lv_istore (lv' := [(6, .int x32), (0, .ref (L 0)), (1, .int a1), (2, .int a2), (3, .int v9), (4, .int v10), (5, .int v11), (7, .int v27)]) hx hb dX10_cheap_100 hl (by decide) rfl (fun ls hl => ?_)
                  obtain ⟨x33, ex33⟩ : ∃ z : Int32, z = (v27 + 1) := ⟨_, rfl⟩
                  have hf := bvS hf ex33
                  refine lv_iinc (v := x33) (lv' := [(7, .int x33), (6, .int x32), (0, .ref (L 0)), (1, .int a1), (2, .int a2), (3, .int v9), (4, .int v10), (5, .int v11)]) hx hb dX10_cheap_102 hl (k := 7) rfl (by rw [ex33]; rfl) (by decide) rfl (fun ls hl => ?_)
                  refine lv_goto (tgt := 73) hx hb dX10_cheap_105 (by decide) ?_
                  exact ih73 _ _ _ hf _ _ _ (lv_sub hl [2, 3, 4, 5, 6, 7, 1, 0] rfl) hW
          intro j70 J70 hf
          refine lv_if_ne (tgt := 70) hx hb dX10_cheap_48 (by decide) (fun c40 => ?_) (fun c40 => ?_)
          · have hf := xf hf c40
            exact J70 _ _ hf _ _ _ (lv_sub hl [1, 2, 3, 4, 5, 6, 0] rfl) hW
          · have hf := xt hf c40
            refine lv_iload hx hb dX10_cheap_51 (lv_at hl 0 rfl) ?_
            refine lv_aload_n hx hb dX10_cheap_53 rfl (lv_at hl 1 rfl) ?_
            refine lv_iconst (v := 1) hx hb dX10_cheap_54 (by decide) ?_
            refine lv_aload_n hx hb dX10_cheap_55 rfl (lv_at hl 1 rfl) ?_
            refine x_geti (k := 0) E hC hW fl_X10_75 (by decide) rfl rfl dX10_cheap_56 ?_
            refine lv_ishl hx hb dX10_cheap_59 ?_
            refine lv_iconst (v := 1) hx hb dX10_cheap_60 (by decide) ?_
            refine lv_isub hx hb dX10_cheap_61 ?_
            refine lv_iload hx hb dX10_cheap_62 (lv_at hl 6 rfl) ?_
            obtain ⟨r36, S38, g37, hf⟩ := clS hf
            refine x_Vr (k := 0) (As := [.int (((1 : Int32) <<< ((S12.1 0 2) &&& 31)) - (1 : Int32)), .int v11]) (rest := [.int r15]) E hC hW hl.1 (c_X10_classWorth (((1 : Int32) <<< ((S12.1 0 2) &&& 31)) - (1 : Int32)) v11 r36 S12 S38 g37) cv_X10_241 rfl (by decide) rfl rfl rfl ⟨Nat.le_of_ble_eq_true rfl, Nat.le_of_ble_eq_true rfl⟩ ⟨Nat.le_refl _, Nat.le_refl _⟩ (Nat.le_of_ble_eq_true rfl) dX10_cheap_64 (fun H locs hW => ?_)
            refine lv_iadd hx hb dX10_cheap_67 ?_
            refine lv_topi (fun x39 ex39 => ?_)
            have hf := bvS hf ex39
            refine lv_istore (lv' := [(6, .int x39), (0, .ref (L 0)), (1, .int a1), (2, .int a2), (3, .int v9), (4, .int v10), (5, .int v11)]) hx hb dX10_cheap_68 hl (by decide) rfl (fun ls hl => ?_)
            exact J70 _ _ hf _ _ _ (lv_sub hl [1, 2, 3, 4, 5, 6, 0] rfl) hW
    · have hf := xt hf c42
      refine lv_bipush (v := (-2)) hx hb dX10_cheap_20 (by decide) ?_
      exact x_iretI E hC hW hr hlk hQ dX10_cheap_22 hf
set_option maxRecDepth 100000 in
set_option maxHeartbeats 4000000 in
theorem c_X10_rayBy {l : Launch} {D : va_G} {cy : Nat → ClassId} {L : Nat → Nat} {bA : Nat} (a1 : Int32) (a2 : Int32) (r : Int64) (S : Sg)  (hf : f_X10_rayBy a1 a2 S = some r) : MetX l D cy L shM 20 bA yX10_rayBy cX10_rayBy 8 (some .long) 2 48 [.ref (L 0), .int a1, .int a2] (some (.long r)) S S := by
  refine x_met (own := RX10) (by decide) rfl (Nat.le_of_ble_eq_true rfl) ?_
  intro p e s m below meth c ls E hC hr hlk hl hW
  generalize hargs : ([.ref (L 0), .int a1, .int a2] : List Value).toArray = args at E ⊢
  generalize hQ : MQ below (xQ D cy L shM 20 bA (some (.long r)) S) args s 0 0 (AL L 20) = Q
  have hl : lv_has ls 8 [(0, .ref (L 0)), (1, .int a1), (2, .int a2)] := hl
  have hx := E.1
  have hb := E.2.1
  have hts := E.2.2.2.2
  unfold f_X10_rayBy at hf
  refine lv_iconst (v := 0) hx hb dX10_rayBy_0 (by decide) ?_
  refine lv_istore_n (lv' := [(3, .int (0 : Int32)), (0, .ref (L 0)), (1, .int a1), (2, .int a2)]) hx hb dX10_rayBy_1 rfl hl (by decide) rfl (fun ls hl => ?_)
  refine lv_lconst (v := 0) hx hb dX10_rayBy_2 (by decide) ?_
  refine lv_lstore (lv' := [(4, .long (0 : Int64)), (3, .int (0 : Int32)), (0, .ref (L 0)), (1, .int a1), (2, .int a2)]) hx hb dX10_rayBy_3 hl (by decide) rfl (fun ls hl => ?_)
  refine lv_iconst (v := 0) hx hb dX10_rayBy_5 (by decide) ?_
  refine lv_istore (lv' := [(6, .int (0 : Int32)), (4, .long (0 : Int64)), (3, .int (0 : Int32)), (0, .ref (L 0)), (1, .int a1), (2, .int a2)]) hx hb dX10_rayBy_6 hl (by decide) rfl (fun ls hl => ?_)
  refine wp3K hf (fun (v4 : Int32) (v5 : Int64) (v6 : Int32) => ∀ (H : Heap) (locs : List Loc) (ls : Array Slot), lv_has ls 8 [(0, .ref (L 0)), (1, .int a1), (2, .int a2), (3, .int v4), (4, .long v5), (6, .int v6)] → Wd D cy L shM 20 S s H locs → W p l e (rmk 2 48) s m args below meth c H locs 0 0 Q (F0 m 8 ls [])) (fun (j : Int32 → Int64 → Option (Int64)) => ∀ (v1 : Int32) (v2 : Int64), (j v1 v2) = some r → ∀ (H : Heap) (locs : List Loc) (ls : Array Slot), lv_has ls 8 [(3, .int v1), (4, .long v2)] → Wd D cy L shM 20 S s H locs → W p l e (rmk 2 48) s m args below meth c H locs 0 0 Q (F0 m 71 ls [])) ?_ ?_ _ _ _ (lv_sub hl [3, 4, 5, 2, 1, 0] rfl) hW
  · intro v1 v2 hf H locs ls hl hW
    try dsimp only at hf
    refine lv_iload_n hx hb dX10_rayBy_71 rfl (lv_at hl 0 rfl) ?_
    refine lv_if_ne (tgt := 81) hx hb dX10_rayBy_72 (by decide) (fun c3 => ?_) (fun c3 => ?_)
    · have hf := xf hf c3
      refine lv_lload hx hb dX10_rayBy_81 (lv_at hl 1 rfl) ?_
      exact x_lretP E hC hW hr hlk hQ dX10_rayBy_83 hf
    · have hf := xt hf c3
      refine lv_ldc2 hx hb E.2.2.2.1 (hts _ ww_1136) dX10_rayBy_75 ?_
      refine lv_goto (tgt := 83) hx hb dX10_rayBy_78 (by decide) ?_
      exact x_lretP E hC hW hr hlk hQ dX10_rayBy_83 hf
  · intro k71 K71 self8 ih8 v4 v5 v6 hf H locs ls hl hW
    unfold X10_rayBy_L8 at hf
    refine lv_iload hx hb dX10_rayBy_8 (lv_at hl 5 rfl) ?_
    refine lv_aload_n hx hb dX10_rayBy_10 rfl (lv_at hl 0 rfl) ?_
    refine x_geti (k := 0) E hC hW fl_X10_13 (by decide) rfl rfl dX10_rayBy_11 ?_
    refine lv_icmp_ge (tgt := 71) hx hb dX10_rayBy_14 (by decide) (fun c17 => ?_) (fun c17 => ?_)
    · have hf := xt hf c17
      exact K71 _ _ hf _ _ _ (lv_sub hl [3, 4] rfl) hW
    · have hf := xf hf c17
      refine lv_aload_n hx hb dX10_rayBy_17 rfl (lv_at hl 0 rfl) ?_
      refine lv_iload_n hx hb dX10_rayBy_18 rfl (lv_at hl 1 rfl) ?_
      refine lv_iload_n hx hb dX10_rayBy_19 rfl (lv_at hl 2 rfl) ?_
      refine lv_iload hx hb dX10_rayBy_20 (lv_at hl 5 rfl) ?_
      obtain ⟨r7, g8, hf⟩ := cl1S hf
      refine x_Vr (k := 0) (As := [.int a1, .int a2, .int v6]) (rest := []) E hC hW hl.1 (c_X10_numberOf a1 a2 v6 r7 S g8) cv_X10_121 rfl (by decide) rfl rfl rfl ⟨Nat.le_of_ble_eq_true rfl, Nat.le_of_ble_eq_true rfl⟩ ⟨Nat.le_refl _, Nat.le_refl _⟩ (Nat.le_of_ble_eq_true rfl) dX10_rayBy_22 (fun H locs hW => ?_)
      refine lv_istore (lv' := [(7, .int r7), (0, .ref (L 0)), (1, .int a1), (2, .int a2), (3, .int v4), (4, .long v5), (6, .int v6)]) hx hb dX10_rayBy_25 hl (by decide) rfl (fun ls hl => ?_)
      refine lv_iload_n hx hb dX10_rayBy_27 rfl (lv_at hl 4 rfl) ?_
      refine jnS hf (fun (j : Int32 → Option (Int64)) => ∀ (x9 : Int32), (j x9) = some r → ∀ (H : Heap) (locs : List Loc) (ls : Array Slot), lv_has ls 8 [(0, .ref (L 0)), (1, .int a1), (2, .int a2), (4, .long v5), (6, .int v6), (7, .int r7)] → Wd D cy L shM 20 S s H locs → W p l e (rmk 2 48) s m args below meth c H locs 0 0 Q (F0 m 37 ls [.int x9])) ?_ ?_
      · intro x9 hf H locs ls hl hW
        try dsimp only at hf
        refine lv_istore_n (lv' := [(3, .int x9), (0, .ref (L 0)), (1, .int a1), (2, .int a2), (4, .long v5), (6, .int v6), (7, .int r7)]) hx hb dX10_rayBy_37 rfl hl (by decide) rfl (fun ls hl => ?_)
        refine lv_lload hx hb dX10_rayBy_38 (lv_at hl 4 rfl) ?_
        refine lv_aload_n hx hb dX10_rayBy_40 rfl (lv_at hl 1 rfl) ?_
        refine x_geti (k := 0) E hC hW fl_X10_7 (by decide) rfl rfl dX10_rayBy_41 ?_
        refine lv_i2l hx hb dX10_rayBy_44 rfl ?_
        refine lv_lmul hx hb dX10_rayBy_45 ?_
        refine lv_iload_n hx hb dX10_rayBy_46 rfl (lv_at hl 0 rfl) ?_
        refine jnS hf (fun (j : Int32 → Option (Int64)) => ∀ (x10 : Int32), (j x10) = some r → ∀ (H : Heap) (locs : List Loc) (ls : Array Slot), lv_has ls 8 [(0, .ref (L 0)), (1, .int a1), (2, .int a2), (3, .int x9), (6, .int v6)] → Wd D cy L shM 20 S s H locs → W p l e (rmk 2 48) s m args below meth c H locs 0 0 Q (F0 m 61 ls [.int x10, .long (v5 * (S.1 0 0).toInt64)])) ?_ ?_
        · intro x10 hf H locs ls hl hW
          try dsimp only at hf
          refine lv_i2l hx hb dX10_rayBy_61 rfl ?_
          refine lv_ladd hx hb dX10_rayBy_62 ?_
          refine lv_topl (fun x11 ex11 => ?_)
          have hf := bvS hf ex11
          refine lv_lstore (lv' := [(4, .long x11), (0, .ref (L 0)), (1, .int a1), (2, .int a2), (3, .int x9), (6, .int v6)]) hx hb dX10_rayBy_63 hl (by decide) rfl (fun ls hl => ?_)
          obtain ⟨x12, ex12⟩ : ∃ z : Int32, z = (v6 + 1) := ⟨_, rfl⟩
          have hf := bvS hf ex12
          refine lv_iinc (v := x12) (lv' := [(6, .int x12), (4, .long x11), (0, .ref (L 0)), (1, .int a1), (2, .int a2), (3, .int x9)]) hx hb dX10_rayBy_65 hl (k := 5) rfl (by rw [ex12]; rfl) (by decide) rfl (fun ls hl => ?_)
          refine lv_goto (tgt := 8) hx hb dX10_rayBy_68 (by decide) ?_
          exact ih8 _ _ _ hf _ _ _ (lv_sub hl [2, 3, 4, 5, 1, 0] rfl) hW
        intro j61 J61 hf
        refine lv_if_ne (tgt := 54) hx hb dX10_rayBy_47 (by decide) (fun c15 => ?_) (fun c15 => ?_)
        · have hf := xf hf c15
          refine lv_aload_n hx hb dX10_rayBy_54 rfl (lv_at hl 1 rfl) ?_
          refine lv_iload hx hb dX10_rayBy_55 (lv_at hl 6 rfl) ?_
          refine lv_iload_n hx hb dX10_rayBy_57 rfl (lv_at hl 0 rfl) ?_
          obtain ⟨r13, g14, hf⟩ := cl1S hf
          refine x_Vr (k := 0) (As := [.int r7, .int x9]) (rest := [.long (v5 * (S.1 0 0).toInt64)]) E hC hW hl.1 (c_X10_over r7 x9 r13 S g14) cv_X10_96 rfl (by decide) rfl rfl rfl ⟨Nat.le_of_ble_eq_true rfl, Nat.le_of_ble_eq_true rfl⟩ ⟨Nat.le_refl _, Nat.le_refl _⟩ (Nat.le_of_ble_eq_true rfl) dX10_rayBy_58 (fun H locs hW => ?_)
          exact J61 _ hf _ _ _ (lv_sub hl [1, 2, 3, 0, 5] rfl) hW
        · have hf := xt hf c15
          refine lv_iconst (v := 0) hx hb dX10_rayBy_50 (by decide) ?_
          refine lv_goto (tgt := 61) hx hb dX10_rayBy_51 (by decide) ?_
          exact J61 _ hf _ _ _ (lv_sub hl [1, 2, 3, 0, 5] rfl) hW
      intro j37 J37 hf
      refine lv_if_ne (tgt := 36) hx hb dX10_rayBy_28 (by decide) (fun c16 => ?_) (fun c16 => ?_)
      · have hf := xf hf c16
        refine lv_iload_n hx hb dX10_rayBy_36 rfl (lv_at hl 4 rfl) ?_
        exact J37 _ hf _ _ _ (lv_sub hl [1, 2, 3, 5, 6, 0] rfl) hW
      · have hf := xt hf c16
        refine lv_iload hx hb dX10_rayBy_31 (lv_at hl 0 rfl) ?_
        refine lv_goto (tgt := 37) hx hb dX10_rayBy_33 (by decide) ?_
        exact J37 _ hf _ _ _ (lv_sub hl [1, 2, 3, 5, 6, 0] rfl) hW
set_option maxRecDepth 100000 in
set_option maxHeartbeats 4000000 in
theorem c_X10_findsRays {l : Launch} {D : va_G} {cy : Nat → ClassId} {L : Nat → Nat} {bA : Nat}  (S S' : Sg)  (hf : f_X10_findsRays S = some S') : MetX l D cy L shM 20 bA yX10_findsRays cX10_findsRays 6 none 3 75 [.ref (L 0)] none S S' := by
  refine x_met (own := RX10) (by decide) rfl (Nat.le_of_ble_eq_true rfl) ?_
  intro p e s m below meth c ls E hC hr hlk hl hW
  generalize hargs : ([.ref (L 0)] : List Value).toArray = args at E ⊢
  generalize hQ : MQ below (xQ D cy L shM 20 bA none S') args s 0 0 (AL L 20) = Q
  have hl : lv_has ls 6 [(0, .ref (L 0))] := hl
  have hx := E.1
  have hb := E.2.1
  have hts := E.2.2.2.2
  unfold f_X10_findsRays at hf
  refine lv_aload_n hx hb dX10_findsRays_0 rfl (lv_at hl 0 rfl) ?_
  refine lv_iconst (v := 0) hx hb dX10_findsRays_1 (by decide) ?_
  refine x_put (k := 0) E hC hW fl_X10_244 pl_10_15 (by decide) rfl rfl rfl rfl dX10_findsRays_2 (fun H locs hW => ?_)
  obtain ⟨S1, eS1⟩ : ∃ z : Sg, z = si S 0 15 (0 : Int32) := ⟨_, rfl⟩
  have hW : Wd D cy L shM 20 S1 s H locs := by rw [eS1]; exact hW
  have hf := bvS hf eS1
  refine lv_iconst (v := 0) hx hb dX10_findsRays_5 (by decide) ?_
  refine lv_istore_n (lv' := [(1, .int (0 : Int32)), (0, .ref (L 0))]) hx hb dX10_findsRays_6 rfl hl (by decide) rfl (fun ls hl => ?_)
  refine wp2S (fun (v2 : Int32) (S3 : Sg) => ∀ (H : Heap) (locs : List Loc) (ls : Array Slot), lv_has ls 6 [(0, .ref (L 0)), (1, .int v2)] → Wd D cy L shM 20 S3 s H locs → W p l e (rmk 3 75) s m args below meth c H locs 0 0 Q (F0 m 7 ls [])) ?_ hf _ _ _ (lv_sub hl [1, 0] rfl) hW
  · intro self7 ih7 v2 S3 hf H locs ls hl hW
    unfold X10_findsRays_L7 at hf
    refine lv_iload_n hx hb dX10_findsRays_7 rfl (lv_at hl 1 rfl) ?_
    refine lv_iconst (v := 2) hx hb dX10_findsRays_8 (by decide) ?_
    refine lv_aload_n hx hb dX10_findsRays_9 rfl (lv_at hl 0 rfl) ?_
    refine x_geti (k := 0) E hC hW fl_X10_75 (by decide) rfl rfl dX10_findsRays_10 ?_
    refine lv_imul hx hb dX10_findsRays_13 ?_
    refine lv_icmp_ge (tgt := 147) hx hb dX10_findsRays_14 (by decide) (fun c30 => ?_) (fun c30 => ?_)
    · have hf := xt hf c30
      exact x_vretI E hC hW hr hlk hQ dX10_findsRays_147 hf
    · have hf := xf hf c30
      refine lv_aload_n hx hb dX10_findsRays_17 rfl (lv_at hl 0 rfl) ?_
      refine lv_iload_n hx hb dX10_findsRays_18 rfl (lv_at hl 1 rfl) ?_
      refine lv_iconst (v := 2) hx hb dX10_findsRays_19 (by decide) ?_
      refine lv_idiv hx hb dX10_findsRays_20 (by decide) ?_
      refine lv_iload_n hx hb dX10_findsRays_21 rfl (lv_at hl 1 rfl) ?_
      refine lv_iconst (v := 2) hx hb dX10_findsRays_22 (by decide) ?_
      refine lv_irem hx hb dX10_findsRays_23 (by decide) ?_
      obtain ⟨r4, g5, hf⟩ := cl1S hf
      refine x_Vr (k := 0) (As := [.int (v2 / (2 : Int32)), .int (irm v2 (2 : Int32))]) (rest := []) E hC hW hl.1 (c_X10_rayBy (v2 / (2 : Int32)) (irm v2 (2 : Int32)) r4 S3 g5) cv_X10_247 rfl (by decide) rfl rfl rfl ⟨Nat.le_of_ble_eq_true rfl, Nat.le_of_ble_eq_true rfl⟩ ⟨Nat.le_refl _, Nat.le_refl _⟩ (Nat.le_of_ble_eq_true rfl) dX10_findsRays_24 (fun H locs hW => ?_)
      refine lv_lstore_n (lv' := [(2, .long r4), (0, .ref (L 0)), (1, .int v2)]) hx hb dX10_findsRays_27 rfl hl (by decide) rfl (fun ls hl => ?_)
      refine lv_iconst (v := 0) hx hb dX10_findsRays_28 (by decide) ?_
      refine lv_istore (lv' := [(4, .int (0 : Int32)), (2, .long r4), (0, .ref (L 0)), (1, .int v2)]) hx hb dX10_findsRays_29 hl (by decide) rfl (fun ls hl => ?_)
      refine wp1K hf (fun (v25 : Int32) => ∀ (H : Heap) (locs : List Loc) (ls : Array Slot), lv_has ls 6 [(0, .ref (L 0)), (1, .int v2), (2, .long r4), (4, .int v25)] → Wd D cy L shM 20 S3 s H locs → W p l e (rmk 3 75) s m args below meth c H locs 0 0 Q (F0 m 31 ls [])) (fun (j : Int32 → Option (Sg)) => ∀ (v6 : Int32), (j v6) = some S' → ∀ (H : Heap) (locs : List Loc) (ls : Array Slot), lv_has ls 6 [(0, .ref (L 0)), (1, .int v2), (2, .long r4), (4, .int v6)] → Wd D cy L shM 20 S3 s H locs → W p l e (rmk 3 75) s m args below meth c H locs 0 0 Q (F0 m 58 ls [])) ?_ ?_ _ _ _ (lv_sub hl [2, 3, 1, 0] rfl) hW
      · intro v6 hf H locs ls hl hW
        try dsimp only at hf
        refine lv_lload_n hx hb dX10_findsRays_58 rfl (lv_at hl 2 rfl) ?_
        refine lv_lconst (v := 0) hx hb dX10_findsRays_59 (by decide) ?_
        refine W.lcmp hx hb dX10_findsRays_60 ?_
        refine jnS hf (fun (j : Sg → Option (Sg)) => ∀ (S7 : Sg), (j S7) = some S' → ∀ (H : Heap) (locs : List Loc) (ls : Array Slot), lv_has ls 6 [(0, .ref (L 0)), (1, .int v2)] → Wd D cy L shM 20 S7 s H locs → W p l e (rmk 3 75) s m args below meth c H locs 0 0 Q (F0 m 141 ls [])) ?_ ?_
        · intro S7 hf H locs ls hl hW
          try dsimp only at hf
          obtain ⟨x8, ex8⟩ : ∃ z : Int32, z = (v2 + 1) := ⟨_, rfl⟩
          have hf := bvS hf ex8
          refine lv_iinc (v := x8) (lv' := [(1, .int x8), (0, .ref (L 0))]) hx hb dX10_findsRays_141 hl (k := 1) rfl (by rw [ex8]; rfl) (by decide) rfl (fun ls hl => ?_)
          refine lv_goto (tgt := 7) hx hb dX10_findsRays_144 (by decide) ?_
          exact ih7 _ _ hf _ _ _ (lv_sub hl [1, 0] rfl) hW
        intro j141 J141 hf
        refine lv_if_lt (tgt := 141) hx hb dX10_findsRays_61 (by decide) (fun c24 => ?_) (fun c24 => ?_)
        · have hf := xt hf c24
          exact J141 _ hf _ _ _ (lv_sub hl [0, 1] rfl) hW
        · have hf := xf hf c24
          refine lv_iload hx hb dX10_findsRays_64 (lv_at hl 3 rfl) ?_
          refine lv_aload_n hx hb dX10_findsRays_66 rfl (lv_at hl 0 rfl) ?_
          refine x_geti (k := 0) E hC hW fl_X10_244 (by decide) rfl rfl dX10_findsRays_67 ?_
          refine jnS hf (fun (j : Option (Sg)) => (j) = some S' → ∀ (H : Heap) (locs : List Loc) (ls : Array Slot), lv_has ls 6 [(0, .ref (L 0)), (1, .int v2), (2, .long r4), (4, .int v6)] → Wd D cy L shM 20 S3 s H locs → W p l e (rmk 3 75) s m args below meth c H locs 0 0 Q (F0 m 88 ls [])) ?_ ?_
          · intro hf H locs ls hl hW
            try dsimp only at hf
            refine lv_aload_n hx hb dX10_findsRays_88 rfl (lv_at hl 0 rfl) ?_
            refine x_geti (k := 0) E hC hW fl_X10_244 (by decide) rfl rfl dX10_findsRays_89 ?_
            refine lv_topi (fun x9 ex9 => ?_)
            have hf := bvS hf ex9
            refine lv_istore (lv' := [(5, .int x9), (0, .ref (L 0)), (1, .int v2), (2, .long r4), (4, .int v6)]) hx hb dX10_findsRays_92 hl (by decide) rfl (fun ls hl => ?_)
            refine wp2K hf (fun (v14 : Int32) (S15 : Sg) => ∀ (H : Heap) (locs : List Loc) (ls : Array Slot), lv_has ls 6 [(0, .ref (L 0)), (1, .int v2), (2, .long r4), (4, .int v6), (5, .int v14)] → Wd D cy L shM 20 S15 s H locs → W p l e (rmk 3 75) s m args below meth c H locs 0 0 Q (F0 m 94 ls [])) (fun (j : Sg → Option (Sg)) => ∀ (S10 : Sg), (j S10) = some S' → ∀ (H : Heap) (locs : List Loc) (ls : Array Slot), lv_has ls 6 [(0, .ref (L 0)), (1, .int v2), (2, .long r4), (4, .int v6)] → Wd D cy L shM 20 S10 s H locs → W p l e (rmk 3 75) s m args below meth c H locs 0 0 Q (F0 m 123 ls [])) ?_ ?_ _ _ _ (lv_sub hl [1, 2, 3, 4, 0] rfl) hW
            · intro S10 hf H locs ls hl hW
              try dsimp only at hf
              refine lv_aload_n hx hb dX10_findsRays_123 rfl (lv_at hl 0 rfl) ?_
              refine x_getr (k := 0) (k' := 9) E hC hW fl_X10_42 (by decide) rfl rfl dX10_findsRays_124 ?_
              refine lv_iload hx hb dX10_findsRays_127 (lv_at hl 3 rfl) ?_
              refine lv_lload_n hx hb dX10_findsRays_129 rfl (lv_at hl 2 rfl) ?_
              obtain ⟨hg11, hf⟩ := gdS hf
              refine x_last (k := 9) E hC hW (by decide) rfl (inbS hg11) dX10_findsRays_130 (fun H locs hW => ?_)
              obtain ⟨S12, eS12⟩ : ∃ z : Sg, z = sl S10 9 (ix v6) r4 := ⟨_, rfl⟩
              have hW : Wd D cy L shM 20 S12 s H locs := by rw [eS12]; exact hW
              have hf := bvS hf eS12
              refine lv_aload_n hx hb dX10_findsRays_131 rfl (lv_at hl 0 rfl) ?_
              refine lv_dup hx hb dX10_findsRays_132 rfl ?_
              refine x_geti (k := 0) E hC hW fl_X10_244 (by decide) rfl rfl dX10_findsRays_133 ?_
              refine lv_iconst (v := 1) hx hb dX10_findsRays_136 (by decide) ?_
              refine lv_iadd hx hb dX10_findsRays_137 ?_
              refine x_put (k := 0) E hC hW fl_X10_244 pl_10_15 (by decide) rfl rfl rfl rfl dX10_findsRays_138 (fun H locs hW => ?_)
              obtain ⟨S13, eS13⟩ : ∃ z : Sg, z = si S12 0 15 ((S12.1 0 15) + (1 : Int32)) := ⟨_, rfl⟩
              have hW : Wd D cy L shM 20 S13 s H locs := by rw [eS13]; exact hW
              have hf := bvS hf eS13
              exact J141 _ hf _ _ _ (lv_sub hl [0, 1] rfl) hW
            · intro k123 K123 self94 ih94 v14 S15 hf H locs ls hl hW
              unfold X10_findsRays_L94 at hf
              refine lv_iload hx hb dX10_findsRays_94 (lv_at hl 4 rfl) ?_
              refine lv_iload hx hb dX10_findsRays_96 (lv_at hl 3 rfl) ?_
              refine lv_icmp_le (tgt := 123) hx hb dX10_findsRays_98 (by decide) (fun c20 => ?_) (fun c20 => ?_)
              · have hf := xt hf c20
                exact K123 _ hf _ _ _ (lv_sub hl [0, 1, 2, 3] rfl) hW
              · have hf := xf hf c20
                refine lv_aload_n hx hb dX10_findsRays_101 rfl (lv_at hl 0 rfl) ?_
                refine x_getr (k := 0) (k' := 9) E hC hW fl_X10_42 (by decide) rfl rfl dX10_findsRays_102 ?_
                refine lv_iload hx hb dX10_findsRays_105 (lv_at hl 4 rfl) ?_
                refine lv_aload_n hx hb dX10_findsRays_107 rfl (lv_at hl 0 rfl) ?_
                refine x_getr (k := 0) (k' := 9) E hC hW fl_X10_42 (by decide) rfl rfl dX10_findsRays_108 ?_
                refine lv_iload hx hb dX10_findsRays_111 (lv_at hl 4 rfl) ?_
                refine lv_iconst (v := 1) hx hb dX10_findsRays_113 (by decide) ?_
                refine lv_isub hx hb dX10_findsRays_114 ?_
                obtain ⟨hg16, hf⟩ := gdS hf
                refine x_lald (k := 9) E hC hW (by decide) rfl (inbS hg16) dX10_findsRays_115 ?_
                obtain ⟨hg17, hf⟩ := gdS hf
                refine x_last (k := 9) E hC hW (by decide) rfl (inbS hg17) dX10_findsRays_116 (fun H locs hW => ?_)
                obtain ⟨S18, eS18⟩ : ∃ z : Sg, z = sl S15 9 (ix v14) (S15.2 9 (ix (v14 - (1 : Int32)))) := ⟨_, rfl⟩
                have hW : Wd D cy L shM 20 S18 s H locs := by rw [eS18]; exact hW
                have hf := bvS hf eS18
                obtain ⟨x19, ex19⟩ : ∃ z : Int32, z = (v14 + (-1)) := ⟨_, rfl⟩
                have hf := bvS hf ex19
                refine lv_iinc (v := x19) (lv' := [(5, .int x19), (0, .ref (L 0)), (1, .int v2), (2, .long r4), (4, .int v6)]) hx hb dX10_findsRays_117 hl (k := 4) rfl (by rw [ex19]; rfl) (by decide) rfl (fun ls hl => ?_)
                refine lv_goto (tgt := 94) hx hb dX10_findsRays_120 (by decide) ?_
                exact ih94 _ _ hf _ _ _ (lv_sub hl [1, 2, 3, 4, 0] rfl) hW
          intro j88 J88 hf
          refine lv_icmp_ge (tgt := 88) hx hb dX10_findsRays_70 (by decide) (fun c23 => ?_) (fun c23 => ?_)
          · have hf := xt hf c23
            exact J88 hf _ _ _ (lv_sub hl [0, 1, 2, 3] rfl) hW
          · have hf := xf hf c23
            refine lv_aload_n hx hb dX10_findsRays_73 rfl (lv_at hl 0 rfl) ?_
            refine x_getr (k := 0) (k' := 9) E hC hW fl_X10_42 (by decide) rfl rfl dX10_findsRays_74 ?_
            refine lv_iload hx hb dX10_findsRays_77 (lv_at hl 3 rfl) ?_
            obtain ⟨hg21, hf⟩ := gdS hf
            refine x_lald (k := 9) E hC hW (by decide) rfl (inbS hg21) dX10_findsRays_79 ?_
            refine lv_lload_n hx hb dX10_findsRays_80 rfl (lv_at hl 2 rfl) ?_
            refine W.lcmp hx hb dX10_findsRays_81 ?_
            refine lv_if_ne (tgt := 88) hx hb dX10_findsRays_82 (by decide) (fun c22 => ?_) (fun c22 => ?_)
            · have hf := xf hf c22
              exact J88 hf _ _ _ (lv_sub hl [0, 1, 2, 3] rfl) hW
            · have hf := xt hf c22
              refine lv_goto (tgt := 141) hx hb dX10_findsRays_85 (by decide) ?_
              exact J141 _ hf _ _ _ (lv_sub hl [0, 1] rfl) hW
      · intro k58 K58 self31 ih31 v25 hf H locs ls hl hW
        unfold X10_findsRays_L31 at hf
        refine lv_iload hx hb dX10_findsRays_31 (lv_at hl 3 rfl) ?_
        refine lv_aload_n hx hb dX10_findsRays_33 rfl (lv_at hl 0 rfl) ?_
        refine x_geti (k := 0) E hC hW fl_X10_244 (by decide) rfl rfl dX10_findsRays_34 ?_
        refine lv_icmp_ge (tgt := 58) hx hb dX10_findsRays_37 (by decide) (fun c29 => ?_) (fun c29 => ?_)
        · have hf := xt hf c29
          exact K58 _ hf _ _ _ (lv_sub hl [0, 1, 2, 3] rfl) hW
        · have hf := xf hf c29
          refine lv_aload_n hx hb dX10_findsRays_40 rfl (lv_at hl 0 rfl) ?_
          refine x_getr (k := 0) (k' := 9) E hC hW fl_X10_42 (by decide) rfl rfl dX10_findsRays_41 ?_
          refine lv_iload hx hb dX10_findsRays_44 (lv_at hl 3 rfl) ?_
          obtain ⟨hg26, hf⟩ := gdS hf
          refine x_lald (k := 9) E hC hW (by decide) rfl (inbS hg26) dX10_findsRays_46 ?_
          refine lv_lload_n hx hb dX10_findsRays_47 rfl (lv_at hl 2 rfl) ?_
          refine W.lcmp hx hb dX10_findsRays_48 ?_
          refine lv_if_ge (tgt := 58) hx hb dX10_findsRays_49 (by decide) (fun c28 => ?_) (fun c28 => ?_)
          · have hf := xt hf c28
            exact K58 _ hf _ _ _ (lv_sub hl [0, 1, 2, 3] rfl) hW
          · have hf := xf hf c28
            obtain ⟨x27, ex27⟩ : ∃ z : Int32, z = (v25 + 1) := ⟨_, rfl⟩
            have hf := bvS hf ex27
            refine lv_iinc (v := x27) (lv' := [(4, .int x27), (0, .ref (L 0)), (1, .int v2), (2, .long r4)]) hx hb dX10_findsRays_52 hl (k := 3) rfl (by rw [ex27]; rfl) (by decide) rfl (fun ls hl => ?_)
            refine lv_goto (tgt := 31) hx hb dX10_findsRays_55 (by decide) ?_
            exact ih31 _ hf _ _ _ (lv_sub hl [1, 2, 3, 0] rfl) hW
set_option maxRecDepth 100000 in
set_option maxHeartbeats 4000000 in
theorem c_X10_rays {l : Launch} {D : va_G} {cy : Nat → ClassId} {L : Nat → Nat} {bA : Nat}  (r : Int32) (S S' : Sg)  (hf : f_X10_rays S = some (r, S')) : MetX l D cy L shM 20 bA yX10_rays cX10_rays 1 (some .int) 4 100 [.ref (L 0)] (some (.int r)) S S' := by
  refine x_met (own := RX10) (by decide) rfl (Nat.le_of_ble_eq_true rfl) ?_
  intro p e s m below meth c ls E hC hr hlk hl hW
  generalize hargs : ([.ref (L 0)] : List Value).toArray = args at E ⊢
  generalize hQ : MQ below (xQ D cy L shM 20 bA (some (.int r)) S') args s 0 0 (AL L 20) = Q
  have hl : lv_has ls 1 [(0, .ref (L 0))] := hl
  have hx := E.1
  have hb := E.2.1
  have hts := E.2.2.2.2
  unfold f_X10_rays at hf
  refine lv_aload_n hx hb dX10_rays_0 rfl (lv_at hl 0 rfl) ?_
  obtain ⟨S2, g1, hf⟩ := cl1S hf
  refine x_Vv (k := 0) (As := []) (rest := []) E hC hW hl.1 (c_X10_findsRays S S2 g1) cv_X10_251 rfl (by decide) rfl rfl rfl ⟨Nat.le_of_ble_eq_true rfl, Nat.le_of_ble_eq_true rfl⟩ ⟨Nat.le_refl _, Nat.le_refl _⟩ (Nat.le_of_ble_eq_true rfl) dX10_rays_1 (fun H locs hW => ?_)
  refine lv_aload_n hx hb dX10_rays_4 rfl (lv_at hl 0 rfl) ?_
  refine x_geti (k := 0) E hC hW fl_X10_244 (by decide) rfl rfl dX10_rays_5 ?_
  exact x_iretI E hC hW hr hlk hQ dX10_rays_8 hf
set_option maxRecDepth 100000 in
set_option maxHeartbeats 4000000 in
theorem c_X10_ray {l : Launch} {D : va_G} {cy : Nat → ClassId} {L : Nat → Nat} {bA : Nat} (a1 : Int32) (r : Int64) (S S' : Sg)  (hf : f_X10_ray a1 S = some (r, S')) : MetX l D cy L shM 20 bA yX10_ray cX10_ray 2 (some .long) 4 100 [.ref (L 0), .int a1] (some (.long r)) S S' := by
  refine x_met (own := RX10) (by decide) rfl (Nat.le_of_ble_eq_true rfl) ?_
  intro p e s m below meth c ls E hC hr hlk hl hW
  generalize hargs : ([.ref (L 0), .int a1] : List Value).toArray = args at E ⊢
  generalize hQ : MQ below (xQ D cy L shM 20 bA (some (.long r)) S') args s 0 0 (AL L 20) = Q
  have hl : lv_has ls 2 [(0, .ref (L 0)), (1, .int a1)] := hl
  have hx := E.1
  have hb := E.2.1
  have hts := E.2.2.2.2
  unfold f_X10_ray at hf
  refine lv_aload_n hx hb dX10_ray_0 rfl (lv_at hl 0 rfl) ?_
  obtain ⟨S2, g1, hf⟩ := cl1S hf
  refine x_Vv (k := 0) (As := []) (rest := []) E hC hW hl.1 (c_X10_findsRays S S2 g1) cv_X10_251 rfl (by decide) rfl rfl rfl ⟨Nat.le_of_ble_eq_true rfl, Nat.le_of_ble_eq_true rfl⟩ ⟨Nat.le_refl _, Nat.le_refl _⟩ (Nat.le_of_ble_eq_true rfl) dX10_ray_1 (fun H locs hW => ?_)
  refine lv_iload_n hx hb dX10_ray_4 rfl (lv_at hl 1 rfl) ?_
  refine lv_i2l hx hb dX10_ray_5 rfl ?_
  refine lv_lconst (v := 0) hx hb dX10_ray_6 (by decide) ?_
  refine lv_aload_n hx hb dX10_ray_7 rfl (lv_at hl 0 rfl) ?_
  refine x_geti (k := 0) E hC hW fl_X10_244 (by decide) rfl rfl dX10_ray_8 ?_
  refine lv_iconst (v := 1) hx hb dX10_ray_11 (by decide) ?_
  refine lv_isub hx hb dX10_ray_12 ?_
  refine lv_i2l hx hb dX10_ray_13 rfl ?_
  obtain ⟨r3, g4, hf⟩ := cl1S hf
  refine x_Sr (As := [.long a1.toInt64, .long (0 : Int64), .long (((S2.1 0 15) - (1 : Int32)).toInt64)]) (rest := []) E hC hW hl.1 (c_X10_in a1.toInt64 (0 : Int64) (((S2.1 0 15) - (1 : Int32)).toInt64) r3 S2 g4) cs_X10_78 rfl rfl ⟨Nat.le_of_ble_eq_true rfl, Nat.le_of_ble_eq_true rfl⟩ ⟨Nat.le_refl _, Nat.le_refl _⟩ (Nat.le_of_ble_eq_true rfl) dX10_ray_14 (fun H locs hW => ?_)
  refine lv_if_eq (tgt := 29) hx hb dX10_ray_17 (by decide) (fun c6 => ?_) (fun c6 => ?_)
  · have hf := xt hf c6
    refine lv_ldc2 hx hb E.2.2.2.1 (hts _ ww_1038) dX10_ray_29 ?_
    exact x_lretI E hC hW hr hlk hQ dX10_ray_32 hf
  · have hf := xf hf c6
    refine lv_aload_n hx hb dX10_ray_20 rfl (lv_at hl 0 rfl) ?_
    refine x_getr (k := 0) (k' := 9) E hC hW fl_X10_42 (by decide) rfl rfl dX10_ray_21 ?_
    refine lv_iload_n hx hb dX10_ray_24 rfl (lv_at hl 1 rfl) ?_
    obtain ⟨hg5, hf⟩ := gdS hf
    refine x_lald (k := 9) E hC hW (by decide) rfl (inbS hg5) dX10_ray_25 ?_
    refine lv_goto (tgt := 32) hx hb dX10_ray_26 (by decide) ?_
    exact x_lretI E hC hW hr hlk hQ dX10_ray_32 hf
set_option maxRecDepth 100000 in
set_option maxHeartbeats 4000000 in
theorem c_X10_rayOf {l : Launch} {D : va_G} {cy : Nat → ClassId} {L : Nat → Nat} {bA : Nat} (a1 : Int32) (a2 : Int32) (r : Int32) (S S' : Sg)  (hf : f_X10_rayOf a1 a2 S = some (r, S')) : MetX l D cy L shM 20 bA yX10_rayOf cX10_rayOf 6 (some .int) 4 100 [.ref (L 0), .int a1, .int a2] (some (.int r)) S S' := by
  refine x_met (own := RX10) (by decide) rfl (Nat.le_of_ble_eq_true rfl) ?_
  intro p e s m below meth c ls E hC hr hlk hl hW
  generalize hargs : ([.ref (L 0), .int a1, .int a2] : List Value).toArray = args at E ⊢
  generalize hQ : MQ below (xQ D cy L shM 20 bA (some (.int r)) S') args s 0 0 (AL L 20) = Q
  have hl : lv_has ls 6 [(0, .ref (L 0)), (1, .int a1), (2, .int a2)] := hl
  have hx := E.1
  have hb := E.2.1
  have hts := E.2.2.2.2
  unfold f_X10_rayOf at hf
  refine lv_aload_n hx hb dX10_rayOf_0 rfl (lv_at hl 0 rfl) ?_
  refine lv_iload_n hx hb dX10_rayOf_1 rfl (lv_at hl 1 rfl) ?_
  obtain ⟨r1, g2, hf⟩ := cl1S hf
  refine x_Vr (k := 0) (As := [.int a1]) (rest := []) E hC hW hl.1 (c_X10_isPair a1 r1 S g2) cv_X10_104 rfl (by decide) rfl rfl rfl ⟨Nat.le_of_ble_eq_true rfl, Nat.le_of_ble_eq_true rfl⟩ ⟨Nat.le_refl _, Nat.le_refl _⟩ (Nat.le_of_ble_eq_true rfl) dX10_rayOf_2 (fun H locs hW => ?_)
  refine lv_if_eq (tgt := 18) hx hb dX10_rayOf_5 (by decide) (fun c15 => ?_) (fun c15 => ?_)
  · have hf := xt hf c15
    refine lv_bipush (v := (-2)) hx hb dX10_rayOf_18 (by decide) ?_
    exact x_iretI E hC hW hr hlk hQ dX10_rayOf_20 hf
  · have hf := xf hf c15
    refine lv_iload_n hx hb dX10_rayOf_8 rfl (lv_at hl 2 rfl) ?_
    refine lv_i2l hx hb dX10_rayOf_9 rfl ?_
    refine lv_lconst (v := 0) hx hb dX10_rayOf_10 (by decide) ?_
    refine lv_lconst (v := 1) hx hb dX10_rayOf_11 (by decide) ?_
    obtain ⟨r3, g4, hf⟩ := cl1S hf
    refine x_Sr (As := [.long a2.toInt64, .long (0 : Int64), .long (1 : Int64)]) (rest := []) E hC hW hl.1 (c_X10_in a2.toInt64 (0 : Int64) (1 : Int64) r3 S g4) cs_X10_78 rfl rfl ⟨Nat.le_of_ble_eq_true rfl, Nat.le_of_ble_eq_true rfl⟩ ⟨Nat.le_refl _, Nat.le_refl _⟩ (Nat.le_of_ble_eq_true rfl) dX10_rayOf_12 (fun H locs hW => ?_)
    refine lv_if_ne (tgt := 21) hx hb dX10_rayOf_15 (by decide) (fun c14 => ?_) (fun c14 => ?_)
    · have hf := xf hf c14
      refine lv_aload_n hx hb dX10_rayOf_21 rfl (lv_at hl 0 rfl) ?_
      obtain ⟨S6, g5, hf⟩ := cl1S hf
      refine x_Vv (k := 0) (As := []) (rest := []) E hC hW hl.1 (c_X10_findsRays S S6 g5) cv_X10_251 rfl (by decide) rfl rfl rfl ⟨Nat.le_of_ble_eq_true rfl, Nat.le_of_ble_eq_true rfl⟩ ⟨Nat.le_refl _, Nat.le_refl _⟩ (Nat.le_of_ble_eq_true rfl) dX10_rayOf_22 (fun H locs hW => ?_)
      refine lv_aload_n hx hb dX10_rayOf_25 rfl (lv_at hl 0 rfl) ?_
      refine lv_iload_n hx hb dX10_rayOf_26 rfl (lv_at hl 1 rfl) ?_
      refine lv_iload_n hx hb dX10_rayOf_27 rfl (lv_at hl 2 rfl) ?_
      obtain ⟨r7, g8, hf⟩ := cl1S hf
      refine x_Vr (k := 0) (As := [.int a1, .int a2]) (rest := []) E hC hW hl.1 (c_X10_rayBy a1 a2 r7 S6 g8) cv_X10_247 rfl (by decide) rfl rfl rfl ⟨Nat.le_of_ble_eq_true rfl, Nat.le_of_ble_eq_true rfl⟩ ⟨Nat.le_refl _, Nat.le_refl _⟩ (Nat.le_of_ble_eq_true rfl) dX10_rayOf_28 (fun H locs hW => ?_)
      refine lv_lstore_n (lv' := [(3, .long r7), (0, .ref (L 0)), (1, .int a1), (2, .int a2)]) hx hb dX10_rayOf_31 rfl hl (by decide) rfl (fun ls hl => ?_)
      refine lv_iconst (v := 0) hx hb dX10_rayOf_32 (by decide) ?_
      refine lv_istore (lv' := [(5, .int (0 : Int32)), (3, .long r7), (0, .ref (L 0)), (1, .int a1), (2, .int a2)]) hx hb dX10_rayOf_33 hl (by decide) rfl (fun ls hl => ?_)
      refine wp1S (fun (v9 : Int32) => ∀ (H : Heap) (locs : List Loc) (ls : Array Slot), lv_has ls 6 [(0, .ref (L 0)), (3, .long r7), (5, .int v9)] → Wd D cy L shM 20 S6 s H locs → W p l e (rmk 4 100) s m args below meth c H locs 0 0 Q (F0 m 35 ls [])) ?_ hf _ _ _ (lv_sub hl [2, 1, 0] rfl) hW
      · intro self35 ih35 v9 hf H locs ls hl hW
        unfold X10_rayOf_L35 at hf
        refine lv_iload hx hb dX10_rayOf_35 (lv_at hl 2 rfl) ?_
        refine lv_aload_n hx hb dX10_rayOf_37 rfl (lv_at hl 0 rfl) ?_
        refine x_geti (k := 0) E hC hW fl_X10_244 (by decide) rfl rfl dX10_rayOf_38 ?_
        refine lv_icmp_ge (tgt := 65) hx hb dX10_rayOf_41 (by decide) (fun c13 => ?_) (fun c13 => ?_)
        · have hf := xt hf c13
          refine lv_iconst (v := (-1)) hx hb dX10_rayOf_65 (by decide) ?_
          exact x_iretI E hC hW hr hlk hQ dX10_rayOf_66 hf
        · have hf := xf hf c13
          refine lv_aload_n hx hb dX10_rayOf_44 rfl (lv_at hl 0 rfl) ?_
          refine x_getr (k := 0) (k' := 9) E hC hW fl_X10_42 (by decide) rfl rfl dX10_rayOf_45 ?_
          refine lv_iload hx hb dX10_rayOf_48 (lv_at hl 2 rfl) ?_
          obtain ⟨hg10, hf⟩ := gdS hf
          refine x_lald (k := 9) E hC hW (by decide) rfl (inbS hg10) dX10_rayOf_50 ?_
          refine lv_lload_n hx hb dX10_rayOf_51 rfl (lv_at hl 1 rfl) ?_
          refine W.lcmp hx hb dX10_rayOf_52 ?_
          refine lv_if_ne (tgt := 59) hx hb dX10_rayOf_53 (by decide) (fun c12 => ?_) (fun c12 => ?_)
          · have hf := xf hf c12
            obtain ⟨x11, ex11⟩ : ∃ z : Int32, z = (v9 + 1) := ⟨_, rfl⟩
            have hf := bvS hf ex11
            refine lv_iinc (v := x11) (lv' := [(5, .int x11), (0, .ref (L 0)), (3, .long r7)]) hx hb dX10_rayOf_59 hl (k := 2) rfl (by rw [ex11]; rfl) (by decide) rfl (fun ls hl => ?_)
            refine lv_goto (tgt := 35) hx hb dX10_rayOf_62 (by decide) ?_
            exact ih35 _ hf _ _ _ (lv_sub hl [1, 2, 0] rfl) hW
          · have hf := xt hf c12
            refine lv_iload hx hb dX10_rayOf_56 (lv_at hl 2 rfl) ?_
            exact x_iretI E hC hW hr hlk hQ dX10_rayOf_58 hf
    · have hf := xt hf c14
      refine lv_bipush (v := (-2)) hx hb dX10_rayOf_18 (by decide) ?_
      exact x_iretI E hC hW hr hlk hQ dX10_rayOf_20 hf
set_option maxRecDepth 100000 in
set_option maxHeartbeats 4000000 in
theorem c_X10_isPoint {l : Launch} {D : va_G} {cy : Nat → ClassId} {L : Nat → Nat} {bA : Nat} (a0 : Int32) (r : Int32) (S : Sg)  (hf : f_X10_isPoint a0 = some r) : MetX l D cy L shM 20 bA yX10_isPoint cX10_isPoint 1 (some .boolean) 1 25 [.int a0] (some (.int r)) S S := by
  refine x_met (own := RX10) (by decide) rfl (Nat.le_of_ble_eq_true rfl) ?_
  intro p e s m below meth c ls E hC hr hlk hl hW
  generalize hargs : ([.int a0] : List Value).toArray = args at E ⊢
  generalize hQ : MQ below (xQ D cy L shM 20 bA (some (.int r)) S) args s 0 0 (AL L 20) = Q
  have hl : lv_has ls 1 [(0, .int a0)] := hl
  have hx := E.1
  have hb := E.2.1
  have hts := E.2.2.2.2
  unfold f_X10_isPoint at hf
  refine lv_iload_n hx hb dX10_isPoint_0 rfl (lv_at hl 0 rfl) ?_
  refine lv_i2l hx hb dX10_isPoint_1 rfl ?_
  refine lv_lconst (v := 0) hx hb dX10_isPoint_2 (by decide) ?_
  refine lv_ldc2 hx hb E.2.2.2.1 (hts _ ww_1207) dX10_isPoint_3 ?_
  obtain ⟨r1, g2, hf⟩ := cl1S hf
  refine x_Sr (As := [.long a0.toInt64, .long (0 : Int64), .long (7 : Int64)]) (rest := []) E hC hW hl.1 (c_X10_in a0.toInt64 (0 : Int64) (7 : Int64) r1 S g2) cs_X10_78 rfl rfl ⟨Nat.le_of_ble_eq_true rfl, Nat.le_of_ble_eq_true rfl⟩ ⟨Nat.le_refl _, Nat.le_refl _⟩ (Nat.le_of_ble_eq_true rfl) dX10_isPoint_6 (fun H locs hW => ?_)
  obtain ⟨hg, hf⟩ := gdS hf
  exact x_zretP E hC hW hr hlk hQ hg dX10_isPoint_9 hf
set_option maxRecDepth 100000 in
set_option maxHeartbeats 4000000 in
theorem c_X10_link {l : Launch} {D : va_G} {cy : Nat → ClassId} {L : Nat → Nat} {bA : Nat} (a1 : Int32) (a2 : Int32) (a3 : Int32) (r : Int32) (S S' : Sg)  (hf : f_X10_link a1 a2 a3 S = some (r, S')) : MetX l D cy L shM 20 bA yX10_link cX10_link 5 (some .int) 2 45 [.ref (L 0), .int a1, .int a2, .int a3] (some (.int r)) S S' := by
  refine x_met (own := RX10) (by decide) rfl (Nat.le_of_ble_eq_true rfl) ?_
  intro p e s m below meth c ls E hC hr hlk hl hW
  generalize hargs : ([.ref (L 0), .int a1, .int a2, .int a3] : List Value).toArray = args at E ⊢
  generalize hQ : MQ below (xQ D cy L shM 20 bA (some (.int r)) S') args s 0 0 (AL L 20) = Q
  have hl : lv_has ls 5 [(0, .ref (L 0)), (1, .int a1), (2, .int a2), (3, .int a3)] := hl
  have hx := E.1
  have hb := E.2.1
  have hts := E.2.2.2.2
  unfold f_X10_link at hf
  refine lv_iload_n hx hb dX10_link_0 rfl (lv_at hl 1 rfl) ?_
  obtain ⟨r1, g2, hf⟩ := cl1S hf
  refine x_Sr (As := [.int a1]) (rest := []) E hC hW hl.1 (c_X10_isPoint a1 r1 S g2) cs_X10_256 rfl rfl ⟨Nat.le_of_ble_eq_true rfl, Nat.le_of_ble_eq_true rfl⟩ ⟨Nat.le_refl _, Nat.le_refl _⟩ (Nat.le_of_ble_eq_true rfl) dX10_link_1 (fun H locs hW => ?_)
  refine lv_if_eq (tgt := 29) hx hb dX10_link_4 (by decide) (fun c29 => ?_) (fun c29 => ?_)
  · have hf := xt hf c29
    refine lv_bipush (v := (-2)) hx hb dX10_link_29 (by decide) ?_
    exact x_iretI E hC hW hr hlk hQ dX10_link_31 hf
  · have hf := xf hf c29
    refine lv_iload_n hx hb dX10_link_7 rfl (lv_at hl 2 rfl) ?_
    obtain ⟨r3, g4, hf⟩ := cl1S hf
    refine x_Sr (As := [.int a2]) (rest := []) E hC hW hl.1 (c_X10_isPoint a2 r3 S g4) cs_X10_256 rfl rfl ⟨Nat.le_of_ble_eq_true rfl, Nat.le_of_ble_eq_true rfl⟩ ⟨Nat.le_refl _, Nat.le_refl _⟩ (Nat.le_of_ble_eq_true rfl) dX10_link_8 (fun H locs hW => ?_)
    refine lv_if_eq (tgt := 29) hx hb dX10_link_11 (by decide) (fun c28 => ?_) (fun c28 => ?_)
    · have hf := xt hf c28
      refine lv_bipush (v := (-2)) hx hb dX10_link_29 (by decide) ?_
      exact x_iretI E hC hW hr hlk hQ dX10_link_31 hf
    · have hf := xf hf c28
      refine lv_iload_n hx hb dX10_link_14 rfl (lv_at hl 1 rfl) ?_
      refine lv_iload_n hx hb dX10_link_15 rfl (lv_at hl 2 rfl) ?_
      refine lv_icmp_eq (tgt := 29) hx hb dX10_link_16 (by decide) (fun c27 => ?_) (fun c27 => ?_)
      · have hf := xt hf c27
        refine lv_bipush (v := (-2)) hx hb dX10_link_29 (by decide) ?_
        exact x_iretI E hC hW hr hlk hQ dX10_link_31 hf
      · have hf := xf hf c27
        refine lv_iload_n hx hb dX10_link_19 rfl (lv_at hl 3 rfl) ?_
        refine lv_i2l hx hb dX10_link_20 rfl ?_
        refine lv_lconst (v := 0) hx hb dX10_link_21 (by decide) ?_
        refine lv_lconst (v := 1) hx hb dX10_link_22 (by decide) ?_
        obtain ⟨r5, g6, hf⟩ := cl1S hf
        refine x_Sr (As := [.long a3.toInt64, .long (0 : Int64), .long (1 : Int64)]) (rest := []) E hC hW hl.1 (c_X10_in a3.toInt64 (0 : Int64) (1 : Int64) r5 S g6) cs_X10_78 rfl rfl ⟨Nat.le_of_ble_eq_true rfl, Nat.le_of_ble_eq_true rfl⟩ ⟨Nat.le_refl _, Nat.le_refl _⟩ (Nat.le_of_ble_eq_true rfl) dX10_link_23 (fun H locs hW => ?_)
        refine lv_if_ne (tgt := 32) hx hb dX10_link_26 (by decide) (fun c26 => ?_) (fun c26 => ?_)
        · have hf := xf hf c26
          refine lv_aload_n hx hb dX10_link_32 rfl (lv_at hl 0 rfl) ?_
          refine x_getr (k := 0) (k' := 5) E hC hW fl_X10_30 (by decide) rfl rfl dX10_link_33 ?_
          refine lv_iload_n hx hb dX10_link_36 rfl (lv_at hl 1 rfl) ?_
          obtain ⟨hg7, hf⟩ := gdS hf
          refine x_iald (k := 5) E hC hW (by decide) rfl (inbS hg7) dX10_link_37 ?_
          refine lv_iload_n hx hb dX10_link_38 rfl (lv_at hl 2 rfl) ?_
          refine lv_ishr hx hb dX10_link_39 ?_
          refine lv_iconst (v := 1) hx hb dX10_link_40 (by decide) ?_
          refine lv_iand hx hb dX10_link_41 ?_
          refine lv_topi (fun x8 ex8 => ?_)
          have hf := bvS hf ex8
          refine lv_istore (lv' := [(4, .int x8), (0, .ref (L 0)), (1, .int a1), (2, .int a2), (3, .int a3)]) hx hb dX10_link_42 hl (by decide) rfl (fun ls hl => ?_)
          refine lv_iload_n hx hb dX10_link_44 rfl (lv_at hl 4 rfl) ?_
          refine lv_iconst (v := 1) hx hb dX10_link_45 (by decide) ?_
          refine jnS hf (fun (j : Option (Int32 × Sg)) => (j) = some (r, S') → ∀ (H : Heap) (locs : List Loc) (ls : Array Slot), lv_has ls 5 [(0, .ref (L 0)), (1, .int a1), (2, .int a2), (3, .int a3), (4, .int x8)] → Wd D cy L shM 20 S s H locs → W p l e (rmk 2 45) s m args below meth c H locs 0 0 Q (F0 m 83 ls [])) ?_ ?_
          · intro hf H locs ls hl hW
            try dsimp only at hf
            refine lv_iload_n hx hb dX10_link_83 rfl (lv_at hl 3 rfl) ?_
            refine lv_iload hx hb dX10_link_84 (lv_at hl 4 rfl) ?_
            refine lv_icmp_eq (tgt := 113) hx hb dX10_link_86 (by decide) (fun c15 => ?_) (fun c15 => ?_)
            · have hf := xt hf c15
              refine lv_iload hx hb dX10_link_113 (lv_at hl 4 rfl) ?_
              exact x_iretI E hC hW hr hlk hQ dX10_link_115 hf
            · have hf := xf hf c15
              refine lv_aload_n hx hb dX10_link_89 rfl (lv_at hl 0 rfl) ?_
              refine x_getr (k := 0) (k' := 5) E hC hW fl_X10_30 (by decide) rfl rfl dX10_link_90 ?_
              refine lv_iload_n hx hb dX10_link_93 rfl (lv_at hl 1 rfl) ?_
              refine lv_dup2_11 hx hb dX10_link_94 rfl rfl ?_
              obtain ⟨hg9, hf⟩ := gdS hf
              refine x_iald (k := 5) E hC hW (by decide) rfl (inbS hg9) dX10_link_95 ?_
              refine lv_iconst (v := 1) hx hb dX10_link_96 (by decide) ?_
              refine lv_iload_n hx hb dX10_link_97 rfl (lv_at hl 2 rfl) ?_
              refine lv_ishl hx hb dX10_link_98 ?_
              refine lv_ixor hx hb dX10_link_99 ?_
              obtain ⟨hg10, hf⟩ := gdS hf
              refine x_iast (k := 5) E hC hW (by decide) rfl (inbS hg10) dX10_link_100 (fun H locs hW => ?_)
              obtain ⟨S11, eS11⟩ : ∃ z : Sg, z = si S 5 (ix a1) ((S.1 5 (ix a1)) ^^^ ((1 : Int32) <<< (a2 &&& 31))) := ⟨_, rfl⟩
              have hW : Wd D cy L shM 20 S11 s H locs := by rw [eS11]; exact hW
              have hf := bvS hf eS11
              refine lv_aload_n hx hb dX10_link_101 rfl (lv_at hl 0 rfl) ?_
              refine x_getr (k := 0) (k' := 5) E hC hW fl_X10_30 (by decide) rfl rfl dX10_link_102 ?_
              refine lv_iload_n hx hb dX10_link_105 rfl (lv_at hl 2 rfl) ?_
              refine lv_dup2_11 hx hb dX10_link_106 rfl rfl ?_
              obtain ⟨hg12, hf⟩ := gdS hf
              refine x_iald (k := 5) E hC hW (by decide) rfl (inbS hg12) dX10_link_107 ?_
              refine lv_iconst (v := 1) hx hb dX10_link_108 (by decide) ?_
              refine lv_iload_n hx hb dX10_link_109 rfl (lv_at hl 1 rfl) ?_
              refine lv_ishl hx hb dX10_link_110 ?_
              refine lv_ixor hx hb dX10_link_111 ?_
              obtain ⟨hg13, hf⟩ := gdS hf
              refine x_iast (k := 5) E hC hW (by decide) rfl (inbS hg13) dX10_link_112 (fun H locs hW => ?_)
              obtain ⟨S14, eS14⟩ : ∃ z : Sg, z = si S11 5 (ix a2) ((S11.1 5 (ix a2)) ^^^ ((1 : Int32) <<< (a1 &&& 31))) := ⟨_, rfl⟩
              have hW : Wd D cy L shM 20 S14 s H locs := by rw [eS14]; exact hW
              have hf := bvS hf eS14
              refine lv_iload hx hb dX10_link_113 (lv_at hl 4 rfl) ?_
              exact x_iretI E hC hW hr hlk hQ dX10_link_115 hf
          intro j83 J83 hf
          refine lv_icmp_ne (tgt := 83) hx hb dX10_link_46 (by decide) (fun c25 => ?_) (fun c25 => ?_)
          · have hf := xf hf c25
            exact J83 hf _ _ _ (lv_sub hl [1, 2, 3, 4, 0] rfl) hW
          · have hf := xt hf c25
            refine lv_iload hx hb dX10_link_49 (lv_at hl 0 rfl) ?_
            refine lv_if_ne (tgt := 83) hx hb dX10_link_51 (by decide) (fun c24 => ?_) (fun c24 => ?_)
            · have hf := xf hf c24
              exact J83 hf _ _ _ (lv_sub hl [1, 2, 3, 4, 0] rfl) hW
            · have hf := xt hf c24
              refine lv_aload_n hx hb dX10_link_54 rfl (lv_at hl 1 rfl) ?_
              refine x_getr (k := 0) (k' := 5) E hC hW fl_X10_30 (by decide) rfl rfl dX10_link_55 ?_
              refine lv_iload_n hx hb dX10_link_58 rfl (lv_at hl 2 rfl) ?_
              obtain ⟨hg16, hf⟩ := gdS hf
              refine x_iald (k := 5) E hC hW (by decide) rfl (inbS hg16) dX10_link_59 ?_
              obtain ⟨r17, g18, hf⟩ := cl1S hf
              refine x_Sr (As := [.int (S.1 5 (ix a1))]) (rest := []) E hC hW hl.1 (c_X10_many (S.1 5 (ix a1)) r17 S g18) cs_X10_164 rfl rfl ⟨Nat.le_of_ble_eq_true rfl, Nat.le_of_ble_eq_true rfl⟩ ⟨Nat.le_refl _, Nat.le_refl _⟩ (Nat.le_of_ble_eq_true rfl) dX10_link_60 (fun H locs hW => ?_)
              refine lv_iconst (v := 3) hx hb dX10_link_63 (by decide) ?_
              refine lv_icmp_eq (tgt := 80) hx hb dX10_link_64 (by decide) (fun c23 => ?_) (fun c23 => ?_)
              · have hf := xt hf c23
                refine lv_bipush (v := (-3)) hx hb dX10_link_80 (by decide) ?_
                exact x_iretI E hC hW hr hlk hQ dX10_link_82 hf
              · have hf := xf hf c23
                refine lv_aload_n hx hb dX10_link_67 rfl (lv_at hl 1 rfl) ?_
                refine x_getr (k := 0) (k' := 5) E hC hW fl_X10_30 (by decide) rfl rfl dX10_link_68 ?_
                refine lv_iload_n hx hb dX10_link_71 rfl (lv_at hl 3 rfl) ?_
                obtain ⟨hg19, hf⟩ := gdS hf
                refine x_iald (k := 5) E hC hW (by decide) rfl (inbS hg19) dX10_link_72 ?_
                obtain ⟨r20, g21, hf⟩ := cl1S hf
                refine x_Sr (As := [.int (S.1 5 (ix a2))]) (rest := []) E hC hW hl.1 (c_X10_many (S.1 5 (ix a2)) r20 S g21) cs_X10_164 rfl rfl ⟨Nat.le_of_ble_eq_true rfl, Nat.le_of_ble_eq_true rfl⟩ ⟨Nat.le_refl _, Nat.le_refl _⟩ (Nat.le_of_ble_eq_true rfl) dX10_link_73 (fun H locs hW => ?_)
                refine lv_iconst (v := 3) hx hb dX10_link_76 (by decide) ?_
                refine lv_icmp_ne (tgt := 83) hx hb dX10_link_77 (by decide) (fun c22 => ?_) (fun c22 => ?_)
                · have hf := xf hf c22
                  exact J83 hf _ _ _ (lv_sub hl [1, 2, 3, 4, 0] rfl) hW
                · have hf := xt hf c22
                  refine lv_bipush (v := (-3)) hx hb dX10_link_80 (by decide) ?_
                  exact x_iretI E hC hW hr hlk hQ dX10_link_82 hf
        · have hf := xt hf c26
          refine lv_bipush (v := (-2)) hx hb dX10_link_29 (by decide) ?_
          exact x_iretI E hC hW hr hlk hQ dX10_link_31 hf
set_option maxRecDepth 100000 in
set_option maxHeartbeats 4000000 in
theorem c_X10_isBroken {l : Launch} {D : va_G} {cy : Nat → ClassId} {L : Nat → Nat} {bA : Nat} (a1 : Int32) (r : Int32) (S : Sg)  (hf : f_X10_isBroken a1 S = some r) : MetX l D cy L shM 20 bA yX10_isBroken cX10_isBroken 5 (some .boolean) 1 22 [.ref (L 0), .int a1] (some (.int r)) S S := by
  refine x_met (own := RX10) (by decide) rfl (Nat.le_of_ble_eq_true rfl) ?_
  intro p e s m below meth c ls E hC hr hlk hl hW
  generalize hargs : ([.ref (L 0), .int a1] : List Value).toArray = args at E ⊢
  generalize hQ : MQ below (xQ D cy L shM 20 bA (some (.int r)) S) args s 0 0 (AL L 20) = Q
  have hl : lv_has ls 5 [(0, .ref (L 0)), (1, .int a1)] := hl
  have hx := E.1
  have hb := E.2.1
  have hts := E.2.2.2.2
  unfold f_X10_isBroken at hf
  refine lv_sipush (v := 255) hx hb dX10_isBroken_0 (by decide) ?_
  refine lv_iload_n hx hb dX10_isBroken_3 rfl (lv_at hl 1 rfl) ?_
  refine lv_iconst (v := (-1)) hx hb dX10_isBroken_4 (by decide) ?_
  refine lv_ixor hx hb dX10_isBroken_5 ?_
  refine lv_iand hx hb dX10_isBroken_6 ?_
  refine lv_topi (fun x1 ex1 => ?_)
  have hf := bvS hf ex1
  refine lv_istore_n (lv' := [(2, .int x1), (0, .ref (L 0)), (1, .int a1)]) hx hb dX10_isBroken_7 rfl hl (by decide) rfl (fun ls hl => ?_)
  refine lv_iconst (v := (-1)) hx hb dX10_isBroken_8 (by decide) ?_
  refine lv_istore_n (lv' := [(3, .int (-1 : Int32)), (2, .int x1), (0, .ref (L 0)), (1, .int a1)]) hx hb dX10_isBroken_9 rfl hl (by decide) rfl (fun ls hl => ?_)
  refine wp2K hf (fun (v4 : Int32) (v5 : Int32) => ∀ (H : Heap) (locs : List Loc) (ls : Array Slot), lv_has ls 5 [(0, .ref (L 0)), (2, .int v4), (3, .int v5)] → Wd D cy L shM 20 S s H locs → W p l e (rmk 1 22) s m args below meth c H locs 0 0 Q (F0 m 10 ls [])) (fun (j : Int32 → Option (Int32)) => ∀ (v2 : Int32), (j v2) = some r → ∀ (H : Heap) (locs : List Loc) (ls : Array Slot), lv_has ls 5 [(2, .int v2)] → Wd D cy L shM 20 S s H locs → W p l e (rmk 1 22) s m args below meth c H locs 0 0 Q (F0 m 65 ls [])) ?_ ?_ _ _ _ (lv_sub hl [2, 1, 0] rfl) hW
  · intro v2 hf H locs ls hl hW
    try dsimp only at hf
    refine lv_iload_n hx hb dX10_isBroken_65 rfl (lv_at hl 0 rfl) ?_
    refine lv_if_ne (tgt := 73) hx hb dX10_isBroken_66 (by decide) (fun c3 => ?_) (fun c3 => ?_)
    · have hf := xf hf c3
      refine lv_iconst (v := 0) hx hb dX10_isBroken_73 (by decide) ?_
      exact x_zretP E hC hW hr hlk hQ (by decide) dX10_isBroken_74 hf
    · have hf := xt hf c3
      refine lv_iconst (v := 1) hx hb dX10_isBroken_69 (by decide) ?_
      refine lv_goto (tgt := 74) hx hb dX10_isBroken_70 (by decide) ?_
      exact x_zretP E hC hW hr hlk hQ (by decide) dX10_isBroken_74 hf
  · intro k65 K65 self10 ih10 v4 v5 hf H locs ls hl hW
    unfold X10_isBroken_L10 at hf
    refine lv_iload_n hx hb dX10_isBroken_10 rfl (lv_at hl 2 rfl) ?_
    refine lv_iload_n hx hb dX10_isBroken_11 rfl (lv_at hl 1 rfl) ?_
    refine lv_icmp_eq (tgt := 65) hx hb dX10_isBroken_12 (by decide) (fun c17 => ?_) (fun c17 => ?_)
    · have hf := xt hf c17
      exact K65 _ hf _ _ _ (lv_sub hl [1] rfl) hW
    · have hf := xf hf c17
      refine lv_iload_n hx hb dX10_isBroken_15 rfl (lv_at hl 1 rfl) ?_
      refine lv_istore_n (lv' := [(3, .int v4), (0, .ref (L 0)), (2, .int v4)]) hx hb dX10_isBroken_16 rfl hl (by decide) rfl (fun ls hl => ?_)
      refine lv_iconst (v := 0) hx hb dX10_isBroken_17 (by decide) ?_
      refine lv_istore (lv' := [(4, .int (0 : Int32)), (3, .int v4), (0, .ref (L 0)), (2, .int v4)]) hx hb dX10_isBroken_18 hl (by decide) rfl (fun ls hl => ?_)
      refine wp2K hf (fun (v7 : Int32) (v8 : Int32) => ∀ (H : Heap) (locs : List Loc) (ls : Array Slot), lv_has ls 5 [(0, .ref (L 0)), (2, .int v7), (3, .int v4), (4, .int v8)] → Wd D cy L shM 20 S s H locs → W p l e (rmk 1 22) s m args below meth c H locs 0 0 Q (F0 m 20 ls [])) (fun (j : Int32 → Option (Int32)) => ∀ (v6 : Int32), (j v6) = some r → ∀ (H : Heap) (locs : List Loc) (ls : Array Slot), lv_has ls 5 [(0, .ref (L 0)), (2, .int v6), (3, .int v4)] → Wd D cy L shM 20 S s H locs → W p l e (rmk 1 22) s m args below meth c H locs 0 0 Q (F0 m 62 ls [])) ?_ ?_ _ _ _ (lv_sub hl [2, 3, 1, 0] rfl) hW
      · intro v6 hf H locs ls hl hW
        try dsimp only at hf
        refine lv_goto (tgt := 10) hx hb dX10_isBroken_62 (by decide) ?_
        exact ih10 _ _ hf _ _ _ (lv_sub hl [0, 1, 2] rfl) hW
      · intro k62 K62 self20 ih20 v7 v8 hf H locs ls hl hW
        unfold X10_isBroken_L20 at hf
        refine lv_iload hx hb dX10_isBroken_20 (lv_at hl 3 rfl) ?_
        refine lv_bipush (v := 8) hx hb dX10_isBroken_22 (by decide) ?_
        refine lv_icmp_ge (tgt := 62) hx hb dX10_isBroken_24 (by decide) (fun c16 => ?_) (fun c16 => ?_)
        · have hf := xt hf c16
          exact K62 _ hf _ _ _ (lv_sub hl [0, 1, 2] rfl) hW
        · have hf := xf hf c16
          refine lv_iload_n hx hb dX10_isBroken_27 rfl (lv_at hl 1 rfl) ?_
          refine lv_aload_n hx hb dX10_isBroken_28 rfl (lv_at hl 0 rfl) ?_
          refine x_getr (k := 0) (k' := 5) E hC hW fl_X10_30 (by decide) rfl rfl dX10_isBroken_29 ?_
          refine lv_iload hx hb dX10_isBroken_32 (lv_at hl 3 rfl) ?_
          obtain ⟨hg9, hf⟩ := gdS hf
          refine x_iald (k := 5) E hC hW (by decide) rfl (inbS hg9) dX10_isBroken_34 ?_
          refine lv_iload_n hx hb dX10_isBroken_35 rfl (lv_at hl 1 rfl) ?_
          refine lv_iand hx hb dX10_isBroken_36 ?_
          obtain ⟨r10, g11, hf⟩ := cl1S hf
          refine x_Sr (As := [.int ((S.1 5 (ix v8)) &&& v7)]) (rest := [.int v7]) E hC hW hl.1 (c_X10_many ((S.1 5 (ix v8)) &&& v7) r10 S g11) cs_X10_164 rfl rfl ⟨Nat.le_of_ble_eq_true rfl, Nat.le_of_ble_eq_true rfl⟩ ⟨Nat.le_refl _, Nat.le_refl _⟩ (Nat.le_of_ble_eq_true rfl) dX10_isBroken_37 (fun H locs hW => ?_)
          refine lv_iconst (v := 2) hx hb dX10_isBroken_40 (by decide) ?_
          refine jnS hf (fun (j : Int32 → Option (Int32)) => ∀ (x12 : Int32), (j x12) = some r → ∀ (H : Heap) (locs : List Loc) (ls : Array Slot), lv_has ls 5 [(0, .ref (L 0)), (3, .int v4), (4, .int v8)] → Wd D cy L shM 20 S s H locs → W p l e (rmk 1 22) s m args below meth c H locs 0 0 Q (F0 m 54 ls [.int x12, .int v7])) ?_ ?_
          · intro x12 hf H locs ls hl hW
            try dsimp only at hf
            refine lv_iand hx hb dX10_isBroken_54 ?_
            refine lv_topi (fun x13 ex13 => ?_)
            have hf := bvS hf ex13
            refine lv_istore_n (lv' := [(2, .int x13), (0, .ref (L 0)), (3, .int v4), (4, .int v8)]) hx hb dX10_isBroken_55 rfl hl (by decide) rfl (fun ls hl => ?_)
            obtain ⟨x14, ex14⟩ : ∃ z : Int32, z = (v8 + 1) := ⟨_, rfl⟩
            have hf := bvS hf ex14
            refine lv_iinc (v := x14) (lv' := [(4, .int x14), (2, .int x13), (0, .ref (L 0)), (3, .int v4)]) hx hb dX10_isBroken_56 hl (k := 3) rfl (by rw [ex14]; rfl) (by decide) rfl (fun ls hl => ?_)
            refine lv_goto (tgt := 20) hx hb dX10_isBroken_59 (by decide) ?_
            exact ih20 _ _ hf _ _ _ (lv_sub hl [2, 1, 3, 0] rfl) hW
          intro j54 J54 hf
          refine lv_icmp_ge (tgt := 53) hx hb dX10_isBroken_41 (by decide) (fun c15 => ?_) (fun c15 => ?_)
          · have hf := xt hf c15
            refine lv_iconst (v := (-1)) hx hb dX10_isBroken_53 (by decide) ?_
            exact J54 _ hf _ _ _ (lv_sub hl [0, 2, 3] rfl) hW
          · have hf := xf hf c15
            refine lv_iconst (v := 1) hx hb dX10_isBroken_44 (by decide) ?_
            refine lv_iload hx hb dX10_isBroken_45 (lv_at hl 3 rfl) ?_
            refine lv_ishl hx hb dX10_isBroken_47 ?_
            refine lv_iconst (v := (-1)) hx hb dX10_isBroken_48 (by decide) ?_
            refine lv_ixor hx hb dX10_isBroken_49 ?_
            refine lv_goto (tgt := 54) hx hb dX10_isBroken_50 (by decide) ?_
            exact J54 _ hf _ _ _ (lv_sub hl [0, 2, 3] rfl) hW
set_option maxRecDepth 100000 in
set_option maxHeartbeats 4000000 in
theorem c_X10_breaks {l : Launch} {D : va_G} {cy : Nat → ClassId} {L : Nat → Nat} {bA : Nat} (a1 : Int32) (r : Int32) (S : Sg)  (hf : f_X10_breaks a1 S = some r) : MetX l D cy L shM 20 bA yX10_breaks cX10_breaks 2 (some .int) 2 46 [.ref (L 0), .int a1] (some (.int r)) S S := by
  refine x_met (own := RX10) (by decide) rfl (Nat.le_of_ble_eq_true rfl) ?_
  intro p e s m below meth c ls E hC hr hlk hl hW
  generalize hargs : ([.ref (L 0), .int a1] : List Value).toArray = args at E ⊢
  generalize hQ : MQ below (xQ D cy L shM 20 bA (some (.int r)) S) args s 0 0 (AL L 20) = Q
  have hl : lv_has ls 2 [(0, .ref (L 0)), (1, .int a1)] := hl
  have hx := E.1
  have hb := E.2.1
  have hts := E.2.2.2.2
  unfold f_X10_breaks at hf
  refine lv_iload_n hx hb dX10_breaks_0 rfl (lv_at hl 1 rfl) ?_
  refine lv_i2l hx hb dX10_breaks_1 rfl ?_
  refine lv_lconst (v := 0) hx hb dX10_breaks_2 (by decide) ?_
  refine lv_ldc2 hx hb E.2.2.2.1 (hts _ ww_1020) dX10_breaks_3 ?_
  obtain ⟨r1, g2, hf⟩ := cl1S hf
  refine x_Sr (As := [.long a1.toInt64, .long (0 : Int64), .long (255 : Int64)]) (rest := []) E hC hW hl.1 (c_X10_in a1.toInt64 (0 : Int64) (255 : Int64) r1 S g2) cs_X10_78 rfl rfl ⟨Nat.le_of_ble_eq_true rfl, Nat.le_of_ble_eq_true rfl⟩ ⟨Nat.le_refl _, Nat.le_refl _⟩ (Nat.le_of_ble_eq_true rfl) dX10_breaks_6 (fun H locs hW => ?_)
  refine lv_if_ne (tgt := 17) hx hb dX10_breaks_9 (by decide) (fun c6 => ?_) (fun c6 => ?_)
  · have hf := xf hf c6
    refine lv_aload_n hx hb dX10_breaks_17 rfl (lv_at hl 0 rfl) ?_
    refine lv_iload_n hx hb dX10_breaks_18 rfl (lv_at hl 1 rfl) ?_
    obtain ⟨r3, g4, hf⟩ := cl1S hf
    refine x_Vr (k := 0) (As := [.int a1]) (rest := []) E hC hW hl.1 (c_X10_isBroken a1 r3 S g4) cv_X10_259 rfl (by decide) rfl rfl rfl ⟨Nat.le_of_ble_eq_true rfl, Nat.le_of_ble_eq_true rfl⟩ ⟨Nat.le_refl _, Nat.le_refl _⟩ (Nat.le_of_ble_eq_true rfl) dX10_breaks_19 (fun H locs hW => ?_)
    refine lv_if_eq (tgt := 29) hx hb dX10_breaks_22 (by decide) (fun c5 => ?_) (fun c5 => ?_)
    · have hf := xt hf c5
      refine lv_iconst (v := 0) hx hb dX10_breaks_29 (by decide) ?_
      exact x_iretP E hC hW hr hlk hQ dX10_breaks_30 hf
    · have hf := xf hf c5
      refine lv_iconst (v := 1) hx hb dX10_breaks_25 (by decide) ?_
      refine lv_goto (tgt := 30) hx hb dX10_breaks_26 (by decide) ?_
      exact x_iretP E hC hW hr hlk hQ dX10_breaks_30 hf
  · have hf := xt hf c6
    refine lv_bipush (v := (-2)) hx hb dX10_breaks_12 (by decide) ?_
    refine lv_goto (tgt := 30) hx hb dX10_breaks_14 (by decide) ?_
    exact x_iretP E hC hW hr hlk hQ dX10_breaks_30 hf
set_option maxRecDepth 100000 in
set_option maxHeartbeats 4000000 in
theorem c_X10_feedback {l : Launch} {D : va_G} {cy : Nat → ClassId} {L : Nat → Nat} {bA : Nat} (a1 : Int32) (r : Int32) (S : Sg)  (hf : f_X10_feedback a1 S = some r) : MetX l D cy L shM 20 bA yX10_feedback cX10_feedback 6 (some .int) 2 46 [.ref (L 0), .int a1] (some (.int r)) S S := by
  refine x_met (own := RX10) (by decide) rfl (Nat.le_of_ble_eq_true rfl) ?_
  intro p e s m below meth c ls E hC hr hlk hl hW
  generalize hargs : ([.ref (L 0), .int a1] : List Value).toArray = args at E ⊢
  generalize hQ : MQ below (xQ D cy L shM 20 bA (some (.int r)) S) args s 0 0 (AL L 20) = Q
  have hl : lv_has ls 6 [(0, .ref (L 0)), (1, .int a1)] := hl
  have hx := E.1
  have hb := E.2.1
  have hts := E.2.2.2.2
  unfold f_X10_feedback at hf
  refine lv_iload_n hx hb dX10_feedback_0 rfl (lv_at hl 1 rfl) ?_
  refine lv_i2l hx hb dX10_feedback_1 rfl ?_
  refine lv_lconst (v := 0) hx hb dX10_feedback_2 (by decide) ?_
  refine lv_ldc2 hx hb E.2.2.2.1 (hts _ ww_921) dX10_feedback_3 ?_
  obtain ⟨r1, g2, hf⟩ := cl1S hf
  refine x_Sr (As := [.long a1.toInt64, .long (0 : Int64), .long (2 : Int64)]) (rest := []) E hC hW hl.1 (c_X10_in a1.toInt64 (0 : Int64) (2 : Int64) r1 S g2) cs_X10_78 rfl rfl ⟨Nat.le_of_ble_eq_true rfl, Nat.le_of_ble_eq_true rfl⟩ ⟨Nat.le_refl _, Nat.le_refl _⟩ (Nat.le_of_ble_eq_true rfl) dX10_feedback_6 (fun H locs hW => ?_)
  refine lv_if_ne (tgt := 15) hx hb dX10_feedback_9 (by decide) (fun c33 => ?_) (fun c33 => ?_)
  · have hf := xf hf c33
    refine lv_bipush (v := 99) hx hb dX10_feedback_15 (by decide) ?_
    refine lv_istore_n (lv' := [(2, .int (99 : Int32)), (0, .ref (L 0)), (1, .int a1)]) hx hb dX10_feedback_17 rfl hl (by decide) rfl (fun ls hl => ?_)
    refine lv_iconst (v := 0) hx hb dX10_feedback_18 (by decide) ?_
    refine lv_istore_n (lv' := [(3, .int (0 : Int32)), (2, .int (99 : Int32)), (0, .ref (L 0)), (1, .int a1)]) hx hb dX10_feedback_19 rfl hl (by decide) rfl (fun ls hl => ?_)
    refine lv_iconst (v := 0) hx hb dX10_feedback_20 (by decide) ?_
    refine lv_istore (lv' := [(4, .int (0 : Int32)), (3, .int (0 : Int32)), (2, .int (99 : Int32)), (0, .ref (L 0)), (1, .int a1)]) hx hb dX10_feedback_21 hl (by decide) rfl (fun ls hl => ?_)
    refine lv_iconst (v := 0) hx hb dX10_feedback_23 (by decide) ?_
    refine lv_istore (lv' := [(5, .int (0 : Int32)), (4, .int (0 : Int32)), (3, .int (0 : Int32)), (2, .int (99 : Int32)), (0, .ref (L 0)), (1, .int a1)]) hx hb dX10_feedback_24 hl (by decide) rfl (fun ls hl => ?_)
    refine wp4K hf (fun (v8 : Int32) (v9 : Int32) (v10 : Int32) (v11 : Int32) => ∀ (H : Heap) (locs : List Loc) (ls : Array Slot), lv_has ls 6 [(0, .ref (L 0)), (1, .int a1), (2, .int v8), (3, .int v9), (4, .int v10), (5, .int v11)] → Wd D cy L shM 20 S s H locs → W p l e (rmk 2 46) s m args below meth c H locs 0 0 Q (F0 m 26 ls [])) (fun (j : Int32 → Int32 → Int32 → Option (Int32)) => ∀ (v3 : Int32) (v4 : Int32) (v5 : Int32), (j v3 v4 v5) = some r → ∀ (H : Heap) (locs : List Loc) (ls : Array Slot), lv_has ls 6 [(1, .int a1), (2, .int v3), (3, .int v4), (4, .int v5)] → Wd D cy L shM 20 S s H locs → W p l e (rmk 2 46) s m args below meth c H locs 0 0 Q (F0 m 99 ls [])) ?_ ?_ _ _ _ (lv_sub hl [4, 5, 3, 2, 1, 0] rfl) hW
    · intro v3 v4 v5 hf H locs ls hl hW
      try dsimp only at hf
      refine lv_iload_n hx hb dX10_feedback_99 rfl (lv_at hl 0 rfl) ?_
      refine lv_if_ne (tgt := 107) hx hb dX10_feedback_100 (by decide) (fun c7 => ?_) (fun c7 => ?_)
      · have hf := xf hf c7
        refine lv_iload_n hx hb dX10_feedback_107 rfl (lv_at hl 0 rfl) ?_
        refine lv_iconst (v := 1) hx hb dX10_feedback_108 (by decide) ?_
        refine lv_icmp_ne (tgt := 116) hx hb dX10_feedback_109 (by decide) (fun c6 => ?_) (fun c6 => ?_)
        · have hf := xf hf c6
          refine lv_iload hx hb dX10_feedback_116 (lv_at hl 3 rfl) ?_
          exact x_iretP E hC hW hr hlk hQ dX10_feedback_118 hf
        · have hf := xt hf c6
          refine lv_iload_n hx hb dX10_feedback_112 rfl (lv_at hl 2 rfl) ?_
          refine lv_goto (tgt := 118) hx hb dX10_feedback_113 (by decide) ?_
          exact x_iretP E hC hW hr hlk hQ dX10_feedback_118 hf
      · have hf := xt hf c7
        refine lv_iload_n hx hb dX10_feedback_103 rfl (lv_at hl 1 rfl) ?_
        refine lv_goto (tgt := 118) hx hb dX10_feedback_104 (by decide) ?_
        exact x_iretP E hC hW hr hlk hQ dX10_feedback_118 hf
    · intro k99 K99 self26 ih26 v8 v9 v10 v11 hf H locs ls hl hW
      unfold X10_feedback_L26 at hf
      refine lv_iload hx hb dX10_feedback_26 (lv_at hl 5 rfl) ?_
      refine lv_sipush (v := 256) hx hb dX10_feedback_28 (by decide) ?_
      refine lv_icmp_ge (tgt := 99) hx hb dX10_feedback_31 (by decide) (fun c32 => ?_) (fun c32 => ?_)
      · have hf := xt hf c32
        exact K99 _ _ _ hf _ _ _ (lv_sub hl [1, 2, 3, 4] rfl) hW
      · have hf := xf hf c32
        refine lv_aload_n hx hb dX10_feedback_34 rfl (lv_at hl 0 rfl) ?_
        refine lv_iload hx hb dX10_feedback_35 (lv_at hl 5 rfl) ?_
        obtain ⟨r12, g13, hf⟩ := cl1S hf
        refine x_Vr (k := 0) (As := [.int v11]) (rest := []) E hC hW hl.1 (c_X10_isBroken v11 r12 S g13) cv_X10_259 rfl (by decide) rfl rfl rfl ⟨Nat.le_of_ble_eq_true rfl, Nat.le_of_ble_eq_true rfl⟩ ⟨Nat.le_refl _, Nat.le_refl _⟩ (Nat.le_of_ble_eq_true rfl) dX10_feedback_37 (fun H locs hW => ?_)
        refine jnS hf (fun (j : Int32 → Int32 → Int32 → Option (Int32)) => ∀ (v14 : Int32) (v15 : Int32) (v16 : Int32), (j v14 v15 v16) = some r → ∀ (H : Heap) (locs : List Loc) (ls : Array Slot), lv_has ls 6 [(0, .ref (L 0)), (1, .int a1), (2, .int v14), (3, .int v15), (4, .int v16), (5, .int v11)] → Wd D cy L shM 20 S s H locs → W p l e (rmk 2 46) s m args below meth c H locs 0 0 Q (F0 m 93 ls [])) ?_ ?_
        · intro v14 v15 v16 hf H locs ls hl hW
          try dsimp only at hf
          obtain ⟨x17, ex17⟩ : ∃ z : Int32, z = (v11 + 1) := ⟨_, rfl⟩
          have hf := bvS hf ex17
          refine lv_iinc (v := x17) (lv' := [(5, .int x17), (0, .ref (L 0)), (1, .int a1), (2, .int v14), (3, .int v15), (4, .int v16)]) hx hb dX10_feedback_93 hl (k := 5) rfl (by rw [ex17]; rfl) (by decide) rfl (fun ls hl => ?_)
          refine lv_goto (tgt := 26) hx hb dX10_feedback_96 (by decide) ?_
          exact ih26 _ _ _ _ hf _ _ _ (lv_sub hl [1, 2, 3, 4, 5, 0] rfl) hW
        intro j93 J93 hf
        refine lv_if_eq (tgt := 93) hx hb dX10_feedback_40 (by decide) (fun c31 => ?_) (fun c31 => ?_)
        · have hf := xt hf c31
          exact J93 _ _ _ hf _ _ _ (lv_sub hl [0, 1, 2, 3, 4, 5] rfl) hW
        · have hf := xf hf c31
          refine lv_iload hx hb dX10_feedback_43 (lv_at hl 5 rfl) ?_
          obtain ⟨r18, g19, hf⟩ := cl1S hf
          refine x_Sr (As := [.int v11]) (rest := []) E hC hW hl.1 (c_X10_many v11 r18 S g19) cs_X10_164 rfl rfl ⟨Nat.le_of_ble_eq_true rfl, Nat.le_of_ble_eq_true rfl⟩ ⟨Nat.le_refl _, Nat.le_refl _⟩ (Nat.le_of_ble_eq_true rfl) dX10_feedback_45 (fun H locs hW => ?_)
          refine lv_iload_n hx hb dX10_feedback_48 rfl (lv_at hl 2 rfl) ?_
          refine lv_icmp_gt (tgt := 93) hx hb dX10_feedback_49 (by decide) (fun c30 => ?_) (fun c30 => ?_)
          · have hf := xt hf c30
            exact J93 _ _ _ hf _ _ _ (lv_sub hl [0, 1, 2, 3, 4, 5] rfl) hW
          · have hf := xf hf c30
            refine lv_iload hx hb dX10_feedback_52 (lv_at hl 5 rfl) ?_
            obtain ⟨r20, g21, hf⟩ := cl1S hf
            refine x_Sr (As := [.int v11]) (rest := []) E hC hW hl.1 (c_X10_many v11 r20 S g21) cs_X10_164 rfl rfl ⟨Nat.le_of_ble_eq_true rfl, Nat.le_of_ble_eq_true rfl⟩ ⟨Nat.le_refl _, Nat.le_refl _⟩ (Nat.le_of_ble_eq_true rfl) dX10_feedback_54 (fun H locs hW => ?_)
            refine lv_iload_n hx hb dX10_feedback_57 rfl (lv_at hl 2 rfl) ?_
            refine jnS hf (fun (j : Int32 → Option (Int32)) => ∀ (x22 : Int32), (j x22) = some r → ∀ (H : Heap) (locs : List Loc) (ls : Array Slot), lv_has ls 6 [(0, .ref (L 0)), (1, .int a1), (2, .int v8), (3, .int v9), (5, .int v11)] → Wd D cy L shM 20 S s H locs → W p l e (rmk 2 46) s m args below meth c H locs 0 0 Q (F0 m 69 ls [.int x22])) ?_ ?_
            · intro x22 hf H locs ls hl hW
              try dsimp only at hf
              refine lv_istore (lv' := [(4, .int x22), (0, .ref (L 0)), (1, .int a1), (2, .int v8), (3, .int v9), (5, .int v11)]) hx hb dX10_feedback_69 hl (by decide) rfl (fun ls hl => ?_)
              refine lv_iload hx hb dX10_feedback_71 (lv_at hl 5 rfl) ?_
              obtain ⟨r23, g24, hf⟩ := cl1S hf
              refine x_Sr (As := [.int v11]) (rest := []) E hC hW hl.1 (c_X10_many v11 r23 S g24) cs_X10_164 rfl rfl ⟨Nat.le_of_ble_eq_true rfl, Nat.le_of_ble_eq_true rfl⟩ ⟨Nat.le_refl _, Nat.le_refl _⟩ (Nat.le_of_ble_eq_true rfl) dX10_feedback_73 (fun H locs hW => ?_)
              refine lv_iload_n hx hb dX10_feedback_76 rfl (lv_at hl 3 rfl) ?_
              refine jnS hf (fun (j : Int32 → Option (Int32)) => ∀ (x25 : Int32), (j x25) = some r → ∀ (H : Heap) (locs : List Loc) (ls : Array Slot), lv_has ls 6 [(0, .ref (L 0)), (1, .int a1), (4, .int x22), (5, .int v11)] → Wd D cy L shM 20 S s H locs → W p l e (rmk 2 46) s m args below meth c H locs 0 0 Q (F0 m 86 ls [.int x25])) ?_ ?_
              · intro x25 hf H locs ls hl hW
                try dsimp only at hf
                refine lv_istore_n (lv' := [(3, .int x25), (0, .ref (L 0)), (1, .int a1), (4, .int x22), (5, .int v11)]) hx hb dX10_feedback_86 rfl hl (by decide) rfl (fun ls hl => ?_)
                refine lv_iload hx hb dX10_feedback_87 (lv_at hl 4 rfl) ?_
                obtain ⟨r26, g27, hf⟩ := cl1S hf
                refine x_Sr (As := [.int v11]) (rest := []) E hC hW hl.1 (c_X10_many v11 r26 S g27) cs_X10_164 rfl rfl ⟨Nat.le_of_ble_eq_true rfl, Nat.le_of_ble_eq_true rfl⟩ ⟨Nat.le_refl _, Nat.le_refl _⟩ (Nat.le_of_ble_eq_true rfl) dX10_feedback_89 (fun H locs hW => ?_)
                refine lv_istore_n (lv' := [(2, .int r26), (3, .int x25), (0, .ref (L 0)), (1, .int a1), (4, .int x22), (5, .int v11)]) hx hb dX10_feedback_92 rfl hl (by decide) rfl (fun ls hl => ?_)
                exact J93 _ _ _ hf _ _ _ (lv_sub hl [2, 3, 0, 1, 4, 5] rfl) hW
              intro j86 J86 hf
              refine lv_icmp_ge (tgt := 85) hx hb dX10_feedback_77 (by decide) (fun c28 => ?_) (fun c28 => ?_)
              · have hf := xt hf c28
                refine lv_iload_n hx hb dX10_feedback_85 rfl (lv_at hl 4 rfl) ?_
                exact J86 _ hf _ _ _ (lv_sub hl [1, 2, 0, 5] rfl) hW
              · have hf := xf hf c28
                refine lv_iload hx hb dX10_feedback_80 (lv_at hl 5 rfl) ?_
                refine lv_goto (tgt := 86) hx hb dX10_feedback_82 (by decide) ?_
                exact J86 _ hf _ _ _ (lv_sub hl [1, 2, 0, 5] rfl) hW
            intro j69 J69 hf
            refine lv_icmp_ge (tgt := 65) hx hb dX10_feedback_58 (by decide) (fun c29 => ?_) (fun c29 => ?_)
            · have hf := xt hf c29
              refine lv_iload hx hb dX10_feedback_65 (lv_at hl 4 rfl) ?_
              refine lv_iconst (v := 1) hx hb dX10_feedback_67 (by decide) ?_
              refine lv_iadd hx hb dX10_feedback_68 ?_
              exact J69 _ hf _ _ _ (lv_sub hl [0, 1, 2, 3, 5] rfl) hW
            · have hf := xf hf c29
              refine lv_iconst (v := 1) hx hb dX10_feedback_61 (by decide) ?_
              refine lv_goto (tgt := 69) hx hb dX10_feedback_62 (by decide) ?_
              exact J69 _ hf _ _ _ (lv_sub hl [0, 1, 2, 3, 5] rfl) hW
  · have hf := xt hf c33
    refine lv_bipush (v := (-2)) hx hb dX10_feedback_12 (by decide) ?_
    exact x_iretP E hC hW hr hlk hQ dX10_feedback_14 hf
