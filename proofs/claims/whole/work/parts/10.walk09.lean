set_option maxRecDepth 100000 in
set_option maxHeartbeats 4000000 in
theorem c_X10_isHand {l : Launch} {D : va_G} {cy : Nat → ClassId} {L : Nat → Nat} {bA : Nat} (a0 : Int32) (r : Int32) (S : Sg)  (hf : f_X10_isHand a0 = some r) : MetX l D cy L shM 20 bA yX10_isHand cX10_isHand 1 (some .boolean) 1 25 [.int a0] (some (.int r)) S S := by
  refine x_met (own := RX10) (by decide) rfl (Nat.le_of_ble_eq_true rfl) ?_
  intro p e s m below meth c ls E hC hr hlk hl hW
  generalize hargs : ([.int a0] : List Value).toArray = args at E ⊢
  generalize hQ : MQ below (xQ D cy L shM 20 bA (some (.int r)) S) args s 0 0 (AL L 20) = Q
  have hl : lv_has ls 1 [(0, .int a0)] := hl
  have hx := E.1
  have hb := E.2.1
  have hts := E.2.2.2.2
  unfold f_X10_isHand at hf
  refine lv_iload_n hx hb dX10_isHand_0 rfl (lv_at hl 0 rfl) ?_
  refine lv_i2l hx hb dX10_isHand_1 rfl ?_
  refine lv_lconst (v := 0) hx hb dX10_isHand_2 (by decide) ?_
  refine lv_ldc2 hx hb E.2.2.2.1 (hts _ ww_1070) dX10_isHand_3 ?_
  obtain ⟨r1, g2, hf⟩ := cl1S hf
  refine x_Sr (As := [.long a0.toInt64, .long (0 : Int64), .long (3 : Int64)]) (rest := []) E hC hW hl.1 (c_X10_in a0.toInt64 (0 : Int64) (3 : Int64) r1 S g2) cs_X10_78 rfl rfl ⟨Nat.le_of_ble_eq_true rfl, Nat.le_of_ble_eq_true rfl⟩ ⟨Nat.le_refl _, Nat.le_refl _⟩ (Nat.le_of_ble_eq_true rfl) dX10_isHand_6 (fun H locs hW => ?_)
  obtain ⟨hg, hf⟩ := gdS hf
  exact x_zretP E hC hW hr hlk hQ hg dX10_isHand_9 hf
set_option maxRecDepth 100000 in
set_option maxHeartbeats 4000000 in
theorem c_X10_hold {l : Launch} {D : va_G} {cy : Nat → ClassId} {L : Nat → Nat} {bA : Nat} (a1 : Int32) (a2 : Int32) (a3 : Int32) (r : Int32) (S S' : Sg)  (hf : f_X10_hold a1 a2 a3 S = some (r, S')) : MetX l D cy L shM 20 bA yX10_hold cX10_hold 8 (some .int) 4 100 [.ref (L 0), .int a1, .int a2, .int a3] (some (.int r)) S S' := by
  refine x_met (own := RX10) (by decide) rfl (Nat.le_of_ble_eq_true rfl) ?_
  intro p e s m below meth c ls E hC hr hlk hl hW
  generalize hargs : ([.ref (L 0), .int a1, .int a2, .int a3] : List Value).toArray = args at E ⊢
  generalize hQ : MQ below (xQ D cy L shM 20 bA (some (.int r)) S') args s 0 0 (AL L 20) = Q
  have hl : lv_has ls 8 [(0, .ref (L 0)), (1, .int a1), (2, .int a2), (3, .int a3)] := hl
  have hx := E.1
  have hb := E.2.1
  have hts := E.2.2.2.2
  unfold f_X10_hold at hf
  refine lv_aload_n hx hb dX10_hold_0 rfl (lv_at hl 0 rfl) ?_
  obtain ⟨S2, g1, hf⟩ := cl1S hf
  refine x_Vv (k := 0) (As := []) (rest := []) E hC hW hl.1 (c_X10_findsRays S S2 g1) cv_X10_251 rfl (by decide) rfl rfl rfl ⟨Nat.le_of_ble_eq_true rfl, Nat.le_of_ble_eq_true rfl⟩ ⟨Nat.le_refl _, Nat.le_refl _⟩ (Nat.le_of_ble_eq_true rfl) dX10_hold_1 (fun H locs hW => ?_)
  refine lv_iload_n hx hb dX10_hold_4 rfl (lv_at hl 1 rfl) ?_
  obtain ⟨r3, g4, hf⟩ := cl1S hf
  refine x_Sr (As := [.int a1]) (rest := []) E hC hW hl.1 (c_X10_isHand a1 r3 S2 g4) cs_X10_262 rfl rfl ⟨Nat.le_of_ble_eq_true rfl, Nat.le_of_ble_eq_true rfl⟩ ⟨Nat.le_refl _, Nat.le_refl _⟩ (Nat.le_of_ble_eq_true rfl) dX10_hold_5 (fun H locs hW => ?_)
  refine lv_if_eq (tgt := 57) hx hb dX10_hold_8 (by decide) (fun c44 => ?_) (fun c44 => ?_)
  · have hf := xt hf c44
    refine lv_bipush (v := (-2)) hx hb dX10_hold_57 (by decide) ?_
    exact x_iretI E hC hW hr hlk hQ dX10_hold_59 hf
  · have hf := xf hf c44
    refine lv_iload_n hx hb dX10_hold_11 rfl (lv_at hl 2 rfl) ?_
    refine lv_i2l hx hb dX10_hold_12 rfl ?_
    refine lv_lconst (v := 0) hx hb dX10_hold_13 (by decide) ?_
    refine lv_ldc2 hx hb E.2.2.2.1 (hts _ ww_921) dX10_hold_14 ?_
    obtain ⟨r5, g6, hf⟩ := cl1S hf
    refine x_Sr (As := [.long a2.toInt64, .long (0 : Int64), .long (2 : Int64)]) (rest := []) E hC hW hl.1 (c_X10_in a2.toInt64 (0 : Int64) (2 : Int64) r5 S2 g6) cs_X10_78 rfl rfl ⟨Nat.le_of_ble_eq_true rfl, Nat.le_of_ble_eq_true rfl⟩ ⟨Nat.le_refl _, Nat.le_refl _⟩ (Nat.le_of_ble_eq_true rfl) dX10_hold_17 (fun H locs hW => ?_)
    refine lv_if_eq (tgt := 57) hx hb dX10_hold_20 (by decide) (fun c43 => ?_) (fun c43 => ?_)
    · have hf := xt hf c43
      refine lv_bipush (v := (-2)) hx hb dX10_hold_57 (by decide) ?_
      exact x_iretI E hC hW hr hlk hQ dX10_hold_59 hf
    · have hf := xf hf c43
      refine lv_iload_n hx hb dX10_hold_23 rfl (lv_at hl 2 rfl) ?_
      refine lv_iconst (v := 1) hx hb dX10_hold_24 (by decide) ?_
      refine jnS hf (fun (j : Option (Int32 × Sg)) => (j) = some (r, S') → ∀ (H : Heap) (locs : List Loc) (ls : Array Slot), lv_has ls 8 [(0, .ref (L 0)), (1, .int a1), (2, .int a2), (3, .int a3)] → Wd D cy L shM 20 S2 s H locs → W p l e (rmk 4 100) s m args below meth c H locs 0 0 Q (F0 m 36 ls [])) ?_ ?_
      · intro hf H locs ls hl hW
        try dsimp only at hf
        refine lv_iload_n hx hb dX10_hold_36 rfl (lv_at hl 2 rfl) ?_
        refine lv_iconst (v := 2) hx hb dX10_hold_37 (by decide) ?_
        refine jnS hf (fun (j : Option (Int32 × Sg)) => (j) = some (r, S') → ∀ (H : Heap) (locs : List Loc) (ls : Array Slot), lv_has ls 8 [(0, .ref (L 0)), (1, .int a1), (2, .int a2), (3, .int a3)] → Wd D cy L shM 20 S2 s H locs → W p l e (rmk 4 100) s m args below meth c H locs 0 0 Q (F0 m 60 ls [])) ?_ ?_
        · intro hf H locs ls hl hW
          try dsimp only at hf
          refine lv_aload_n hx hb dX10_hold_60 rfl (lv_at hl 0 rfl) ?_
          refine x_getr (k := 0) (k' := 10) E hC hW fl_X10_45 (by decide) rfl rfl dX10_hold_61 ?_
          refine lv_iload_n hx hb dX10_hold_64 rfl (lv_at hl 1 rfl) ?_
          obtain ⟨hg7, hf⟩ := gdS hf
          refine x_iald (k := 10) E hC hW (by decide) rfl (inbS hg7) dX10_hold_65 ?_
          refine lv_topi (fun x8 ex8 => ?_)
          have hf := bvS hf ex8
          refine lv_istore (lv' := [(4, .int x8), (0, .ref (L 0)), (1, .int a1), (2, .int a2), (3, .int a3)]) hx hb dX10_hold_66 hl (by decide) rfl (fun ls hl => ?_)
          refine lv_aload_n hx hb dX10_hold_68 rfl (lv_at hl 1 rfl) ?_
          refine x_getr (k := 0) (k' := 10) E hC hW fl_X10_45 (by decide) rfl rfl dX10_hold_69 ?_
          refine lv_iload_n hx hb dX10_hold_72 rfl (lv_at hl 2 rfl) ?_
          refine lv_iload_n hx hb dX10_hold_73 rfl (lv_at hl 3 rfl) ?_
          obtain ⟨hg9, hf⟩ := gdS hf
          refine x_iast (k := 10) E hC hW (by decide) rfl (inbS hg9) dX10_hold_74 (fun H locs hW => ?_)
          obtain ⟨S10, eS10⟩ : ∃ z : Sg, z = si S2 10 (ix a1) a2 := ⟨_, rfl⟩
          have hW : Wd D cy L shM 20 S10 s H locs := by rw [eS10]; exact hW
          have hf := bvS hf eS10
          refine lv_iload_n hx hb dX10_hold_75 rfl (lv_at hl 3 rfl) ?_
          refine lv_iconst (v := 1) hx hb dX10_hold_76 (by decide) ?_
          refine jnS hf (fun (j : Sg → Option (Int32 × Sg)) => ∀ (S11 : Sg), (j S11) = some (r, S') → ∀ (H : Heap) (locs : List Loc) (ls : Array Slot), lv_has ls 8 [(0, .ref (L 0)), (1, .int a1), (2, .int a2), (3, .int a3), (4, .int x8)] → Wd D cy L shM 20 S11 s H locs → W p l e (rmk 4 100) s m args below meth c H locs 0 0 Q (F0 m 104 ls [])) ?_ ?_
          · intro S11 hf H locs ls hl hW
            try dsimp only at hf
            refine lv_iload_n hx hb dX10_hold_104 rfl (lv_at hl 2 rfl) ?_
            refine lv_iconst (v := 2) hx hb dX10_hold_105 (by decide) ?_
            refine lv_icmp_ne (tgt := 177) hx hb dX10_hold_106 (by decide) (fun c27 => ?_) (fun c27 => ?_)
            · have hf := xf hf c27
              refine lv_iload hx hb dX10_hold_177 (lv_at hl 4 rfl) ?_
              exact x_iretI E hC hW hr hlk hQ dX10_hold_179 hf
            · have hf := xt hf c27
              refine lv_aload_n hx hb dX10_hold_109 rfl (lv_at hl 0 rfl) ?_
              refine x_getr (k := 0) (k' := 9) E hC hW fl_X10_42 (by decide) rfl rfl dX10_hold_110 ?_
              refine lv_iload_n hx hb dX10_hold_113 rfl (lv_at hl 3 rfl) ?_
              obtain ⟨hg12, hf⟩ := gdS hf
              refine x_lald (k := 9) E hC hW (by decide) rfl (inbS hg12) dX10_hold_114 ?_
              refine lv_topl (fun x13 ex13 => ?_)
              have hf := bvS hf ex13
              refine lv_lstore (lv' := [(5, .long x13), (0, .ref (L 0)), (1, .int a1), (2, .int a2), (3, .int a3), (4, .int x8)]) hx hb dX10_hold_115 hl (by decide) rfl (fun ls hl => ?_)
              refine lv_aload_n hx hb dX10_hold_117 rfl (lv_at hl 1 rfl) ?_
              refine x_getr (k := 0) (k' := 13) E hC hW fl_X10_54 (by decide) rfl rfl dX10_hold_118 ?_
              refine lv_iload_n hx hb dX10_hold_121 rfl (lv_at hl 2 rfl) ?_
              refine lv_aload_n hx hb dX10_hold_122 rfl (lv_at hl 1 rfl) ?_
              refine x_geti (k := 0) E hC hW fl_X10_13 (by decide) rfl rfl dX10_hold_123 ?_
              obtain ⟨hg14, hf⟩ := gdS hf
              refine x_iast (k := 13) E hC hW (by decide) rfl (inbS hg14) dX10_hold_126 (fun H locs hW => ?_)
              obtain ⟨S15, eS15⟩ : ∃ z : Sg, z = si S11 13 (ix a1) (S11.1 0 1) := ⟨_, rfl⟩
              have hW : Wd D cy L shM 20 S15 s H locs := by rw [eS15]; exact hW
              have hf := bvS hf eS15
              refine lv_aload_n hx hb dX10_hold_127 rfl (lv_at hl 1 rfl) ?_
              refine x_geti (k := 0) E hC hW fl_X10_13 (by decide) rfl rfl dX10_hold_128 ?_
              refine lv_iconst (v := 1) hx hb dX10_hold_131 (by decide) ?_
              refine lv_isub hx hb dX10_hold_132 ?_
              refine lv_topi (fun x16 ex16 => ?_)
              have hf := bvS hf ex16
              refine lv_istore (lv' := [(7, .int x16), (5, .long x13), (0, .ref (L 0)), (1, .int a1), (2, .int a2), (3, .int a3), (4, .int x8)]) hx hb dX10_hold_133 hl (by decide) rfl (fun ls hl => ?_)
              refine wp3S (fun (v17 : Int64) (v18 : Int32) (S19 : Sg) => ∀ (H : Heap) (locs : List Loc) (ls : Array Slot), lv_has ls 8 [(0, .ref (L 0)), (1, .int a1), (4, .int x8), (5, .long v17), (7, .int v18)] → Wd D cy L shM 20 S19 s H locs → W p l e (rmk 4 100) s m args below meth c H locs 0 0 Q (F0 m 135 ls [])) ?_ hf _ _ _ (lv_sub hl [2, 3, 6, 1, 0] rfl) hW
              · intro self135 ih135 v17 v18 S19 hf H locs ls hl hW
                unfold X10_hold_L135 at hf
                refine lv_iload hx hb dX10_hold_135 (lv_at hl 4 rfl) ?_
                refine lv_if_lt (tgt := 177) hx hb dX10_hold_137 (by decide) (fun c26 => ?_) (fun c26 => ?_)
                · have hf := xt hf c26
                  refine lv_iload hx hb dX10_hold_177 (lv_at hl 2 rfl) ?_
                  exact x_iretI E hC hW hr hlk hQ dX10_hold_179 hf
                · have hf := xf hf c26
                  refine lv_aload_n hx hb dX10_hold_140 rfl (lv_at hl 0 rfl) ?_
                  refine x_getr (k := 0) (k' := 14) E hC hW fl_X10_57 (by decide) rfl rfl dX10_hold_141 ?_
                  refine lv_bipush (v := 6) hx hb dX10_hold_144 (by decide) ?_
                  refine lv_iload_n hx hb dX10_hold_146 rfl (lv_at hl 1 rfl) ?_
                  refine lv_imul hx hb dX10_hold_147 ?_
                  refine lv_iload hx hb dX10_hold_148 (lv_at hl 4 rfl) ?_
                  refine lv_iadd hx hb dX10_hold_150 ?_
                  refine lv_lload hx hb dX10_hold_151 (lv_at hl 3 rfl) ?_
                  refine lv_aload_n hx hb dX10_hold_153 rfl (lv_at hl 0 rfl) ?_
                  refine x_geti (k := 0) E hC hW fl_X10_7 (by decide) rfl rfl dX10_hold_154 ?_
                  refine lv_i2l hx hb dX10_hold_157 rfl ?_
                  obtain ⟨hg20, hf⟩ := gdS hf
                  refine lv_lrem hx hb dX10_hold_158 (nzlS hg20) ?_
                  refine lv_l2i hx hb dX10_hold_159 rfl ?_
                  obtain ⟨hg21, hf⟩ := gdS hf
                  refine x_iast (k := 14) E hC hW (by decide) rfl (inbS hg21) dX10_hold_160 (fun H locs hW => ?_)
                  obtain ⟨S22, eS22⟩ : ∃ z : Sg, z = si S19 14 (ix (((6 : Int32) * a1) + v18)) ((lrm v17 ((S19.1 0 0).toInt64)).toInt32) := ⟨_, rfl⟩
                  have hW : Wd D cy L shM 20 S22 s H locs := by rw [eS22]; exact hW
                  have hf := bvS hf eS22
                  refine lv_lload hx hb dX10_hold_161 (lv_at hl 3 rfl) ?_
                  refine lv_aload_n hx hb dX10_hold_163 rfl (lv_at hl 0 rfl) ?_
                  refine x_geti (k := 0) E hC hW fl_X10_7 (by decide) rfl rfl dX10_hold_164 ?_
                  refine lv_i2l hx hb dX10_hold_167 rfl ?_
                  obtain ⟨hg23, hf⟩ := gdS hf
                  refine lv_ldiv hx hb dX10_hold_168 (nzlS hg23) ?_
                  refine lv_topl (fun x24 ex24 => ?_)
                  have hf := bvS hf ex24
                  refine lv_lstore (lv' := [(5, .long x24), (0, .ref (L 0)), (1, .int a1), (4, .int x8), (7, .int v18)]) hx hb dX10_hold_169 hl (by decide) rfl (fun ls hl => ?_)
                  obtain ⟨x25, ex25⟩ : ∃ z : Int32, z = (v18 + (-1)) := ⟨_, rfl⟩
                  have hf := bvS hf ex25
                  refine lv_iinc (v := x25) (lv' := [(7, .int x25), (5, .long x24), (0, .ref (L 0)), (1, .int a1), (4, .int x8)]) hx hb dX10_hold_171 hl (k := 4) rfl (by rw [ex25]; rfl) (by decide) rfl (fun ls hl => ?_)
                  refine lv_goto (tgt := 135) hx hb dX10_hold_174 (by decide) ?_
                  exact ih135 _ _ _ hf _ _ _ (lv_sub hl [2, 3, 4, 1, 0] rfl) hW
          intro j104 J104 hf
          refine lv_icmp_ne (tgt := 104) hx hb dX10_hold_77 (by decide) (fun c34 => ?_) (fun c34 => ?_)
          · have hf := xf hf c34
            exact J104 _ hf _ _ _ (lv_sub hl [1, 2, 3, 4, 0] rfl) hW
          · have hf := xt hf c34
            refine lv_aload_n hx hb dX10_hold_80 rfl (lv_at hl 1 rfl) ?_
            refine x_getr (k := 0) (k' := 11) E hC hW fl_X10_48 (by decide) rfl rfl dX10_hold_81 ?_
            refine lv_iload_n hx hb dX10_hold_84 rfl (lv_at hl 2 rfl) ?_
            refine lv_aload_n hx hb dX10_hold_85 rfl (lv_at hl 1 rfl) ?_
            refine x_getr (k := 0) (k' := 1) E hC hW fl_X10_16 (by decide) rfl rfl dX10_hold_86 ?_
            refine lv_iload_n hx hb dX10_hold_89 rfl (lv_at hl 4 rfl) ?_
            obtain ⟨hg28, hf⟩ := gdS hf
            refine x_iald (k := 1) E hC hW (by decide) rfl (inbS hg28) dX10_hold_90 ?_
            obtain ⟨hg29, hf⟩ := gdS hf
            refine x_iast (k := 11) E hC hW (by decide) rfl (inbS hg29) dX10_hold_91 (fun H locs hW => ?_)
            obtain ⟨S30, eS30⟩ : ∃ z : Sg, z = si S10 11 (ix a1) (S10.1 1 (ix a3)) := ⟨_, rfl⟩
            have hW : Wd D cy L shM 20 S30 s H locs := by rw [eS30]; exact hW
            have hf := bvS hf eS30
            refine lv_aload_n hx hb dX10_hold_92 rfl (lv_at hl 1 rfl) ?_
            refine x_getr (k := 0) (k' := 12) E hC hW fl_X10_51 (by decide) rfl rfl dX10_hold_93 ?_
            refine lv_iload_n hx hb dX10_hold_96 rfl (lv_at hl 2 rfl) ?_
            refine lv_aload_n hx hb dX10_hold_97 rfl (lv_at hl 1 rfl) ?_
            refine x_getr (k := 0) (k' := 2) E hC hW fl_X10_20 (by decide) rfl rfl dX10_hold_98 ?_
            refine lv_iload_n hx hb dX10_hold_101 rfl (lv_at hl 4 rfl) ?_
            obtain ⟨hg31, hf⟩ := gdS hf
            refine x_iald (k := 2) E hC hW (by decide) rfl (inbS hg31) dX10_hold_102 ?_
            obtain ⟨hg32, hf⟩ := gdS hf
            refine x_iast (k := 12) E hC hW (by decide) rfl (inbS hg32) dX10_hold_103 (fun H locs hW => ?_)
            obtain ⟨S33, eS33⟩ : ∃ z : Sg, z = si S30 12 (ix a1) (S30.1 2 (ix a3)) := ⟨_, rfl⟩
            have hW : Wd D cy L shM 20 S33 s H locs := by rw [eS33]; exact hW
            have hf := bvS hf eS33
            exact J104 _ hf _ _ _ (lv_sub hl [1, 2, 3, 4, 0] rfl) hW
        intro j60 J60 hf
        refine lv_icmp_ne (tgt := 60) hx hb dX10_hold_38 (by decide) (fun c38 => ?_) (fun c38 => ?_)
        · have hf := xf hf c38
          exact J60 hf _ _ _ (lv_sub hl [0, 1, 2, 3] rfl) hW
        · have hf := xt hf c38
          refine lv_iload_n hx hb dX10_hold_41 rfl (lv_at hl 3 rfl) ?_
          refine lv_i2l hx hb dX10_hold_42 rfl ?_
          refine lv_lconst (v := 0) hx hb dX10_hold_43 (by decide) ?_
          refine lv_aload_n hx hb dX10_hold_44 rfl (lv_at hl 0 rfl) ?_
          refine x_geti (k := 0) E hC hW fl_X10_244 (by decide) rfl rfl dX10_hold_45 ?_
          refine lv_iconst (v := 1) hx hb dX10_hold_48 (by decide) ?_
          refine lv_isub hx hb dX10_hold_49 ?_
          refine lv_i2l hx hb dX10_hold_50 rfl ?_
          obtain ⟨r35, g36, hf⟩ := cl1S hf
          refine x_Sr (As := [.long a3.toInt64, .long (0 : Int64), .long (((S2.1 0 15) - (1 : Int32)).toInt64)]) (rest := []) E hC hW hl.1 (c_X10_in a3.toInt64 (0 : Int64) (((S2.1 0 15) - (1 : Int32)).toInt64) r35 S2 g36) cs_X10_78 rfl rfl ⟨Nat.le_of_ble_eq_true rfl, Nat.le_of_ble_eq_true rfl⟩ ⟨Nat.le_refl _, Nat.le_refl _⟩ (Nat.le_of_ble_eq_true rfl) dX10_hold_51 (fun H locs hW => ?_)
          refine lv_if_ne (tgt := 60) hx hb dX10_hold_54 (by decide) (fun c37 => ?_) (fun c37 => ?_)
          · have hf := xf hf c37
            exact J60 hf _ _ _ (lv_sub hl [0, 1, 2, 3] rfl) hW
          · have hf := xt hf c37
            refine lv_bipush (v := (-2)) hx hb dX10_hold_57 (by decide) ?_
            exact x_iretI E hC hW hr hlk hQ dX10_hold_59 hf
      intro j36 J36 hf
      refine lv_icmp_ne (tgt := 36) hx hb dX10_hold_25 (by decide) (fun c42 => ?_) (fun c42 => ?_)
      · have hf := xf hf c42
        exact J36 hf _ _ _ (lv_sub hl [0, 1, 2, 3] rfl) hW
      · have hf := xt hf c42
        refine lv_aload_n hx hb dX10_hold_28 rfl (lv_at hl 0 rfl) ?_
        refine lv_iload_n hx hb dX10_hold_29 rfl (lv_at hl 3 rfl) ?_
        obtain ⟨r39, g40, hf⟩ := cl1S hf
        refine x_Vr (k := 0) (As := [.int a3]) (rest := []) E hC hW hl.1 (c_X10_isPair a3 r39 S2 g40) cv_X10_104 rfl (by decide) rfl rfl rfl ⟨Nat.le_of_ble_eq_true rfl, Nat.le_of_ble_eq_true rfl⟩ ⟨Nat.le_refl _, Nat.le_refl _⟩ (Nat.le_of_ble_eq_true rfl) dX10_hold_30 (fun H locs hW => ?_)
        refine lv_if_eq (tgt := 57) hx hb dX10_hold_33 (by decide) (fun c41 => ?_) (fun c41 => ?_)
        · have hf := xt hf c41
          refine lv_bipush (v := (-2)) hx hb dX10_hold_57 (by decide) ?_
          exact x_iretI E hC hW hr hlk hQ dX10_hold_59 hf
        · have hf := xf hf c41
          exact J36 hf _ _ _ (lv_sub hl [0, 1, 2, 3] rfl) hW
set_option maxRecDepth 100000 in
set_option maxHeartbeats 4000000 in
theorem c_X10_lacks {l : Launch} {D : va_G} {cy : Nat → ClassId} {L : Nat → Nat} {bA : Nat} (a1 : Int32) (a2 : Int32) (r : Int32) (S : Sg)  (hf : f_X10_lacks a1 a2 S = some r) : MetX l D cy L shM 20 bA yX10_lacks cX10_lacks 3 (some .int) 0 0 [.ref (L 0), .int a1, .int a2] (some (.int r)) S S := by
  refine x_met (own := RX10) (by decide) rfl (Nat.le_of_ble_eq_true rfl) ?_
  intro p e s m below meth c ls E hC hr hlk hl hW
  generalize hargs : ([.ref (L 0), .int a1, .int a2] : List Value).toArray = args at E ⊢
  generalize hQ : MQ below (xQ D cy L shM 20 bA (some (.int r)) S) args s 0 0 (AL L 20) = Q
  have hl : lv_has ls 3 [(0, .ref (L 0)), (1, .int a1), (2, .int a2)] := hl
  have hx := E.1
  have hb := E.2.1
  have hts := E.2.2.2.2
  unfold f_X10_lacks at hf
  refine lv_aload_n hx hb dX10_lacks_0 rfl (lv_at hl 0 rfl) ?_
  refine x_getr (k := 0) (k' := 10) E hC hW fl_X10_45 (by decide) rfl rfl dX10_lacks_1 ?_
  refine lv_iload_n hx hb dX10_lacks_4 rfl (lv_at hl 1 rfl) ?_
  obtain ⟨hg1, hf⟩ := gdS hf
  refine x_iald (k := 10) E hC hW (by decide) rfl (inbS hg1) dX10_lacks_5 ?_
  refine lv_if_ne (tgt := 14) hx hb dX10_lacks_6 (by decide) (fun c4 => ?_) (fun c4 => ?_)
  · have hf := xf hf c4
    refine lv_aload_n hx hb dX10_lacks_14 rfl (lv_at hl 0 rfl) ?_
    refine x_getr (k := 0) (k' := 10) E hC hW fl_X10_45 (by decide) rfl rfl dX10_lacks_15 ?_
    refine lv_iload_n hx hb dX10_lacks_18 rfl (lv_at hl 1 rfl) ?_
    obtain ⟨hg2, hf⟩ := gdS hf
    refine x_iald (k := 10) E hC hW (by decide) rfl (inbS hg2) dX10_lacks_19 ?_
    refine lv_iload_n hx hb dX10_lacks_20 rfl (lv_at hl 2 rfl) ?_
    refine lv_icmp_eq (tgt := 29) hx hb dX10_lacks_21 (by decide) (fun c3 => ?_) (fun c3 => ?_)
    · have hf := xt hf c3
      refine lv_iconst (v := 0) hx hb dX10_lacks_29 (by decide) ?_
      exact x_iretP E hC hW hr hlk hQ dX10_lacks_30 hf
    · have hf := xf hf c3
      refine lv_bipush (v := (-13)) hx hb dX10_lacks_24 (by decide) ?_
      refine lv_goto (tgt := 30) hx hb dX10_lacks_26 (by decide) ?_
      exact x_iretP E hC hW hr hlk hQ dX10_lacks_30 hf
  · have hf := xt hf c4
    refine lv_bipush (v := (-11)) hx hb dX10_lacks_9 (by decide) ?_
    refine lv_goto (tgt := 30) hx hb dX10_lacks_11 (by decide) ?_
    exact x_iretP E hC hW hr hlk hQ dX10_lacks_30 hf
set_option maxRecDepth 100000 in
set_option maxHeartbeats 4000000 in
theorem c_X10_isUnder {l : Launch} {D : va_G} {cy : Nat → ClassId} {L : Nat → Nat} {bA : Nat} (a0 : Int32) (a1 : Int32) (r : Int32) (S : Sg)  (hf : f_X10_isUnder a0 a1 = some r) : MetX l D cy L shM 20 bA yX10_isUnder cX10_isUnder 2 (some .boolean) 0 0 [.int a0, .int a1] (some (.int r)) S S := by
  refine x_met (own := RX10) (by decide) rfl (Nat.le_of_ble_eq_true rfl) ?_
  intro p e s m below meth c ls E hC hr hlk hl hW
  generalize hargs : ([.int a0, .int a1] : List Value).toArray = args at E ⊢
  generalize hQ : MQ below (xQ D cy L shM 20 bA (some (.int r)) S) args s 0 0 (AL L 20) = Q
  have hl : lv_has ls 2 [(0, .int a0), (1, .int a1)] := hl
  have hx := E.1
  have hb := E.2.1
  have hts := E.2.2.2.2
  unfold f_X10_isUnder at hf
  refine lv_iload_n hx hb dX10_isUnder_0 rfl (lv_at hl 1 rfl) ?_
  refine lv_if_eq (tgt := 29) hx hb dX10_isUnder_1 (by decide) (fun c6 => ?_) (fun c6 => ?_)
  · have hf := xt hf c6
    refine lv_iconst (v := 1) hx hb dX10_isUnder_29 (by decide) ?_
    refine lv_goto (tgt := 34) hx hb dX10_isUnder_30 (by decide) ?_
    exact x_zretP E hC hW hr hlk hQ (by decide) dX10_isUnder_34 hf
  · have hf := xf hf c6
    refine lv_iload_n hx hb dX10_isUnder_4 rfl (lv_at hl 0 rfl) ?_
    refine lv_iload_n hx hb dX10_isUnder_5 rfl (lv_at hl 1 rfl) ?_
    refine lv_icmp_eq (tgt := 29) hx hb dX10_isUnder_6 (by decide) (fun c5 => ?_) (fun c5 => ?_)
    · have hf := xt hf c5
      refine lv_iconst (v := 1) hx hb dX10_isUnder_29 (by decide) ?_
      refine lv_goto (tgt := 34) hx hb dX10_isUnder_30 (by decide) ?_
      exact x_zretP E hC hW hr hlk hQ (by decide) dX10_isUnder_34 hf
    · have hf := xf hf c5
      refine lv_iload_n hx hb dX10_isUnder_9 rfl (lv_at hl 1 rfl) ?_
      refine lv_iconst (v := 1) hx hb dX10_isUnder_10 (by decide) ?_
      refine jnS hf (fun (j : Option (Int32)) => (j) = some r → ∀ (H : Heap) (locs : List Loc) (ls : Array Slot), lv_has ls 2 [(0, .int a0), (1, .int a1)] → Wd D cy L shM 20 S s H locs → W p l e (rmk 0 0) s m args below meth c H locs 0 0 Q (F0 m 19 ls [])) ?_ ?_
      · intro hf H locs ls hl hW
        try dsimp only at hf
        refine lv_iload_n hx hb dX10_isUnder_19 rfl (lv_at hl 1 rfl) ?_
        refine lv_iconst (v := 2) hx hb dX10_isUnder_20 (by decide) ?_
        refine lv_icmp_ne (tgt := 33) hx hb dX10_isUnder_21 (by decide) (fun c2 => ?_) (fun c2 => ?_)
        · have hf := xf hf c2
          refine lv_iconst (v := 0) hx hb dX10_isUnder_33 (by decide) ?_
          exact x_zretP E hC hW hr hlk hQ (by decide) dX10_isUnder_34 hf
        · have hf := xt hf c2
          refine lv_iload_n hx hb dX10_isUnder_24 rfl (lv_at hl 0 rfl) ?_
          refine lv_iconst (v := 4) hx hb dX10_isUnder_25 (by decide) ?_
          refine lv_icmp_ne (tgt := 33) hx hb dX10_isUnder_26 (by decide) (fun c1 => ?_) (fun c1 => ?_)
          · have hf := xf hf c1
            refine lv_iconst (v := 0) hx hb dX10_isUnder_33 (by decide) ?_
            exact x_zretP E hC hW hr hlk hQ (by decide) dX10_isUnder_34 hf
          · have hf := xt hf c1
            refine lv_iconst (v := 1) hx hb dX10_isUnder_29 (by decide) ?_
            refine lv_goto (tgt := 34) hx hb dX10_isUnder_30 (by decide) ?_
            exact x_zretP E hC hW hr hlk hQ (by decide) dX10_isUnder_34 hf
      intro j19 J19 hf
      refine lv_icmp_ne (tgt := 19) hx hb dX10_isUnder_11 (by decide) (fun c4 => ?_) (fun c4 => ?_)
      · have hf := xf hf c4
        exact J19 hf _ _ _ (lv_sub hl [0, 1] rfl) hW
      · have hf := xt hf c4
        refine lv_iload_n hx hb dX10_isUnder_14 rfl (lv_at hl 0 rfl) ?_
        refine lv_iconst (v := 3) hx hb dX10_isUnder_15 (by decide) ?_
        refine lv_icmp_eq (tgt := 29) hx hb dX10_isUnder_16 (by decide) (fun c3 => ?_) (fun c3 => ?_)
        · have hf := xt hf c3
          refine lv_iconst (v := 1) hx hb dX10_isUnder_29 (by decide) ?_
          refine lv_goto (tgt := 34) hx hb dX10_isUnder_30 (by decide) ?_
          exact x_zretP E hC hW hr hlk hQ (by decide) dX10_isUnder_34 hf
        · have hf := xf hf c3
          exact J19 hf _ _ _ (lv_sub hl [0, 1] rfl) hW
set_option maxRecDepth 100000 in
set_option maxHeartbeats 4000000 in
theorem c_X10_asPair {l : Launch} {D : va_G} {cy : Nat → ClassId} {L : Nat → Nat} {bA : Nat} (a1 : Int32) (a2 : Int32) (r : Int32) (S : Sg)  (hf : f_X10_asPair a1 a2 S = some r) : MetX l D cy L shM 20 bA yX10_asPair cX10_asPair 4 (some .int) 2 45 [.ref (L 0), .int a1, .int a2] (some (.int r)) S S := by
  refine x_met (own := RX10) (by decide) rfl (Nat.le_of_ble_eq_true rfl) ?_
  intro p e s m below meth c ls E hC hr hlk hl hW
  generalize hargs : ([.ref (L 0), .int a1, .int a2] : List Value).toArray = args at E ⊢
  generalize hQ : MQ below (xQ D cy L shM 20 bA (some (.int r)) S) args s 0 0 (AL L 20) = Q
  have hl : lv_has ls 4 [(0, .ref (L 0)), (1, .int a1), (2, .int a2)] := hl
  have hx := E.1
  have hb := E.2.1
  have hts := E.2.2.2.2
  unfold f_X10_asPair at hf
  refine lv_iload_n hx hb dX10_asPair_0 rfl (lv_at hl 1 rfl) ?_
  obtain ⟨r1, g2, hf⟩ := cl1S hf
  refine x_Sr (As := [.int a1]) (rest := []) E hC hW hl.1 (c_X10_isHand a1 r1 S g2) cs_X10_262 rfl rfl ⟨Nat.le_of_ble_eq_true rfl, Nat.le_of_ble_eq_true rfl⟩ ⟨Nat.le_refl _, Nat.le_refl _⟩ (Nat.le_of_ble_eq_true rfl) dX10_asPair_1 (fun H locs hW => ?_)
  refine lv_if_eq (tgt := 19) hx hb dX10_asPair_4 (by decide) (fun c14 => ?_) (fun c14 => ?_)
  · have hf := xt hf c14
    refine lv_bipush (v := (-2)) hx hb dX10_asPair_19 (by decide) ?_
    exact x_iretP E hC hW hr hlk hQ dX10_asPair_21 hf
  · have hf := xf hf c14
    refine lv_iload_n hx hb dX10_asPair_7 rfl (lv_at hl 2 rfl) ?_
    refine lv_i2l hx hb dX10_asPair_8 rfl ?_
    refine lv_lconst (v := 0) hx hb dX10_asPair_9 (by decide) ?_
    refine lv_ldc2 hx hb E.2.2.2.1 (hts _ ww_946) dX10_asPair_10 ?_
    obtain ⟨r3, g4, hf⟩ := cl1S hf
    refine x_Sr (As := [.long a2.toInt64, .long (0 : Int64), .long (5 : Int64)]) (rest := []) E hC hW hl.1 (c_X10_in a2.toInt64 (0 : Int64) (5 : Int64) r3 S g4) cs_X10_78 rfl rfl ⟨Nat.le_of_ble_eq_true rfl, Nat.le_of_ble_eq_true rfl⟩ ⟨Nat.le_refl _, Nat.le_refl _⟩ (Nat.le_of_ble_eq_true rfl) dX10_asPair_13 (fun H locs hW => ?_)
    refine lv_if_ne (tgt := 22) hx hb dX10_asPair_16 (by decide) (fun c13 => ?_) (fun c13 => ?_)
    · have hf := xf hf c13
      refine lv_aload_n hx hb dX10_asPair_22 rfl (lv_at hl 0 rfl) ?_
      refine lv_iload_n hx hb dX10_asPair_23 rfl (lv_at hl 1 rfl) ?_
      refine lv_iconst (v := 1) hx hb dX10_asPair_24 (by decide) ?_
      obtain ⟨r5, g6, hf⟩ := cl1S hf
      refine x_Vr (k := 0) (As := [.int a1, .int (1 : Int32)]) (rest := []) E hC hW hl.1 (c_X10_lacks a1 (1 : Int32) r5 S g6) cv_X10_265 rfl (by decide) rfl rfl rfl ⟨Nat.le_of_ble_eq_true rfl, Nat.le_of_ble_eq_true rfl⟩ ⟨Nat.le_refl _, Nat.le_refl _⟩ (Nat.le_of_ble_eq_true rfl) dX10_asPair_25 (fun H locs hW => ?_)
      refine lv_istore_n (lv' := [(3, .int r5), (0, .ref (L 0)), (1, .int a1), (2, .int a2)]) hx hb dX10_asPair_28 rfl hl (by decide) rfl (fun ls hl => ?_)
      refine lv_iload_n hx hb dX10_asPair_29 rfl (lv_at hl 0 rfl) ?_
      refine lv_if_eq (tgt := 37) hx hb dX10_asPair_30 (by decide) (fun c12 => ?_) (fun c12 => ?_)
      · have hf := xt hf c12
        refine lv_aload_n hx hb dX10_asPair_37 rfl (lv_at hl 1 rfl) ?_
        refine x_getr (k := 0) (k' := 11) E hC hW fl_X10_48 (by decide) rfl rfl dX10_asPair_38 ?_
        refine lv_iload_n hx hb dX10_asPair_41 rfl (lv_at hl 2 rfl) ?_
        obtain ⟨hg7, hf⟩ := gdS hf
        refine x_iald (k := 11) E hC hW (by decide) rfl (inbS hg7) dX10_asPair_42 ?_
        refine lv_iload_n hx hb dX10_asPair_43 rfl (lv_at hl 3 rfl) ?_
        obtain ⟨r8, g9, hf⟩ := cl1S hf
        refine x_Sr (As := [.int (S.1 11 (ix a1)), .int a2]) (rest := []) E hC hW hl.1 (c_X10_isUnder (S.1 11 (ix a1)) a2 r8 S g9) cs_X10_268 rfl rfl ⟨Nat.le_of_ble_eq_true rfl, Nat.le_of_ble_eq_true rfl⟩ ⟨Nat.le_refl _, Nat.le_refl _⟩ (Nat.le_of_ble_eq_true rfl) dX10_asPair_44 (fun H locs hW => ?_)
        refine lv_if_eq (tgt := 59) hx hb dX10_asPair_47 (by decide) (fun c11 => ?_) (fun c11 => ?_)
        · have hf := xt hf c11
          refine lv_bipush (v := (-13)) hx hb dX10_asPair_59 (by decide) ?_
          exact x_iretP E hC hW hr hlk hQ dX10_asPair_61 hf
        · have hf := xf hf c11
          refine lv_aload_n hx hb dX10_asPair_50 rfl (lv_at hl 1 rfl) ?_
          refine x_getr (k := 0) (k' := 12) E hC hW fl_X10_51 (by decide) rfl rfl dX10_asPair_51 ?_
          refine lv_iload_n hx hb dX10_asPair_54 rfl (lv_at hl 2 rfl) ?_
          obtain ⟨hg10, hf⟩ := gdS hf
          refine x_iald (k := 12) E hC hW (by decide) rfl (inbS hg10) dX10_asPair_55 ?_
          refine lv_goto (tgt := 61) hx hb dX10_asPair_56 (by decide) ?_
          exact x_iretP E hC hW hr hlk hQ dX10_asPair_61 hf
      · have hf := xf hf c12
        refine lv_iload_n hx hb dX10_asPair_33 rfl (lv_at hl 0 rfl) ?_
        refine lv_goto (tgt := 61) hx hb dX10_asPair_34 (by decide) ?_
        exact x_iretP E hC hW hr hlk hQ dX10_asPair_61 hf
    · have hf := xt hf c13
      refine lv_bipush (v := (-2)) hx hb dX10_asPair_19 (by decide) ?_
      exact x_iretP E hC hW hr hlk hQ dX10_asPair_21 hf
set_option maxRecDepth 100000 in
set_option maxHeartbeats 4000000 in
theorem c_X10_asRay {l : Launch} {D : va_G} {cy : Nat → ClassId} {L : Nat → Nat} {bA : Nat} (a1 : Int32) (a2 : Int32) (r : Int32) (S : Sg)  (hf : f_X10_asRay a1 a2 S = some r) : MetX l D cy L shM 20 bA yX10_asRay cX10_asRay 4 (some .int) 2 45 [.ref (L 0), .int a1, .int a2] (some (.int r)) S S := by
  refine x_met (own := RX10) (by decide) rfl (Nat.le_of_ble_eq_true rfl) ?_
  intro p e s m below meth c ls E hC hr hlk hl hW
  generalize hargs : ([.ref (L 0), .int a1, .int a2] : List Value).toArray = args at E ⊢
  generalize hQ : MQ below (xQ D cy L shM 20 bA (some (.int r)) S) args s 0 0 (AL L 20) = Q
  have hl : lv_has ls 4 [(0, .ref (L 0)), (1, .int a1), (2, .int a2)] := hl
  have hx := E.1
  have hb := E.2.1
  have hts := E.2.2.2.2
  unfold f_X10_asRay at hf
  refine lv_iload_n hx hb dX10_asRay_0 rfl (lv_at hl 1 rfl) ?_
  obtain ⟨r1, g2, hf⟩ := cl1S hf
  refine x_Sr (As := [.int a1]) (rest := []) E hC hW hl.1 (c_X10_isHand a1 r1 S g2) cs_X10_262 rfl rfl ⟨Nat.le_of_ble_eq_true rfl, Nat.le_of_ble_eq_true rfl⟩ ⟨Nat.le_refl _, Nat.le_refl _⟩ (Nat.le_of_ble_eq_true rfl) dX10_asRay_1 (fun H locs hW => ?_)
  refine lv_if_ne (tgt := 10) hx hb dX10_asRay_4 (by decide) (fun c11 => ?_) (fun c11 => ?_)
  · have hf := xf hf c11
    refine lv_aload_n hx hb dX10_asRay_10 rfl (lv_at hl 0 rfl) ?_
    refine lv_iload_n hx hb dX10_asRay_11 rfl (lv_at hl 1 rfl) ?_
    refine lv_iconst (v := 2) hx hb dX10_asRay_12 (by decide) ?_
    obtain ⟨r3, g4, hf⟩ := cl1S hf
    refine x_Vr (k := 0) (As := [.int a1, .int (2 : Int32)]) (rest := []) E hC hW hl.1 (c_X10_lacks a1 (2 : Int32) r3 S g4) cv_X10_265 rfl (by decide) rfl rfl rfl ⟨Nat.le_of_ble_eq_true rfl, Nat.le_of_ble_eq_true rfl⟩ ⟨Nat.le_refl _, Nat.le_refl _⟩ (Nat.le_of_ble_eq_true rfl) dX10_asRay_13 (fun H locs hW => ?_)
    refine lv_istore_n (lv' := [(3, .int r3), (0, .ref (L 0)), (1, .int a1), (2, .int a2)]) hx hb dX10_asRay_16 rfl hl (by decide) rfl (fun ls hl => ?_)
    refine lv_iload_n hx hb dX10_asRay_17 rfl (lv_at hl 0 rfl) ?_
    refine lv_if_eq (tgt := 25) hx hb dX10_asRay_18 (by decide) (fun c10 => ?_) (fun c10 => ?_)
    · have hf := xt hf c10
      refine lv_iload_n hx hb dX10_asRay_25 rfl (lv_at hl 3 rfl) ?_
      refine lv_i2l hx hb dX10_asRay_26 rfl ?_
      refine lv_lconst (v := 0) hx hb dX10_asRay_27 (by decide) ?_
      refine lv_aload_n hx hb dX10_asRay_28 rfl (lv_at hl 1 rfl) ?_
      refine x_getr (k := 0) (k' := 13) E hC hW fl_X10_54 (by decide) rfl rfl dX10_asRay_29 ?_
      refine lv_iload_n hx hb dX10_asRay_32 rfl (lv_at hl 2 rfl) ?_
      obtain ⟨hg5, hf⟩ := gdS hf
      refine x_iald (k := 13) E hC hW (by decide) rfl (inbS hg5) dX10_asRay_33 ?_
      refine lv_iconst (v := 1) hx hb dX10_asRay_34 (by decide) ?_
      refine lv_isub hx hb dX10_asRay_35 ?_
      refine lv_i2l hx hb dX10_asRay_36 rfl ?_
      obtain ⟨r6, g7, hf⟩ := cl1S hf
      refine x_Sr (As := [.long a2.toInt64, .long (0 : Int64), .long (((S.1 13 (ix a1)) - (1 : Int32)).toInt64)]) (rest := []) E hC hW hl.1 (c_X10_in a2.toInt64 (0 : Int64) (((S.1 13 (ix a1)) - (1 : Int32)).toInt64) r6 S g7) cs_X10_78 rfl rfl ⟨Nat.le_of_ble_eq_true rfl, Nat.le_of_ble_eq_true rfl⟩ ⟨Nat.le_refl _, Nat.le_refl _⟩ (Nat.le_of_ble_eq_true rfl) dX10_asRay_37 (fun H locs hW => ?_)
      refine lv_if_eq (tgt := 57) hx hb dX10_asRay_40 (by decide) (fun c9 => ?_) (fun c9 => ?_)
      · have hf := xt hf c9
        refine lv_bipush (v := (-12)) hx hb dX10_asRay_57 (by decide) ?_
        exact x_iretP E hC hW hr hlk hQ dX10_asRay_59 hf
      · have hf := xf hf c9
        refine lv_aload_n hx hb dX10_asRay_43 rfl (lv_at hl 1 rfl) ?_
        refine x_getr (k := 0) (k' := 14) E hC hW fl_X10_57 (by decide) rfl rfl dX10_asRay_44 ?_
        refine lv_bipush (v := 6) hx hb dX10_asRay_47 (by decide) ?_
        refine lv_iload_n hx hb dX10_asRay_49 rfl (lv_at hl 2 rfl) ?_
        refine lv_imul hx hb dX10_asRay_50 ?_
        refine lv_iload_n hx hb dX10_asRay_51 rfl (lv_at hl 3 rfl) ?_
        refine lv_iadd hx hb dX10_asRay_52 ?_
        obtain ⟨hg8, hf⟩ := gdS hf
        refine x_iald (k := 14) E hC hW (by decide) rfl (inbS hg8) dX10_asRay_53 ?_
        refine lv_goto (tgt := 59) hx hb dX10_asRay_54 (by decide) ?_
        exact x_iretP E hC hW hr hlk hQ dX10_asRay_59 hf
    · have hf := xf hf c10
      refine lv_iload_n hx hb dX10_asRay_21 rfl (lv_at hl 0 rfl) ?_
      refine lv_goto (tgt := 59) hx hb dX10_asRay_22 (by decide) ?_
      exact x_iretP E hC hW hr hlk hQ dX10_asRay_59 hf
  · have hf := xt hf c11
    refine lv_bipush (v := (-2)) hx hb dX10_asRay_7 (by decide) ?_
    exact x_iretP E hC hW hr hlk hQ dX10_asRay_9 hf
set_option maxRecDepth 100000 in
set_option maxHeartbeats 4000000 in
theorem c_X10_compare {l : Launch} {D : va_G} {cy : Nat → ClassId} {L : Nat → Nat} {bA : Nat} (a1 : Int32) (a2 : Int32) (r : Int32) (S : Sg)  (hf : f_X10_compare a1 a2 S = some r) : MetX l D cy L shM 20 bA yX10_compare cX10_compare 6 (some .int) 2 45 [.ref (L 0), .int a1, .int a2] (some (.int r)) S S := by
  refine x_met (own := RX10) (by decide) rfl (Nat.le_of_ble_eq_true rfl) ?_
  intro p e s m below meth c ls E hC hr hlk hl hW
  generalize hargs : ([.ref (L 0), .int a1, .int a2] : List Value).toArray = args at E ⊢
  generalize hQ : MQ below (xQ D cy L shM 20 bA (some (.int r)) S) args s 0 0 (AL L 20) = Q
  have hl : lv_has ls 6 [(0, .ref (L 0)), (1, .int a1), (2, .int a2)] := hl
  have hx := E.1
  have hb := E.2.1
  have hts := E.2.2.2.2
  unfold f_X10_compare at hf
  refine lv_iload_n hx hb dX10_compare_0 rfl (lv_at hl 1 rfl) ?_
  obtain ⟨r1, g2, hf⟩ := cl1S hf
  refine x_Sr (As := [.int a1]) (rest := []) E hC hW hl.1 (c_X10_isHand a1 r1 S g2) cs_X10_262 rfl rfl ⟨Nat.le_of_ble_eq_true rfl, Nat.le_of_ble_eq_true rfl⟩ ⟨Nat.le_refl _, Nat.le_refl _⟩ (Nat.le_of_ble_eq_true rfl) dX10_compare_1 (fun H locs hW => ?_)
  refine lv_if_eq (tgt := 14) hx hb dX10_compare_4 (by decide) (fun c27 => ?_) (fun c27 => ?_)
  · have hf := xt hf c27
    refine lv_bipush (v := (-2)) hx hb dX10_compare_14 (by decide) ?_
    exact x_iretP E hC hW hr hlk hQ dX10_compare_16 hf
  · have hf := xf hf c27
    refine lv_iload_n hx hb dX10_compare_7 rfl (lv_at hl 2 rfl) ?_
    obtain ⟨r3, g4, hf⟩ := cl1S hf
    refine x_Sr (As := [.int a2]) (rest := []) E hC hW hl.1 (c_X10_isHand a2 r3 S g4) cs_X10_262 rfl rfl ⟨Nat.le_of_ble_eq_true rfl, Nat.le_of_ble_eq_true rfl⟩ ⟨Nat.le_refl _, Nat.le_refl _⟩ (Nat.le_of_ble_eq_true rfl) dX10_compare_8 (fun H locs hW => ?_)
    refine lv_if_ne (tgt := 17) hx hb dX10_compare_11 (by decide) (fun c26 => ?_) (fun c26 => ?_)
    · have hf := xf hf c26
      refine lv_aload_n hx hb dX10_compare_17 rfl (lv_at hl 0 rfl) ?_
      refine x_getr (k := 0) (k' := 10) E hC hW fl_X10_45 (by decide) rfl rfl dX10_compare_18 ?_
      refine lv_iload_n hx hb dX10_compare_21 rfl (lv_at hl 1 rfl) ?_
      obtain ⟨hg5, hf⟩ := gdS hf
      refine x_iald (k := 10) E hC hW (by decide) rfl (inbS hg5) dX10_compare_22 ?_
      refine lv_if_eq (tgt := 35) hx hb dX10_compare_23 (by decide) (fun c25 => ?_) (fun c25 => ?_)
      · have hf := xt hf c25
        refine lv_bipush (v := (-11)) hx hb dX10_compare_35 (by decide) ?_
        exact x_iretP E hC hW hr hlk hQ dX10_compare_37 hf
      · have hf := xf hf c25
        refine lv_aload_n hx hb dX10_compare_26 rfl (lv_at hl 0 rfl) ?_
        refine x_getr (k := 0) (k' := 10) E hC hW fl_X10_45 (by decide) rfl rfl dX10_compare_27 ?_
        refine lv_iload_n hx hb dX10_compare_30 rfl (lv_at hl 2 rfl) ?_
        obtain ⟨hg6, hf⟩ := gdS hf
        refine x_iald (k := 10) E hC hW (by decide) rfl (inbS hg6) dX10_compare_31 ?_
        refine lv_if_ne (tgt := 38) hx hb dX10_compare_32 (by decide) (fun c24 => ?_) (fun c24 => ?_)
        · have hf := xf hf c24
          refine lv_aload_n hx hb dX10_compare_38 rfl (lv_at hl 0 rfl) ?_
          refine x_getr (k := 0) (k' := 10) E hC hW fl_X10_45 (by decide) rfl rfl dX10_compare_39 ?_
          refine lv_iload_n hx hb dX10_compare_42 rfl (lv_at hl 1 rfl) ?_
          obtain ⟨hg7, hf⟩ := gdS hf
          refine x_iald (k := 10) E hC hW (by decide) rfl (inbS hg7) dX10_compare_43 ?_
          refine lv_iconst (v := 2) hx hb dX10_compare_44 (by decide) ?_
          refine lv_icmp_ne (tgt := 58) hx hb dX10_compare_45 (by decide) (fun c23 => ?_) (fun c23 => ?_)
          · have hf := xf hf c23
            refine lv_bipush (v := (-13)) hx hb dX10_compare_58 (by decide) ?_
            exact x_iretP E hC hW hr hlk hQ dX10_compare_60 hf
          · have hf := xt hf c23
            refine lv_aload_n hx hb dX10_compare_48 rfl (lv_at hl 0 rfl) ?_
            refine x_getr (k := 0) (k' := 10) E hC hW fl_X10_45 (by decide) rfl rfl dX10_compare_49 ?_
            refine lv_iload_n hx hb dX10_compare_52 rfl (lv_at hl 2 rfl) ?_
            obtain ⟨hg8, hf⟩ := gdS hf
            refine x_iald (k := 10) E hC hW (by decide) rfl (inbS hg8) dX10_compare_53 ?_
            refine lv_iconst (v := 2) hx hb dX10_compare_54 (by decide) ?_
            refine lv_icmp_eq (tgt := 61) hx hb dX10_compare_55 (by decide) (fun c22 => ?_) (fun c22 => ?_)
            · have hf := xt hf c22
              refine lv_iconst (v := 0) hx hb dX10_compare_61 (by decide) ?_
              refine lv_istore_n (lv' := [(3, .int (0 : Int32)), (0, .ref (L 0)), (1, .int a1), (2, .int a2)]) hx hb dX10_compare_62 rfl hl (by decide) rfl (fun ls hl => ?_)
              refine wp1S (fun (v9 : Int32) => ∀ (H : Heap) (locs : List Loc) (ls : Array Slot), lv_has ls 6 [(0, .ref (L 0)), (1, .int a1), (2, .int a2), (3, .int v9)] → Wd D cy L shM 20 S s H locs → W p l e (rmk 2 45) s m args below meth c H locs 0 0 Q (F0 m 63 ls [])) ?_ hf _ _ _ (lv_sub hl [1, 2, 3, 0] rfl) hW
              · intro self63 ih63 v9 hf H locs ls hl hW
                unfold X10_compare_L63 at hf
                refine lv_iload_n hx hb dX10_compare_63 rfl (lv_at hl 3 rfl) ?_
                refine lv_bipush (v := 6) hx hb dX10_compare_64 (by decide) ?_
                refine lv_icmp_ge (tgt := 149) hx hb dX10_compare_66 (by decide) (fun c21 => ?_) (fun c21 => ?_)
                · have hf := xt hf c21
                  refine lv_iconst (v := 0) hx hb dX10_compare_149 (by decide) ?_
                  exact x_iretP E hC hW hr hlk hQ dX10_compare_150 hf
                · have hf := xf hf c21
                  refine lv_iload_n hx hb dX10_compare_69 rfl (lv_at hl 3 rfl) ?_
                  refine lv_aload_n hx hb dX10_compare_70 rfl (lv_at hl 0 rfl) ?_
                  refine x_getr (k := 0) (k' := 13) E hC hW fl_X10_54 (by decide) rfl rfl dX10_compare_71 ?_
                  refine lv_iload_n hx hb dX10_compare_74 rfl (lv_at hl 1 rfl) ?_
                  obtain ⟨hg10, hf⟩ := gdS hf
                  refine x_iald (k := 13) E hC hW (by decide) rfl (inbS hg10) dX10_compare_75 ?_
                  refine jnS hf (fun (j : Int32 → Option (Int32)) => ∀ (x11 : Int32), (j x11) = some r → ∀ (H : Heap) (locs : List Loc) (ls : Array Slot), lv_has ls 6 [(0, .ref (L 0)), (1, .int a1), (2, .int a2), (3, .int v9)] → Wd D cy L shM 20 S s H locs → W p l e (rmk 2 45) s m args below meth c H locs 0 0 Q (F0 m 94 ls [.int x11])) ?_ ?_
                  · intro x11 hf H locs ls hl hW
                    try dsimp only at hf
                    refine lv_istore (lv' := [(4, .int x11), (0, .ref (L 0)), (1, .int a1), (2, .int a2), (3, .int v9)]) hx hb dX10_compare_94 hl (by decide) rfl (fun ls hl => ?_)
                    refine lv_iload_n hx hb dX10_compare_96 rfl (lv_at hl 4 rfl) ?_
                    refine lv_aload_n hx hb dX10_compare_97 rfl (lv_at hl 1 rfl) ?_
                    refine x_getr (k := 0) (k' := 13) E hC hW fl_X10_54 (by decide) rfl rfl dX10_compare_98 ?_
                    refine lv_iload_n hx hb dX10_compare_101 rfl (lv_at hl 3 rfl) ?_
                    obtain ⟨hg12, hf⟩ := gdS hf
                    refine x_iald (k := 13) E hC hW (by decide) rfl (inbS hg12) dX10_compare_102 ?_
                    refine jnS hf (fun (j : Int32 → Option (Int32)) => ∀ (x13 : Int32), (j x13) = some r → ∀ (H : Heap) (locs : List Loc) (ls : Array Slot), lv_has ls 6 [(0, .ref (L 0)), (1, .int a1), (2, .int a2), (3, .int v9), (4, .int x11)] → Wd D cy L shM 20 S s H locs → W p l e (rmk 2 45) s m args below meth c H locs 0 0 Q (F0 m 121 ls [.int x13])) ?_ ?_
                    · intro x13 hf H locs ls hl hW
                      try dsimp only at hf
                      refine lv_istore (lv' := [(5, .int x13), (0, .ref (L 0)), (1, .int a1), (2, .int a2), (3, .int v9), (4, .int x11)]) hx hb dX10_compare_121 hl (by decide) rfl (fun ls hl => ?_)
                      refine lv_iload hx hb dX10_compare_123 (lv_at hl 5 rfl) ?_
                      refine lv_iload hx hb dX10_compare_125 (lv_at hl 0 rfl) ?_
                      refine lv_icmp_eq (tgt := 143) hx hb dX10_compare_127 (by decide) (fun c16 => ?_) (fun c16 => ?_)
                      · have hf := xt hf c16
                        obtain ⟨x14, ex14⟩ : ∃ z : Int32, z = (v9 + 1) := ⟨_, rfl⟩
                        have hf := bvS hf ex14
                        refine lv_iinc (v := x14) (lv' := [(3, .int x14), (5, .int x13), (0, .ref (L 0)), (1, .int a1), (2, .int a2), (4, .int x11)]) hx hb dX10_compare_143 hl (k := 4) rfl (by rw [ex14]; rfl) (by decide) rfl (fun ls hl => ?_)
                        refine lv_goto (tgt := 63) hx hb dX10_compare_146 (by decide) ?_
                        exact ih63 _ hf _ _ _ (lv_sub hl [2, 3, 4, 0] rfl) hW
                      · have hf := xf hf c16
                        refine lv_iload hx hb dX10_compare_130 (lv_at hl 5 rfl) ?_
                        refine lv_iload hx hb dX10_compare_132 (lv_at hl 0 rfl) ?_
                        refine lv_icmp_ge (tgt := 141) hx hb dX10_compare_134 (by decide) (fun c15 => ?_) (fun c15 => ?_)
                        · have hf := xt hf c15
                          refine lv_iconst (v := 1) hx hb dX10_compare_141 (by decide) ?_
                          exact x_iretP E hC hW hr hlk hQ dX10_compare_142 hf
                        · have hf := xf hf c15
                          refine lv_iconst (v := (-1)) hx hb dX10_compare_137 (by decide) ?_
                          refine lv_goto (tgt := 142) hx hb dX10_compare_138 (by decide) ?_
                          exact x_iretP E hC hW hr hlk hQ dX10_compare_142 hf
                    intro j121 J121 hf
                    refine lv_icmp_ge (tgt := 120) hx hb dX10_compare_103 (by decide) (fun c18 => ?_) (fun c18 => ?_)
                    · have hf := xt hf c18
                      refine lv_iconst (v := (-1)) hx hb dX10_compare_120 (by decide) ?_
                      exact J121 _ hf _ _ _ (lv_sub hl [1, 2, 3, 4, 0] rfl) hW
                    · have hf := xf hf c18
                      refine lv_aload_n hx hb dX10_compare_106 rfl (lv_at hl 1 rfl) ?_
                      refine x_getr (k := 0) (k' := 14) E hC hW fl_X10_57 (by decide) rfl rfl dX10_compare_107 ?_
                      refine lv_bipush (v := 6) hx hb dX10_compare_110 (by decide) ?_
                      refine lv_iload_n hx hb dX10_compare_112 rfl (lv_at hl 3 rfl) ?_
                      refine lv_imul hx hb dX10_compare_113 ?_
                      refine lv_iload_n hx hb dX10_compare_114 rfl (lv_at hl 4 rfl) ?_
                      refine lv_iadd hx hb dX10_compare_115 ?_
                      obtain ⟨hg17, hf⟩ := gdS hf
                      refine x_iald (k := 14) E hC hW (by decide) rfl (inbS hg17) dX10_compare_116 ?_
                      refine lv_goto (tgt := 121) hx hb dX10_compare_117 (by decide) ?_
                      exact J121 _ hf _ _ _ (lv_sub hl [1, 2, 3, 4, 0] rfl) hW
                  intro j94 J94 hf
                  refine lv_icmp_ge (tgt := 93) hx hb dX10_compare_76 (by decide) (fun c20 => ?_) (fun c20 => ?_)
                  · have hf := xt hf c20
                    refine lv_iconst (v := (-1)) hx hb dX10_compare_93 (by decide) ?_
                    exact J94 _ hf _ _ _ (lv_sub hl [0, 1, 2, 3] rfl) hW
                  · have hf := xf hf c20
                    refine lv_aload_n hx hb dX10_compare_79 rfl (lv_at hl 0 rfl) ?_
                    refine x_getr (k := 0) (k' := 14) E hC hW fl_X10_57 (by decide) rfl rfl dX10_compare_80 ?_
                    refine lv_bipush (v := 6) hx hb dX10_compare_83 (by decide) ?_
                    refine lv_iload_n hx hb dX10_compare_85 rfl (lv_at hl 1 rfl) ?_
                    refine lv_imul hx hb dX10_compare_86 ?_
                    refine lv_iload_n hx hb dX10_compare_87 rfl (lv_at hl 3 rfl) ?_
                    refine lv_iadd hx hb dX10_compare_88 ?_
                    obtain ⟨hg19, hf⟩ := gdS hf
                    refine x_iald (k := 14) E hC hW (by decide) rfl (inbS hg19) dX10_compare_89 ?_
                    refine lv_goto (tgt := 94) hx hb dX10_compare_90 (by decide) ?_
                    exact J94 _ hf _ _ _ (lv_sub hl [0, 1, 2, 3] rfl) hW
            · have hf := xf hf c22
              refine lv_bipush (v := (-13)) hx hb dX10_compare_58 (by decide) ?_
              exact x_iretP E hC hW hr hlk hQ dX10_compare_60 hf
        · have hf := xt hf c24
          refine lv_bipush (v := (-11)) hx hb dX10_compare_35 (by decide) ?_
          exact x_iretP E hC hW hr hlk hQ dX10_compare_37 hf
    · have hf := xt hf c26
      refine lv_bipush (v := (-2)) hx hb dX10_compare_14 (by decide) ?_
      exact x_iretP E hC hW hr hlk hQ dX10_compare_16 hf
set_option maxRecDepth 100000 in
set_option maxHeartbeats 4000000 in
theorem c_X10_sheet {l : Launch} {D : va_G} {cy : Nat → ClassId} {L : Nat → Nat} {bA : Nat} (a1 : Int32) (a2 : Int32) (a3 : Int32) (r : Int32) (S S' : Sg)  (hf : f_X10_sheet a1 a2 a3 S = some (r, S')) : MetX l D cy L shM 20 bA yX10_sheet cX10_sheet 5 (some .int) 2 45 [.ref (L 0), .int a1, .int a2, .int a3] (some (.int r)) S S' := by
  refine x_met (own := RX10) (by decide) rfl (Nat.le_of_ble_eq_true rfl) ?_
  intro p e s m below meth c ls E hC hr hlk hl hW
  generalize hargs : ([.ref (L 0), .int a1, .int a2, .int a3] : List Value).toArray = args at E ⊢
  generalize hQ : MQ below (xQ D cy L shM 20 bA (some (.int r)) S') args s 0 0 (AL L 20) = Q
  have hl : lv_has ls 5 [(0, .ref (L 0)), (1, .int a1), (2, .int a2), (3, .int a3)] := hl
  have hx := E.1
  have hb := E.2.1
  have hts := E.2.2.2.2
  unfold f_X10_sheet at hf
  refine lv_iload_n hx hb dX10_sheet_0 rfl (lv_at hl 1 rfl) ?_
  obtain ⟨r1, g2, hf⟩ := cl1S hf
  refine x_Sr (As := [.int a1]) (rest := []) E hC hW hl.1 (c_X10_isSheet a1 r1 S g2) cs_X10_187 rfl rfl ⟨Nat.le_of_ble_eq_true rfl, Nat.le_of_ble_eq_true rfl⟩ ⟨Nat.le_refl _, Nat.le_refl _⟩ (Nat.le_of_ble_eq_true rfl) dX10_sheet_1 (fun H locs hW => ?_)
  refine lv_if_eq (tgt := 29) hx hb dX10_sheet_4 (by decide) (fun c22 => ?_) (fun c22 => ?_)
  · have hf := xt hf c22
    refine lv_bipush (v := (-2)) hx hb dX10_sheet_29 (by decide) ?_
    exact x_iretI E hC hW hr hlk hQ dX10_sheet_31 hf
  · have hf := xf hf c22
    refine lv_iload_n hx hb dX10_sheet_7 rfl (lv_at hl 2 rfl) ?_
    refine lv_i2l hx hb dX10_sheet_8 rfl ?_
    refine lv_ldc2 hx hb E.2.2.2.1 (hts _ ww_1136) dX10_sheet_9 ?_
    refine lv_lconst (v := 1) hx hb dX10_sheet_12 (by decide) ?_
    obtain ⟨r3, g4, hf⟩ := cl1S hf
    refine x_Sr (As := [.long a2.toInt64, .long (-1 : Int64), .long (1 : Int64)]) (rest := []) E hC hW hl.1 (c_X10_in a2.toInt64 (-1 : Int64) (1 : Int64) r3 S g4) cs_X10_78 rfl rfl ⟨Nat.le_of_ble_eq_true rfl, Nat.le_of_ble_eq_true rfl⟩ ⟨Nat.le_refl _, Nat.le_refl _⟩ (Nat.le_of_ble_eq_true rfl) dX10_sheet_13 (fun H locs hW => ?_)
    refine lv_if_eq (tgt := 29) hx hb dX10_sheet_16 (by decide) (fun c21 => ?_) (fun c21 => ?_)
    · have hf := xt hf c21
      refine lv_bipush (v := (-2)) hx hb dX10_sheet_29 (by decide) ?_
      exact x_iretI E hC hW hr hlk hQ dX10_sheet_31 hf
    · have hf := xf hf c21
      refine lv_iload_n hx hb dX10_sheet_19 rfl (lv_at hl 2 rfl) ?_
      refine jnS hf (fun (j : Option (Int32 × Sg)) => (j) = some (r, S') → ∀ (H : Heap) (locs : List Loc) (ls : Array Slot), lv_has ls 5 [(0, .ref (L 0)), (1, .int a1), (2, .int a2), (3, .int a3)] → Wd D cy L shM 20 S s H locs → W p l e (rmk 2 45) s m args below meth c H locs 0 0 Q (F0 m 32 ls [])) ?_ ?_
      · intro hf H locs ls hl hW
        try dsimp only at hf
        refine lv_iload_n hx hb dX10_sheet_32 rfl (lv_at hl 2 rfl) ?_
        refine jnS hf (fun (j : Option (Int32 × Sg)) => (j) = some (r, S') → ∀ (H : Heap) (locs : List Loc) (ls : Array Slot), lv_has ls 5 [(0, .ref (L 0)), (1, .int a1), (2, .int a2), (3, .int a3)] → Wd D cy L shM 20 S s H locs → W p l e (rmk 2 45) s m args below meth c H locs 0 0 Q (F0 m 43 ls [])) ?_ ?_
        · intro hf H locs ls hl hW
          try dsimp only at hf
          refine lv_aload_n hx hb dX10_sheet_43 rfl (lv_at hl 0 rfl) ?_
          refine x_getr (k := 0) (k' := 15) E hC hW fl_X10_60 (by decide) rfl rfl dX10_sheet_44 ?_
          refine lv_iload_n hx hb dX10_sheet_47 rfl (lv_at hl 1 rfl) ?_
          refine lv_iload_n hx hb dX10_sheet_48 rfl (lv_at hl 2 rfl) ?_
          obtain ⟨hg5, hf⟩ := gdS hf
          refine x_iast (k := 15) E hC hW (by decide) rfl (inbS hg5) dX10_sheet_49 (fun H locs hW => ?_)
          obtain ⟨S6, eS6⟩ : ∃ z : Sg, z = si S 15 (ix a1) a2 := ⟨_, rfl⟩
          have hW : Wd D cy L shM 20 S6 s H locs := by rw [eS6]; exact hW
          have hf := bvS hf eS6
          refine lv_aload_n hx hb dX10_sheet_50 rfl (lv_at hl 0 rfl) ?_
          refine x_getr (k := 0) (k' := 16) E hC hW fl_X10_63 (by decide) rfl rfl dX10_sheet_51 ?_
          refine lv_iload_n hx hb dX10_sheet_54 rfl (lv_at hl 1 rfl) ?_
          refine lv_iload_n hx hb dX10_sheet_55 rfl (lv_at hl 2 rfl) ?_
          refine jnS hf (fun (j : Int32 → Option (Int32 × Sg)) => ∀ (x7 : Int32), (j x7) = some (r, S') → ∀ (H : Heap) (locs : List Loc) (ls : Array Slot), lv_has ls 5 [(0, .ref (L 0)), (1, .int a1)] → Wd D cy L shM 20 S6 s H locs → W p l e (rmk 2 45) s m args below meth c H locs 0 0 Q (F0 m 64 ls [.int x7, .int a1, .ref (L 16)])) ?_ ?_
          · intro x7 hf H locs ls hl hW
            try dsimp only at hf
            obtain ⟨hg8, hf⟩ := gdS hf
            refine x_iast (k := 16) E hC hW (by decide) rfl (inbS hg8) dX10_sheet_64 (fun H locs hW => ?_)
            obtain ⟨S9, eS9⟩ : ∃ z : Sg, z = si S6 16 (ix a1) x7 := ⟨_, rfl⟩
            have hW : Wd D cy L shM 20 S9 s H locs := by rw [eS9]; exact hW
            have hf := bvS hf eS9
            refine lv_iconst (v := 0) hx hb dX10_sheet_65 (by decide) ?_
            refine lv_istore (lv' := [(4, .int (0 : Int32)), (0, .ref (L 0)), (1, .int a1)]) hx hb dX10_sheet_66 hl (by decide) rfl (fun ls hl => ?_)
            refine wp2S (fun (v10 : Int32) (S11 : Sg) => ∀ (H : Heap) (locs : List Loc) (ls : Array Slot), lv_has ls 5 [(0, .ref (L 0)), (1, .int a1), (4, .int v10)] → Wd D cy L shM 20 S11 s H locs → W p l e (rmk 2 45) s m args below meth c H locs 0 0 Q (F0 m 68 ls [])) ?_ hf _ _ _ (lv_sub hl [1, 2, 0] rfl) hW
            · intro self68 ih68 v10 S11 hf H locs ls hl hW
              unfold X10_sheet_L68 at hf
              refine lv_iload hx hb dX10_sheet_68 (lv_at hl 2 rfl) ?_
              refine lv_bipush (v := 30) hx hb dX10_sheet_70 (by decide) ?_
              refine lv_icmp_ge (tgt := 94) hx hb dX10_sheet_72 (by decide) (fun c15 => ?_) (fun c15 => ?_)
              · have hf := xt hf c15
                refine lv_iconst (v := 1) hx hb dX10_sheet_94 (by decide) ?_
                exact x_iretI E hC hW hr hlk hQ dX10_sheet_95 hf
              · have hf := xf hf c15
                refine lv_aload_n hx hb dX10_sheet_75 rfl (lv_at hl 0 rfl) ?_
                refine x_getr (k := 0) (k' := 17) E hC hW fl_X10_66 (by decide) rfl rfl dX10_sheet_76 ?_
                refine lv_bipush (v := 30) hx hb dX10_sheet_79 (by decide) ?_
                refine lv_iload_n hx hb dX10_sheet_81 rfl (lv_at hl 1 rfl) ?_
                refine lv_imul hx hb dX10_sheet_82 ?_
                refine lv_iload hx hb dX10_sheet_83 (lv_at hl 2 rfl) ?_
                refine lv_iadd hx hb dX10_sheet_85 ?_
                refine lv_lconst (v := 0) hx hb dX10_sheet_86 (by decide) ?_
                obtain ⟨hg12, hf⟩ := gdS hf
                refine x_last (k := 17) E hC hW (by decide) rfl (inbS hg12) dX10_sheet_87 (fun H locs hW => ?_)
                obtain ⟨S13, eS13⟩ : ∃ z : Sg, z = sl S11 17 (ix (((30 : Int32) * a1) + v10)) (0 : Int64) := ⟨_, rfl⟩
                have hW : Wd D cy L shM 20 S13 s H locs := by rw [eS13]; exact hW
                have hf := bvS hf eS13
                obtain ⟨x14, ex14⟩ : ∃ z : Int32, z = (v10 + 1) := ⟨_, rfl⟩
                have hf := bvS hf ex14
                refine lv_iinc (v := x14) (lv' := [(4, .int x14), (0, .ref (L 0)), (1, .int a1)]) hx hb dX10_sheet_88 hl (k := 2) rfl (by rw [ex14]; rfl) (by decide) rfl (fun ls hl => ?_)
                refine lv_goto (tgt := 68) hx hb dX10_sheet_91 (by decide) ?_
                exact ih68 _ _ hf _ _ _ (lv_sub hl [1, 2, 0] rfl) hW
          intro j64 J64 hf
          refine lv_if_ge (tgt := 63) hx hb dX10_sheet_56 (by decide) (fun c16 => ?_) (fun c16 => ?_)
          · have hf := xt hf c16
            refine lv_iload_n hx hb dX10_sheet_63 rfl (lv_at hl 3 rfl) ?_
            exact J64 _ hf _ _ _ (lv_sub hl [0, 1] rfl) hW
          · have hf := xf hf c16
            refine lv_iconst (v := 0) hx hb dX10_sheet_59 (by decide) ?_
            refine lv_goto (tgt := 64) hx hb dX10_sheet_60 (by decide) ?_
            exact J64 _ hf _ _ _ (lv_sub hl [0, 1] rfl) hW
        intro j43 J43 hf
        refine lv_if_lt (tgt := 43) hx hb dX10_sheet_33 (by decide) (fun c18 => ?_) (fun c18 => ?_)
        · have hf := xt hf c18
          exact J43 hf _ _ _ (lv_sub hl [0, 1, 2, 3] rfl) hW
        · have hf := xf hf c18
          refine lv_iload_n hx hb dX10_sheet_36 rfl (lv_at hl 3 rfl) ?_
          refine lv_if_ge (tgt := 43) hx hb dX10_sheet_37 (by decide) (fun c17 => ?_) (fun c17 => ?_)
          · have hf := xt hf c17
            exact J43 hf _ _ _ (lv_sub hl [0, 1, 2, 3] rfl) hW
          · have hf := xf hf c17
            refine lv_bipush (v := (-14)) hx hb dX10_sheet_40 (by decide) ?_
            exact x_iretI E hC hW hr hlk hQ dX10_sheet_42 hf
      intro j32 J32 hf
      refine lv_if_lt (tgt := 32) hx hb dX10_sheet_20 (by decide) (fun c20 => ?_) (fun c20 => ?_)
      · have hf := xt hf c20
        exact J32 hf _ _ _ (lv_sub hl [0, 1, 2, 3] rfl) hW
      · have hf := xf hf c20
        refine lv_iload_n hx hb dX10_sheet_23 rfl (lv_at hl 3 rfl) ?_
        refine lv_bipush (v := 30) hx hb dX10_sheet_24 (by decide) ?_
        refine lv_icmp_le (tgt := 32) hx hb dX10_sheet_26 (by decide) (fun c19 => ?_) (fun c19 => ?_)
        · have hf := xt hf c19
          exact J32 hf _ _ _ (lv_sub hl [0, 1, 2, 3] rfl) hW
        · have hf := xf hf c19
          refine lv_bipush (v := (-2)) hx hb dX10_sheet_29 (by decide) ?_
          exact x_iretI E hC hW hr hlk hQ dX10_sheet_31 hf
set_option maxRecDepth 100000 in
set_option maxHeartbeats 4000000 in
theorem c_X10_wrong {l : Launch} {D : va_G} {cy : Nat → ClassId} {L : Nat → Nat} {bA : Nat} (a1 : Int32) (a2 : Int32) (r : Int32) (S : Sg)  (hf : f_X10_wrong a1 a2 S = some r) : MetX l D cy L shM 20 bA yX10_wrong cX10_wrong 3 (some .int) 2 45 [.ref (L 0), .int a1, .int a2] (some (.int r)) S S := by
  refine x_met (own := RX10) (by decide) rfl (Nat.le_of_ble_eq_true rfl) ?_
  intro p e s m below meth c ls E hC hr hlk hl hW
  generalize hargs : ([.ref (L 0), .int a1, .int a2] : List Value).toArray = args at E ⊢
  generalize hQ : MQ below (xQ D cy L shM 20 bA (some (.int r)) S) args s 0 0 (AL L 20) = Q
  have hl : lv_has ls 3 [(0, .ref (L 0)), (1, .int a1), (2, .int a2)] := hl
  have hx := E.1
  have hb := E.2.1
  have hts := E.2.2.2.2
  unfold f_X10_wrong at hf
  refine lv_iload_n hx hb dX10_wrong_0 rfl (lv_at hl 1 rfl) ?_
  obtain ⟨r1, g2, hf⟩ := cl1S hf
  refine x_Sr (As := [.int a1]) (rest := []) E hC hW hl.1 (c_X10_isSheet a1 r1 S g2) cs_X10_187 rfl rfl ⟨Nat.le_of_ble_eq_true rfl, Nat.le_of_ble_eq_true rfl⟩ ⟨Nat.le_refl _, Nat.le_refl _⟩ (Nat.le_of_ble_eq_true rfl) dX10_wrong_1 (fun H locs hW => ?_)
  refine lv_if_ne (tgt := 12) hx hb dX10_wrong_4 (by decide) (fun c9 => ?_) (fun c9 => ?_)
  · have hf := xf hf c9
    refine lv_aload_n hx hb dX10_wrong_12 rfl (lv_at hl 0 rfl) ?_
    refine x_getr (k := 0) (k' := 15) E hC hW fl_X10_60 (by decide) rfl rfl dX10_wrong_13 ?_
    refine lv_iload_n hx hb dX10_wrong_16 rfl (lv_at hl 1 rfl) ?_
    obtain ⟨hg3, hf⟩ := gdS hf
    refine x_iald (k := 15) E hC hW (by decide) rfl (inbS hg3) dX10_wrong_17 ?_
    refine lv_if_ge (tgt := 26) hx hb dX10_wrong_18 (by decide) (fun c8 => ?_) (fun c8 => ?_)
    · have hf := xt hf c8
      refine lv_iload_n hx hb dX10_wrong_26 rfl (lv_at hl 2 rfl) ?_
      refine lv_i2l hx hb dX10_wrong_27 rfl ?_
      refine lv_lconst (v := 0) hx hb dX10_wrong_28 (by decide) ?_
      refine lv_aload_n hx hb dX10_wrong_29 rfl (lv_at hl 0 rfl) ?_
      refine x_getr (k := 0) (k' := 16) E hC hW fl_X10_63 (by decide) rfl rfl dX10_wrong_30 ?_
      refine lv_iload_n hx hb dX10_wrong_33 rfl (lv_at hl 1 rfl) ?_
      obtain ⟨hg4, hf⟩ := gdS hf
      refine x_iald (k := 16) E hC hW (by decide) rfl (inbS hg4) dX10_wrong_34 ?_
      refine lv_iconst (v := 1) hx hb dX10_wrong_35 (by decide) ?_
      refine lv_isub hx hb dX10_wrong_36 ?_
      refine lv_i2l hx hb dX10_wrong_37 rfl ?_
      obtain ⟨r5, g6, hf⟩ := cl1S hf
      refine x_Sr (As := [.long a2.toInt64, .long (0 : Int64), .long (((S.1 16 (ix a1)) - (1 : Int32)).toInt64)]) (rest := []) E hC hW hl.1 (c_X10_in a2.toInt64 (0 : Int64) (((S.1 16 (ix a1)) - (1 : Int32)).toInt64) r5 S g6) cs_X10_78 rfl rfl ⟨Nat.le_of_ble_eq_true rfl, Nat.le_of_ble_eq_true rfl⟩ ⟨Nat.le_refl _, Nat.le_refl _⟩ (Nat.le_of_ble_eq_true rfl) dX10_wrong_38 (fun H locs hW => ?_)
      refine lv_if_eq (tgt := 48) hx hb dX10_wrong_41 (by decide) (fun c7 => ?_) (fun c7 => ?_)
      · have hf := xt hf c7
        refine lv_bipush (v := (-12)) hx hb dX10_wrong_48 (by decide) ?_
        exact x_iretP E hC hW hr hlk hQ dX10_wrong_50 hf
      · have hf := xf hf c7
        refine lv_iconst (v := 0) hx hb dX10_wrong_44 (by decide) ?_
        refine lv_goto (tgt := 50) hx hb dX10_wrong_45 (by decide) ?_
        exact x_iretP E hC hW hr hlk hQ dX10_wrong_50 hf
    · have hf := xf hf c8
      refine lv_bipush (v := (-11)) hx hb dX10_wrong_21 (by decide) ?_
      refine lv_goto (tgt := 50) hx hb dX10_wrong_23 (by decide) ?_
      exact x_iretP E hC hW hr hlk hQ dX10_wrong_50 hf
  · have hf := xt hf c9
    refine lv_bipush (v := (-2)) hx hb dX10_wrong_7 (by decide) ?_
    refine lv_goto (tgt := 50) hx hb dX10_wrong_9 (by decide) ?_
    exact x_iretP E hC hW hr hlk hQ dX10_wrong_50 hf
set_option maxRecDepth 100000 in
set_option maxHeartbeats 4000000 in
theorem c_X10_cell {l : Launch} {D : va_G} {cy : Nat → ClassId} {L : Nat → Nat} {bA : Nat} (a1 : Int32) (a2 : Int32) (a3 : Int64) (r : Int32) (S S' : Sg)  (hf : f_X10_cell a1 a2 a3 S = some (r, S')) : MetX l D cy L shM 20 bA yX10_cell cX10_cell 6 (some .int) 3 67 [.ref (L 0), .int a1, .int a2, .long a3] (some (.int r)) S S' := by
  refine x_met (own := RX10) (by decide) rfl (Nat.le_of_ble_eq_true rfl) ?_
  intro p e s m below meth c ls E hC hr hlk hl hW
  generalize hargs : ([.ref (L 0), .int a1, .int a2, .long a3] : List Value).toArray = args at E ⊢
  generalize hQ : MQ below (xQ D cy L shM 20 bA (some (.int r)) S') args s 0 0 (AL L 20) = Q
  have hl : lv_has ls 6 [(0, .ref (L 0)), (1, .int a1), (2, .int a2), (3, .long a3)] := hl
  have hx := E.1
  have hb := E.2.1
  have hts := E.2.2.2.2
  unfold f_X10_cell at hf
  refine lv_aload_n hx hb dX10_cell_0 rfl (lv_at hl 0 rfl) ?_
  refine lv_iload_n hx hb dX10_cell_1 rfl (lv_at hl 1 rfl) ?_
  refine lv_iload_n hx hb dX10_cell_2 rfl (lv_at hl 2 rfl) ?_
  obtain ⟨r1, g2, hf⟩ := cl1S hf
  refine x_Vr (k := 0) (As := [.int a1, .int a2]) (rest := []) E hC hW hl.1 (c_X10_wrong a1 a2 r1 S g2) cv_X10_271 rfl (by decide) rfl rfl rfl ⟨Nat.le_of_ble_eq_true rfl, Nat.le_of_ble_eq_true rfl⟩ ⟨Nat.le_refl _, Nat.le_refl _⟩ (Nat.le_of_ble_eq_true rfl) dX10_cell_3 (fun H locs hW => ?_)
  refine lv_istore (lv' := [(5, .int r1), (0, .ref (L 0)), (1, .int a1), (2, .int a2), (3, .long a3)]) hx hb dX10_cell_6 hl (by decide) rfl (fun ls hl => ?_)
  refine lv_iload hx hb dX10_cell_8 (lv_at hl 0 rfl) ?_
  refine lv_if_eq (tgt := 16) hx hb dX10_cell_10 (by decide) (fun c8 => ?_) (fun c8 => ?_)
  · have hf := xt hf c8
    refine lv_aload_n hx hb dX10_cell_16 rfl (lv_at hl 1 rfl) ?_
    refine x_getr (k := 0) (k' := 15) E hC hW fl_X10_60 (by decide) rfl rfl dX10_cell_17 ?_
    refine lv_iload_n hx hb dX10_cell_20 rfl (lv_at hl 2 rfl) ?_
    obtain ⟨hg3, hf⟩ := gdS hf
    refine x_iald (k := 15) E hC hW (by decide) rfl (inbS hg3) dX10_cell_21 ?_
    refine jnS hf (fun (j : Option (Int32 × Sg)) => (j) = some (r, S') → ∀ (H : Heap) (locs : List Loc) (ls : Array Slot), lv_has ls 6 [(0, .ref (L 0)), (1, .int a1), (2, .int a2), (3, .long a3)] → Wd D cy L shM 20 S s H locs → W p l e (rmk 3 67) s m args below meth c H locs 0 0 Q (F0 m 36 ls [])) ?_ ?_
    · intro hf H locs ls hl hW
      try dsimp only at hf
      refine lv_aload_n hx hb dX10_cell_36 rfl (lv_at hl 0 rfl) ?_
      refine x_getr (k := 0) (k' := 17) E hC hW fl_X10_66 (by decide) rfl rfl dX10_cell_37 ?_
      refine lv_bipush (v := 30) hx hb dX10_cell_40 (by decide) ?_
      refine lv_iload_n hx hb dX10_cell_42 rfl (lv_at hl 1 rfl) ?_
      refine lv_imul hx hb dX10_cell_43 ?_
      refine lv_iload_n hx hb dX10_cell_44 rfl (lv_at hl 2 rfl) ?_
      refine lv_iadd hx hb dX10_cell_45 ?_
      refine lv_lload_n hx hb dX10_cell_46 rfl (lv_at hl 3 rfl) ?_
      obtain ⟨hg4, hf⟩ := gdS hf
      refine x_last (k := 17) E hC hW (by decide) rfl (inbS hg4) dX10_cell_47 (fun H locs hW => ?_)
      obtain ⟨S5, eS5⟩ : ∃ z : Sg, z = sl S 17 (ix (((30 : Int32) * a1) + a2)) a3 := ⟨_, rfl⟩
      have hW : Wd D cy L shM 20 S5 s H locs := by rw [eS5]; exact hW
      have hf := bvS hf eS5
      refine lv_iconst (v := 1) hx hb dX10_cell_48 (by decide) ?_
      exact x_iretI E hC hW hr hlk hQ dX10_cell_49 hf
    intro j36 J36 hf
    refine lv_if_ne (tgt := 36) hx hb dX10_cell_22 (by decide) (fun c7 => ?_) (fun c7 => ?_)
    · have hf := xf hf c7
      exact J36 hf _ _ _ (lv_sub hl [1, 2, 3, 4] rfl) hW
    · have hf := xt hf c7
      refine lv_lload_n hx hb dX10_cell_25 rfl (lv_at hl 4 rfl) ?_
      refine lv_lload_n hx hb dX10_cell_26 rfl (lv_at hl 4 rfl) ?_
      refine lv_l2i hx hb dX10_cell_27 rfl ?_
      refine lv_i2l hx hb dX10_cell_28 rfl ?_
      refine W.lcmp hx hb dX10_cell_29 ?_
      refine lv_if_eq (tgt := 36) hx hb dX10_cell_30 (by decide) (fun c6 => ?_) (fun c6 => ?_)
      · have hf := xt hf c6
        exact J36 hf _ _ _ (lv_sub hl [1, 2, 3, 4] rfl) hW
      · have hf := xf hf c6
        refine lv_bipush (v := (-5)) hx hb dX10_cell_33 (by decide) ?_
        exact x_iretI E hC hW hr hlk hQ dX10_cell_35 hf
  · have hf := xf hf c8
    refine lv_iload hx hb dX10_cell_13 (lv_at hl 0 rfl) ?_
    exact x_iretI E hC hW hr hlk hQ dX10_cell_15 hf
set_option maxRecDepth 100000 in
set_option maxHeartbeats 4000000 in
theorem c_X10_read {l : Launch} {D : va_G} {cy : Nat → ClassId} {L : Nat → Nat} {bA : Nat} (a1 : Int32) (a2 : Int32) (r : Int64) (S : Sg)  (hf : f_X10_read a1 a2 S = some r) : MetX l D cy L shM 20 bA yX10_read cX10_read 4 (some .long) 3 67 [.ref (L 0), .int a1, .int a2] (some (.long r)) S S := by
  refine x_met (own := RX10) (by decide) rfl (Nat.le_of_ble_eq_true rfl) ?_
  intro p e s m below meth c ls E hC hr hlk hl hW
  generalize hargs : ([.ref (L 0), .int a1, .int a2] : List Value).toArray = args at E ⊢
  generalize hQ : MQ below (xQ D cy L shM 20 bA (some (.long r)) S) args s 0 0 (AL L 20) = Q
  have hl : lv_has ls 4 [(0, .ref (L 0)), (1, .int a1), (2, .int a2)] := hl
  have hx := E.1
  have hb := E.2.1
  have hts := E.2.2.2.2
  unfold f_X10_read at hf
  refine lv_aload_n hx hb dX10_read_0 rfl (lv_at hl 0 rfl) ?_
  refine lv_iload_n hx hb dX10_read_1 rfl (lv_at hl 1 rfl) ?_
  refine lv_iload_n hx hb dX10_read_2 rfl (lv_at hl 2 rfl) ?_
  obtain ⟨r1, g2, hf⟩ := cl1S hf
  refine x_Vr (k := 0) (As := [.int a1, .int a2]) (rest := []) E hC hW hl.1 (c_X10_wrong a1 a2 r1 S g2) cv_X10_271 rfl (by decide) rfl rfl rfl ⟨Nat.le_of_ble_eq_true rfl, Nat.le_of_ble_eq_true rfl⟩ ⟨Nat.le_refl _, Nat.le_refl _⟩ (Nat.le_of_ble_eq_true rfl) dX10_read_3 (fun H locs hW => ?_)
  refine lv_istore_n (lv' := [(3, .int r1), (0, .ref (L 0)), (1, .int a1), (2, .int a2)]) hx hb dX10_read_6 rfl hl (by decide) rfl (fun ls hl => ?_)
  refine lv_iload_n hx hb dX10_read_7 rfl (lv_at hl 0 rfl) ?_
  refine lv_if_eq (tgt := 16) hx hb dX10_read_8 (by decide) (fun c4 => ?_) (fun c4 => ?_)
  · have hf := xt hf c4
    refine lv_aload_n hx hb dX10_read_16 rfl (lv_at hl 1 rfl) ?_
    refine x_getr (k := 0) (k' := 17) E hC hW fl_X10_66 (by decide) rfl rfl dX10_read_17 ?_
    refine lv_bipush (v := 30) hx hb dX10_read_20 (by decide) ?_
    refine lv_iload_n hx hb dX10_read_22 rfl (lv_at hl 2 rfl) ?_
    refine lv_imul hx hb dX10_read_23 ?_
    refine lv_iload_n hx hb dX10_read_24 rfl (lv_at hl 3 rfl) ?_
    refine lv_iadd hx hb dX10_read_25 ?_
    obtain ⟨hg3, hf⟩ := gdS hf
    refine x_lald (k := 17) E hC hW (by decide) rfl (inbS hg3) dX10_read_26 ?_
    exact x_lretP E hC hW hr hlk hQ dX10_read_27 hf
  · have hf := xf hf c4
    refine lv_iload_n hx hb dX10_read_11 rfl (lv_at hl 0 rfl) ?_
    refine lv_i2l hx hb dX10_read_12 rfl ?_
    refine lv_goto (tgt := 27) hx hb dX10_read_13 (by decide) ?_
    exact x_lretP E hC hW hr hlk hQ dX10_read_27 hf
set_option maxRecDepth 100000 in
set_option maxHeartbeats 4000000 in
theorem c_X10_load {l : Launch} {D : va_G} {cy : Nat → ClassId} {L : Nat → Nat} {bA : Nat} (a1 : Int32) (a2 : Int32) (a3 : Int32) (r : Int32) (S S' : Sg)  (hf : f_X10_load a1 a2 a3 S = some (r, S')) : MetX l D cy L shM 20 bA yX10_load cX10_load 5 (some .int) 2 46 [.ref (L 0), .int a1, .int a2, .int a3] (some (.int r)) S S' := by
  refine x_met (own := RX10) (by decide) rfl (Nat.le_of_ble_eq_true rfl) ?_
  intro p e s m below meth c ls E hC hr hlk hl hW
  generalize hargs : ([.ref (L 0), .int a1, .int a2, .int a3] : List Value).toArray = args at E ⊢
  generalize hQ : MQ below (xQ D cy L shM 20 bA (some (.int r)) S') args s 0 0 (AL L 20) = Q
  have hl : lv_has ls 5 [(0, .ref (L 0)), (1, .int a1), (2, .int a2), (3, .int a3)] := hl
  have hx := E.1
  have hb := E.2.1
  have hts := E.2.2.2.2
  unfold f_X10_load at hf
  refine lv_iload_n hx hb dX10_load_0 rfl (lv_at hl 1 rfl) ?_
  obtain ⟨r1, g2, hf⟩ := cl1S hf
  refine x_Sr (As := [.int a1]) (rest := []) E hC hW hl.1 (c_X10_isSheet a1 r1 S g2) cs_X10_187 rfl rfl ⟨Nat.le_of_ble_eq_true rfl, Nat.le_of_ble_eq_true rfl⟩ ⟨Nat.le_refl _, Nat.le_refl _⟩ (Nat.le_of_ble_eq_true rfl) dX10_load_1 (fun H locs hW => ?_)
  refine lv_if_eq (tgt := 15) hx hb dX10_load_4 (by decide) (fun c19 => ?_) (fun c19 => ?_)
  · have hf := xt hf c19
    refine lv_bipush (v := (-2)) hx hb dX10_load_15 (by decide) ?_
    exact x_iretI E hC hW hr hlk hQ dX10_load_17 hf
  · have hf := xf hf c19
    refine lv_aload_n hx hb dX10_load_7 rfl (lv_at hl 0 rfl) ?_
    refine lv_iload_n hx hb dX10_load_8 rfl (lv_at hl 2 rfl) ?_
    obtain ⟨r3, g4, hf⟩ := cl1S hf
    refine x_Vr (k := 0) (As := [.int a2]) (rest := []) E hC hW hl.1 (c_X10_isPair a2 r3 S g4) cv_X10_104 rfl (by decide) rfl rfl rfl ⟨Nat.le_of_ble_eq_true rfl, Nat.le_of_ble_eq_true rfl⟩ ⟨Nat.le_refl _, Nat.le_refl _⟩ (Nat.le_of_ble_eq_true rfl) dX10_load_9 (fun H locs hW => ?_)
    refine lv_if_ne (tgt := 18) hx hb dX10_load_12 (by decide) (fun c18 => ?_) (fun c18 => ?_)
    · have hf := xf hf c18
      refine lv_aload_n hx hb dX10_load_18 rfl (lv_at hl 0 rfl) ?_
      refine x_getr (k := 0) (k' := 15) E hC hW fl_X10_60 (by decide) rfl rfl dX10_load_19 ?_
      refine lv_iload_n hx hb dX10_load_22 rfl (lv_at hl 1 rfl) ?_
      obtain ⟨hg5, hf⟩ := gdS hf
      refine x_iald (k := 15) E hC hW (by decide) rfl (inbS hg5) dX10_load_23 ?_
      refine lv_if_ge (tgt := 30) hx hb dX10_load_24 (by decide) (fun c17 => ?_) (fun c17 => ?_)
      · have hf := xt hf c17
        refine lv_iload_n hx hb dX10_load_30 rfl (lv_at hl 3 rfl) ?_
        refine lv_i2l hx hb dX10_load_31 rfl ?_
        refine lv_lconst (v := 0) hx hb dX10_load_32 (by decide) ?_
        refine lv_aload_n hx hb dX10_load_33 rfl (lv_at hl 0 rfl) ?_
        refine x_getr (k := 0) (k' := 16) E hC hW fl_X10_63 (by decide) rfl rfl dX10_load_34 ?_
        refine lv_iload_n hx hb dX10_load_37 rfl (lv_at hl 1 rfl) ?_
        obtain ⟨hg6, hf⟩ := gdS hf
        refine x_iald (k := 16) E hC hW (by decide) rfl (inbS hg6) dX10_load_38 ?_
        refine lv_bipush (v := 12) hx hb dX10_load_39 (by decide) ?_
        refine lv_isub hx hb dX10_load_41 ?_
        refine lv_i2l hx hb dX10_load_42 rfl ?_
        obtain ⟨r7, g8, hf⟩ := cl1S hf
        refine x_Sr (As := [.long a3.toInt64, .long (0 : Int64), .long (((S.1 16 (ix a1)) - (12 : Int32)).toInt64)]) (rest := []) E hC hW hl.1 (c_X10_in a3.toInt64 (0 : Int64) (((S.1 16 (ix a1)) - (12 : Int32)).toInt64) r7 S g8) cs_X10_78 rfl rfl ⟨Nat.le_of_ble_eq_true rfl, Nat.le_of_ble_eq_true rfl⟩ ⟨Nat.le_refl _, Nat.le_refl _⟩ (Nat.le_of_ble_eq_true rfl) dX10_load_43 (fun H locs hW => ?_)
        refine lv_if_ne (tgt := 52) hx hb dX10_load_46 (by decide) (fun c16 => ?_) (fun c16 => ?_)
        · have hf := xf hf c16
          refine lv_iconst (v := 0) hx hb dX10_load_52 (by decide) ?_
          refine lv_istore (lv' := [(4, .int (0 : Int32)), (0, .ref (L 0)), (1, .int a1), (2, .int a2), (3, .int a3)]) hx hb dX10_load_53 hl (by decide) rfl (fun ls hl => ?_)
          refine wp2S (fun (v9 : Int32) (S10 : Sg) => ∀ (H : Heap) (locs : List Loc) (ls : Array Slot), lv_has ls 5 [(0, .ref (L 0)), (1, .int a1), (2, .int a2), (3, .int a3), (4, .int v9)] → Wd D cy L shM 20 S10 s H locs → W p l e (rmk 2 46) s m args below meth c H locs 0 0 Q (F0 m 55 ls [])) ?_ hf _ _ _ (lv_sub hl [1, 2, 3, 4, 0] rfl) hW
          · intro self55 ih55 v9 S10 hf H locs ls hl hW
            unfold X10_load_L55 at hf
            refine lv_iload hx hb dX10_load_55 (lv_at hl 4 rfl) ?_
            refine lv_bipush (v := 12) hx hb dX10_load_57 (by decide) ?_
            refine lv_icmp_ge (tgt := 99) hx hb dX10_load_59 (by decide) (fun c15 => ?_) (fun c15 => ?_)
            · have hf := xt hf c15
              refine lv_bipush (v := 12) hx hb dX10_load_99 (by decide) ?_
              exact x_iretI E hC hW hr hlk hQ dX10_load_101 hf
            · have hf := xf hf c15
              refine lv_aload_n hx hb dX10_load_62 rfl (lv_at hl 0 rfl) ?_
              refine x_getr (k := 0) (k' := 4) E hC hW fl_X10_27 (by decide) rfl rfl dX10_load_63 ?_
              refine lv_bipush (v := 12) hx hb dX10_load_66 (by decide) ?_
              refine lv_iload_n hx hb dX10_load_68 rfl (lv_at hl 2 rfl) ?_
              refine lv_imul hx hb dX10_load_69 ?_
              refine lv_iload hx hb dX10_load_70 (lv_at hl 4 rfl) ?_
              refine lv_iadd hx hb dX10_load_72 ?_
              refine lv_aload_n hx hb dX10_load_73 rfl (lv_at hl 0 rfl) ?_
              refine x_getr (k := 0) (k' := 17) E hC hW fl_X10_66 (by decide) rfl rfl dX10_load_74 ?_
              refine lv_bipush (v := 30) hx hb dX10_load_77 (by decide) ?_
              refine lv_iload_n hx hb dX10_load_79 rfl (lv_at hl 1 rfl) ?_
              refine lv_imul hx hb dX10_load_80 ?_
              refine lv_iload_n hx hb dX10_load_81 rfl (lv_at hl 3 rfl) ?_
              refine lv_iadd hx hb dX10_load_82 ?_
              refine lv_iload hx hb dX10_load_83 (lv_at hl 4 rfl) ?_
              refine lv_iadd hx hb dX10_load_85 ?_
              obtain ⟨hg11, hf⟩ := gdS hf
              refine x_lald (k := 17) E hC hW (by decide) rfl (inbS hg11) dX10_load_86 ?_
              refine lv_ldc2 hx hb E.2.2.2.1 (hts _ ww_1266) dX10_load_87 ?_
              refine lv_lrem hx hb dX10_load_90 (by decide) ?_
              refine lv_l2i hx hb dX10_load_91 rfl ?_
              obtain ⟨hg12, hf⟩ := gdS hf
              refine x_iast (k := 4) E hC hW (by decide) rfl (inbS hg12) dX10_load_92 (fun H locs hW => ?_)
              obtain ⟨S13, eS13⟩ : ∃ z : Sg, z = si S10 4 (ix (((12 : Int32) * a2) + v9)) ((lrm (S10.2 17 (ix ((((30 : Int32) * a1) + a3) + v9))) (100 : Int64)).toInt32) := ⟨_, rfl⟩
              have hW : Wd D cy L shM 20 S13 s H locs := by rw [eS13]; exact hW
              have hf := bvS hf eS13
              obtain ⟨x14, ex14⟩ : ∃ z : Int32, z = (v9 + 1) := ⟨_, rfl⟩
              have hf := bvS hf ex14
              refine lv_iinc (v := x14) (lv' := [(4, .int x14), (0, .ref (L 0)), (1, .int a1), (2, .int a2), (3, .int a3)]) hx hb dX10_load_93 hl (k := 4) rfl (by rw [ex14]; rfl) (by decide) rfl (fun ls hl => ?_)
              refine lv_goto (tgt := 55) hx hb dX10_load_96 (by decide) ?_
              exact ih55 _ _ hf _ _ _ (lv_sub hl [1, 2, 3, 4, 0] rfl) hW
        · have hf := xt hf c16
          refine lv_bipush (v := (-12)) hx hb dX10_load_49 (by decide) ?_
          exact x_iretI E hC hW hr hlk hQ dX10_load_51 hf
      · have hf := xf hf c17
        refine lv_bipush (v := (-11)) hx hb dX10_load_27 (by decide) ?_
        exact x_iretI E hC hW hr hlk hQ dX10_load_29 hf
    · have hf := xt hf c18
      refine lv_bipush (v := (-2)) hx hb dX10_load_15 (by decide) ?_
      exact x_iretI E hC hW hr hlk hQ dX10_load_17 hf
set_option maxRecDepth 100000 in
set_option maxHeartbeats 4000000 in
theorem c_X10_image {l : Launch} {D : va_G} {cy : Nat → ClassId} {L : Nat → Nat} {bA : Nat}  (r : Int32) (S S' : Sg)  (hf : f_X10_image S = some (r, S')) : MetX l D cy L shM 20 bA yX10_image cX10_image 2 (some .int) 0 0 [.ref (L 0)] (some (.int r)) S S' := by
  refine x_met (own := RX10) (by decide) rfl (Nat.le_of_ble_eq_true rfl) ?_
  intro p e s m below meth c ls E hC hr hlk hl hW
  generalize hargs : ([.ref (L 0)] : List Value).toArray = args at E ⊢
  generalize hQ : MQ below (xQ D cy L shM 20 bA (some (.int r)) S') args s 0 0 (AL L 20) = Q
  have hl : lv_has ls 2 [(0, .ref (L 0))] := hl
  have hx := E.1
  have hb := E.2.1
  have hts := E.2.2.2.2
  unfold f_X10_image at hf
  refine lv_aload_n hx hb dX10_image_0 rfl (lv_at hl 0 rfl) ?_
  refine lv_iconst (v := 1) hx hb dX10_image_1 (by decide) ?_
  refine x_put (k := 0) E hC hW fl_X10_276 pl_10_24 (by decide) rfl rfl (isB_narrow (by decide)) (isB_fits (by decide)) dX10_image_2 (fun H locs hW => ?_)
  obtain ⟨S1, eS1⟩ : ∃ z : Sg, z = si S 0 24 (1 : Int32) := ⟨_, rfl⟩
  have hW : Wd D cy L shM 20 S1 s H locs := by rw [eS1]; exact hW
  have hf := bvS hf eS1
  refine lv_aload_n hx hb dX10_image_5 rfl (lv_at hl 0 rfl) ?_
  refine x_getr (k := 0) (k' := 18) E hC hW fl_X10_69 (by decide) rfl rfl dX10_image_6 ?_
  refine lv_iconst (v := 0) hx hb dX10_image_9 (by decide) ?_
  refine lv_aload_n hx hb dX10_image_10 rfl (lv_at hl 0 rfl) ?_
  refine x_geti (k := 0) E hC hW fl_X10_7 (by decide) rfl rfl dX10_image_11 ?_
  obtain ⟨hg2, hf⟩ := gdS hf
  refine x_iast (k := 18) E hC hW (by decide) rfl (inbS hg2) dX10_image_14 (fun H locs hW => ?_)
  obtain ⟨S3, eS3⟩ : ∃ z : Sg, z = si S1 18 (ix (0 : Int32)) (S1.1 0 0) := ⟨_, rfl⟩
  have hW : Wd D cy L shM 20 S3 s H locs := by rw [eS3]; exact hW
  have hf := bvS hf eS3
  refine lv_aload_n hx hb dX10_image_15 rfl (lv_at hl 0 rfl) ?_
  refine x_getr (k := 0) (k' := 18) E hC hW fl_X10_69 (by decide) rfl rfl dX10_image_16 ?_
  refine lv_iconst (v := 1) hx hb dX10_image_19 (by decide) ?_
  refine lv_aload_n hx hb dX10_image_20 rfl (lv_at hl 0 rfl) ?_
  refine x_geti (k := 0) E hC hW fl_X10_13 (by decide) rfl rfl dX10_image_21 ?_
  obtain ⟨hg4, hf⟩ := gdS hf
  refine x_iast (k := 18) E hC hW (by decide) rfl (inbS hg4) dX10_image_24 (fun H locs hW => ?_)
  obtain ⟨S5, eS5⟩ : ∃ z : Sg, z = si S3 18 (ix (1 : Int32)) (S3.1 0 1) := ⟨_, rfl⟩
  have hW : Wd D cy L shM 20 S5 s H locs := by rw [eS5]; exact hW
  have hf := bvS hf eS5
  refine lv_aload_n hx hb dX10_image_25 rfl (lv_at hl 0 rfl) ?_
  refine x_getr (k := 0) (k' := 18) E hC hW fl_X10_69 (by decide) rfl rfl dX10_image_26 ?_
  refine lv_iconst (v := 2) hx hb dX10_image_29 (by decide) ?_
  refine lv_aload_n hx hb dX10_image_30 rfl (lv_at hl 0 rfl) ?_
  refine x_geti (k := 0) E hC hW fl_X10_75 (by decide) rfl rfl dX10_image_31 ?_
  obtain ⟨hg6, hf⟩ := gdS hf
  refine x_iast (k := 18) E hC hW (by decide) rfl (inbS hg6) dX10_image_34 (fun H locs hW => ?_)
  obtain ⟨S7, eS7⟩ : ∃ z : Sg, z = si S5 18 (ix (2 : Int32)) (S5.1 0 2) := ⟨_, rfl⟩
  have hW : Wd D cy L shM 20 S7 s H locs := by rw [eS7]; exact hW
  have hf := bvS hf eS7
  refine lv_iconst (v := 0) hx hb dX10_image_35 (by decide) ?_
  refine lv_istore_n (lv' := [(1, .int (0 : Int32)), (0, .ref (L 0))]) hx hb dX10_image_36 rfl hl (by decide) rfl (fun ls hl => ?_)
  refine wp2K hf (fun (v24 : Int32) (S25 : Sg) => ∀ (H : Heap) (locs : List Loc) (ls : Array Slot), lv_has ls 2 [(0, .ref (L 0)), (1, .int v24)] → Wd D cy L shM 20 S25 s H locs → W p l e (rmk 0 0) s m args below meth c H locs 0 0 Q (F0 m 37 ls [])) (fun (j : Sg → Option (Int32 × Sg)) => ∀ (S8 : Sg), (j S8) = some (r, S') → ∀ (H : Heap) (locs : List Loc) (ls : Array Slot), lv_has ls 2 [(0, .ref (L 0))] → Wd D cy L shM 20 S8 s H locs → W p l e (rmk 0 0) s m args below meth c H locs 0 0 Q (F0 m 90 ls [])) ?_ ?_ _ _ _ (lv_sub hl [1, 0] rfl) hW
  · intro S8 hf H locs ls hl hW
    try dsimp only at hf
    refine lv_iconst (v := 0) hx hb dX10_image_90 (by decide) ?_
    refine lv_istore_n (lv' := [(1, .int (0 : Int32)), (0, .ref (L 0))]) hx hb dX10_image_91 rfl hl (by decide) rfl (fun ls hl => ?_)
    refine wp2K hf (fun (v17 : Int32) (S18 : Sg) => ∀ (H : Heap) (locs : List Loc) (ls : Array Slot), lv_has ls 2 [(0, .ref (L 0)), (1, .int v17)] → Wd D cy L shM 20 S18 s H locs → W p l e (rmk 0 0) s m args below meth c H locs 0 0 Q (F0 m 92 ls [])) (fun (j : Sg → Option (Int32 × Sg)) => ∀ (S9 : Sg), (j S9) = some (r, S') → ∀ (H : Heap) (locs : List Loc) (ls : Array Slot), lv_has ls 2 [(0, .ref (L 0))] → Wd D cy L shM 20 S9 s H locs → W p l e (rmk 0 0) s m args below meth c H locs 0 0 Q (F0 m 119 ls [])) ?_ ?_ _ _ _ (lv_sub hl [1, 0] rfl) hW
    · intro S9 hf H locs ls hl hW
      try dsimp only at hf
      refine lv_iconst (v := 0) hx hb dX10_image_119 (by decide) ?_
      refine lv_istore_n (lv' := [(1, .int (0 : Int32)), (0, .ref (L 0))]) hx hb dX10_image_120 rfl hl (by decide) rfl (fun ls hl => ?_)
      refine wp2S (fun (v10 : Int32) (S11 : Sg) => ∀ (H : Heap) (locs : List Loc) (ls : Array Slot), lv_has ls 2 [(0, .ref (L 0)), (1, .int v10)] → Wd D cy L shM 20 S11 s H locs → W p l e (rmk 0 0) s m args below meth c H locs 0 0 Q (F0 m 121 ls [])) ?_ hf _ _ _ (lv_sub hl [1, 0] rfl) hW
      · intro self121 ih121 v10 S11 hf H locs ls hl hW
        unfold X10_image_L121 at hf
        refine lv_iload_n hx hb dX10_image_121 rfl (lv_at hl 1 rfl) ?_
        refine lv_bipush (v := 8) hx hb dX10_image_122 (by decide) ?_
        refine lv_icmp_ge (tgt := 149) hx hb dX10_image_124 (by decide) (fun c16 => ?_) (fun c16 => ?_)
        · have hf := xt hf c16
          refine lv_aload_n hx hb dX10_image_149 rfl (lv_at hl 0 rfl) ?_
          refine x_geti (k := 0) E hC hW fl_X10_75 (by decide) rfl rfl dX10_image_150 ?_
          exact x_iretI E hC hW hr hlk hQ dX10_image_153 hf
        · have hf := xf hf c16
          refine lv_aload_n hx hb dX10_image_127 rfl (lv_at hl 0 rfl) ?_
          refine x_getr (k := 0) (k' := 18) E hC hW fl_X10_69 (by decide) rfl rfl dX10_image_128 ?_
          refine lv_sipush (v := 143) hx hb dX10_image_131 (by decide) ?_
          refine lv_iload_n hx hb dX10_image_134 rfl (lv_at hl 1 rfl) ?_
          refine lv_iadd hx hb dX10_image_135 ?_
          refine lv_aload_n hx hb dX10_image_136 rfl (lv_at hl 0 rfl) ?_
          refine x_getr (k := 0) (k' := 5) E hC hW fl_X10_30 (by decide) rfl rfl dX10_image_137 ?_
          refine lv_iload_n hx hb dX10_image_140 rfl (lv_at hl 1 rfl) ?_
          obtain ⟨hg12, hf⟩ := gdS hf
          refine x_iald (k := 5) E hC hW (by decide) rfl (inbS hg12) dX10_image_141 ?_
          obtain ⟨hg13, hf⟩ := gdS hf
          refine x_iast (k := 18) E hC hW (by decide) rfl (inbS hg13) dX10_image_142 (fun H locs hW => ?_)
          obtain ⟨S14, eS14⟩ : ∃ z : Sg, z = si S11 18 (ix ((143 : Int32) + v10)) (S11.1 5 (ix v10)) := ⟨_, rfl⟩
          have hW : Wd D cy L shM 20 S14 s H locs := by rw [eS14]; exact hW
          have hf := bvS hf eS14
          obtain ⟨x15, ex15⟩ : ∃ z : Int32, z = (v10 + 1) := ⟨_, rfl⟩
          have hf := bvS hf ex15
          refine lv_iinc (v := x15) (lv' := [(1, .int x15), (0, .ref (L 0))]) hx hb dX10_image_143 hl (k := 1) rfl (by rw [ex15]; rfl) (by decide) rfl (fun ls hl => ?_)
          refine lv_goto (tgt := 121) hx hb dX10_image_146 (by decide) ?_
          exact ih121 _ _ hf _ _ _ (lv_sub hl [1, 0] rfl) hW
    · intro k119 K119 self92 ih92 v17 S18 hf H locs ls hl hW
      unfold X10_image_L92 at hf
      refine lv_iload_n hx hb dX10_image_92 rfl (lv_at hl 1 rfl) ?_
      refine lv_bipush (v := 120) hx hb dX10_image_93 (by decide) ?_
      refine lv_icmp_ge (tgt := 119) hx hb dX10_image_95 (by decide) (fun c23 => ?_) (fun c23 => ?_)
      · have hf := xt hf c23
        exact K119 _ hf _ _ _ (lv_sub hl [0] rfl) hW
      · have hf := xf hf c23
        refine lv_aload_n hx hb dX10_image_98 rfl (lv_at hl 0 rfl) ?_
        refine x_getr (k := 0) (k' := 18) E hC hW fl_X10_69 (by decide) rfl rfl dX10_image_99 ?_
        refine lv_bipush (v := 23) hx hb dX10_image_102 (by decide) ?_
        refine lv_iload_n hx hb dX10_image_104 rfl (lv_at hl 1 rfl) ?_
        refine lv_iadd hx hb dX10_image_105 ?_
        refine lv_aload_n hx hb dX10_image_106 rfl (lv_at hl 0 rfl) ?_
        refine x_getr (k := 0) (k' := 4) E hC hW fl_X10_27 (by decide) rfl rfl dX10_image_107 ?_
        refine lv_iload_n hx hb dX10_image_110 rfl (lv_at hl 1 rfl) ?_
        obtain ⟨hg19, hf⟩ := gdS hf
        refine x_iald (k := 4) E hC hW (by decide) rfl (inbS hg19) dX10_image_111 ?_
        obtain ⟨hg20, hf⟩ := gdS hf
        refine x_iast (k := 18) E hC hW (by decide) rfl (inbS hg20) dX10_image_112 (fun H locs hW => ?_)
        obtain ⟨S21, eS21⟩ : ∃ z : Sg, z = si S18 18 (ix ((23 : Int32) + v17)) (S18.1 4 (ix v17)) := ⟨_, rfl⟩
        have hW : Wd D cy L shM 20 S21 s H locs := by rw [eS21]; exact hW
        have hf := bvS hf eS21
        obtain ⟨x22, ex22⟩ : ∃ z : Int32, z = (v17 + 1) := ⟨_, rfl⟩
        have hf := bvS hf ex22
        refine lv_iinc (v := x22) (lv' := [(1, .int x22), (0, .ref (L 0))]) hx hb dX10_image_113 hl (k := 1) rfl (by rw [ex22]; rfl) (by decide) rfl (fun ls hl => ?_)
        refine lv_goto (tgt := 92) hx hb dX10_image_116 (by decide) ?_
        exact ih92 _ _ hf _ _ _ (lv_sub hl [1, 0] rfl) hW
  · intro k90 K90 self37 ih37 v24 S25 hf H locs ls hl hW
    unfold X10_image_L37 at hf
    refine lv_iload_n hx hb dX10_image_37 rfl (lv_at hl 1 rfl) ?_
    refine lv_bipush (v := 10) hx hb dX10_image_38 (by decide) ?_
    refine lv_icmp_ge (tgt := 90) hx hb dX10_image_40 (by decide) (fun c36 => ?_) (fun c36 => ?_)
    · have hf := xt hf c36
      exact K90 _ hf _ _ _ (lv_sub hl [0] rfl) hW
    · have hf := xf hf c36
      refine lv_aload_n hx hb dX10_image_43 rfl (lv_at hl 0 rfl) ?_
      refine x_getr (k := 0) (k' := 18) E hC hW fl_X10_69 (by decide) rfl rfl dX10_image_44 ?_
      refine lv_iconst (v := 3) hx hb dX10_image_47 (by decide) ?_
      refine lv_iload_n hx hb dX10_image_48 rfl (lv_at hl 1 rfl) ?_
      refine lv_iadd hx hb dX10_image_49 ?_
      refine lv_aload_n hx hb dX10_image_50 rfl (lv_at hl 0 rfl) ?_
      refine x_getr (k := 0) (k' := 1) E hC hW fl_X10_16 (by decide) rfl rfl dX10_image_51 ?_
      refine lv_iload_n hx hb dX10_image_54 rfl (lv_at hl 1 rfl) ?_
      obtain ⟨hg26, hf⟩ := gdS hf
      refine x_iald (k := 1) E hC hW (by decide) rfl (inbS hg26) dX10_image_55 ?_
      obtain ⟨hg27, hf⟩ := gdS hf
      refine x_iast (k := 18) E hC hW (by decide) rfl (inbS hg27) dX10_image_56 (fun H locs hW => ?_)
      obtain ⟨S28, eS28⟩ : ∃ z : Sg, z = si S25 18 (ix ((3 : Int32) + v24)) (S25.1 1 (ix v24)) := ⟨_, rfl⟩
      have hW : Wd D cy L shM 20 S28 s H locs := by rw [eS28]; exact hW
      have hf := bvS hf eS28
      refine lv_aload_n hx hb dX10_image_57 rfl (lv_at hl 0 rfl) ?_
      refine x_getr (k := 0) (k' := 18) E hC hW fl_X10_69 (by decide) rfl rfl dX10_image_58 ?_
      refine lv_bipush (v := 13) hx hb dX10_image_61 (by decide) ?_
      refine lv_iload_n hx hb dX10_image_63 rfl (lv_at hl 1 rfl) ?_
      refine lv_iadd hx hb dX10_image_64 ?_
      refine lv_aload_n hx hb dX10_image_65 rfl (lv_at hl 0 rfl) ?_
      refine x_getr (k := 0) (k' := 2) E hC hW fl_X10_20 (by decide) rfl rfl dX10_image_66 ?_
      refine lv_iload_n hx hb dX10_image_69 rfl (lv_at hl 1 rfl) ?_
      obtain ⟨hg29, hf⟩ := gdS hf
      refine x_iald (k := 2) E hC hW (by decide) rfl (inbS hg29) dX10_image_70 ?_
      obtain ⟨hg30, hf⟩ := gdS hf
      refine x_iast (k := 18) E hC hW (by decide) rfl (inbS hg30) dX10_image_71 (fun H locs hW => ?_)
      obtain ⟨S31, eS31⟩ : ∃ z : Sg, z = si S28 18 (ix ((13 : Int32) + v24)) (S28.1 2 (ix v24)) := ⟨_, rfl⟩
      have hW : Wd D cy L shM 20 S31 s H locs := by rw [eS31]; exact hW
      have hf := bvS hf eS31
      refine lv_aload_n hx hb dX10_image_72 rfl (lv_at hl 0 rfl) ?_
      refine x_getr (k := 0) (k' := 19) E hC hW fl_X10_72 (by decide) rfl rfl dX10_image_73 ?_
      refine lv_iload_n hx hb dX10_image_76 rfl (lv_at hl 1 rfl) ?_
      refine lv_aload_n hx hb dX10_image_77 rfl (lv_at hl 0 rfl) ?_
      refine x_getr (k := 0) (k' := 3) E hC hW fl_X10_23 (by decide) rfl rfl dX10_image_78 ?_
      refine lv_iload_n hx hb dX10_image_81 rfl (lv_at hl 1 rfl) ?_
      obtain ⟨hg32, hf⟩ := gdS hf
      refine x_lald (k := 3) E hC hW (by decide) rfl (inbS hg32) dX10_image_82 ?_
      obtain ⟨hg33, hf⟩ := gdS hf
      refine x_last (k := 19) E hC hW (by decide) rfl (inbS hg33) dX10_image_83 (fun H locs hW => ?_)
      obtain ⟨S34, eS34⟩ : ∃ z : Sg, z = sl S31 19 (ix v24) (S31.2 3 (ix v24)) := ⟨_, rfl⟩
      have hW : Wd D cy L shM 20 S34 s H locs := by rw [eS34]; exact hW
      have hf := bvS hf eS34
      obtain ⟨x35, ex35⟩ : ∃ z : Int32, z = (v24 + 1) := ⟨_, rfl⟩
      have hf := bvS hf ex35
      refine lv_iinc (v := x35) (lv' := [(1, .int x35), (0, .ref (L 0))]) hx hb dX10_image_84 hl (k := 1) rfl (by rw [ex35]; rfl) (by decide) rfl (fun ls hl => ?_)
      refine lv_goto (tgt := 37) hx hb dX10_image_87 (by decide) ?_
      exact ih37 _ _ hf _ _ _ (lv_sub hl [1, 0] rfl) hW
set_option maxRecDepth 100000 in
set_option maxHeartbeats 4000000 in
theorem c_X10_back {l : Launch} {D : va_G} {cy : Nat → ClassId} {L : Nat → Nat} {bA : Nat}  (r : Int32) (S S' : Sg)  (hf : f_X10_back S = some (r, S')) : MetX l D cy L shM 20 bA yX10_back cX10_back 2 (some .int) 0 0 [.ref (L 0)] (some (.int r)) S S' := by
  refine x_met (own := RX10) (by decide) rfl (Nat.le_of_ble_eq_true rfl) ?_
  intro p e s m below meth c ls E hC hr hlk hl hW
  generalize hargs : ([.ref (L 0)] : List Value).toArray = args at E ⊢
  generalize hQ : MQ below (xQ D cy L shM 20 bA (some (.int r)) S') args s 0 0 (AL L 20) = Q
  have hl : lv_has ls 2 [(0, .ref (L 0))] := hl
  have hx := E.1
  have hb := E.2.1
  have hts := E.2.2.2.2
  unfold f_X10_back at hf
  refine lv_aload_n hx hb dX10_back_0 rfl (lv_at hl 0 rfl) ?_
  refine x_geti (k := 0) E hC hW fl_X10_276 (by decide) rfl rfl dX10_back_1 ?_
  refine lv_if_ne (tgt := 10) hx hb dX10_back_4 (by decide) (fun c36 => ?_) (fun c36 => ?_)
  · have hf := xf hf c36
    refine lv_aload_n hx hb dX10_back_10 rfl (lv_at hl 0 rfl) ?_
    refine lv_aload_n hx hb dX10_back_11 rfl (lv_at hl 0 rfl) ?_
    refine x_getr (k := 0) (k' := 18) E hC hW fl_X10_69 (by decide) rfl rfl dX10_back_12 ?_
    refine lv_iconst (v := 0) hx hb dX10_back_15 (by decide) ?_
    obtain ⟨hg1, hf⟩ := gdS hf
    refine x_iald (k := 18) E hC hW (by decide) rfl (inbS hg1) dX10_back_16 ?_
    refine x_put (k := 0) E hC hW fl_X10_7 pl_10_0 (by decide) rfl rfl rfl rfl dX10_back_17 (fun H locs hW => ?_)
    obtain ⟨S2, eS2⟩ : ∃ z : Sg, z = si S 0 0 (S.1 18 (ix (0 : Int32))) := ⟨_, rfl⟩
    have hW : Wd D cy L shM 20 S2 s H locs := by rw [eS2]; exact hW
    have hf := bvS hf eS2
    refine lv_aload_n hx hb dX10_back_20 rfl (lv_at hl 0 rfl) ?_
    refine lv_aload_n hx hb dX10_back_21 rfl (lv_at hl 0 rfl) ?_
    refine x_getr (k := 0) (k' := 18) E hC hW fl_X10_69 (by decide) rfl rfl dX10_back_22 ?_
    refine lv_iconst (v := 1) hx hb dX10_back_25 (by decide) ?_
    obtain ⟨hg3, hf⟩ := gdS hf
    refine x_iald (k := 18) E hC hW (by decide) rfl (inbS hg3) dX10_back_26 ?_
    refine x_put (k := 0) E hC hW fl_X10_13 pl_10_1 (by decide) rfl rfl rfl rfl dX10_back_27 (fun H locs hW => ?_)
    obtain ⟨S4, eS4⟩ : ∃ z : Sg, z = si S2 0 1 (S2.1 18 (ix (1 : Int32))) := ⟨_, rfl⟩
    have hW : Wd D cy L shM 20 S4 s H locs := by rw [eS4]; exact hW
    have hf := bvS hf eS4
    refine lv_aload_n hx hb dX10_back_30 rfl (lv_at hl 0 rfl) ?_
    refine lv_aload_n hx hb dX10_back_31 rfl (lv_at hl 0 rfl) ?_
    refine x_getr (k := 0) (k' := 18) E hC hW fl_X10_69 (by decide) rfl rfl dX10_back_32 ?_
    refine lv_iconst (v := 2) hx hb dX10_back_35 (by decide) ?_
    obtain ⟨hg5, hf⟩ := gdS hf
    refine x_iald (k := 18) E hC hW (by decide) rfl (inbS hg5) dX10_back_36 ?_
    refine x_put (k := 0) E hC hW fl_X10_75 pl_10_2 (by decide) rfl rfl rfl rfl dX10_back_37 (fun H locs hW => ?_)
    obtain ⟨S6, eS6⟩ : ∃ z : Sg, z = si S4 0 2 (S4.1 18 (ix (2 : Int32))) := ⟨_, rfl⟩
    have hW : Wd D cy L shM 20 S6 s H locs := by rw [eS6]; exact hW
    have hf := bvS hf eS6
    refine lv_iconst (v := 0) hx hb dX10_back_40 (by decide) ?_
    refine lv_istore_n (lv' := [(1, .int (0 : Int32)), (0, .ref (L 0))]) hx hb dX10_back_41 rfl hl (by decide) rfl (fun ls hl => ?_)
    refine wp2K hf (fun (v23 : Int32) (S24 : Sg) => ∀ (H : Heap) (locs : List Loc) (ls : Array Slot), lv_has ls 2 [(0, .ref (L 0)), (1, .int v23)] → Wd D cy L shM 20 S24 s H locs → W p l e (rmk 0 0) s m args below meth c H locs 0 0 Q (F0 m 42 ls [])) (fun (j : Sg → Option (Int32 × Sg)) => ∀ (S7 : Sg), (j S7) = some (r, S') → ∀ (H : Heap) (locs : List Loc) (ls : Array Slot), lv_has ls 2 [(0, .ref (L 0))] → Wd D cy L shM 20 S7 s H locs → W p l e (rmk 0 0) s m args below meth c H locs 0 0 Q (F0 m 95 ls [])) ?_ ?_ _ _ _ (lv_sub hl [1, 0] rfl) hW
    · intro S7 hf H locs ls hl hW
      try dsimp only at hf
      refine lv_iconst (v := 0) hx hb dX10_back_95 (by decide) ?_
      refine lv_istore_n (lv' := [(1, .int (0 : Int32)), (0, .ref (L 0))]) hx hb dX10_back_96 rfl hl (by decide) rfl (fun ls hl => ?_)
      refine wp2K hf (fun (v16 : Int32) (S17 : Sg) => ∀ (H : Heap) (locs : List Loc) (ls : Array Slot), lv_has ls 2 [(0, .ref (L 0)), (1, .int v16)] → Wd D cy L shM 20 S17 s H locs → W p l e (rmk 0 0) s m args below meth c H locs 0 0 Q (F0 m 97 ls [])) (fun (j : Sg → Option (Int32 × Sg)) => ∀ (S8 : Sg), (j S8) = some (r, S') → ∀ (H : Heap) (locs : List Loc) (ls : Array Slot), lv_has ls 2 [(0, .ref (L 0))] → Wd D cy L shM 20 S8 s H locs → W p l e (rmk 0 0) s m args below meth c H locs 0 0 Q (F0 m 124 ls [])) ?_ ?_ _ _ _ (lv_sub hl [1, 0] rfl) hW
      · intro S8 hf H locs ls hl hW
        try dsimp only at hf
        refine lv_iconst (v := 0) hx hb dX10_back_124 (by decide) ?_
        refine lv_istore_n (lv' := [(1, .int (0 : Int32)), (0, .ref (L 0))]) hx hb dX10_back_125 rfl hl (by decide) rfl (fun ls hl => ?_)
        refine wp2S (fun (v9 : Int32) (S10 : Sg) => ∀ (H : Heap) (locs : List Loc) (ls : Array Slot), lv_has ls 2 [(0, .ref (L 0)), (1, .int v9)] → Wd D cy L shM 20 S10 s H locs → W p l e (rmk 0 0) s m args below meth c H locs 0 0 Q (F0 m 126 ls [])) ?_ hf _ _ _ (lv_sub hl [1, 0] rfl) hW
        · intro self126 ih126 v9 S10 hf H locs ls hl hW
          unfold X10_back_L126 at hf
          refine lv_iload_n hx hb dX10_back_126 rfl (lv_at hl 1 rfl) ?_
          refine lv_bipush (v := 8) hx hb dX10_back_127 (by decide) ?_
          refine lv_icmp_ge (tgt := 154) hx hb dX10_back_129 (by decide) (fun c15 => ?_) (fun c15 => ?_)
          · have hf := xt hf c15
            refine lv_aload_n hx hb dX10_back_154 rfl (lv_at hl 0 rfl) ?_
            refine x_geti (k := 0) E hC hW fl_X10_75 (by decide) rfl rfl dX10_back_155 ?_
            exact x_iretI E hC hW hr hlk hQ dX10_back_158 hf
          · have hf := xf hf c15
            refine lv_aload_n hx hb dX10_back_132 rfl (lv_at hl 0 rfl) ?_
            refine x_getr (k := 0) (k' := 5) E hC hW fl_X10_30 (by decide) rfl rfl dX10_back_133 ?_
            refine lv_iload_n hx hb dX10_back_136 rfl (lv_at hl 1 rfl) ?_
            refine lv_aload_n hx hb dX10_back_137 rfl (lv_at hl 0 rfl) ?_
            refine x_getr (k := 0) (k' := 18) E hC hW fl_X10_69 (by decide) rfl rfl dX10_back_138 ?_
            refine lv_sipush (v := 143) hx hb dX10_back_141 (by decide) ?_
            refine lv_iload_n hx hb dX10_back_144 rfl (lv_at hl 1 rfl) ?_
            refine lv_iadd hx hb dX10_back_145 ?_
            obtain ⟨hg11, hf⟩ := gdS hf
            refine x_iald (k := 18) E hC hW (by decide) rfl (inbS hg11) dX10_back_146 ?_
            obtain ⟨hg12, hf⟩ := gdS hf
            refine x_iast (k := 5) E hC hW (by decide) rfl (inbS hg12) dX10_back_147 (fun H locs hW => ?_)
            obtain ⟨S13, eS13⟩ : ∃ z : Sg, z = si S10 5 (ix v9) (S10.1 18 (ix ((143 : Int32) + v9))) := ⟨_, rfl⟩
            have hW : Wd D cy L shM 20 S13 s H locs := by rw [eS13]; exact hW
            have hf := bvS hf eS13
            obtain ⟨x14, ex14⟩ : ∃ z : Int32, z = (v9 + 1) := ⟨_, rfl⟩
            have hf := bvS hf ex14
            refine lv_iinc (v := x14) (lv' := [(1, .int x14), (0, .ref (L 0))]) hx hb dX10_back_148 hl (k := 1) rfl (by rw [ex14]; rfl) (by decide) rfl (fun ls hl => ?_)
            refine lv_goto (tgt := 126) hx hb dX10_back_151 (by decide) ?_
            exact ih126 _ _ hf _ _ _ (lv_sub hl [1, 0] rfl) hW
      · intro k124 K124 self97 ih97 v16 S17 hf H locs ls hl hW
        unfold X10_back_L97 at hf
        refine lv_iload_n hx hb dX10_back_97 rfl (lv_at hl 1 rfl) ?_
        refine lv_bipush (v := 120) hx hb dX10_back_98 (by decide) ?_
        refine lv_icmp_ge (tgt := 124) hx hb dX10_back_100 (by decide) (fun c22 => ?_) (fun c22 => ?_)
        · have hf := xt hf c22
          exact K124 _ hf _ _ _ (lv_sub hl [0] rfl) hW
        · have hf := xf hf c22
          refine lv_aload_n hx hb dX10_back_103 rfl (lv_at hl 0 rfl) ?_
          refine x_getr (k := 0) (k' := 4) E hC hW fl_X10_27 (by decide) rfl rfl dX10_back_104 ?_
          refine lv_iload_n hx hb dX10_back_107 rfl (lv_at hl 1 rfl) ?_
          refine lv_aload_n hx hb dX10_back_108 rfl (lv_at hl 0 rfl) ?_
          refine x_getr (k := 0) (k' := 18) E hC hW fl_X10_69 (by decide) rfl rfl dX10_back_109 ?_
          refine lv_bipush (v := 23) hx hb dX10_back_112 (by decide) ?_
          refine lv_iload_n hx hb dX10_back_114 rfl (lv_at hl 1 rfl) ?_
          refine lv_iadd hx hb dX10_back_115 ?_
          obtain ⟨hg18, hf⟩ := gdS hf
          refine x_iald (k := 18) E hC hW (by decide) rfl (inbS hg18) dX10_back_116 ?_
          obtain ⟨hg19, hf⟩ := gdS hf
          refine x_iast (k := 4) E hC hW (by decide) rfl (inbS hg19) dX10_back_117 (fun H locs hW => ?_)
          obtain ⟨S20, eS20⟩ : ∃ z : Sg, z = si S17 4 (ix v16) (S17.1 18 (ix ((23 : Int32) + v16))) := ⟨_, rfl⟩
          have hW : Wd D cy L shM 20 S20 s H locs := by rw [eS20]; exact hW
          have hf := bvS hf eS20
          obtain ⟨x21, ex21⟩ : ∃ z : Int32, z = (v16 + 1) := ⟨_, rfl⟩
          have hf := bvS hf ex21
          refine lv_iinc (v := x21) (lv' := [(1, .int x21), (0, .ref (L 0))]) hx hb dX10_back_118 hl (k := 1) rfl (by rw [ex21]; rfl) (by decide) rfl (fun ls hl => ?_)
          refine lv_goto (tgt := 97) hx hb dX10_back_121 (by decide) ?_
          exact ih97 _ _ hf _ _ _ (lv_sub hl [1, 0] rfl) hW
    · intro k95 K95 self42 ih42 v23 S24 hf H locs ls hl hW
      unfold X10_back_L42 at hf
      refine lv_iload_n hx hb dX10_back_42 rfl (lv_at hl 1 rfl) ?_
      refine lv_bipush (v := 10) hx hb dX10_back_43 (by decide) ?_
      refine lv_icmp_ge (tgt := 95) hx hb dX10_back_45 (by decide) (fun c35 => ?_) (fun c35 => ?_)
      · have hf := xt hf c35
        exact K95 _ hf _ _ _ (lv_sub hl [0] rfl) hW
      · have hf := xf hf c35
        refine lv_aload_n hx hb dX10_back_48 rfl (lv_at hl 0 rfl) ?_
        refine x_getr (k := 0) (k' := 1) E hC hW fl_X10_16 (by decide) rfl rfl dX10_back_49 ?_
        refine lv_iload_n hx hb dX10_back_52 rfl (lv_at hl 1 rfl) ?_
        refine lv_aload_n hx hb dX10_back_53 rfl (lv_at hl 0 rfl) ?_
        refine x_getr (k := 0) (k' := 18) E hC hW fl_X10_69 (by decide) rfl rfl dX10_back_54 ?_
        refine lv_iconst (v := 3) hx hb dX10_back_57 (by decide) ?_
        refine lv_iload_n hx hb dX10_back_58 rfl (lv_at hl 1 rfl) ?_
        refine lv_iadd hx hb dX10_back_59 ?_
        obtain ⟨hg25, hf⟩ := gdS hf
        refine x_iald (k := 18) E hC hW (by decide) rfl (inbS hg25) dX10_back_60 ?_
        obtain ⟨hg26, hf⟩ := gdS hf
        refine x_iast (k := 1) E hC hW (by decide) rfl (inbS hg26) dX10_back_61 (fun H locs hW => ?_)
        obtain ⟨S27, eS27⟩ : ∃ z : Sg, z = si S24 1 (ix v23) (S24.1 18 (ix ((3 : Int32) + v23))) := ⟨_, rfl⟩
        have hW : Wd D cy L shM 20 S27 s H locs := by rw [eS27]; exact hW
        have hf := bvS hf eS27
        refine lv_aload_n hx hb dX10_back_62 rfl (lv_at hl 0 rfl) ?_
        refine x_getr (k := 0) (k' := 2) E hC hW fl_X10_20 (by decide) rfl rfl dX10_back_63 ?_
        refine lv_iload_n hx hb dX10_back_66 rfl (lv_at hl 1 rfl) ?_
        refine lv_aload_n hx hb dX10_back_67 rfl (lv_at hl 0 rfl) ?_
        refine x_getr (k := 0) (k' := 18) E hC hW fl_X10_69 (by decide) rfl rfl dX10_back_68 ?_
        refine lv_bipush (v := 13) hx hb dX10_back_71 (by decide) ?_
        refine lv_iload_n hx hb dX10_back_73 rfl (lv_at hl 1 rfl) ?_
        refine lv_iadd hx hb dX10_back_74 ?_
        obtain ⟨hg28, hf⟩ := gdS hf
        refine x_iald (k := 18) E hC hW (by decide) rfl (inbS hg28) dX10_back_75 ?_
        obtain ⟨hg29, hf⟩ := gdS hf
        refine x_iast (k := 2) E hC hW (by decide) rfl (inbS hg29) dX10_back_76 (fun H locs hW => ?_)
        obtain ⟨S30, eS30⟩ : ∃ z : Sg, z = si S27 2 (ix v23) (S27.1 18 (ix ((13 : Int32) + v23))) := ⟨_, rfl⟩
        have hW : Wd D cy L shM 20 S30 s H locs := by rw [eS30]; exact hW
        have hf := bvS hf eS30
        refine lv_aload_n hx hb dX10_back_77 rfl (lv_at hl 0 rfl) ?_
        refine x_getr (k := 0) (k' := 3) E hC hW fl_X10_23 (by decide) rfl rfl dX10_back_78 ?_
        refine lv_iload_n hx hb dX10_back_81 rfl (lv_at hl 1 rfl) ?_
        refine lv_aload_n hx hb dX10_back_82 rfl (lv_at hl 0 rfl) ?_
        refine x_getr (k := 0) (k' := 19) E hC hW fl_X10_72 (by decide) rfl rfl dX10_back_83 ?_
        refine lv_iload_n hx hb dX10_back_86 rfl (lv_at hl 1 rfl) ?_
        obtain ⟨hg31, hf⟩ := gdS hf
        refine x_lald (k := 19) E hC hW (by decide) rfl (inbS hg31) dX10_back_87 ?_
        obtain ⟨hg32, hf⟩ := gdS hf
        refine x_last (k := 3) E hC hW (by decide) rfl (inbS hg32) dX10_back_88 (fun H locs hW => ?_)
        obtain ⟨S33, eS33⟩ : ∃ z : Sg, z = sl S30 3 (ix v23) (S30.2 19 (ix v23)) := ⟨_, rfl⟩
        have hW : Wd D cy L shM 20 S33 s H locs := by rw [eS33]; exact hW
        have hf := bvS hf eS33
        obtain ⟨x34, ex34⟩ : ∃ z : Int32, z = (v23 + 1) := ⟨_, rfl⟩
        have hf := bvS hf ex34
        refine lv_iinc (v := x34) (lv' := [(1, .int x34), (0, .ref (L 0))]) hx hb dX10_back_89 hl (k := 1) rfl (by rw [ex34]; rfl) (by decide) rfl (fun ls hl => ?_)
        refine lv_goto (tgt := 42) hx hb dX10_back_92 (by decide) ?_
        exact ih42 _ _ hf _ _ _ (lv_sub hl [1, 0] rfl) hW
  · have hf := xt hf c36
    refine lv_bipush (v := (-3)) hx hb dX10_back_7 (by decide) ?_
    exact x_iretI E hC hW hr hlk hQ dX10_back_9 hf
set_option maxRecDepth 100000 in
set_option maxHeartbeats 4000000 in
theorem c_X10_nameMany {l : Launch} {D : va_G} {cy : Nat → ClassId} {L : Nat → Nat} {bA : Nat}  (r : Int32) (S : Sg)  (hf : f_X10_nameMany S = some r) : MetX l D cy L shM 20 bA yX10_nameMany cX10_nameMany 3 (some .int) 0 0 [.ref (L 0)] (some (.int r)) S S := by
  refine x_met (own := RX10) (by decide) rfl (Nat.le_of_ble_eq_true rfl) ?_
  intro p e s m below meth c ls E hC hr hlk hl hW
  generalize hargs : ([.ref (L 0)] : List Value).toArray = args at E ⊢
  generalize hQ : MQ below (xQ D cy L shM 20 bA (some (.int r)) S) args s 0 0 (AL L 20) = Q
  have hl : lv_has ls 3 [(0, .ref (L 0))] := hl
  have hx := E.1
  have hb := E.2.1
  have hts := E.2.2.2.2
  unfold f_X10_nameMany at hf
  refine lv_iconst (v := 0) hx hb dX10_nameMany_0 (by decide) ?_
  refine lv_istore_n (lv' := [(1, .int (0 : Int32)), (0, .ref (L 0))]) hx hb dX10_nameMany_1 rfl hl (by decide) rfl (fun ls hl => ?_)
  refine lv_iconst (v := 0) hx hb dX10_nameMany_2 (by decide) ?_
  refine lv_istore_n (lv' := [(2, .int (0 : Int32)), (1, .int (0 : Int32)), (0, .ref (L 0))]) hx hb dX10_nameMany_3 rfl hl (by decide) rfl (fun ls hl => ?_)
  refine wp2S (fun (v1 : Int32) (v2 : Int32) => ∀ (H : Heap) (locs : List Loc) (ls : Array Slot), lv_has ls 3 [(0, .ref (L 0)), (1, .int v1), (2, .int v2)] → Wd D cy L shM 20 S s H locs → W p l e (rmk 0 0) s m args below meth c H locs 0 0 Q (F0 m 4 ls [])) ?_ hf _ _ _ (lv_sub hl [2, 1, 0] rfl) hW
  · intro self4 ih4 v1 v2 hf H locs ls hl hW
    unfold X10_nameMany_L4 at hf
    refine lv_iload_n hx hb dX10_nameMany_4 rfl (lv_at hl 2 rfl) ?_
    refine lv_aload_n hx hb dX10_nameMany_5 rfl (lv_at hl 0 rfl) ?_
    refine x_geti (k := 0) E hC hW fl_X10_75 (by decide) rfl rfl dX10_nameMany_6 ?_
    refine lv_icmp_ge (tgt := 37) hx hb dX10_nameMany_9 (by decide) (fun c8 => ?_) (fun c8 => ?_)
    · have hf := xt hf c8
      refine lv_iload_n hx hb dX10_nameMany_37 rfl (lv_at hl 1 rfl) ?_
      exact x_iretP E hC hW hr hlk hQ dX10_nameMany_38 hf
    · have hf := xf hf c8
      refine lv_iload_n hx hb dX10_nameMany_12 rfl (lv_at hl 1 rfl) ?_
      refine lv_aload_n hx hb dX10_nameMany_13 rfl (lv_at hl 0 rfl) ?_
      refine x_getr (k := 0) (k' := 3) E hC hW fl_X10_23 (by decide) rfl rfl dX10_nameMany_14 ?_
      refine lv_iload_n hx hb dX10_nameMany_17 rfl (lv_at hl 2 rfl) ?_
      obtain ⟨hg3, hf⟩ := gdS hf
      refine x_lald (k := 3) E hC hW (by decide) rfl (inbS hg3) dX10_nameMany_18 ?_
      refine lv_lconst (v := 0) hx hb dX10_nameMany_19 (by decide) ?_
      refine W.lcmp hx hb dX10_nameMany_20 ?_
      refine jnS hf (fun (j : Int32 → Option (Int32)) => ∀ (x4 : Int32), (j x4) = some r → ∀ (H : Heap) (locs : List Loc) (ls : Array Slot), lv_has ls 3 [(0, .ref (L 0)), (2, .int v2)] → Wd D cy L shM 20 S s H locs → W p l e (rmk 0 0) s m args below meth c H locs 0 0 Q (F0 m 29 ls [.int x4, .int v1])) ?_ ?_
      · intro x4 hf H locs ls hl hW
        try dsimp only at hf
        refine lv_iadd hx hb dX10_nameMany_29 ?_
        refine lv_topi (fun x5 ex5 => ?_)
        have hf := bvS hf ex5
        refine lv_istore_n (lv' := [(1, .int x5), (0, .ref (L 0)), (2, .int v2)]) hx hb dX10_nameMany_30 rfl hl (by decide) rfl (fun ls hl => ?_)
        obtain ⟨x6, ex6⟩ : ∃ z : Int32, z = (v2 + 1) := ⟨_, rfl⟩
        have hf := bvS hf ex6
        refine lv_iinc (v := x6) (lv' := [(2, .int x6), (1, .int x5), (0, .ref (L 0))]) hx hb dX10_nameMany_31 hl (k := 2) rfl (by rw [ex6]; rfl) (by decide) rfl (fun ls hl => ?_)
        refine lv_goto (tgt := 4) hx hb dX10_nameMany_34 (by decide) ?_
        exact ih4 _ _ hf _ _ _ (lv_sub hl [2, 1, 0] rfl) hW
      intro j29 J29 hf
      refine lv_if_ne (tgt := 28) hx hb dX10_nameMany_21 (by decide) (fun c7 => ?_) (fun c7 => ?_)
      · have hf := xf hf c7
        refine lv_iconst (v := 1) hx hb dX10_nameMany_28 (by decide) ?_
        exact J29 _ hf _ _ _ (lv_sub hl [0, 2] rfl) hW
      · have hf := xt hf c7
        refine lv_iconst (v := 0) hx hb dX10_nameMany_24 (by decide) ?_
        refine lv_goto (tgt := 29) hx hb dX10_nameMany_25 (by decide) ?_
        exact J29 _ hf _ _ _ (lv_sub hl [0, 2] rfl) hW
set_option maxRecDepth 100000 in
set_option maxHeartbeats 4000000 in
theorem c_X10_linkMany {l : Launch} {D : va_G} {cy : Nat → ClassId} {L : Nat → Nat} {bA : Nat}  (r : Int32) (S : Sg)  (hf : f_X10_linkMany S = some r) : MetX l D cy L shM 20 bA yX10_linkMany cX10_linkMany 3 (some .int) 1 22 [.ref (L 0)] (some (.int r)) S S := by
  refine x_met (own := RX10) (by decide) rfl (Nat.le_of_ble_eq_true rfl) ?_
  intro p e s m below meth c ls E hC hr hlk hl hW
  generalize hargs : ([.ref (L 0)] : List Value).toArray = args at E ⊢
  generalize hQ : MQ below (xQ D cy L shM 20 bA (some (.int r)) S) args s 0 0 (AL L 20) = Q
  have hl : lv_has ls 3 [(0, .ref (L 0))] := hl
  have hx := E.1
  have hb := E.2.1
  have hts := E.2.2.2.2
  unfold f_X10_linkMany at hf
  refine lv_iconst (v := 0) hx hb dX10_linkMany_0 (by decide) ?_
  refine lv_istore_n (lv' := [(1, .int (0 : Int32)), (0, .ref (L 0))]) hx hb dX10_linkMany_1 rfl hl (by decide) rfl (fun ls hl => ?_)
  refine lv_iconst (v := 0) hx hb dX10_linkMany_2 (by decide) ?_
  refine lv_istore_n (lv' := [(2, .int (0 : Int32)), (1, .int (0 : Int32)), (0, .ref (L 0))]) hx hb dX10_linkMany_3 rfl hl (by decide) rfl (fun ls hl => ?_)
  refine wp2K hf (fun (v2 : Int32) (v3 : Int32) => ∀ (H : Heap) (locs : List Loc) (ls : Array Slot), lv_has ls 3 [(0, .ref (L 0)), (1, .int v2), (2, .int v3)] → Wd D cy L shM 20 S s H locs → W p l e (rmk 1 22) s m args below meth c H locs 0 0 Q (F0 m 4 ls [])) (fun (j : Int32 → Option (Int32)) => ∀ (v1 : Int32), (j v1) = some r → ∀ (H : Heap) (locs : List Loc) (ls : Array Slot), lv_has ls 3 [(1, .int v1)] → Wd D cy L shM 20 S s H locs → W p l e (rmk 1 22) s m args below meth c H locs 0 0 Q (F0 m 28 ls [])) ?_ ?_ _ _ _ (lv_sub hl [2, 1, 0] rfl) hW
  · intro v1 hf H locs ls hl hW
    try dsimp only at hf
    refine lv_iload_n hx hb dX10_linkMany_28 rfl (lv_at hl 0 rfl) ?_
    refine lv_iconst (v := 2) hx hb dX10_linkMany_29 (by decide) ?_
    refine lv_idiv hx hb dX10_linkMany_30 (by decide) ?_
    exact x_iretP E hC hW hr hlk hQ dX10_linkMany_31 hf
  · intro k28 K28 self4 ih4 v2 v3 hf H locs ls hl hW
    unfold X10_linkMany_L4 at hf
    refine lv_iload_n hx hb dX10_linkMany_4 rfl (lv_at hl 2 rfl) ?_
    refine lv_bipush (v := 8) hx hb dX10_linkMany_5 (by decide) ?_
    refine lv_icmp_ge (tgt := 28) hx hb dX10_linkMany_7 (by decide) (fun c9 => ?_) (fun c9 => ?_)
    · have hf := xt hf c9
      exact K28 _ hf _ _ _ (lv_sub hl [1] rfl) hW
    · have hf := xf hf c9
      refine lv_iload_n hx hb dX10_linkMany_10 rfl (lv_at hl 1 rfl) ?_
      refine lv_aload_n hx hb dX10_linkMany_11 rfl (lv_at hl 0 rfl) ?_
      refine x_getr (k := 0) (k' := 5) E hC hW fl_X10_30 (by decide) rfl rfl dX10_linkMany_12 ?_
      refine lv_iload_n hx hb dX10_linkMany_15 rfl (lv_at hl 2 rfl) ?_
      obtain ⟨hg4, hf⟩ := gdS hf
      refine x_iald (k := 5) E hC hW (by decide) rfl (inbS hg4) dX10_linkMany_16 ?_
      obtain ⟨r5, g6, hf⟩ := cl1S hf
      refine x_Sr (As := [.int (S.1 5 (ix v3))]) (rest := [.int v2]) E hC hW hl.1 (c_X10_many (S.1 5 (ix v3)) r5 S g6) cs_X10_164 rfl rfl ⟨Nat.le_of_ble_eq_true rfl, Nat.le_of_ble_eq_true rfl⟩ ⟨Nat.le_refl _, Nat.le_refl _⟩ (Nat.le_of_ble_eq_true rfl) dX10_linkMany_17 (fun H locs hW => ?_)
      refine lv_iadd hx hb dX10_linkMany_20 ?_
      refine lv_topi (fun x7 ex7 => ?_)
      have hf := bvS hf ex7
      refine lv_istore_n (lv' := [(1, .int x7), (0, .ref (L 0)), (2, .int v3)]) hx hb dX10_linkMany_21 rfl hl (by decide) rfl (fun ls hl => ?_)
      obtain ⟨x8, ex8⟩ : ∃ z : Int32, z = (v3 + 1) := ⟨_, rfl⟩
      have hf := bvS hf ex8
      refine lv_iinc (v := x8) (lv' := [(2, .int x8), (1, .int x7), (0, .ref (L 0))]) hx hb dX10_linkMany_22 hl (k := 2) rfl (by rw [ex8]; rfl) (by decide) rfl (fun ls hl => ?_)
      refine lv_goto (tgt := 4) hx hb dX10_linkMany_25 (by decide) ?_
      exact ih4 _ _ hf _ _ _ (lv_sub hl [2, 1, 0] rfl) hW
set_option maxRecDepth 100000 in
set_option maxHeartbeats 4000000 in
theorem c_X10_count {l : Launch} {D : va_G} {cy : Nat → ClassId} {L : Nat → Nat} {bA : Nat} (a1 : Int32) (r : Int32) (S : Sg)  (hf : f_X10_count a1 S = some r) : MetX l D cy L shM 20 bA yX10_count cX10_count 2 (some .int) 2 44 [.ref (L 0), .int a1] (some (.int r)) S S := by
  refine x_met (own := RX10) (by decide) rfl (Nat.le_of_ble_eq_true rfl) ?_
  intro p e s m below meth c ls E hC hr hlk hl hW
  generalize hargs : ([.ref (L 0), .int a1] : List Value).toArray = args at E ⊢
  generalize hQ : MQ below (xQ D cy L shM 20 bA (some (.int r)) S) args s 0 0 (AL L 20) = Q
  have hl : lv_has ls 2 [(0, .ref (L 0)), (1, .int a1)] := hl
  have hx := E.1
  have hb := E.2.1
  have hts := E.2.2.2.2
  unfold f_X10_count at hf
  refine lv_iload_n hx hb dX10_count_0 rfl (lv_at hl 1 rfl) ?_
  by_cases c1 : a1 = 0
  · have hf := xt hf c1
    refine lv_tableIn (off := 35) (tgt := 36) hx hb dX10_count_1 (by rw [c1]; decide) (by rw [c1]; decide) (by rw [c1]; rfl) (by decide) ?_
    refine lv_aload_n hx hb dX10_count_36 rfl (lv_at hl 0 rfl) ?_
    refine x_geti (k := 0) E hC hW fl_X10_75 (by decide) rfl rfl dX10_count_37 ?_
    exact x_iretP E hC hW hr hlk hQ dX10_count_40 hf
  · have hf := xf hf c1
    by_cases c2 : a1 = 1
    · have hf := xt hf c2
      refine lv_tableIn (off := 40) (tgt := 41) hx hb dX10_count_1 (by rw [c2]; decide) (by rw [c2]; decide) (by rw [c2]; rfl) (by decide) ?_
      refine lv_aload_n hx hb dX10_count_41 rfl (lv_at hl 0 rfl) ?_
      refine x_geti (k := 0) E hC hW fl_X10_7 (by decide) rfl rfl dX10_count_42 ?_
      exact x_iretP E hC hW hr hlk hQ dX10_count_45 hf
    · have hf := xf hf c2
      by_cases c3 : a1 = 2
      · have hf := xt hf c3
        refine lv_tableIn (off := 45) (tgt := 46) hx hb dX10_count_1 (by rw [c3]; decide) (by rw [c3]; decide) (by rw [c3]; rfl) (by decide) ?_
        refine lv_aload_n hx hb dX10_count_46 rfl (lv_at hl 0 rfl) ?_
        refine x_geti (k := 0) E hC hW fl_X10_13 (by decide) rfl rfl dX10_count_47 ?_
        exact x_iretP E hC hW hr hlk hQ dX10_count_50 hf
      · have hf := xf hf c3
        by_cases c4 : a1 = 3
        · have hf := xt hf c4
          refine lv_tableIn (off := 50) (tgt := 51) hx hb dX10_count_1 (by rw [c4]; decide) (by rw [c4]; decide) (by rw [c4]; rfl) (by decide) ?_
          refine lv_aload_n hx hb dX10_count_51 rfl (lv_at hl 0 rfl) ?_
          obtain ⟨r5, g6, hf⟩ := cl1S hf
          refine x_Vr (k := 0) (As := []) (rest := []) E hC hW hl.1 (c_X10_nameMany r5 S g6) cv_X10_279 rfl (by decide) rfl rfl rfl ⟨Nat.le_of_ble_eq_true rfl, Nat.le_of_ble_eq_true rfl⟩ ⟨Nat.le_refl _, Nat.le_refl _⟩ (Nat.le_of_ble_eq_true rfl) dX10_count_52 (fun H locs hW => ?_)
          exact x_iretP E hC hW hr hlk hQ dX10_count_55 hf
        · have hf := xf hf c4
          by_cases c7 : a1 = 4
          · have hf := xt hf c7
            refine lv_tableIn (off := 55) (tgt := 56) hx hb dX10_count_1 (by rw [c7]; decide) (by rw [c7]; decide) (by rw [c7]; rfl) (by decide) ?_
            refine lv_aload_n hx hb dX10_count_56 rfl (lv_at hl 0 rfl) ?_
            obtain ⟨r8, g9, hf⟩ := cl1S hf
            refine x_Vr (k := 0) (As := []) (rest := []) E hC hW hl.1 (c_X10_linkMany r8 S g9) cv_X10_282 rfl (by decide) rfl rfl rfl ⟨Nat.le_of_ble_eq_true rfl, Nat.le_of_ble_eq_true rfl⟩ ⟨Nat.le_refl _, Nat.le_refl _⟩ (Nat.le_of_ble_eq_true rfl) dX10_count_57 (fun H locs hW => ?_)
            exact x_iretP E hC hW hr hlk hQ dX10_count_60 hf
          · have hf := xf hf c7
            refine lv_tableOut (tgt := 61) hx hb dX10_count_1 (by have q0 := lv_neT c1 (a := 0) (by decide); have q1 := lv_neT c2 (a := 1) (by decide); have q2 := lv_neT c3 (a := 2) (by decide); have q3 := lv_neT c4 (a := 3) (by decide); have q4 := lv_neT c7 (a := 4) (by decide); omega) (by decide) ?_
            refine lv_bipush (v := (-2)) hx hb dX10_count_61 (by decide) ?_
            exact x_iretP E hC hW hr hlk hQ dX10_count_63 hf
