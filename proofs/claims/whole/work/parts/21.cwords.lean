/-! constructors: words -/
theorem wa_int : Cond.arrayClass .int ∈ tb := at_place 121 (by decide +kernel) rfl
theorem wa_long : Cond.arrayClass .long ∈ tb := at_place 122 (by decide +kernel) rfl
theorem wa_boolean : Cond.arrayClass .boolean ∈ tb := at_place 159 (by decide +kernel) rfl
theorem cl_L_7 : Cond.classLink RL 7 RX9 ∈ tb := at_place 71 (by decide +kernel) rfl
theorem nw_L_7 : NW RL 7 RX9 TX9 13 9 := ⟨rfl, inT9, cl_L_7, at_place 72 (by decide +kernel) rfl, at_place 57 (by decide +kernel) rfl⟩
theorem cl_X9_9 : Cond.classLink RX9 9 RX2 ∈ tb := at_place 79 (by decide +kernel) rfl
theorem nw_X9_9 : NW RX9 9 RX2 TX2 8 2 := ⟨rfl, inT2, cl_X9_9, at_place 80 (by decide +kernel) rfl, at_place 58 (by decide +kernel) rfl⟩
theorem cl_X9_23 : Cond.classLink RX9 23 RX5 ∈ tb := at_place 123 (by decide +kernel) rfl
theorem nw_X9_23 : NW RX9 23 RX5 TX5 5 5 := ⟨rfl, inT5, cl_X9_23, at_place 124 (by decide +kernel) rfl, at_place 59 (by decide +kernel) rfl⟩
theorem cl_X5_25 : Cond.classLink RX5 25 RX0 ∈ tb := at_place 129 (by decide +kernel) rfl
theorem nw_X5_25 : NW RX5 25 RX0 TX0 7 0 := ⟨rfl, inT0, cl_X5_25, at_place 130 (by decide +kernel) rfl, at_place 60 (by decide +kernel) rfl⟩
theorem cl_X9_30 : Cond.classLink RX9 30 RX8 ∈ tb := at_place 186 (by decide +kernel) rfl
theorem nw_X9_30 : NW RX9 30 RX8 TX8 3 8 := ⟨rfl, inT8, cl_X9_30, at_place 187 (by decide +kernel) rfl, at_place 61 (by decide +kernel) rfl⟩
theorem cl_X9_37 : Cond.classLink RX9 37 RX7 ∈ tb := at_place 204 (by decide +kernel) rfl
theorem nw_X9_37 : NW RX9 37 RX7 TX7 2 7 := ⟨rfl, inT7, cl_X9_37, at_place 205 (by decide +kernel) rfl, at_place 62 (by decide +kernel) rfl⟩
theorem cl_X7_15 : Cond.classLink RX7 15 RX0 ∈ tb := at_place 210 (by decide +kernel) rfl
theorem nw_X7_15 : NW RX7 15 RX0 TX0 7 0 := ⟨rfl, inT0, cl_X7_15, at_place 130 (by decide +kernel) rfl, at_place 60 (by decide +kernel) rfl⟩
theorem cl_X9_44 : Cond.classLink RX9 44 RX4 ∈ tb := at_place 219 (by decide +kernel) rfl
theorem nw_X9_44 : NW RX9 44 RX4 TX4 3 4 := ⟨rfl, inT4, cl_X9_44, at_place 220 (by decide +kernel) rfl, at_place 63 (by decide +kernel) rfl⟩
theorem cl_X9_51 : Cond.classLink RX9 51 RX3 ∈ tb := at_place 235 (by decide +kernel) rfl
theorem nw_X9_51 : NW RX9 51 RX3 TX3 2 3 := ⟨rfl, inT3, cl_X9_51, at_place 236 (by decide +kernel) rfl, at_place 64 (by decide +kernel) rfl⟩
theorem cl_X9_58 : Cond.classLink RX9 58 RX6 ∈ tb := at_place 250 (by decide +kernel) rfl
theorem nw_X9_58 : NW RX9 58 RX6 TX6 3 6 := ⟨rfl, inT6, cl_X9_58, at_place 254 (by decide +kernel) rfl, at_place 65 (by decide +kernel) rfl⟩
theorem cl_X9_64 : Cond.classLink RX9 64 RX1 ∈ tb := at_place 252 (by decide +kernel) rfl
theorem nw_X9_64 : NW RX9 64 RX1 TX1 5 1 := ⟨rfl, inT1, cl_X9_64, at_place 272 (by decide +kernel) rfl, at_place 66 (by decide +kernel) rfl⟩
theorem cl_L_10 : Cond.classLink RL 10 RX10 ∈ tb := at_place 829 (by decide +kernel) rfl
theorem nw_L_10 : NW RL 10 RX10 TX10 27 10 := ⟨rfl, inT10, cl_L_10, at_place 830 (by decide +kernel) rfl, at_place 67 (by decide +kernel) rfl⟩
theorem ci_L_9 : CIM RL 9 yX9_init cX9_init 2 := ⟨ww_73, ws_good ww_75, rfl, ww_74, ww_57, by decide +kernel⟩
theorem ob_X9_3 : OB RX9 3 := ⟨at_place 76 (by decide +kernel) rfl, at_place 77 (by decide +kernel) rfl, at_place 78 (by decide +kernel) rfl⟩
theorem ci_X9_11 : CIN RX9 11 yX2_init cX2_init 1 := ⟨by simp [nests], ws_good ww_83, rfl, ww_82, ww_58, by decide +kernel⟩
theorem ob_X2_3 : OB RX2 3 := ⟨at_place 84 (by decide +kernel) rfl, at_place 77 (by decide +kernel) rfl, at_place 78 (by decide +kernel) rfl⟩
theorem ci_X9_25 : CIN RX9 25 yX5_init cX5_init 1 := ⟨by simp [nests], ws_good ww_127, rfl, ww_126, ww_59, by decide +kernel⟩
theorem ob_X5_3 : OB RX5 3 := ⟨at_place 128 (by decide +kernel) rfl, at_place 77 (by decide +kernel) rfl, at_place 78 (by decide +kernel) rfl⟩
theorem ci_X5_27 : CIN RX5 27 yX0_init cX0_init 1 := ⟨by simp [nests], ws_good ww_133, rfl, ww_132, ww_60, by decide +kernel⟩
theorem ob_X0_3 : OB RX0 3 := ⟨at_place 134 (by decide +kernel) rfl, at_place 77 (by decide +kernel) rfl, at_place 78 (by decide +kernel) rfl⟩
theorem ci_X9_32 : CIN RX9 32 yX8_init cX8_init 1 := ⟨by simp [nests], ws_good ww_190, rfl, ww_189, ww_61, by decide +kernel⟩
theorem ob_X8_3 : OB RX8 3 := ⟨at_place 191 (by decide +kernel) rfl, at_place 77 (by decide +kernel) rfl, at_place 78 (by decide +kernel) rfl⟩
theorem ci_X9_39 : CIN RX9 39 yX7_init cX7_init 1 := ⟨by simp [nests], ws_good ww_208, rfl, ww_207, ww_62, by decide +kernel⟩
theorem ob_X7_3 : OB RX7 3 := ⟨at_place 209 (by decide +kernel) rfl, at_place 77 (by decide +kernel) rfl, at_place 78 (by decide +kernel) rfl⟩
theorem ci_X7_17 : CIN RX7 17 yX0_init cX0_init 1 := ⟨by simp [nests], ws_good ww_133, rfl, ww_132, ww_60, by decide +kernel⟩
theorem ci_X9_46 : CIN RX9 46 yX4_init cX4_init 1 := ⟨by simp [nests], ws_good ww_223, rfl, ww_222, ww_63, by decide +kernel⟩
theorem ob_X4_3 : OB RX4 3 := ⟨at_place 224 (by decide +kernel) rfl, at_place 77 (by decide +kernel) rfl, at_place 78 (by decide +kernel) rfl⟩
theorem ci_X9_53 : CIN RX9 53 yX3_init cX3_init 1 := ⟨by simp [nests], ws_good ww_239, rfl, ww_238, ww_64, by decide +kernel⟩
theorem ob_X3_3 : OB RX3 3 := ⟨at_place 240 (by decide +kernel) rfl, at_place 77 (by decide +kernel) rfl, at_place 78 (by decide +kernel) rfl⟩
theorem ci_X9_80 : CIN RX9 80 yX6_init cX6_init 1 := ⟨by simp [nests], ws_good ww_257, rfl, ww_256, ww_65, by decide +kernel⟩
theorem ob_X6_3 : OB RX6 3 := ⟨at_place 258 (by decide +kernel) rfl, at_place 77 (by decide +kernel) rfl, at_place 78 (by decide +kernel) rfl⟩
theorem ci_X9_81 : CIN RX9 81 yX1_init cX1_init 1 := ⟨by simp [nests], ws_good ww_275, rfl, ww_274, ww_66, by decide +kernel⟩
theorem ob_X1_3 : OB RX1 3 := ⟨at_place 276 (by decide +kernel) rfl, at_place 77 (by decide +kernel) rfl, at_place 78 (by decide +kernel) rfl⟩
theorem ci_L_12 : CIM RL 12 yX10_init cX10_init 1 := ⟨ww_831, ws_good ww_833, rfl, ww_832, ww_67, by decide +kernel⟩
theorem ob_X10_1 : OB RX10 1 := ⟨at_place 834 (by decide +kernel) rfl, at_place 77 (by decide +kernel) rfl, at_place 78 (by decide +kernel) rfl⟩
theorem pf_0_4 : PF RX0 TX0 7 4 (.array .int) := ⟨⟨tyX0, tyX0_ok⟩, nmX0, rfl, rfl, by decide +kernel⟩
theorem pf_0_5 : PF RX0 TX0 7 5 (.array .boolean) := ⟨⟨tyX0, tyX0_ok⟩, nmX0, rfl, rfl, by decide +kernel⟩
theorem pf_0_6 : PF RX0 TX0 7 6 (.array .int) := ⟨⟨tyX0, tyX0_ok⟩, nmX0, rfl, rfl, by decide +kernel⟩
theorem pf_1_4 : PF RX1 TX1 5 4 (.array .int) := ⟨⟨tyX1, tyX1_ok⟩, nmX1, rfl, rfl, by decide +kernel⟩
theorem pf_2_3 : PF RX2 TX2 8 3 (.array .int) := ⟨⟨tyX2, tyX2_ok⟩, nmX2, rfl, rfl, by decide +kernel⟩
theorem pf_2_4 : PF RX2 TX2 8 4 (.array .int) := ⟨⟨tyX2, tyX2_ok⟩, nmX2, rfl, rfl, by decide +kernel⟩
theorem pf_2_5 : PF RX2 TX2 8 5 (.array .long) := ⟨⟨tyX2, tyX2_ok⟩, nmX2, rfl, rfl, by decide +kernel⟩
theorem pf_2_6 : PF RX2 TX2 8 6 (.array .int) := ⟨⟨tyX2, tyX2_ok⟩, nmX2, rfl, rfl, by decide +kernel⟩
theorem pf_2_7 : PF RX2 TX2 8 7 (.array .int) := ⟨⟨tyX2, tyX2_ok⟩, nmX2, rfl, rfl, by decide +kernel⟩
theorem pf_3_1 : PF RX3 TX3 2 1 (.array .long) := ⟨⟨tyX3, tyX3_ok⟩, nmX3, rfl, rfl, by decide +kernel⟩
theorem pf_4_2 : PF RX4 TX4 3 2 (.array .long) := ⟨⟨tyX4, tyX4_ok⟩, nmX4, rfl, rfl, by decide +kernel⟩
theorem pf_5_3 : PF RX5 TX5 5 3 (.array .int) := ⟨⟨tyX5, tyX5_ok⟩, nmX5, rfl, rfl, by decide +kernel⟩
theorem pf_5_4 : PF RX5 TX5 5 4 (.object "PairsStand$Basis") := ⟨⟨tyX5, tyX5_ok⟩, nmX5, rfl, rfl, by decide +kernel⟩
theorem pf_6_2 : PF RX6 TX6 3 2 (.array .long) := ⟨⟨tyX6, tyX6_ok⟩, nmX6, rfl, rfl, by decide +kernel⟩
theorem pf_7_0 : PF RX7 TX7 2 0 (.array .int) := ⟨⟨tyX7, tyX7_ok⟩, nmX7, rfl, rfl, by decide +kernel⟩
theorem pf_7_1 : PF RX7 TX7 2 1 (.object "PairsStand$Basis") := ⟨⟨tyX7, tyX7_ok⟩, nmX7, rfl, rfl, by decide +kernel⟩
theorem pf_8_2 : PF RX8 TX8 3 2 (.array .boolean) := ⟨⟨tyX8, tyX8_ok⟩, nmX8, rfl, rfl, by decide +kernel⟩
theorem pf_9_0 : PF RX9 TX9 13 0 (.object "PairsStand$Kept") := ⟨⟨tyX9, tyX9_ok⟩, nmX9, rfl, rfl, by decide +kernel⟩
theorem pf_9_1 : PF RX9 TX9 13 1 (.object "PairsStand$Kept") := ⟨⟨tyX9, tyX9_ok⟩, nmX9, rfl, rfl, by decide +kernel⟩
theorem pf_9_3 : PF RX9 TX9 13 3 (.object "PairsStand$Rows") := ⟨⟨tyX9, tyX9_ok⟩, nmX9, rfl, rfl, by decide +kernel⟩
theorem pf_9_4 : PF RX9 TX9 13 4 (.object "PairsStand$Standing") := ⟨⟨tyX9, tyX9_ok⟩, nmX9, rfl, rfl, by decide +kernel⟩
theorem pf_9_5 : PF RX9 TX9 13 5 (.object "PairsStand$Skew") := ⟨⟨tyX9, tyX9_ok⟩, nmX9, rfl, rfl, by decide +kernel⟩
theorem pf_9_6 : PF RX9 TX9 13 6 (.object "PairsStand$Root") := ⟨⟨tyX9, tyX9_ok⟩, nmX9, rfl, rfl, by decide +kernel⟩
theorem pf_9_7 : PF RX9 TX9 13 7 (.object "PairsStand$Rays") := ⟨⟨tyX9, tyX9_ok⟩, nmX9, rfl, rfl, by decide +kernel⟩
theorem pf_9_8 : PF RX9 TX9 13 8 (.array (.object "PairsStand$Sheet")) := ⟨⟨tyX9, tyX9_ok⟩, nmX9, rfl, rfl, by decide +kernel⟩
theorem pf_9_9 : PF RX9 TX9 13 9 (.array (.object "PairsStand$Hand")) := ⟨⟨tyX9, tyX9_ok⟩, nmX9, rfl, rfl, by decide +kernel⟩
theorem pf_9_10 : PF RX9 TX9 13 10 (.array .int) := ⟨⟨tyX9, tyX9_ok⟩, nmX9, rfl, rfl, by decide +kernel⟩
theorem pf_9_11 : PF RX9 TX9 13 11 (.array .int) := ⟨⟨tyX9, tyX9_ok⟩, nmX9, rfl, rfl, by decide +kernel⟩
theorem pf_9_12 : PF RX9 TX9 13 12 (.array .int) := ⟨⟨tyX9, tyX9_ok⟩, nmX9, rfl, rfl, by decide +kernel⟩
theorem pf_10_3 : PF RX10 TX10 27 3 (.array .int) := ⟨⟨tyX10, tyX10_ok⟩, nmX10, rfl, rfl, by decide +kernel⟩
theorem pf_10_4 : PF RX10 TX10 27 4 (.array .int) := ⟨⟨tyX10, tyX10_ok⟩, nmX10, rfl, rfl, by decide +kernel⟩
theorem pf_10_5 : PF RX10 TX10 27 5 (.array .long) := ⟨⟨tyX10, tyX10_ok⟩, nmX10, rfl, rfl, by decide +kernel⟩
theorem pf_10_6 : PF RX10 TX10 27 6 (.array .int) := ⟨⟨tyX10, tyX10_ok⟩, nmX10, rfl, rfl, by decide +kernel⟩
theorem pf_10_7 : PF RX10 TX10 27 7 (.array .int) := ⟨⟨tyX10, tyX10_ok⟩, nmX10, rfl, rfl, by decide +kernel⟩
theorem pf_10_8 : PF RX10 TX10 27 8 (.array .int) := ⟨⟨tyX10, tyX10_ok⟩, nmX10, rfl, rfl, by decide +kernel⟩
theorem pf_10_10 : PF RX10 TX10 27 10 (.array .long) := ⟨⟨tyX10, tyX10_ok⟩, nmX10, rfl, rfl, by decide +kernel⟩
theorem pf_10_12 : PF RX10 TX10 27 12 (.array .long) := ⟨⟨tyX10, tyX10_ok⟩, nmX10, rfl, rfl, by decide +kernel⟩
theorem pf_10_14 : PF RX10 TX10 27 14 (.array .long) := ⟨⟨tyX10, tyX10_ok⟩, nmX10, rfl, rfl, by decide +kernel⟩
theorem pf_10_16 : PF RX10 TX10 27 16 (.array .int) := ⟨⟨tyX10, tyX10_ok⟩, nmX10, rfl, rfl, by decide +kernel⟩
theorem pf_10_17 : PF RX10 TX10 27 17 (.array .int) := ⟨⟨tyX10, tyX10_ok⟩, nmX10, rfl, rfl, by decide +kernel⟩
theorem pf_10_18 : PF RX10 TX10 27 18 (.array .int) := ⟨⟨tyX10, tyX10_ok⟩, nmX10, rfl, rfl, by decide +kernel⟩
theorem pf_10_19 : PF RX10 TX10 27 19 (.array .int) := ⟨⟨tyX10, tyX10_ok⟩, nmX10, rfl, rfl, by decide +kernel⟩
theorem pf_10_20 : PF RX10 TX10 27 20 (.array .int) := ⟨⟨tyX10, tyX10_ok⟩, nmX10, rfl, rfl, by decide +kernel⟩
theorem pf_10_21 : PF RX10 TX10 27 21 (.array .int) := ⟨⟨tyX10, tyX10_ok⟩, nmX10, rfl, rfl, by decide +kernel⟩
theorem pf_10_22 : PF RX10 TX10 27 22 (.array .int) := ⟨⟨tyX10, tyX10_ok⟩, nmX10, rfl, rfl, by decide +kernel⟩
theorem pf_10_23 : PF RX10 TX10 27 23 (.array .long) := ⟨⟨tyX10, tyX10_ok⟩, nmX10, rfl, rfl, by decide +kernel⟩
theorem pf_10_25 : PF RX10 TX10 27 25 (.array .int) := ⟨⟨tyX10, tyX10_ok⟩, nmX10, rfl, rfl, by decide +kernel⟩
theorem pf_10_26 : PF RX10 TX10 27 26 (.array .long) := ⟨⟨tyX10, tyX10_ok⟩, nmX10, rfl, rfl, by decide +kernel⟩
theorem arrV_congr {cA : ClassId} {n : Nat} {z z' : Nat → Value} (h : ∀ j, j < n → z j = z' j) : arrV cA n z = arrV cA n z' := by
  unfold arrV
  congr 1
  apply Array.ext
  · simp
  · intro i h1 h2
    simp at h1 h2 ⊢
    exact h i h1
theorem at_rarr {D : va_G} {cl : List vw_C} {a n : Nat} {cA : ClassId} {f g : Nat → Option Nat} {H : Heap} (h : va_at D cl (a, .inl (cA, n, .inr (.inr (.inr (.inr f))))) H) (e : ∀ i, i < n → f i = g i) : va_at D cl (a, .inl (cA, n, .inr (.inr (.inr (.inr g))))) H := by
  have h1 : H[a]? = some (vp_cell cA (n, .inr (.inr (.inr (.inr f))))) := h
  show H[a]? = some (vp_cell cA (n, .inr (.inr (.inr (.inr g)))))
  rw [h1, vp_cell_q, vp_cell_q, arrV_congr (fun j hj => by rw [e j hj])]
