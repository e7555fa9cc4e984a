def B_X0_init (D : va_G) (cy : Nat → ClassId) (h0 sz : Nat) (H : Heap) : Prop := ∃ q1 q2 q3 : Nat, va_P D vwCl [(h0, .inr (0, [.int 0, .int 7, .int 4, .int 0, .ref q1, .ref q2, .ref q3])), (q1, .inl (cy 0, 36, .inl (fun _ => 0))), (q2, .inl (cy 2, 6, .inl (fun _ => 0))), (q3, .inl (cy 0, 6, .inl (fun _ => 0)))] H ∧ va_D (va_A [(h0, .inr (0, [.int 0, .int 0, .int 0, .int 0, .null, .null, .null]))] sz) [(h0, .inr (0, [.int 0, .int 7, .int 4, .int 0, .ref q1, .ref q2, .ref q3])), (q1, .inl (cy 0, 36, .inl (fun _ => 0))), (q2, .inl (cy 2, 6, .inl (fun _ => 0))), (q3, .inl (cy 0, 6, .inl (fun _ => 0)))]
set_option maxRecDepth 100000 in
set_option maxHeartbeats 4000000 in
theorem c_X0_init {l : Launch} {D : va_G} {cy : Nat → ClassId} (h0 sz : Nat) : MetC l D cy yX0_init cX0_init 1 1 3 48 12 h0 sz (.inr (0, [.int 0, .int 0, .int 0, .int 0, .null, .null, .null])) (B_X0_init D cy h0) := by
  refine c_met (own := RX0) (by decide) rfl rfl (Nat.le_of_ble_eq_true rfl) ?_
  intro p e s m below meth c ls A E hin hr hlk hl hsz hAe hA hK hN hO6 hO1 hP hD hS
  generalize hargs : [Value.ref h0].toArray = args at E ⊢
  have hx := E.1
  have hb := E.2.1
  refine lv_aload_n hx hb dX0_init_0 rfl (lv_at hl 0 rfl) ?_
  refine c_obj E hl.1 ob_X0_3 (Nat.le_of_ble_eq_true rfl) (Nat.le_of_ble_eq_true rfl) dX0_init_1 ?_
  refine lv_aload_n hx hb dX0_init_4 rfl (lv_at hl 0 rfl) ?_
  refine lv_iconst (v := 0) hx hb dX0_init_5 (by decide) ?_
  refine c_putI (q0 := 0) (v := .int 0) E hK hP hD hS fl_X0_9 pl_0_0 rfl rfl rfl (Nat.le_of_ble_eq_true rfl) dX0_init_6 (fun H locs hP hD hS => ?_)
  have hP : va_P D vwCl [(h0, .inr (0, [.int 0, .int 0, .int 0, .int 0, .null, .null, .null]))] H := hP
  have hD : va_D A [(h0, .inr (0, [.int 0, .int 0, .int 0, .int 0, .null, .null, .null]))] := hD
  refine lv_aload_n hx hb dX0_init_9 rfl (lv_at hl 0 rfl) ?_
  refine lv_bipush (v := 7) hx hb dX0_init_10 (by decide) ?_
  refine c_putI (q0 := 0) (v := .int 7) E hK hP hD hS fl_X0_15 pl_0_1 rfl rfl rfl (Nat.le_of_ble_eq_true rfl) dX0_init_12 (fun H locs hP hD hS => ?_)
  have hP : va_P D vwCl [(h0, .inr (0, [.int 0, .int 7, .int 0, .int 0, .null, .null, .null]))] H := hP
  have hD : va_D A [(h0, .inr (0, [.int 0, .int 7, .int 0, .int 0, .null, .null, .null]))] := hD
  refine lv_aload_n hx hb dX0_init_15 rfl (lv_at hl 0 rfl) ?_
  refine lv_iconst (v := 4) hx hb dX0_init_16 (by decide) ?_
  refine c_putI (q0 := 0) (v := .int 4) E hK hP hD hS fl_X0_18 pl_0_2 rfl rfl rfl (Nat.le_of_ble_eq_true rfl) dX0_init_17 (fun H locs hP hD hS => ?_)
  have hP : va_P D vwCl [(h0, .inr (0, [.int 0, .int 7, .int 4, .int 0, .null, .null, .null]))] H := hP
  have hD : va_D A [(h0, .inr (0, [.int 0, .int 7, .int 4, .int 0, .null, .null, .null]))] := hD
  refine lv_aload_n hx hb dX0_init_20 rfl (lv_at hl 0 rfl) ?_
  refine lv_iconst (v := 0) hx hb dX0_init_21 (by decide) ?_
  refine c_putI (q0 := 0) (v := .int 0) E hK hP hD hS fl_X0_21 pl_0_3 rfl rfl rfl (Nat.le_of_ble_eq_true rfl) dX0_init_22 (fun H locs hP hD hS => ?_)
  have hP : va_P D vwCl [(h0, .inr (0, [.int 0, .int 7, .int 4, .int 0, .null, .null, .null]))] H := hP
  have hD : va_D A [(h0, .inr (0, [.int 0, .int 7, .int 4, .int 0, .null, .null, .null]))] := hD
  refine lv_aload_n hx hb dX0_init_25 rfl (lv_at hl 0 rfl) ?_
  refine lv_bipush (v := 36) hx hb dX0_init_26 (by decide) ?_
  refine c_newA (t := 0) (atype := .int) (ty := .int) (N := 36) (a0 := (36, .inl (fun _ => 0))) E rfl (fun _ h => by cases h) wa_int rfl hK hP hD hS hA (fun _ => rfl) (by decide) (by decide) (Nat.le_of_ble_eq_true rfl) (Nat.le_of_ble_eq_true rfl) (Nat.le_of_ble_eq_true rfl) dX0_init_28 (fun q1 H hP hD hS => ?_)
  have hP : va_P D vwCl [(h0, .inr (0, [.int 0, .int 7, .int 4, .int 0, .null, .null, .null])), (q1, .inl (cy 0, 36, .inl (fun _ => 0)))] H := hP
  have hD : va_D A [(h0, .inr (0, [.int 0, .int 7, .int 4, .int 0, .null, .null, .null])), (q1, .inl (cy 0, 36, .inl (fun _ => 0)))] := hD
  refine c_putF (q0 := 0) (v := .ref q1) E hin hK hP hD hS fl_X0_24 pf_0_4 rfl rfl rfl (Nat.le_of_ble_eq_true rfl) dX0_init_30 (fun H locs hP hD hS => ?_)
  have hP : va_P D vwCl [(h0, .inr (0, [.int 0, .int 7, .int 4, .int 0, .ref q1, .null, .null])), (q1, .inl (cy 0, 36, .inl (fun _ => 0)))] H := hP
  have hD : va_D A [(h0, .inr (0, [.int 0, .int 7, .int 4, .int 0, .ref q1, .null, .null])), (q1, .inl (cy 0, 36, .inl (fun _ => 0)))] := hD
  refine lv_aload_n hx hb dX0_init_33 rfl (lv_at hl 0 rfl) ?_
  refine lv_bipush (v := 6) hx hb dX0_init_34 (by decide) ?_
  refine c_newA (t := 2) (atype := .boolean) (ty := .boolean) (N := 6) (a0 := (6, .inl (fun _ => 0))) E rfl (fun _ h => by cases h) wa_boolean rfl hK hP hD hS hA (fun _ => rfl) (by decide) (by decide) (Nat.le_of_ble_eq_true rfl) (Nat.le_of_ble_eq_true rfl) (Nat.le_of_ble_eq_true rfl) dX0_init_36 (fun q2 H hP hD hS => ?_)
  have hP : va_P D vwCl [(h0, .inr (0, [.int 0, .int 7, .int 4, .int 0, .ref q1, .null, .null])), (q1, .inl (cy 0, 36, .inl (fun _ => 0))), (q2, .inl (cy 2, 6, .inl (fun _ => 0)))] H := hP
  have hD : va_D A [(h0, .inr (0, [.int 0, .int 7, .int 4, .int 0, .ref q1, .null, .null])), (q1, .inl (cy 0, 36, .inl (fun _ => 0))), (q2, .inl (cy 2, 6, .inl (fun _ => 0)))] := hD
  refine c_putF (q0 := 0) (v := .ref q2) E hin hK hP hD hS fl_X0_28 pf_0_5 rfl rfl rfl (Nat.le_of_ble_eq_true rfl) dX0_init_38 (fun H locs hP hD hS => ?_)
  have hP : va_P D vwCl [(h0, .inr (0, [.int 0, .int 7, .int 4, .int 0, .ref q1, .ref q2, .null])), (q1, .inl (cy 0, 36, .inl (fun _ => 0))), (q2, .inl (cy 2, 6, .inl (fun _ => 0)))] H := hP
  have hD : va_D A [(h0, .inr (0, [.int 0, .int 7, .int 4, .int 0, .ref q1, .ref q2, .null])), (q1, .inl (cy 0, 36, .inl (fun _ => 0))), (q2, .inl (cy 2, 6, .inl (fun _ => 0)))] := hD
  refine lv_aload_n hx hb dX0_init_41 rfl (lv_at hl 0 rfl) ?_
  refine lv_bipush (v := 6) hx hb dX0_init_42 (by decide) ?_
  refine c_newA (t := 0) (atype := .int) (ty := .int) (N := 6) (a0 := (6, .inl (fun _ => 0))) E rfl (fun _ h => by cases h) wa_int rfl hK hP hD hS hA (fun _ => rfl) (by decide) (by decide) (Nat.le_of_ble_eq_true rfl) (Nat.le_of_ble_eq_true rfl) (Nat.le_of_ble_eq_true rfl) dX0_init_44 (fun q3 H hP hD hS => ?_)
  have hP : va_P D vwCl [(h0, .inr (0, [.int 0, .int 7, .int 4, .int 0, .ref q1, .ref q2, .null])), (q1, .inl (cy 0, 36, .inl (fun _ => 0))), (q2, .inl (cy 2, 6, .inl (fun _ => 0))), (q3, .inl (cy 0, 6, .inl (fun _ => 0)))] H := hP
  have hD : va_D A [(h0, .inr (0, [.int 0, .int 7, .int 4, .int 0, .ref q1, .ref q2, .null])), (q1, .inl (cy 0, 36, .inl (fun _ => 0))), (q2, .inl (cy 2, 6, .inl (fun _ => 0))), (q3, .inl (cy 0, 6, .inl (fun _ => 0)))] := hD
  refine c_putF (q0 := 0) (v := .ref q3) E hin hK hP hD hS fl_X0_32 pf_0_6 rfl rfl rfl (Nat.le_of_ble_eq_true rfl) dX0_init_46 (fun H locs hP hD hS => ?_)
  have hP : va_P D vwCl [(h0, .inr (0, [.int 0, .int 7, .int 4, .int 0, .ref q1, .ref q2, .ref q3])), (q1, .inl (cy 0, 36, .inl (fun _ => 0))), (q2, .inl (cy 2, 6, .inl (fun _ => 0))), (q3, .inl (cy 0, 6, .inl (fun _ => 0)))] H := hP
  have hD : va_D A [(h0, .inr (0, [.int 0, .int 7, .int 4, .int 0, .ref q1, .ref q2, .ref q3])), (q1, .inl (cy 0, 36, .inl (fun _ => 0))), (q2, .inl (cy 2, 6, .inl (fun _ => 0))), (q3, .inl (cy 0, 6, .inl (fun _ => 0)))] := hD
  exact c_ret (B := B_X0_init D cy h0 sz) E hS ⟨q1, q2, q3, hP, by rw [hAe]; exact hD⟩ hr hlk dX0_init_49
def B_X1_init (D : va_G) (cy : Nat → ClassId) (h0 sz : Nat) (H : Heap) : Prop := ∃ q1 : Nat, va_P D vwCl [(h0, .inr (1, [.int 0, .int 0, .int 0, .int 0, .ref q1])), (q1, .inl (cy 0, 6, .inl (fun _ => 0)))] H ∧ va_D (va_A [(h0, .inr (1, [.int 0, .int 0, .int 0, .int 0, .null]))] sz) [(h0, .inr (1, [.int 0, .int 0, .int 0, .int 0, .ref q1])), (q1, .inl (cy 0, 6, .inl (fun _ => 0)))]
set_option maxRecDepth 100000 in
set_option maxHeartbeats 4000000 in
theorem c_X1_init {l : Launch} {D : va_G} {cy : Nat → ClassId} (h0 sz : Nat) : MetC l D cy yX1_init cX1_init 1 1 1 6 12 h0 sz (.inr (1, [.int 0, .int 0, .int 0, .int 0, .null])) (B_X1_init D cy h0) := by
  refine c_met (own := RX1) (by decide) rfl rfl (Nat.le_of_ble_eq_true rfl) ?_
  intro p e s m below meth c ls A E hin hr hlk hl hsz hAe hA hK hN hO6 hO1 hP hD hS
  generalize hargs : [Value.ref h0].toArray = args at E ⊢
  have hx := E.1
  have hb := E.2.1
  refine lv_aload_n hx hb dX1_init_0 rfl (lv_at hl 0 rfl) ?_
  refine c_obj E hl.1 ob_X1_3 (Nat.le_of_ble_eq_true rfl) (Nat.le_of_ble_eq_true rfl) dX1_init_1 ?_
  refine lv_aload_n hx hb dX1_init_4 rfl (lv_at hl 0 rfl) ?_
  refine lv_iconst (v := 0) hx hb dX1_init_5 (by decide) ?_
  refine c_putI (q0 := 0) (v := .int 0) E hK hP hD hS fl_X1_9 pl_1_0 rfl rfl rfl (Nat.le_of_ble_eq_true rfl) dX1_init_6 (fun H locs hP hD hS => ?_)
  have hP : va_P D vwCl [(h0, .inr (1, [.int 0, .int 0, .int 0, .int 0, .null]))] H := hP
  have hD : va_D A [(h0, .inr (1, [.int 0, .int 0, .int 0, .int 0, .null]))] := hD
  refine lv_aload_n hx hb dX1_init_9 rfl (lv_at hl 0 rfl) ?_
  refine lv_iconst (v := 0) hx hb dX1_init_10 (by decide) ?_
  refine c_putI (q0 := 0) (v := .int 0) E hK hP hD hS fl_X1_15 pl_1_1 rfl rfl rfl (Nat.le_of_ble_eq_true rfl) dX1_init_11 (fun H locs hP hD hS => ?_)
  have hP : va_P D vwCl [(h0, .inr (1, [.int 0, .int 0, .int 0, .int 0, .null]))] H := hP
  have hD : va_D A [(h0, .inr (1, [.int 0, .int 0, .int 0, .int 0, .null]))] := hD
  refine lv_aload_n hx hb dX1_init_14 rfl (lv_at hl 0 rfl) ?_
  refine lv_iconst (v := 0) hx hb dX1_init_15 (by decide) ?_
  refine c_putI (q0 := 0) (v := .int 0) E hK hP hD hS fl_X1_18 pl_1_2 rfl rfl rfl (Nat.le_of_ble_eq_true rfl) dX1_init_16 (fun H locs hP hD hS => ?_)
  have hP : va_P D vwCl [(h0, .inr (1, [.int 0, .int 0, .int 0, .int 0, .null]))] H := hP
  have hD : va_D A [(h0, .inr (1, [.int 0, .int 0, .int 0, .int 0, .null]))] := hD
  refine lv_aload_n hx hb dX1_init_19 rfl (lv_at hl 0 rfl) ?_
  refine lv_iconst (v := 0) hx hb dX1_init_20 (by decide) ?_
  refine c_putI (q0 := 0) (v := .int 0) E hK hP hD hS fl_X1_21 pl_1_3 rfl rfl rfl (Nat.le_of_ble_eq_true rfl) dX1_init_21 (fun H locs hP hD hS => ?_)
  have hP : va_P D vwCl [(h0, .inr (1, [.int 0, .int 0, .int 0, .int 0, .null]))] H := hP
  have hD : va_D A [(h0, .inr (1, [.int 0, .int 0, .int 0, .int 0, .null]))] := hD
  refine lv_aload_n hx hb dX1_init_24 rfl (lv_at hl 0 rfl) ?_
  refine lv_bipush (v := 6) hx hb dX1_init_25 (by decide) ?_
  refine c_newA (t := 0) (atype := .int) (ty := .int) (N := 6) (a0 := (6, .inl (fun _ => 0))) E rfl (fun _ h => by cases h) wa_int rfl hK hP hD hS hA (fun _ => rfl) (by decide) (by decide) (Nat.le_of_ble_eq_true rfl) (Nat.le_of_ble_eq_true rfl) (Nat.le_of_ble_eq_true rfl) dX1_init_27 (fun q1 H hP hD hS => ?_)
  have hP : va_P D vwCl [(h0, .inr (1, [.int 0, .int 0, .int 0, .int 0, .null])), (q1, .inl (cy 0, 6, .inl (fun _ => 0)))] H := hP
  have hD : va_D A [(h0, .inr (1, [.int 0, .int 0, .int 0, .int 0, .null])), (q1, .inl (cy 0, 6, .inl (fun _ => 0)))] := hD
  refine c_putF (q0 := 0) (v := .ref q1) E hin hK hP hD hS fl_X1_24 pf_1_4 rfl rfl rfl (Nat.le_of_ble_eq_true rfl) dX1_init_29 (fun H locs hP hD hS => ?_)
  have hP : va_P D vwCl [(h0, .inr (1, [.int 0, .int 0, .int 0, .int 0, .ref q1])), (q1, .inl (cy 0, 6, .inl (fun _ => 0)))] H := hP
  have hD : va_D A [(h0, .inr (1, [.int 0, .int 0, .int 0, .int 0, .ref q1])), (q1, .inl (cy 0, 6, .inl (fun _ => 0)))] := hD
  exact c_ret (B := B_X1_init D cy h0 sz) E hS ⟨q1, hP, by rw [hAe]; exact hD⟩ hr hlk dX1_init_32
def B_X2_init (D : va_G) (cy : Nat → ClassId) (h0 sz : Nat) (H : Heap) : Prop := ∃ q1 q2 q3 q4 q5 : Nat, va_P D vwCl [(h0, .inr (2, [.int 7, .int 4, .int 0, .ref q1, .ref q2, .ref q3, .ref q4, .ref q5])), (q1, .inl (cy 0, 10, .inl (fun _ => 0))), (q2, .inl (cy 0, 10, .inl (fun _ => 0))), (q3, .inl (cy 1, 10, .inr (.inl (fun _ => 0)))), (q4, .inl (cy 0, 120, .inl (fun _ => 0))), (q5, .inl (cy 0, 8, .inl (fun _ => 0)))] H ∧ va_D (va_A [(h0, .inr (2, [.int 0, .int 0, .int 0, .null, .null, .null, .null, .null]))] sz) [(h0, .inr (2, [.int 7, .int 4, .int 0, .ref q1, .ref q2, .ref q3, .ref q4, .ref q5])), (q1, .inl (cy 0, 10, .inl (fun _ => 0))), (q2, .inl (cy 0, 10, .inl (fun _ => 0))), (q3, .inl (cy 1, 10, .inr (.inl (fun _ => 0)))), (q4, .inl (cy 0, 120, .inl (fun _ => 0))), (q5, .inl (cy 0, 8, .inl (fun _ => 0)))]
set_option maxRecDepth 100000 in
set_option maxHeartbeats 4000000 in
theorem c_X2_init {l : Launch} {D : va_G} {cy : Nat → ClassId} (h0 sz : Nat) : MetC l D cy yX2_init cX2_init 1 1 5 158 12 h0 sz (.inr (2, [.int 0, .int 0, .int 0, .null, .null, .null, .null, .null])) (B_X2_init D cy h0) := by
  refine c_met (own := RX2) (by decide) rfl rfl (Nat.le_of_ble_eq_true rfl) ?_
  intro p e s m below meth c ls A E hin hr hlk hl hsz hAe hA hK hN hO6 hO1 hP hD hS
  generalize hargs : [Value.ref h0].toArray = args at E ⊢
  have hx := E.1
  have hb := E.2.1
  refine lv_aload_n hx hb dX2_init_0 rfl (lv_at hl 0 rfl) ?_
  refine c_obj E hl.1 ob_X2_3 (Nat.le_of_ble_eq_true rfl) (Nat.le_of_ble_eq_true rfl) dX2_init_1 ?_
  refine lv_aload_n hx hb dX2_init_4 rfl (lv_at hl 0 rfl) ?_
  refine lv_bipush (v := 7) hx hb dX2_init_5 (by decide) ?_
  refine c_putI (q0 := 0) (v := .int 7) E hK hP hD hS fl_X2_9 pl_2_0 rfl rfl rfl (Nat.le_of_ble_eq_true rfl) dX2_init_7 (fun H locs hP hD hS => ?_)
  have hP : va_P D vwCl [(h0, .inr (2, [.int 7, .int 0, .int 0, .null, .null, .null, .null, .null]))] H := hP
  have hD : va_D A [(h0, .inr (2, [.int 7, .int 0, .int 0, .null, .null, .null, .null, .null]))] := hD
  refine lv_aload_n hx hb dX2_init_10 rfl (lv_at hl 0 rfl) ?_
  refine lv_iconst (v := 4) hx hb dX2_init_11 (by decide) ?_
  refine c_putI (q0 := 0) (v := .int 4) E hK hP hD hS fl_X2_15 pl_2_1 rfl rfl rfl (Nat.le_of_ble_eq_true rfl) dX2_init_12 (fun H locs hP hD hS => ?_)
  have hP : va_P D vwCl [(h0, .inr (2, [.int 7, .int 4, .int 0, .null, .null, .null, .null, .null]))] H := hP
  have hD : va_D A [(h0, .inr (2, [.int 7, .int 4, .int 0, .null, .null, .null, .null, .null]))] := hD
  refine lv_aload_n hx hb dX2_init_15 rfl (lv_at hl 0 rfl) ?_
  refine lv_iconst (v := 0) hx hb dX2_init_16 (by decide) ?_
  refine c_putI (q0 := 0) (v := .int 0) E hK hP hD hS fl_X2_18 pl_2_2 rfl rfl rfl (Nat.le_of_ble_eq_true rfl) dX2_init_17 (fun H locs hP hD hS => ?_)
  have hP : va_P D vwCl [(h0, .inr (2, [.int 7, .int 4, .int 0, .null, .null, .null, .null, .null]))] H := hP
  have hD : va_D A [(h0, .inr (2, [.int 7, .int 4, .int 0, .null, .null, .null, .null, .null]))] := hD
  refine lv_aload_n hx hb dX2_init_20 rfl (lv_at hl 0 rfl) ?_
  refine lv_bipush (v := 10) hx hb dX2_init_21 (by decide) ?_
  refine c_newA (t := 0) (atype := .int) (ty := .int) (N := 10) (a0 := (10, .inl (fun _ => 0))) E rfl (fun _ h => by cases h) wa_int rfl hK hP hD hS hA (fun _ => rfl) (by decide) (by decide) (Nat.le_of_ble_eq_true rfl) (Nat.le_of_ble_eq_true rfl) (Nat.le_of_ble_eq_true rfl) dX2_init_23 (fun q1 H hP hD hS => ?_)
  have hP : va_P D vwCl [(h0, .inr (2, [.int 7, .int 4, .int 0, .null, .null, .null, .null, .null])), (q1, .inl (cy 0, 10, .inl (fun _ => 0)))] H := hP
  have hD : va_D A [(h0, .inr (2, [.int 7, .int 4, .int 0, .null, .null, .null, .null, .null])), (q1, .inl (cy 0, 10, .inl (fun _ => 0)))] := hD
  refine c_putF (q0 := 0) (v := .ref q1) E hin hK hP hD hS fl_X2_21 pf_2_3 rfl rfl rfl (Nat.le_of_ble_eq_true rfl) dX2_init_25 (fun H locs hP hD hS => ?_)
  have hP : va_P D vwCl [(h0, .inr (2, [.int 7, .int 4, .int 0, .ref q1, .null, .null, .null, .null])), (q1, .inl (cy 0, 10, .inl (fun _ => 0)))] H := hP
  have hD : va_D A [(h0, .inr (2, [.int 7, .int 4, .int 0, .ref q1, .null, .null, .null, .null])), (q1, .inl (cy 0, 10, .inl (fun _ => 0)))] := hD
  refine lv_aload_n hx hb dX2_init_28 rfl (lv_at hl 0 rfl) ?_
  refine lv_bipush (v := 10) hx hb dX2_init_29 (by decide) ?_
  refine c_newA (t := 0) (atype := .int) (ty := .int) (N := 10) (a0 := (10, .inl (fun _ => 0))) E rfl (fun _ h => by cases h) wa_int rfl hK hP hD hS hA (fun _ => rfl) (by decide) (by decide) (Nat.le_of_ble_eq_true rfl) (Nat.le_of_ble_eq_true rfl) (Nat.le_of_ble_eq_true rfl) dX2_init_31 (fun q2 H hP hD hS => ?_)
  have hP : va_P D vwCl [(h0, .inr (2, [.int 7, .int 4, .int 0, .ref q1, .null, .null, .null, .null])), (q1, .inl (cy 0, 10, .inl (fun _ => 0))), (q2, .inl (cy 0, 10, .inl (fun _ => 0)))] H := hP
  have hD : va_D A [(h0, .inr (2, [.int 7, .int 4, .int 0, .ref q1, .null, .null, .null, .null])), (q1, .inl (cy 0, 10, .inl (fun _ => 0))), (q2, .inl (cy 0, 10, .inl (fun _ => 0)))] := hD
  refine c_putF (q0 := 0) (v := .ref q2) E hin hK hP hD hS fl_X2_25 pf_2_4 rfl rfl rfl (Nat.le_of_ble_eq_true rfl) dX2_init_33 (fun H locs hP hD hS => ?_)
  have hP : va_P D vwCl [(h0, .inr (2, [.int 7, .int 4, .int 0, .ref q1, .ref q2, .null, .null, .null])), (q1, .inl (cy 0, 10, .inl (fun _ => 0))), (q2, .inl (cy 0, 10, .inl (fun _ => 0)))] H := hP
  have hD : va_D A [(h0, .inr (2, [.int 7, .int 4, .int 0, .ref q1, .ref q2, .null, .null, .null])), (q1, .inl (cy 0, 10, .inl (fun _ => 0))), (q2, .inl (cy 0, 10, .inl (fun _ => 0)))] := hD
  refine lv_aload_n hx hb dX2_init_36 rfl (lv_at hl 0 rfl) ?_
  refine lv_bipush (v := 10) hx hb dX2_init_37 (by decide) ?_
  refine c_newA (t := 1) (atype := .long) (ty := .long) (N := 10) (a0 := (10, .inr (.inl (fun _ => 0)))) E rfl (fun _ h => by cases h) wa_long rfl hK hP hD hS hA (fun _ => rfl) (by decide) (by decide) (Nat.le_of_ble_eq_true rfl) (Nat.le_of_ble_eq_true rfl) (Nat.le_of_ble_eq_true rfl) dX2_init_39 (fun q3 H hP hD hS => ?_)
  have hP : va_P D vwCl [(h0, .inr (2, [.int 7, .int 4, .int 0, .ref q1, .ref q2, .null, .null, .null])), (q1, .inl (cy 0, 10, .inl (fun _ => 0))), (q2, .inl (cy 0, 10, .inl (fun _ => 0))), (q3, .inl (cy 1, 10, .inr (.inl (fun _ => 0))))] H := hP
  have hD : va_D A [(h0, .inr (2, [.int 7, .int 4, .int 0, .ref q1, .ref q2, .null, .null, .null])), (q1, .inl (cy 0, 10, .inl (fun _ => 0))), (q2, .inl (cy 0, 10, .inl (fun _ => 0))), (q3, .inl (cy 1, 10, .inr (.inl (fun _ => 0))))] := hD
  refine c_putF (q0 := 0) (v := .ref q3) E hin hK hP hD hS fl_X2_28 pf_2_5 rfl rfl rfl (Nat.le_of_ble_eq_true rfl) dX2_init_41 (fun H locs hP hD hS => ?_)
  have hP : va_P D vwCl [(h0, .inr (2, [.int 7, .int 4, .int 0, .ref q1, .ref q2, .ref q3, .null, .null])), (q1, .inl (cy 0, 10, .inl (fun _ => 0))), (q2, .inl (cy 0, 10, .inl (fun _ => 0))), (q3, .inl (cy 1, 10, .inr (.inl (fun _ => 0))))] H := hP
  have hD : va_D A [(h0, .inr (2, [.int 7, .int 4, .int 0, .ref q1, .ref q2, .ref q3, .null, .null])), (q1, .inl (cy 0, 10, .inl (fun _ => 0))), (q2, .inl (cy 0, 10, .inl (fun _ => 0))), (q3, .inl (cy 1, 10, .inr (.inl (fun _ => 0))))] := hD
  refine lv_aload_n hx hb dX2_init_44 rfl (lv_at hl 0 rfl) ?_
  refine lv_bipush (v := 120) hx hb dX2_init_45 (by decide) ?_
  refine c_newA (t := 0) (atype := .int) (ty := .int) (N := 120) (a0 := (120, .inl (fun _ => 0))) E rfl (fun _ h => by cases h) wa_int rfl hK hP hD hS hA (fun _ => rfl) (by decide) (by decide) (Nat.le_of_ble_eq_true rfl) (Nat.le_of_ble_eq_true rfl) (Nat.le_of_ble_eq_true rfl) dX2_init_47 (fun q4 H hP hD hS => ?_)
  have hP : va_P D vwCl [(h0, .inr (2, [.int 7, .int 4, .int 0, .ref q1, .ref q2, .ref q3, .null, .null])), (q1, .inl (cy 0, 10, .inl (fun _ => 0))), (q2, .inl (cy 0, 10, .inl (fun _ => 0))), (q3, .inl (cy 1, 10, .inr (.inl (fun _ => 0)))), (q4, .inl (cy 0, 120, .inl (fun _ => 0)))] H := hP
  have hD : va_D A [(h0, .inr (2, [.int 7, .int 4, .int 0, .ref q1, .ref q2, .ref q3, .null, .null])), (q1, .inl (cy 0, 10, .inl (fun _ => 0))), (q2, .inl (cy 0, 10, .inl (fun _ => 0))), (q3, .inl (cy 1, 10, .inr (.inl (fun _ => 0)))), (q4, .inl (cy 0, 120, .inl (fun _ => 0)))] := hD
  refine c_putF (q0 := 0) (v := .ref q4) E hin hK hP hD hS fl_X2_32 pf_2_6 rfl rfl rfl (Nat.le_of_ble_eq_true rfl) dX2_init_49 (fun H locs hP hD hS => ?_)
  have hP : va_P D vwCl [(h0, .inr (2, [.int 7, .int 4, .int 0, .ref q1, .ref q2, .ref q3, .ref q4, .null])), (q1, .inl (cy 0, 10, .inl (fun _ => 0))), (q2, .inl (cy 0, 10, .inl (fun _ => 0))), (q3, .inl (cy 1, 10, .inr (.inl (fun _ => 0)))), (q4, .inl (cy 0, 120, .inl (fun _ => 0)))] H := hP
  have hD : va_D A [(h0, .inr (2, [.int 7, .int 4, .int 0, .ref q1, .ref q2, .ref q3, .ref q4, .null])), (q1, .inl (cy 0, 10, .inl (fun _ => 0))), (q2, .inl (cy 0, 10, .inl (fun _ => 0))), (q3, .inl (cy 1, 10, .inr (.inl (fun _ => 0)))), (q4, .inl (cy 0, 120, .inl (fun _ => 0)))] := hD
  refine lv_aload_n hx hb dX2_init_52 rfl (lv_at hl 0 rfl) ?_
  refine lv_bipush (v := 8) hx hb dX2_init_53 (by decide) ?_
  refine c_newA (t := 0) (atype := .int) (ty := .int) (N := 8) (a0 := (8, .inl (fun _ => 0))) E rfl (fun _ h => by cases h) wa_int rfl hK hP hD hS hA (fun _ => rfl) (by decide) (by decide) (Nat.le_of_ble_eq_true rfl) (Nat.le_of_ble_eq_true rfl) (Nat.le_of_ble_eq_true rfl) dX2_init_55 (fun q5 H hP hD hS => ?_)
  have hP : va_P D vwCl [(h0, .inr (2, [.int 7, .int 4, .int 0, .ref q1, .ref q2, .ref q3, .ref q4, .null])), (q1, .inl (cy 0, 10, .inl (fun _ => 0))), (q2, .inl (cy 0, 10, .inl (fun _ => 0))), (q3, .inl (cy 1, 10, .inr (.inl (fun _ => 0)))), (q4, .inl (cy 0, 120, .inl (fun _ => 0))), (q5, .inl (cy 0, 8, .inl (fun _ => 0)))] H := hP
  have hD : va_D A [(h0, .inr (2, [.int 7, .int 4, .int 0, .ref q1, .ref q2, .ref q3, .ref q4, .null])), (q1, .inl (cy 0, 10, .inl (fun _ => 0))), (q2, .inl (cy 0, 10, .inl (fun _ => 0))), (q3, .inl (cy 1, 10, .inr (.inl (fun _ => 0)))), (q4, .inl (cy 0, 120, .inl (fun _ => 0))), (q5, .inl (cy 0, 8, .inl (fun _ => 0)))] := hD
  refine c_putF (q0 := 0) (v := .ref q5) E hin hK hP hD hS fl_X2_35 pf_2_7 rfl rfl rfl (Nat.le_of_ble_eq_true rfl) dX2_init_57 (fun H locs hP hD hS => ?_)
  have hP : va_P D vwCl [(h0, .inr (2, [.int 7, .int 4, .int 0, .ref q1, .ref q2, .ref q3, .ref q4, .ref q5])), (q1, .inl (cy 0, 10, .inl (fun _ => 0))), (q2, .inl (cy 0, 10, .inl (fun _ => 0))), (q3, .inl (cy 1, 10, .inr (.inl (fun _ => 0)))), (q4, .inl (cy 0, 120, .inl (fun _ => 0))), (q5, .inl (cy 0, 8, .inl (fun _ => 0)))] H := hP
  have hD : va_D A [(h0, .inr (2, [.int 7, .int 4, .int 0, .ref q1, .ref q2, .ref q3, .ref q4, .ref q5])), (q1, .inl (cy 0, 10, .inl (fun _ => 0))), (q2, .inl (cy 0, 10, .inl (fun _ => 0))), (q3, .inl (cy 1, 10, .inr (.inl (fun _ => 0)))), (q4, .inl (cy 0, 120, .inl (fun _ => 0))), (q5, .inl (cy 0, 8, .inl (fun _ => 0)))] := hD
  exact c_ret (B := B_X2_init D cy h0 sz) E hS ⟨q1, q2, q3, q4, q5, hP, by rw [hAe]; exact hD⟩ hr hlk dX2_init_60
def B_X3_init (D : va_G) (cy : Nat → ClassId) (h0 sz : Nat) (H : Heap) : Prop := ∃ q1 : Nat, va_P D vwCl [(h0, .inr (3, [.int 0, .ref q1])), (q1, .inl (cy 1, 20, .inr (.inl (fun _ => 0))))] H ∧ va_D (va_A [(h0, .inr (3, [.int 0, .null]))] sz) [(h0, .inr (3, [.int 0, .ref q1])), (q1, .inl (cy 1, 20, .inr (.inl (fun _ => 0))))]
set_option maxRecDepth 100000 in
set_option maxHeartbeats 4000000 in
theorem c_X3_init {l : Launch} {D : va_G} {cy : Nat → ClassId} (h0 sz : Nat) : MetC l D cy yX3_init cX3_init 1 1 1 20 12 h0 sz (.inr (3, [.int 0, .null])) (B_X3_init D cy h0) := by
  refine c_met (own := RX3) (by decide) rfl rfl (Nat.le_of_ble_eq_true rfl) ?_
  intro p e s m below meth c ls A E hin hr hlk hl hsz hAe hA hK hN hO6 hO1 hP hD hS
  generalize hargs : [Value.ref h0].toArray = args at E ⊢
  have hx := E.1
  have hb := E.2.1
  refine lv_aload_n hx hb dX3_init_0 rfl (lv_at hl 0 rfl) ?_
  refine c_obj E hl.1 ob_X3_3 (Nat.le_of_ble_eq_true rfl) (Nat.le_of_ble_eq_true rfl) dX3_init_1 ?_
  refine lv_aload_n hx hb dX3_init_4 rfl (lv_at hl 0 rfl) ?_
  refine lv_iconst (v := 0) hx hb dX3_init_5 (by decide) ?_
  refine c_putI (q0 := 0) (v := .int 0) E hK hP hD hS fl_X3_9 pl_3_0 rfl rfl rfl (Nat.le_of_ble_eq_true rfl) dX3_init_6 (fun H locs hP hD hS => ?_)
  have hP : va_P D vwCl [(h0, .inr (3, [.int 0, .null]))] H := hP
  have hD : va_D A [(h0, .inr (3, [.int 0, .null]))] := hD
  refine lv_aload_n hx hb dX3_init_9 rfl (lv_at hl 0 rfl) ?_
  refine lv_bipush (v := 20) hx hb dX3_init_10 (by decide) ?_
  refine c_newA (t := 1) (atype := .long) (ty := .long) (N := 20) (a0 := (20, .inr (.inl (fun _ => 0)))) E rfl (fun _ h => by cases h) wa_long rfl hK hP hD hS hA (fun _ => rfl) (by decide) (by decide) (Nat.le_of_ble_eq_true rfl) (Nat.le_of_ble_eq_true rfl) (Nat.le_of_ble_eq_true rfl) dX3_init_12 (fun q1 H hP hD hS => ?_)
  have hP : va_P D vwCl [(h0, .inr (3, [.int 0, .null])), (q1, .inl (cy 1, 20, .inr (.inl (fun _ => 0))))] H := hP
  have hD : va_D A [(h0, .inr (3, [.int 0, .null])), (q1, .inl (cy 1, 20, .inr (.inl (fun _ => 0))))] := hD
  refine c_putF (q0 := 0) (v := .ref q1) E hin hK hP hD hS fl_X3_15 pf_3_1 rfl rfl rfl (Nat.le_of_ble_eq_true rfl) dX3_init_14 (fun H locs hP hD hS => ?_)
  have hP : va_P D vwCl [(h0, .inr (3, [.int 0, .ref q1])), (q1, .inl (cy 1, 20, .inr (.inl (fun _ => 0))))] H := hP
  have hD : va_D A [(h0, .inr (3, [.int 0, .ref q1])), (q1, .inl (cy 1, 20, .inr (.inl (fun _ => 0))))] := hD
  exact c_ret (B := B_X3_init D cy h0 sz) E hS ⟨q1, hP, by rw [hAe]; exact hD⟩ hr hlk dX3_init_17
def B_X4_init (D : va_G) (cy : Nat → ClassId) (h0 sz : Nat) (H : Heap) : Prop := ∃ q1 : Nat, va_P D vwCl [(h0, .inr (4, [.int 4, .int 0, .ref q1])), (q1, .inl (cy 1, 36, .inr (.inl (fun _ => 0))))] H ∧ va_D (va_A [(h0, .inr (4, [.int 0, .int 0, .null]))] sz) [(h0, .inr (4, [.int 4, .int 0, .ref q1])), (q1, .inl (cy 1, 36, .inr (.inl (fun _ => 0))))]
set_option maxRecDepth 100000 in
set_option maxHeartbeats 4000000 in
theorem c_X4_init {l : Launch} {D : va_G} {cy : Nat → ClassId} (h0 sz : Nat) : MetC l D cy yX4_init cX4_init 1 1 1 36 12 h0 sz (.inr (4, [.int 0, .int 0, .null])) (B_X4_init D cy h0) := by
  refine c_met (own := RX4) (by decide) rfl rfl (Nat.le_of_ble_eq_true rfl) ?_
  intro p e s m below meth c ls A E hin hr hlk hl hsz hAe hA hK hN hO6 hO1 hP hD hS
  generalize hargs : [Value.ref h0].toArray = args at E ⊢
  have hx := E.1
  have hb := E.2.1
  refine lv_aload_n hx hb dX4_init_0 rfl (lv_at hl 0 rfl) ?_
  refine c_obj E hl.1 ob_X4_3 (Nat.le_of_ble_eq_true rfl) (Nat.le_of_ble_eq_true rfl) dX4_init_1 ?_
  refine lv_aload_n hx hb dX4_init_4 rfl (lv_at hl 0 rfl) ?_
  refine lv_iconst (v := 4) hx hb dX4_init_5 (by decide) ?_
  refine c_putI (q0 := 0) (v := .int 4) E hK hP hD hS fl_X4_9 pl_4_0 rfl rfl rfl (Nat.le_of_ble_eq_true rfl) dX4_init_6 (fun H locs hP hD hS => ?_)
  have hP : va_P D vwCl [(h0, .inr (4, [.int 4, .int 0, .null]))] H := hP
  have hD : va_D A [(h0, .inr (4, [.int 4, .int 0, .null]))] := hD
  refine lv_aload_n hx hb dX4_init_9 rfl (lv_at hl 0 rfl) ?_
  refine lv_iconst (v := 0) hx hb dX4_init_10 (by decide) ?_
  refine c_putI (q0 := 0) (v := .int 0) E hK hP hD hS fl_X4_15 pl_4_1 rfl (isB_narrow (by decide)) (isB_fits (by decide)) (Nat.le_of_ble_eq_true rfl) dX4_init_11 (fun H locs hP hD hS => ?_)
  have hP : va_P D vwCl [(h0, .inr (4, [.int 4, .int 0, .null]))] H := hP
  have hD : va_D A [(h0, .inr (4, [.int 4, .int 0, .null]))] := hD
  refine lv_aload_n hx hb dX4_init_14 rfl (lv_at hl 0 rfl) ?_
  refine lv_bipush (v := 36) hx hb dX4_init_15 (by decide) ?_
  refine c_newA (t := 1) (atype := .long) (ty := .long) (N := 36) (a0 := (36, .inr (.inl (fun _ => 0)))) E rfl (fun _ h => by cases h) wa_long rfl hK hP hD hS hA (fun _ => rfl) (by decide) (by decide) (Nat.le_of_ble_eq_true rfl) (Nat.le_of_ble_eq_true rfl) (Nat.le_of_ble_eq_true rfl) dX4_init_17 (fun q1 H hP hD hS => ?_)
  have hP : va_P D vwCl [(h0, .inr (4, [.int 4, .int 0, .null])), (q1, .inl (cy 1, 36, .inr (.inl (fun _ => 0))))] H := hP
  have hD : va_D A [(h0, .inr (4, [.int 4, .int 0, .null])), (q1, .inl (cy 1, 36, .inr (.inl (fun _ => 0))))] := hD
  refine c_putF (q0 := 0) (v := .ref q1) E hin hK hP hD hS fl_X4_19 pf_4_2 rfl rfl rfl (Nat.le_of_ble_eq_true rfl) dX4_init_19 (fun H locs hP hD hS => ?_)
  have hP : va_P D vwCl [(h0, .inr (4, [.int 4, .int 0, .ref q1])), (q1, .inl (cy 1, 36, .inr (.inl (fun _ => 0))))] H := hP
  have hD : va_D A [(h0, .inr (4, [.int 4, .int 0, .ref q1])), (q1, .inl (cy 1, 36, .inr (.inl (fun _ => 0))))] := hD
  exact c_ret (B := B_X4_init D cy h0 sz) E hS ⟨q1, hP, by rw [hAe]; exact hD⟩ hr hlk dX4_init_22
def B_X5_init (D : va_G) (cy : Nat → ClassId) (h0 sz : Nat) (H : Heap) : Prop := ∃ q1 q2 q3 q4 q5 : Nat, va_P D vwCl [(h0, .inr (5, [.int 7, .int 4, .int 0, .ref q1, .ref q2])), (q1, .inl (cy 0, 120, .inl (fun _ => 0))), (q2, .inr (0, [.int 0, .int 7, .int 4, .int 0, .ref q3, .ref q4, .ref q5])), (q3, .inl (cy 0, 36, .inl (fun _ => 0))), (q4, .inl (cy 2, 6, .inl (fun _ => 0))), (q5, .inl (cy 0, 6, .inl (fun _ => 0)))] H ∧ va_D (va_A [(h0, .inr (5, [.int 0, .int 0, .int 0, .null, .null]))] sz) [(h0, .inr (5, [.int 7, .int 4, .int 0, .ref q1, .ref q2])), (q1, .inl (cy 0, 120, .inl (fun _ => 0))), (q2, .inr (0, [.int 0, .int 7, .int 4, .int 0, .ref q3, .ref q4, .ref q5])), (q3, .inl (cy 0, 36, .inl (fun _ => 0))), (q4, .inl (cy 2, 6, .inl (fun _ => 0))), (q5, .inl (cy 0, 6, .inl (fun _ => 0)))]
set_option maxRecDepth 100000 in
set_option maxHeartbeats 4000000 in
theorem c_X5_init {l : Launch} {D : va_G} {cy : Nat → ClassId} (h0 sz : Nat) : MetC l D cy yX5_init cX5_init 1 2 5 175 32 h0 sz (.inr (5, [.int 0, .int 0, .int 0, .null, .null])) (B_X5_init D cy h0) := by
  refine c_met (own := RX5) (by decide) rfl rfl (Nat.le_of_ble_eq_true rfl) ?_
  intro p e s m below meth c ls A E hin hr hlk hl hsz hAe hA hK hN hO6 hO1 hP hD hS
  generalize hargs : [Value.ref h0].toArray = args at E ⊢
  have hx := E.1
  have hb := E.2.1
  refine lv_aload_n hx hb dX5_init_0 rfl (lv_at hl 0 rfl) ?_
  refine c_obj E hl.1 ob_X5_3 (Nat.le_of_ble_eq_true rfl) (Nat.le_of_ble_eq_true rfl) dX5_init_1 ?_
  refine lv_aload_n hx hb dX5_init_4 rfl (lv_at hl 0 rfl) ?_
  refine lv_bipush (v := 7) hx hb dX5_init_5 (by decide) ?_
  refine c_putI (q0 := 0) (v := .int 7) E hK hP hD hS fl_X5_9 pl_5_0 rfl rfl rfl (Nat.le_of_ble_eq_true rfl) dX5_init_7 (fun H locs hP hD hS => ?_)
  have hP : va_P D vwCl [(h0, .inr (5, [.int 7, .int 0, .int 0, .null, .null]))] H := hP
  have hD : va_D A [(h0, .inr (5, [.int 7, .int 0, .int 0, .null, .null]))] := hD
  refine lv_aload_n hx hb dX5_init_10 rfl (lv_at hl 0 rfl) ?_
  refine lv_iconst (v := 4) hx hb dX5_init_11 (by decide) ?_
  refine c_putI (q0 := 0) (v := .int 4) E hK hP hD hS fl_X5_15 pl_5_1 rfl rfl rfl (Nat.le_of_ble_eq_true rfl) dX5_init_12 (fun H locs hP hD hS => ?_)
  have hP : va_P D vwCl [(h0, .inr (5, [.int 7, .int 4, .int 0, .null, .null]))] H := hP
  have hD : va_D A [(h0, .inr (5, [.int 7, .int 4, .int 0, .null, .null]))] := hD
  refine lv_aload_n hx hb dX5_init_15 rfl (lv_at hl 0 rfl) ?_
  refine lv_iconst (v := 0) hx hb dX5_init_16 (by decide) ?_
  refine c_putI (q0 := 0) (v := .int 0) E hK hP hD hS fl_X5_18 pl_5_2 rfl rfl rfl (Nat.le_of_ble_eq_true rfl) dX5_init_17 (fun H locs hP hD hS => ?_)
  have hP : va_P D vwCl [(h0, .inr (5, [.int 7, .int 4, .int 0, .null, .null]))] H := hP
  have hD : va_D A [(h0, .inr (5, [.int 7, .int 4, .int 0, .null, .null]))] := hD
  refine lv_aload_n hx hb dX5_init_20 rfl (lv_at hl 0 rfl) ?_
  refine lv_bipush (v := 120) hx hb dX5_init_21 (by decide) ?_
  refine c_newA (t := 0) (atype := .int) (ty := .int) (N := 120) (a0 := (120, .inl (fun _ => 0))) E rfl (fun _ h => by cases h) wa_int rfl hK hP hD hS hA (fun _ => rfl) (by decide) (by decide) (Nat.le_of_ble_eq_true rfl) (Nat.le_of_ble_eq_true rfl) (Nat.le_of_ble_eq_true rfl) dX5_init_23 (fun q1 H hP hD hS => ?_)
  have hP : va_P D vwCl [(h0, .inr (5, [.int 7, .int 4, .int 0, .null, .null])), (q1, .inl (cy 0, 120, .inl (fun _ => 0)))] H := hP
  have hD : va_D A [(h0, .inr (5, [.int 7, .int 4, .int 0, .null, .null])), (q1, .inl (cy 0, 120, .inl (fun _ => 0)))] := hD
  refine c_putF (q0 := 0) (v := .ref q1) E hin hK hP hD hS fl_X5_21 pf_5_3 rfl rfl rfl (Nat.le_of_ble_eq_true rfl) dX5_init_25 (fun H locs hP hD hS => ?_)
  have hP : va_P D vwCl [(h0, .inr (5, [.int 7, .int 4, .int 0, .ref q1, .null])), (q1, .inl (cy 0, 120, .inl (fun _ => 0)))] H := hP
  have hD : va_D A [(h0, .inr (5, [.int 7, .int 4, .int 0, .ref q1, .null])), (q1, .inl (cy 0, 120, .inl (fun _ => 0)))] := hD
  refine lv_aload_n hx hb dX5_init_28 rfl (lv_at hl 0 rfl) ?_
  refine c_new (fs := [.int 0, .int 0, .int 0, .int 0, .null, .null, .null]) E hK hP hD hS hA nw_X5_25 tyX0 tyX0_ok (by decide +kernel) (Nat.le_of_ble_eq_true rfl) (Nat.le_of_ble_eq_true rfl) dX5_init_29 (fun q2 H hP hD hS => ?_)
  have hP : va_P D vwCl [(h0, .inr (5, [.int 7, .int 4, .int 0, .ref q1, .null])), (q1, .inl (cy 0, 120, .inl (fun _ => 0))), (q2, .inr (0, [.int 0, .int 0, .int 0, .int 0, .null, .null, .null]))] H := hP
  have hD : va_D A [(h0, .inr (5, [.int 7, .int 4, .int 0, .ref q1, .null])), (q1, .inl (cy 0, 120, .inl (fun _ => 0))), (q2, .inr (0, [.int 0, .int 0, .int 0, .int 0, .null, .null, .null]))] := hD
  refine lv_dup hx hb dX5_init_32 rfl ?_
  refine c_callN (i0 := 2) (b := q2) (rest := [.ref q2, .ref h0]) E hK hN hO6 hO1 hP hD hS hA hl.1 (fun sz => c_X0_init q2 sz) ci_X5_27 rfl ⟨(Nat.le_of_ble_eq_true rfl), (Nat.le_of_ble_eq_true rfl)⟩ ⟨(Nat.le_of_ble_eq_true rfl), (Nat.le_of_ble_eq_true rfl)⟩ (Nat.le_of_ble_eq_true rfl) dX5_init_33 (fun H1 locs1 hB hk1 hF1 hS => ?_)
  obtain ⟨q3, q4, q5, hP1, hD1⟩ := hB
  obtain ⟨hP, hD⟩ := va_join (wr := [(h0, .inr (5, [.int 7, .int 4, .int 0, .ref q1, .null])), (q1, .inl (cy 0, 120, .inl (fun _ => 0)))]) (w1 := [(q2, .inr (0, [.int 0, .int 7, .int 4, .int 0, .ref q3, .ref q4, .ref q5])), (q3, .inl (cy 0, 36, .inl (fun _ => 0))), (q4, .inl (cy 2, 6, .inl (fun _ => 0))), (q5, .inl (cy 0, 6, .inl (fun _ => 0)))]) hP hD [2] [0, 1] rfl rfl (by decide) (by decide) hk1 hF1 hP1 hD1
  generalize H1 = H at hP hS ⊢
  generalize locs1 = locs at hS ⊢
  have hP : va_P D vwCl [(h0, .inr (5, [.int 7, .int 4, .int 0, .ref q1, .null])), (q1, .inl (cy 0, 120, .inl (fun _ => 0))), (q2, .inr (0, [.int 0, .int 7, .int 4, .int 0, .ref q3, .ref q4, .ref q5])), (q3, .inl (cy 0, 36, .inl (fun _ => 0))), (q4, .inl (cy 2, 6, .inl (fun _ => 0))), (q5, .inl (cy 0, 6, .inl (fun _ => 0)))] H := hP
  have hD : va_D A [(h0, .inr (5, [.int 7, .int 4, .int 0, .ref q1, .null])), (q1, .inl (cy 0, 120, .inl (fun _ => 0))), (q2, .inr (0, [.int 0, .int 7, .int 4, .int 0, .ref q3, .ref q4, .ref q5])), (q3, .inl (cy 0, 36, .inl (fun _ => 0))), (q4, .inl (cy 2, 6, .inl (fun _ => 0))), (q5, .inl (cy 0, 6, .inl (fun _ => 0)))] := hD
  refine c_putF (q0 := 0) (v := .ref q2) E hin hK hP hD hS fl_X5_28 pf_5_4 rfl rfl rfl (Nat.le_of_ble_eq_true rfl) dX5_init_36 (fun H locs hP hD hS => ?_)
  have hP : va_P D vwCl [(h0, .inr (5, [.int 7, .int 4, .int 0, .ref q1, .ref q2])), (q1, .inl (cy 0, 120, .inl (fun _ => 0))), (q2, .inr (0, [.int 0, .int 7, .int 4, .int 0, .ref q3, .ref q4, .ref q5])), (q3, .inl (cy 0, 36, .inl (fun _ => 0))), (q4, .inl (cy 2, 6, .inl (fun _ => 0))), (q5, .inl (cy 0, 6, .inl (fun _ => 0)))] H := hP
  have hD : va_D A [(h0, .inr (5, [.int 7, .int 4, .int 0, .ref q1, .ref q2])), (q1, .inl (cy 0, 120, .inl (fun _ => 0))), (q2, .inr (0, [.int 0, .int 7, .int 4, .int 0, .ref q3, .ref q4, .ref q5])), (q3, .inl (cy 0, 36, .inl (fun _ => 0))), (q4, .inl (cy 2, 6, .inl (fun _ => 0))), (q5, .inl (cy 0, 6, .inl (fun _ => 0)))] := hD
  exact c_ret (B := B_X5_init D cy h0 sz) E hS ⟨q1, q2, q3, q4, q5, hP, by rw [hAe]; exact hD⟩ hr hlk dX5_init_39
def B_X6_init (D : va_G) (cy : Nat → ClassId) (h0 sz : Nat) (H : Heap) : Prop := ∃ q1 : Nat, va_P D vwCl [(h0, .inr (6, [.int (-1), .int 0, .ref q1])), (q1, .inl (cy 1, 30, .inr (.inl (fun _ => 0))))] H ∧ va_D (va_A [(h0, .inr (6, [.int 0, .int 0, .null]))] sz) [(h0, .inr (6, [.int (-1), .int 0, .ref q1])), (q1, .inl (cy 1, 30, .inr (.inl (fun _ => 0))))]
set_option maxRecDepth 100000 in
set_option maxHeartbeats 4000000 in
theorem c_X6_init {l : Launch} {D : va_G} {cy : Nat → ClassId} (h0 sz : Nat) : MetC l D cy yX6_init cX6_init 1 1 1 30 12 h0 sz (.inr (6, [.int 0, .int 0, .null])) (B_X6_init D cy h0) := by
  refine c_met (own := RX6) (by decide) rfl rfl (Nat.le_of_ble_eq_true rfl) ?_
  intro p e s m below meth c ls A E hin hr hlk hl hsz hAe hA hK hN hO6 hO1 hP hD hS
  generalize hargs : [Value.ref h0].toArray = args at E ⊢
  have hx := E.1
  have hb := E.2.1
  refine lv_aload_n hx hb dX6_init_0 rfl (lv_at hl 0 rfl) ?_
  refine c_obj E hl.1 ob_X6_3 (Nat.le_of_ble_eq_true rfl) (Nat.le_of_ble_eq_true rfl) dX6_init_1 ?_
  refine lv_aload_n hx hb dX6_init_4 rfl (lv_at hl 0 rfl) ?_
  refine lv_iconst (v := (-1)) hx hb dX6_init_5 (by decide) ?_
  refine c_putI (q0 := 0) (v := .int (-1)) E hK hP hD hS fl_X6_9 pl_6_0 rfl rfl rfl (Nat.le_of_ble_eq_true rfl) dX6_init_6 (fun H locs hP hD hS => ?_)
  have hP : va_P D vwCl [(h0, .inr (6, [.int (-1), .int 0, .null]))] H := hP
  have hD : va_D A [(h0, .inr (6, [.int (-1), .int 0, .null]))] := hD
  refine lv_aload_n hx hb dX6_init_9 rfl (lv_at hl 0 rfl) ?_
  refine lv_iconst (v := 0) hx hb dX6_init_10 (by decide) ?_
  refine c_putI (q0 := 0) (v := .int 0) E hK hP hD hS fl_X6_15 pl_6_1 rfl rfl rfl (Nat.le_of_ble_eq_true rfl) dX6_init_11 (fun H locs hP hD hS => ?_)
  have hP : va_P D vwCl [(h0, .inr (6, [.int (-1), .int 0, .null]))] H := hP
  have hD : va_D A [(h0, .inr (6, [.int (-1), .int 0, .null]))] := hD
  refine lv_aload_n hx hb dX6_init_14 rfl (lv_at hl 0 rfl) ?_
  refine lv_bipush (v := 30) hx hb dX6_init_15 (by decide) ?_
  refine c_newA (t := 1) (atype := .long) (ty := .long) (N := 30) (a0 := (30, .inr (.inl (fun _ => 0)))) E rfl (fun _ h => by cases h) wa_long rfl hK hP hD hS hA (fun _ => rfl) (by decide) (by decide) (Nat.le_of_ble_eq_true rfl) (Nat.le_of_ble_eq_true rfl) (Nat.le_of_ble_eq_true rfl) dX6_init_17 (fun q1 H hP hD hS => ?_)
  have hP : va_P D vwCl [(h0, .inr (6, [.int (-1), .int 0, .null])), (q1, .inl (cy 1, 30, .inr (.inl (fun _ => 0))))] H := hP
  have hD : va_D A [(h0, .inr (6, [.int (-1), .int 0, .null])), (q1, .inl (cy 1, 30, .inr (.inl (fun _ => 0))))] := hD
  refine c_putF (q0 := 0) (v := .ref q1) E hin hK hP hD hS fl_X6_18 pf_6_2 rfl rfl rfl (Nat.le_of_ble_eq_true rfl) dX6_init_19 (fun H locs hP hD hS => ?_)
  have hP : va_P D vwCl [(h0, .inr (6, [.int (-1), .int 0, .ref q1])), (q1, .inl (cy 1, 30, .inr (.inl (fun _ => 0))))] H := hP
  have hD : va_D A [(h0, .inr (6, [.int (-1), .int 0, .ref q1])), (q1, .inl (cy 1, 30, .inr (.inl (fun _ => 0))))] := hD
  exact c_ret (B := B_X6_init D cy h0 sz) E hS ⟨q1, hP, by rw [hAe]; exact hD⟩ hr hlk dX6_init_22
def B_X7_init (D : va_G) (cy : Nat → ClassId) (h0 sz : Nat) (H : Heap) : Prop := ∃ q1 q2 q3 q4 q5 : Nat, va_P D vwCl [(h0, .inr (7, [.ref q1, .ref q2])), (q1, .inl (cy 0, 6, .inl (fun _ => 0))), (q2, .inr (0, [.int 0, .int 7, .int 4, .int 0, .ref q3, .ref q4, .ref q5])), (q3, .inl (cy 0, 36, .inl (fun _ => 0))), (q4, .inl (cy 2, 6, .inl (fun _ => 0))), (q5, .inl (cy 0, 6, .inl (fun _ => 0)))] H ∧ va_D (va_A [(h0, .inr (7, [.null, .null]))] sz) [(h0, .inr (7, [.ref q1, .ref q2])), (q1, .inl (cy 0, 6, .inl (fun _ => 0))), (q2, .inr (0, [.int 0, .int 7, .int 4, .int 0, .ref q3, .ref q4, .ref q5])), (q3, .inl (cy 0, 36, .inl (fun _ => 0))), (q4, .inl (cy 2, 6, .inl (fun _ => 0))), (q5, .inl (cy 0, 6, .inl (fun _ => 0)))]
set_option maxRecDepth 100000 in
set_option maxHeartbeats 4000000 in
theorem c_X7_init {l : Launch} {D : va_G} {cy : Nat → ClassId} (h0 sz : Nat) : MetC l D cy yX7_init cX7_init 1 2 5 61 32 h0 sz (.inr (7, [.null, .null])) (B_X7_init D cy h0) := by
  refine c_met (own := RX7) (by decide) rfl rfl (Nat.le_of_ble_eq_true rfl) ?_
  intro p e s m below meth c ls A E hin hr hlk hl hsz hAe hA hK hN hO6 hO1 hP hD hS
  generalize hargs : [Value.ref h0].toArray = args at E ⊢
  have hx := E.1
  have hb := E.2.1
  refine lv_aload_n hx hb dX7_init_0 rfl (lv_at hl 0 rfl) ?_
  refine c_obj E hl.1 ob_X7_3 (Nat.le_of_ble_eq_true rfl) (Nat.le_of_ble_eq_true rfl) dX7_init_1 ?_
  refine lv_aload_n hx hb dX7_init_4 rfl (lv_at hl 0 rfl) ?_
  refine lv_bipush (v := 6) hx hb dX7_init_5 (by decide) ?_
  refine c_newA (t := 0) (atype := .int) (ty := .int) (N := 6) (a0 := (6, .inl (fun _ => 0))) E rfl (fun _ h => by cases h) wa_int rfl hK hP hD hS hA (fun _ => rfl) (by decide) (by decide) (Nat.le_of_ble_eq_true rfl) (Nat.le_of_ble_eq_true rfl) (Nat.le_of_ble_eq_true rfl) dX7_init_7 (fun q1 H hP hD hS => ?_)
  have hP : va_P D vwCl [(h0, .inr (7, [.null, .null])), (q1, .inl (cy 0, 6, .inl (fun _ => 0)))] H := hP
  have hD : va_D A [(h0, .inr (7, [.null, .null])), (q1, .inl (cy 0, 6, .inl (fun _ => 0)))] := hD
  refine c_putF (q0 := 0) (v := .ref q1) E hin hK hP hD hS fl_X7_9 pf_7_0 rfl rfl rfl (Nat.le_of_ble_eq_true rfl) dX7_init_9 (fun H locs hP hD hS => ?_)
  have hP : va_P D vwCl [(h0, .inr (7, [.ref q1, .null])), (q1, .inl (cy 0, 6, .inl (fun _ => 0)))] H := hP
  have hD : va_D A [(h0, .inr (7, [.ref q1, .null])), (q1, .inl (cy 0, 6, .inl (fun _ => 0)))] := hD
  refine lv_aload_n hx hb dX7_init_12 rfl (lv_at hl 0 rfl) ?_
  refine c_new (fs := [.int 0, .int 0, .int 0, .int 0, .null, .null, .null]) E hK hP hD hS hA nw_X7_15 tyX0 tyX0_ok (by decide +kernel) (Nat.le_of_ble_eq_true rfl) (Nat.le_of_ble_eq_true rfl) dX7_init_13 (fun q2 H hP hD hS => ?_)
  have hP : va_P D vwCl [(h0, .inr (7, [.ref q1, .null])), (q1, .inl (cy 0, 6, .inl (fun _ => 0))), (q2, .inr (0, [.int 0, .int 0, .int 0, .int 0, .null, .null, .null]))] H := hP
  have hD : va_D A [(h0, .inr (7, [.ref q1, .null])), (q1, .inl (cy 0, 6, .inl (fun _ => 0))), (q2, .inr (0, [.int 0, .int 0, .int 0, .int 0, .null, .null, .null]))] := hD
  refine lv_dup hx hb dX7_init_16 rfl ?_
  refine c_callN (i0 := 2) (b := q2) (rest := [.ref q2, .ref h0]) E hK hN hO6 hO1 hP hD hS hA hl.1 (fun sz => c_X0_init q2 sz) ci_X7_17 rfl ⟨(Nat.le_of_ble_eq_true rfl), (Nat.le_of_ble_eq_true rfl)⟩ ⟨(Nat.le_of_ble_eq_true rfl), (Nat.le_of_ble_eq_true rfl)⟩ (Nat.le_of_ble_eq_true rfl) dX7_init_17 (fun H1 locs1 hB hk1 hF1 hS => ?_)
  obtain ⟨q3, q4, q5, hP1, hD1⟩ := hB
  obtain ⟨hP, hD⟩ := va_join (wr := [(h0, .inr (7, [.ref q1, .null])), (q1, .inl (cy 0, 6, .inl (fun _ => 0)))]) (w1 := [(q2, .inr (0, [.int 0, .int 7, .int 4, .int 0, .ref q3, .ref q4, .ref q5])), (q3, .inl (cy 0, 36, .inl (fun _ => 0))), (q4, .inl (cy 2, 6, .inl (fun _ => 0))), (q5, .inl (cy 0, 6, .inl (fun _ => 0)))]) hP hD [2] [0, 1] rfl rfl (by decide) (by decide) hk1 hF1 hP1 hD1
  generalize H1 = H at hP hS ⊢
  generalize locs1 = locs at hS ⊢
  have hP : va_P D vwCl [(h0, .inr (7, [.ref q1, .null])), (q1, .inl (cy 0, 6, .inl (fun _ => 0))), (q2, .inr (0, [.int 0, .int 7, .int 4, .int 0, .ref q3, .ref q4, .ref q5])), (q3, .inl (cy 0, 36, .inl (fun _ => 0))), (q4, .inl (cy 2, 6, .inl (fun _ => 0))), (q5, .inl (cy 0, 6, .inl (fun _ => 0)))] H := hP
  have hD : va_D A [(h0, .inr (7, [.ref q1, .null])), (q1, .inl (cy 0, 6, .inl (fun _ => 0))), (q2, .inr (0, [.int 0, .int 7, .int 4, .int 0, .ref q3, .ref q4, .ref q5])), (q3, .inl (cy 0, 36, .inl (fun _ => 0))), (q4, .inl (cy 2, 6, .inl (fun _ => 0))), (q5, .inl (cy 0, 6, .inl (fun _ => 0)))] := hD
  refine c_putF (q0 := 0) (v := .ref q2) E hin hK hP hD hS fl_X7_18 pf_7_1 rfl rfl rfl (Nat.le_of_ble_eq_true rfl) dX7_init_20 (fun H locs hP hD hS => ?_)
  have hP : va_P D vwCl [(h0, .inr (7, [.ref q1, .ref q2])), (q1, .inl (cy 0, 6, .inl (fun _ => 0))), (q2, .inr (0, [.int 0, .int 7, .int 4, .int 0, .ref q3, .ref q4, .ref q5])), (q3, .inl (cy 0, 36, .inl (fun _ => 0))), (q4, .inl (cy 2, 6, .inl (fun _ => 0))), (q5, .inl (cy 0, 6, .inl (fun _ => 0)))] H := hP
  have hD : va_D A [(h0, .inr (7, [.ref q1, .ref q2])), (q1, .inl (cy 0, 6, .inl (fun _ => 0))), (q2, .inr (0, [.int 0, .int 7, .int 4, .int 0, .ref q3, .ref q4, .ref q5])), (q3, .inl (cy 0, 36, .inl (fun _ => 0))), (q4, .inl (cy 2, 6, .inl (fun _ => 0))), (q5, .inl (cy 0, 6, .inl (fun _ => 0)))] := hD
  exact c_ret (B := B_X7_init D cy h0 sz) E hS ⟨q1, q2, q3, q4, q5, hP, by rw [hAe]; exact hD⟩ hr hlk dX7_init_23
def B_X8_init (D : va_G) (cy : Nat → ClassId) (h0 sz : Nat) (H : Heap) : Prop := ∃ q1 : Nat, va_P D vwCl [(h0, .inr (8, [.int 1, .int 0, .ref q1])), (q1, .inl (cy 2, 1024, .inl (fun _ => 0)))] H ∧ va_D (va_A [(h0, .inr (8, [.int 0, .int 0, .null]))] sz) [(h0, .inr (8, [.int 1, .int 0, .ref q1])), (q1, .inl (cy 2, 1024, .inl (fun _ => 0)))]
set_option maxRecDepth 100000 in
set_option maxHeartbeats 4000000 in
theorem c_X8_init {l : Launch} {D : va_G} {cy : Nat → ClassId} (h0 sz : Nat) : MetC l D cy yX8_init cX8_init 1 1 1 1024 12 h0 sz (.inr (8, [.int 0, .int 0, .null])) (B_X8_init D cy h0) := by
  refine c_met (own := RX8) (by decide) rfl rfl (Nat.le_of_ble_eq_true rfl) ?_
  intro p e s m below meth c ls A E hin hr hlk hl hsz hAe hA hK hN hO6 hO1 hP hD hS
  generalize hargs : [Value.ref h0].toArray = args at E ⊢
  have hx := E.1
  have hb := E.2.1
  refine lv_aload_n hx hb dX8_init_0 rfl (lv_at hl 0 rfl) ?_
  refine c_obj E hl.1 ob_X8_3 (Nat.le_of_ble_eq_true rfl) (Nat.le_of_ble_eq_true rfl) dX8_init_1 ?_
  refine lv_aload_n hx hb dX8_init_4 rfl (lv_at hl 0 rfl) ?_
  refine lv_iconst (v := 1) hx hb dX8_init_5 (by decide) ?_
  refine c_putI (q0 := 0) (v := .int 1) E hK hP hD hS fl_X8_9 pl_8_0 rfl rfl rfl (Nat.le_of_ble_eq_true rfl) dX8_init_6 (fun H locs hP hD hS => ?_)
  have hP : va_P D vwCl [(h0, .inr (8, [.int 1, .int 0, .null]))] H := hP
  have hD : va_D A [(h0, .inr (8, [.int 1, .int 0, .null]))] := hD
  refine lv_aload_n hx hb dX8_init_9 rfl (lv_at hl 0 rfl) ?_
  refine lv_iconst (v := 0) hx hb dX8_init_10 (by decide) ?_
  refine c_putI (q0 := 0) (v := .int 0) E hK hP hD hS fl_X8_15 pl_8_1 rfl rfl rfl (Nat.le_of_ble_eq_true rfl) dX8_init_11 (fun H locs hP hD hS => ?_)
  have hP : va_P D vwCl [(h0, .inr (8, [.int 1, .int 0, .null]))] H := hP
  have hD : va_D A [(h0, .inr (8, [.int 1, .int 0, .null]))] := hD
  refine lv_aload_n hx hb dX8_init_14 rfl (lv_at hl 0 rfl) ?_
  refine lv_sipush (v := 1024) hx hb dX8_init_15 (by decide) ?_
  refine c_newA (t := 2) (atype := .boolean) (ty := .boolean) (N := 1024) (a0 := (1024, .inl (fun _ => 0))) E rfl (fun _ h => by cases h) wa_boolean rfl hK hP hD hS hA (fun _ => rfl) (by decide) (by decide) (Nat.le_of_ble_eq_true rfl) (Nat.le_of_ble_eq_true rfl) (Nat.le_of_ble_eq_true rfl) dX8_init_18 (fun q1 H hP hD hS => ?_)
  have hP : va_P D vwCl [(h0, .inr (8, [.int 1, .int 0, .null])), (q1, .inl (cy 2, 1024, .inl (fun _ => 0)))] H := hP
  have hD : va_D A [(h0, .inr (8, [.int 1, .int 0, .null])), (q1, .inl (cy 2, 1024, .inl (fun _ => 0)))] := hD
  refine c_putF (q0 := 0) (v := .ref q1) E hin hK hP hD hS fl_X8_18 pf_8_2 rfl rfl rfl (Nat.le_of_ble_eq_true rfl) dX8_init_20 (fun H locs hP hD hS => ?_)
  have hP : va_P D vwCl [(h0, .inr (8, [.int 1, .int 0, .ref q1])), (q1, .inl (cy 2, 1024, .inl (fun _ => 0)))] H := hP
  have hD : va_D A [(h0, .inr (8, [.int 1, .int 0, .ref q1])), (q1, .inl (cy 2, 1024, .inl (fun _ => 0)))] := hD
  exact c_ret (B := B_X8_init D cy h0 sz) E hS ⟨q1, hP, by rw [hAe]; exact hD⟩ hr hlk dX8_init_23
