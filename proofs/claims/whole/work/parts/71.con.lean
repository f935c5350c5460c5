/-! the constructors, each in its contract (by program, gen71.py) -/
set_option maxRecDepth 20000 in
theorem uwX0 : ∀ w ∈ u_ws RX0 TX0 19, w ∈ mm_tbl := mm_sub_at _ [346, 348, 350, 352, 354, 356, 358, 360, 362, 364, 366, 368, 370, 372, 374, 376, 378, 380, 382] (by decide +kernel) (by decide +kernel)
theorem dfX0 : ∀ j, j < 19 → defaultValue (tyX0 j) = vp_V [.int 0, .int 0, .int 0, .null, .null, .null, .null, .null, .int 0, .int 0, .int 0, .int 0, .int 0, .int 0, .int 0, .null, .int 0, .int 0, .int 0] j := fun j hj => by
  rcases (show j = 0 ∨ j = 1 ∨ j = 2 ∨ j = 3 ∨ j = 4 ∨ j = 5 ∨ j = 6 ∨ j = 7 ∨ j = 8 ∨ j = 9 ∨ j = 10 ∨ j = 11 ∨ j = 12 ∨ j = 13 ∨ j = 14 ∨ j = 15 ∨ j = 16 ∨ j = 17 ∨ j = 18 by omega) with rfl | rfl | rfl | rfl | rfl | rfl | rfl | rfl | rfl | rfl | rfl | rfl | rfl | rfl | rfl | rfl | rfl | rfl | rfl <;> rfl
set_option maxRecDepth 20000 in
theorem uwX1 : ∀ w ∈ u_ws RX1 TX1 15, w ∈ mm_tbl := mm_sub_at _ [416, 418, 420, 422, 424, 426, 428, 430, 432, 434, 436, 438, 440, 442, 444] (by decide +kernel) (by decide +kernel)
theorem dfX1 : ∀ j, j < 15 → defaultValue (tyX1 j) = vp_V [.null, .null, .null, .int 0, .int 0, .int 0, .int 0, .null, .null, .long 0, .long 0, .null, .null, .long 0, .long 0] j := fun j hj => by
  rcases (show j = 0 ∨ j = 1 ∨ j = 2 ∨ j = 3 ∨ j = 4 ∨ j = 5 ∨ j = 6 ∨ j = 7 ∨ j = 8 ∨ j = 9 ∨ j = 10 ∨ j = 11 ∨ j = 12 ∨ j = 13 ∨ j = 14 by omega) with rfl | rfl | rfl | rfl | rfl | rfl | rfl | rfl | rfl | rfl | rfl | rfl | rfl | rfl | rfl <;> rfl
set_option maxRecDepth 20000 in
theorem uwX2 : ∀ w ∈ u_ws RX2 TX2 7, w ∈ mm_tbl := mm_sub_at _ [162, 164, 166, 168, 170, 172, 174] (by decide +kernel) (by decide +kernel)
theorem dfX2 : ∀ j, j < 7 → defaultValue (tyX2 j) = vp_V [.int 0, .int 0, .null, .null, .null, .null, .null] j := fun j hj => by
  rcases (show j = 0 ∨ j = 1 ∨ j = 2 ∨ j = 3 ∨ j = 4 ∨ j = 5 ∨ j = 6 by omega) with rfl | rfl | rfl | rfl | rfl | rfl | rfl <;> rfl
set_option maxRecDepth 20000 in
theorem uwX3 : ∀ w ∈ u_ws RX3 TX3 4, w ∈ mm_tbl := mm_sub_at _ [185, 187, 189, 191] (by decide +kernel) (by decide +kernel)
theorem dfX3 : ∀ j, j < 4 → defaultValue (tyX3 j) = vp_V [.null, .int 0, .null, .int 0] j := fun j hj => by
  rcases (show j = 0 ∨ j = 1 ∨ j = 2 ∨ j = 3 by omega) with rfl | rfl | rfl | rfl <;> rfl
set_option maxRecDepth 20000 in
theorem uwX4 : ∀ w ∈ u_ws RX4 TX4 8, w ∈ mm_tbl := mm_sub_at _ [234, 236, 238, 240, 242, 244, 246, 248] (by decide +kernel) (by decide +kernel)
theorem dfX4 : ∀ j, j < 8 → defaultValue (tyX4 j) = vp_V [.int 0, .int 0, .int 0, .int 0, .null, .null, .null, .null] j := fun j hj => by
  rcases (show j = 0 ∨ j = 1 ∨ j = 2 ∨ j = 3 ∨ j = 4 ∨ j = 5 ∨ j = 6 ∨ j = 7 by omega) with rfl | rfl | rfl | rfl | rfl | rfl | rfl | rfl <;> rfl
set_option maxRecDepth 20000 in
theorem uwX5 : ∀ w ∈ u_ws RX5 TX5 6, w ∈ mm_tbl := mm_sub_at _ [302, 304, 306, 308, 310, 312] (by decide +kernel) (by decide +kernel)
theorem dfX5 : ∀ j, j < 6 → defaultValue (tyX5 j) = vp_V [.int 0, .null, .null, .int 0, .null, .int 0] j := fun j hj => by
  rcases (show j = 0 ∨ j = 1 ∨ j = 2 ∨ j = 3 ∨ j = 4 ∨ j = 5 by omega) with rfl | rfl | rfl | rfl | rfl | rfl <;> rfl
set_option maxRecDepth 20000 in
theorem uwX6 : ∀ w ∈ u_ws RX6 TX6 7, w ∈ mm_tbl := mm_sub_at _ [266, 268, 270, 272, 274, 276, 278] (by decide +kernel) (by decide +kernel)
theorem dfX6 : ∀ j, j < 7 → defaultValue (tyX6 j) = vp_V [.null, .null, .int 0, .int 0, .null, .null, .null] j := fun j hj => by
  rcases (show j = 0 ∨ j = 1 ∨ j = 2 ∨ j = 3 ∨ j = 4 ∨ j = 5 ∨ j = 6 by omega) with rfl | rfl | rfl | rfl | rfl | rfl | rfl <;> rfl
set_option maxRecDepth 20000 in
theorem uwX7 : ∀ w ∈ u_ws RX7 TX7 7, w ∈ mm_tbl := mm_sub_at _ [456, 458, 460, 462, 464, 466, 468] (by decide +kernel) (by decide +kernel)
theorem dfX7 : ∀ j, j < 7 → defaultValue (tyX7 j) = vp_V [.null, .null, .null, .null, .int 0, .int 0, .int 0] j := fun j hj => by
  rcases (show j = 0 ∨ j = 1 ∨ j = 2 ∨ j = 3 ∨ j = 4 ∨ j = 5 ∨ j = 6 by omega) with rfl | rfl | rfl | rfl | rfl | rfl | rfl <;> rfl
set_option maxRecDepth 20000 in
theorem uwX8 : ∀ w ∈ u_ws RX8 TX8 57, w ∈ mm_tbl := mm_sub_at _ [1004, 1006, 1008, 1010, 1012, 1014, 1016, 1018, 1020, 1022, 1024, 1026, 1028, 1030, 1032, 1034, 1036, 1038, 1040, 1042, 1044, 1046, 1048, 1050, 1052, 1054, 1056, 1058, 1060, 1062, 1064, 1066, 1068, 1070, 1072, 1074, 1076, 1078, 1080, 1082, 1084, 1086, 1088, 1090, 1092, 1094, 1096, 1098, 1100, 1102, 1104, 1106, 1108, 1110, 1112, 1114, 1116] (by decide +kernel) (by decide +kernel)
theorem dfX8 : ∀ j, j < 57 → defaultValue (tyX8 j) = vp_V [.int 0, .int 0, .null, .null, .null, .null, .null, .int 0, .int 0, .int 0, .null, .null, .null, .null, .null, .null, .int 0, .int 0, .int 0, .null, .null, .int 0, .int 0, .int 0, .null, .int 0, .int 0, .int 0, .null, .null, .null, .null, .null, .null, .null, .int 0, .int 0, .int 0, .int 0, .int 0, .int 0, .int 0, .null, .null, .null, .long 0, .long 0, .null, .null, .long 0, .null, .long 0, .null, .long 0, .null, .long 0, .long 0] j := fun j hj => by
  rcases (show j = 0 ∨ j = 1 ∨ j = 2 ∨ j = 3 ∨ j = 4 ∨ j = 5 ∨ j = 6 ∨ j = 7 ∨ j = 8 ∨ j = 9 ∨ j = 10 ∨ j = 11 ∨ j = 12 ∨ j = 13 ∨ j = 14 ∨ j = 15 ∨ j = 16 ∨ j = 17 ∨ j = 18 ∨ j = 19 ∨ j = 20 ∨ j = 21 ∨ j = 22 ∨ j = 23 ∨ j = 24 ∨ j = 25 ∨ j = 26 ∨ j = 27 ∨ j = 28 ∨ j = 29 ∨ j = 30 ∨ j = 31 ∨ j = 32 ∨ j = 33 ∨ j = 34 ∨ j = 35 ∨ j = 36 ∨ j = 37 ∨ j = 38 ∨ j = 39 ∨ j = 40 ∨ j = 41 ∨ j = 42 ∨ j = 43 ∨ j = 44 ∨ j = 45 ∨ j = 46 ∨ j = 47 ∨ j = 48 ∨ j = 49 ∨ j = 50 ∨ j = 51 ∨ j = 52 ∨ j = 53 ∨ j = 54 ∨ j = 55 ∨ j = 56 by omega) with rfl | rfl | rfl | rfl | rfl | rfl | rfl | rfl | rfl | rfl | rfl | rfl | rfl | rfl | rfl | rfl | rfl | rfl | rfl | rfl | rfl | rfl | rfl | rfl | rfl | rfl | rfl | rfl | rfl | rfl | rfl | rfl | rfl | rfl | rfl | rfl | rfl | rfl | rfl | rfl | rfl | rfl | rfl | rfl | rfl | rfl | rfl | rfl | rfl | rfl | rfl | rfl | rfl | rfl | rfl | rfl | rfl <;> rfl
theorem dX2_init_0 : decode cX2_init 0 = .ok (.aload_n 0, 1) := by decide +kernel
theorem dX2_init_1 : decode cX2_init 1 = .ok (.invokespecial 3, 3) := by decide +kernel
theorem dX2_init_4 : decode cX2_init 4 = .ok (.aload_n 0, 1) := by decide +kernel
theorem dX2_init_5 : decode cX2_init 5 = .ok (.bipush 10, 2) := by decide +kernel
theorem dX2_init_7 : decode cX2_init 7 = .ok (.newarray .int, 2) := by decide +kernel
theorem dX2_init_9 : decode cX2_init 9 = .ok (.putfield 9, 3) := by decide +kernel
theorem dX2_init_12 : decode cX2_init 12 = .ok (.aload_n 0, 1) := by decide +kernel
theorem dX2_init_13 : decode cX2_init 13 = .ok (.bipush 10, 2) := by decide +kernel
theorem dX2_init_15 : decode cX2_init 15 = .ok (.newarray .int, 2) := by decide +kernel
theorem dX2_init_17 : decode cX2_init 17 = .ok (.putfield 15, 3) := by decide +kernel
theorem dX2_init_20 : decode cX2_init 20 = .ok (.aload_n 0, 1) := by decide +kernel
theorem dX2_init_21 : decode cX2_init 21 = .ok (.bipush 10, 2) := by decide +kernel
theorem dX2_init_23 : decode cX2_init 23 = .ok (.newarray .int, 2) := by decide +kernel
theorem dX2_init_25 : decode cX2_init 25 = .ok (.putfield 18, 3) := by decide +kernel
theorem dX2_init_28 : decode cX2_init 28 = .ok (.aload_n 0, 1) := by decide +kernel
theorem dX2_init_29 : decode cX2_init 29 = .ok (.bipush 10, 2) := by decide +kernel
theorem dX2_init_31 : decode cX2_init 31 = .ok (.newarray .int, 2) := by decide +kernel
theorem dX2_init_33 : decode cX2_init 33 = .ok (.putfield 21, 3) := by decide +kernel
theorem dX2_init_36 : decode cX2_init 36 = .ok (.aload_n 0, 1) := by decide +kernel
theorem dX2_init_37 : decode cX2_init 37 = .ok (.bipush 10, 2) := by decide +kernel
theorem dX2_init_39 : decode cX2_init 39 = .ok (.newarray .int, 2) := by decide +kernel
theorem dX2_init_41 : decode cX2_init 41 = .ok (.putfield 24, 3) := by decide +kernel
theorem dX2_init_44 : decode cX2_init 44 = .ok (.return_, 1) := by decide +kernel
theorem kw_0 : Cond.methodLink RX2 3 objectInit ∈ mm_tbl := mm_one_at _ 133 (by decide +kernel) rfl
theorem kw_1 : Cond.instanceMethod objectInit ∈ mm_tbl := mm_one_at _ 120 (by decide +kernel) rfl
theorem kw_2 : Cond.code objectInit ⟨#[0xb1]⟩ 1 none ∈ mm_tbl := mm_one_at _ 121 (by decide +kernel) rfl
theorem kw_3 : Cond.arrayClass .int ∈ mm_tbl := mm_one_at _ 177 (by decide +kernel) rfl
theorem kw_4 : Cond.fieldLink RX2 9 "SelfishWays$Net" "from" "[I" ∈ mm_tbl := mm_one_at _ 143 (by decide +kernel) rfl
theorem kw_5 : Cond.fieldLink RX2 15 "SelfishWays$Net" "to" "[I" ∈ mm_tbl := mm_one_at _ 147 (by decide +kernel) rfl
theorem kw_6 : Cond.fieldLink RX2 18 "SelfishWays$Net" "a" "[I" ∈ mm_tbl := mm_one_at _ 151 (by decide +kernel) rfl
theorem kw_7 : Cond.fieldLink RX2 21 "SelfishWays$Net" "b" "[I" ∈ mm_tbl := mm_one_at _ 155 (by decide +kernel) rfl
theorem kw_8 : Cond.fieldLink RX2 24 "SelfishWays$Net" "t" "[I" ∈ mm_tbl := mm_one_at _ 159 (by decide +kernel) rfl
def fX2_init (sz : Nat) : List Value := [.int 0, .int 0, .ref (sz + 0), .ref (sz + 1), .ref (sz + 2), .ref (sz + 3), .ref (sz + 4)]
def eX2_init (cA : Nat → ClassId) (sz : Nat) : List va_E := [k_i cA 10, k_i cA 10, k_i cA 10, k_i cA 10, k_i cA 10]
set_option maxRecDepth 100000 in
set_option maxHeartbeats 4000000 in
theorem bX2_init : kMet yX2_init cX2_init 1 1 12 2 [.int 0, .int 0, .null, .null, .null, .null, .null] 5 50 fX2_init eX2_init := by
  refine k_enter (by decide) rfl (by decide) ?_
  intro p l e s m args below meth c D cA h0 sz ls C0 t hl
  have C0 : kC p s m args meth c cX2_init RX2 1 D cA h0 sz := C0
  obtain ⟨hx, hb, -⟩ := id C0
  refine lv_aload_n hx hb dX2_init_0 rfl (lv_at hl 0 rfl) ?_
  refine k_obj C0 kw_0 kw_1 kw_2 hl dX2_init_1 (Nat.le_of_ble_eq_true rfl) (Nat.le_of_ble_eq_true rfl) ?_
  refine lv_aload_n hx hb dX2_init_4 rfl (lv_at hl 0 rfl) ?_
  refine lv_bipush (v := 10) hx hb dX2_init_5 (by decide) ?_
  refine k_newi (N := 10) C0 t kw_3 (by decide) (by decide) (by decide) (Nat.le_of_ble_eq_true rfl) (Nat.le_of_ble_eq_true rfl) dX2_init_7 (fun H t => ?_)
  have t : kT D h0 (.inr (2, [.int 0, .int 0, .null, .null, .null, .null, .null])) sz [k_i cA 10] s.heap H [] := t
  refine k_putF (T := TX2) (N := 7) C0 t uwX2 tyX2 tyX2_ok nmX2 rfl 2 (by decide) kw_4 rfl rfl rfl rfl (Nat.le_of_ble_eq_true rfl) dX2_init_9 (fun H locs t => ?_)
  have t : kT D h0 (.inr (2, [.int 0, .int 0, .ref (sz + 0), .null, .null, .null, .null])) sz [k_i cA 10] s.heap H locs := t
  refine lv_aload_n hx hb dX2_init_12 rfl (lv_at hl 0 rfl) ?_
  refine lv_bipush (v := 10) hx hb dX2_init_13 (by decide) ?_
  refine k_newi (N := 10) C0 t kw_3 (by decide) (by decide) (by decide) (Nat.le_of_ble_eq_true rfl) (Nat.le_of_ble_eq_true rfl) dX2_init_15 (fun H t => ?_)
  have t : kT D h0 (.inr (2, [.int 0, .int 0, .ref (sz + 0), .null, .null, .null, .null])) sz [k_i cA 10, k_i cA 10] s.heap H locs := t
  refine k_putF (T := TX2) (N := 7) C0 t uwX2 tyX2 tyX2_ok nmX2 rfl 3 (by decide) kw_5 rfl rfl rfl rfl (Nat.le_of_ble_eq_true rfl) dX2_init_17 (fun H locs t => ?_)
  have t : kT D h0 (.inr (2, [.int 0, .int 0, .ref (sz + 0), .ref (sz + 1), .null, .null, .null])) sz [k_i cA 10, k_i cA 10] s.heap H locs := t
  refine lv_aload_n hx hb dX2_init_20 rfl (lv_at hl 0 rfl) ?_
  refine lv_bipush (v := 10) hx hb dX2_init_21 (by decide) ?_
  refine k_newi (N := 10) C0 t kw_3 (by decide) (by decide) (by decide) (Nat.le_of_ble_eq_true rfl) (Nat.le_of_ble_eq_true rfl) dX2_init_23 (fun H t => ?_)
  have t : kT D h0 (.inr (2, [.int 0, .int 0, .ref (sz + 0), .ref (sz + 1), .null, .null, .null])) sz [k_i cA 10, k_i cA 10, k_i cA 10] s.heap H locs := t
  refine k_putF (T := TX2) (N := 7) C0 t uwX2 tyX2 tyX2_ok nmX2 rfl 4 (by decide) kw_6 rfl rfl rfl rfl (Nat.le_of_ble_eq_true rfl) dX2_init_25 (fun H locs t => ?_)
  have t : kT D h0 (.inr (2, [.int 0, .int 0, .ref (sz + 0), .ref (sz + 1), .ref (sz + 2), .null, .null])) sz [k_i cA 10, k_i cA 10, k_i cA 10] s.heap H locs := t
  refine lv_aload_n hx hb dX2_init_28 rfl (lv_at hl 0 rfl) ?_
  refine lv_bipush (v := 10) hx hb dX2_init_29 (by decide) ?_
  refine k_newi (N := 10) C0 t kw_3 (by decide) (by decide) (by decide) (Nat.le_of_ble_eq_true rfl) (Nat.le_of_ble_eq_true rfl) dX2_init_31 (fun H t => ?_)
  have t : kT D h0 (.inr (2, [.int 0, .int 0, .ref (sz + 0), .ref (sz + 1), .ref (sz + 2), .null, .null])) sz [k_i cA 10, k_i cA 10, k_i cA 10, k_i cA 10] s.heap H locs := t
  refine k_putF (T := TX2) (N := 7) C0 t uwX2 tyX2 tyX2_ok nmX2 rfl 5 (by decide) kw_7 rfl rfl rfl rfl (Nat.le_of_ble_eq_true rfl) dX2_init_33 (fun H locs t => ?_)
  have t : kT D h0 (.inr (2, [.int 0, .int 0, .ref (sz + 0), .ref (sz + 1), .ref (sz + 2), .ref (sz + 3), .null])) sz [k_i cA 10, k_i cA 10, k_i cA 10, k_i cA 10] s.heap H locs := t
  refine lv_aload_n hx hb dX2_init_36 rfl (lv_at hl 0 rfl) ?_
  refine lv_bipush (v := 10) hx hb dX2_init_37 (by decide) ?_
  refine k_newi (N := 10) C0 t kw_3 (by decide) (by decide) (by decide) (Nat.le_of_ble_eq_true rfl) (Nat.le_of_ble_eq_true rfl) dX2_init_39 (fun H t => ?_)
  have t : kT D h0 (.inr (2, [.int 0, .int 0, .ref (sz + 0), .ref (sz + 1), .ref (sz + 2), .ref (sz + 3), .null])) sz [k_i cA 10, k_i cA 10, k_i cA 10, k_i cA 10, k_i cA 10] s.heap H locs := t
  refine k_putF (T := TX2) (N := 7) C0 t uwX2 tyX2 tyX2_ok nmX2 rfl 6 (by decide) kw_8 rfl rfl rfl rfl (Nat.le_of_ble_eq_true rfl) dX2_init_41 (fun H locs t => ?_)
  have t : kT D h0 (.inr (2, [.int 0, .int 0, .ref (sz + 0), .ref (sz + 1), .ref (sz + 2), .ref (sz + 3), .ref (sz + 4)])) sz [k_i cA 10, k_i cA 10, k_i cA 10, k_i cA 10, k_i cA 10] s.heap H locs := t
  exact k_ret C0 t dX2_init_44
theorem dX5_init_0 : decode cX5_init 0 = .ok (.aload_n 0, 1) := by decide +kernel
theorem dX5_init_1 : decode cX5_init 1 = .ok (.invokespecial 3, 3) := by decide +kernel
theorem dX5_init_4 : decode cX5_init 4 = .ok (.aload_n 0, 1) := by decide +kernel
theorem dX5_init_5 : decode cX5_init 5 = .ok (.iconst (-1), 1) := by decide +kernel
theorem dX5_init_6 : decode cX5_init 6 = .ok (.putfield 9, 3) := by decide +kernel
theorem dX5_init_9 : decode cX5_init 9 = .ok (.aload_n 0, 1) := by decide +kernel
theorem dX5_init_10 : decode cX5_init 10 = .ok (.sipush 500, 3) := by decide +kernel
theorem dX5_init_13 : decode cX5_init 13 = .ok (.newarray .int, 2) := by decide +kernel
theorem dX5_init_15 : decode cX5_init 15 = .ok (.putfield 15, 3) := by decide +kernel
theorem dX5_init_18 : decode cX5_init 18 = .ok (.aload_n 0, 1) := by decide +kernel
theorem dX5_init_19 : decode cX5_init 19 = .ok (.sipush 500, 3) := by decide +kernel
theorem dX5_init_22 : decode cX5_init 22 = .ok (.newarray .int, 2) := by decide +kernel
theorem dX5_init_24 : decode cX5_init 24 = .ok (.putfield 19, 3) := by decide +kernel
theorem dX5_init_27 : decode cX5_init 27 = .ok (.aload_n 0, 1) := by decide +kernel
theorem dX5_init_28 : decode cX5_init 28 = .ok (.sipush 500, 3) := by decide +kernel
theorem dX5_init_31 : decode cX5_init 31 = .ok (.newarray .int, 2) := by decide +kernel
theorem dX5_init_33 : decode cX5_init 33 = .ok (.putfield 22, 3) := by decide +kernel
theorem dX5_init_36 : decode cX5_init 36 = .ok (.return_, 1) := by decide +kernel
theorem kw_9 : Cond.methodLink RX5 3 objectInit ∈ mm_tbl := mm_one_at _ 292 (by decide +kernel) rfl
theorem kw_10 : Cond.fieldLink RX5 9 "SelfishWays$Spread" "start" "I" ∈ mm_tbl := mm_one_at _ 293 (by decide +kernel) rfl
theorem kw_11 : Cond.fieldLink RX5 15 "SelfishWays$Spread" "lastWave" "[I" ∈ mm_tbl := mm_one_at _ 295 (by decide +kernel) rfl
theorem kw_12 : Cond.fieldLink RX5 19 "SelfishWays$Spread" "wave" "[I" ∈ mm_tbl := mm_one_at _ 296 (by decide +kernel) rfl
theorem kw_13 : Cond.fieldLink RX5 22 "SelfishWays$Spread" "nextWave" "[I" ∈ mm_tbl := mm_one_at _ 300 (by decide +kernel) rfl
def fX5_init (sz : Nat) : List Value := [.int (-1), .ref (sz + 0), .ref (sz + 1), .int 0, .ref (sz + 2), .int 0]
def eX5_init (cA : Nat → ClassId) (sz : Nat) : List va_E := [k_i cA 500, k_i cA 500, k_i cA 500]
set_option maxRecDepth 100000 in
set_option maxHeartbeats 4000000 in
theorem bX5_init : kMet yX5_init cX5_init 1 1 12 5 [.int 0, .null, .null, .int 0, .null, .int 0] 3 1500 fX5_init eX5_init := by
  refine k_enter (by decide) rfl (by decide) ?_
  intro p l e s m args below meth c D cA h0 sz ls C0 t hl
  have C0 : kC p s m args meth c cX5_init RX5 1 D cA h0 sz := C0
  obtain ⟨hx, hb, -⟩ := id C0
  refine lv_aload_n hx hb dX5_init_0 rfl (lv_at hl 0 rfl) ?_
  refine k_obj C0 kw_9 kw_1 kw_2 hl dX5_init_1 (Nat.le_of_ble_eq_true rfl) (Nat.le_of_ble_eq_true rfl) ?_
  refine lv_aload_n hx hb dX5_init_4 rfl (lv_at hl 0 rfl) ?_
  refine lv_iconst (v := (-1)) hx hb dX5_init_5 (by decide) ?_
  refine k_put (T := TX5) (N := 6) C0 t uwX5 tyX5 tyX5_ok nmX5 rfl 0 (by decide) kw_10 rfl rfl rfl rfl (Nat.le_of_ble_eq_true rfl) dX5_init_6 (fun H locs t => ?_)
  have t : kT D h0 (.inr (5, [.int (-1), .null, .null, .int 0, .null, .int 0])) sz [] s.heap H locs := t
  refine lv_aload_n hx hb dX5_init_9 rfl (lv_at hl 0 rfl) ?_
  refine lv_sipush (v := 500) hx hb dX5_init_10 (by decide) ?_
  refine k_newi (N := 500) C0 t kw_3 (by decide) (by decide) (by decide) (Nat.le_of_ble_eq_true rfl) (Nat.le_of_ble_eq_true rfl) dX5_init_13 (fun H t => ?_)
  have t : kT D h0 (.inr (5, [.int (-1), .null, .null, .int 0, .null, .int 0])) sz [k_i cA 500] s.heap H locs := t
  refine k_putF (T := TX5) (N := 6) C0 t uwX5 tyX5 tyX5_ok nmX5 rfl 1 (by decide) kw_11 rfl rfl rfl rfl (Nat.le_of_ble_eq_true rfl) dX5_init_15 (fun H locs t => ?_)
  have t : kT D h0 (.inr (5, [.int (-1), .ref (sz + 0), .null, .int 0, .null, .int 0])) sz [k_i cA 500] s.heap H locs := t
  refine lv_aload_n hx hb dX5_init_18 rfl (lv_at hl 0 rfl) ?_
  refine lv_sipush (v := 500) hx hb dX5_init_19 (by decide) ?_
  refine k_newi (N := 500) C0 t kw_3 (by decide) (by decide) (by decide) (Nat.le_of_ble_eq_true rfl) (Nat.le_of_ble_eq_true rfl) dX5_init_22 (fun H t => ?_)
  have t : kT D h0 (.inr (5, [.int (-1), .ref (sz + 0), .null, .int 0, .null, .int 0])) sz [k_i cA 500, k_i cA 500] s.heap H locs := t
  refine k_put (T := TX5) (N := 6) C0 t uwX5 tyX5 tyX5_ok nmX5 rfl 2 (by decide) kw_12 rfl rfl rfl rfl (Nat.le_of_ble_eq_true rfl) dX5_init_24 (fun H locs t => ?_)
  have t : kT D h0 (.inr (5, [.int (-1), .ref (sz + 0), .ref (sz + 1), .int 0, .null, .int 0])) sz [k_i cA 500, k_i cA 500] s.heap H locs := t
  refine lv_aload_n hx hb dX5_init_27 rfl (lv_at hl 0 rfl) ?_
  refine lv_sipush (v := 500) hx hb dX5_init_28 (by decide) ?_
  refine k_newi (N := 500) C0 t kw_3 (by decide) (by decide) (by decide) (Nat.le_of_ble_eq_true rfl) (Nat.le_of_ble_eq_true rfl) dX5_init_31 (fun H t => ?_)
  have t : kT D h0 (.inr (5, [.int (-1), .ref (sz + 0), .ref (sz + 1), .int 0, .null, .int 0])) sz [k_i cA 500, k_i cA 500, k_i cA 500] s.heap H locs := t
  refine k_put (T := TX5) (N := 6) C0 t uwX5 tyX5 tyX5_ok nmX5 rfl 4 (by decide) kw_13 rfl rfl rfl rfl (Nat.le_of_ble_eq_true rfl) dX5_init_33 (fun H locs t => ?_)
  have t : kT D h0 (.inr (5, [.int (-1), .ref (sz + 0), .ref (sz + 1), .int 0, .ref (sz + 2), .int 0])) sz [k_i cA 500, k_i cA 500, k_i cA 500] s.heap H locs := t
  exact k_ret C0 t dX5_init_36
theorem dX4_init_0 : decode cX4_init 0 = .ok (.aload_n 0, 1) := by decide +kernel
theorem dX4_init_1 : decode cX4_init 1 = .ok (.invokespecial 3, 3) := by decide +kernel
theorem dX4_init_4 : decode cX4_init 4 = .ok (.aload_n 0, 1) := by decide +kernel
theorem dX4_init_5 : decode cX4_init 5 = .ok (.bipush 12, 2) := by decide +kernel
theorem dX4_init_7 : decode cX4_init 7 = .ok (.newarray .int, 2) := by decide +kernel
theorem dX4_init_9 : decode cX4_init 9 = .ok (.putfield 9, 3) := by decide +kernel
theorem dX4_init_12 : decode cX4_init 12 = .ok (.aload_n 0, 1) := by decide +kernel
theorem dX4_init_13 : decode cX4_init 13 = .ok (.bipush 12, 2) := by decide +kernel
theorem dX4_init_15 : decode cX4_init 15 = .ok (.newarray .int, 2) := by decide +kernel
theorem dX4_init_17 : decode cX4_init 17 = .ok (.putfield 15, 3) := by decide +kernel
theorem dX4_init_20 : decode cX4_init 20 = .ok (.aload_n 0, 1) := by decide +kernel
theorem dX4_init_21 : decode cX4_init 21 = .ok (.bipush 12, 2) := by decide +kernel
theorem dX4_init_23 : decode cX4_init 23 = .ok (.iconst 5, 1) := by decide +kernel
theorem dX4_init_24 : decode cX4_init 24 = .ok (.multianewarray 18 2, 4) := by decide +kernel
theorem dX4_init_28 : decode cX4_init 28 = .ok (.putfield 20, 3) := by decide +kernel
theorem dX4_init_31 : decode cX4_init 31 = .ok (.aload_n 0, 1) := by decide +kernel
theorem dX4_init_32 : decode cX4_init 32 = .ok (.iconst 5, 1) := by decide +kernel
theorem dX4_init_33 : decode cX4_init 33 = .ok (.newarray .int, 2) := by decide +kernel
theorem dX4_init_35 : decode cX4_init 35 = .ok (.putfield 23, 3) := by decide +kernel
theorem dX4_init_38 : decode cX4_init 38 = .ok (.return_, 1) := by decide +kernel
theorem kw_14 : Cond.methodLink RX4 3 objectInit ∈ mm_tbl := mm_one_at _ 210 (by decide +kernel) rfl
theorem kw_15 : Cond.fieldLink RX4 9 "SelfishWays$Player" "sizes" "[I" ∈ mm_tbl := mm_one_at _ 225 (by decide +kernel) rfl
theorem kw_16 : Cond.fieldLink RX4 15 "SelfishWays$Player" "masks" "[I" ∈ mm_tbl := mm_one_at _ 228 (by decide +kernel) rfl
theorem kw_17 : Cond.classLink RX4 18 ("[" ++ (FieldType.array .int).toString) ∈ mm_tbl := mm_one_at _ 211 (by decide +kernel) rfl
theorem kw_18 : Cond.fieldLink RX4 20 "SelfishWays$Player" "roads" "[[I" ∈ mm_tbl := mm_one_at _ 230 (by decide +kernel) rfl
theorem kw_19 : Cond.fieldLink RX4 23 "SelfishWays$Player" "path" "[I" ∈ mm_tbl := mm_one_at _ 233 (by decide +kernel) rfl
def fX4_init (sz : Nat) : List Value := [.int 0, .int 0, .int 0, .int 0, .ref (sz + 0), .ref (sz + 1), .ref (sz + 2), .ref (sz + 15)]
def eX4_init (cA : Nat → ClassId) (sz : Nat) : List va_E := [k_i cA 12, k_i cA 12, k_g cA 4 12 (sz + 3), k_i cA 5, k_i cA 5, k_i cA 5, k_i cA 5, k_i cA 5, k_i cA 5, k_i cA 5, k_i cA 5, k_i cA 5, k_i cA 5, k_i cA 5, k_i cA 5, k_i cA 5]
set_option maxRecDepth 100000 in
set_option maxHeartbeats 4000000 in
theorem bX4_init : kMet yX4_init cX4_init 1 1 12 4 [.int 0, .int 0, .int 0, .int 0, .null, .null, .null, .null] 16 101 fX4_init eX4_init := by
  refine k_enter (by decide) rfl (by decide) ?_
  intro p l e s m args below meth c D cA h0 sz ls C0 t hl
  have C0 : kC p s m args meth c cX4_init RX4 1 D cA h0 sz := C0
  obtain ⟨hx, hb, -⟩ := id C0
  refine lv_aload_n hx hb dX4_init_0 rfl (lv_at hl 0 rfl) ?_
  refine k_obj C0 kw_14 kw_1 kw_2 hl dX4_init_1 (Nat.le_of_ble_eq_true rfl) (Nat.le_of_ble_eq_true rfl) ?_
  refine lv_aload_n hx hb dX4_init_4 rfl (lv_at hl 0 rfl) ?_
  refine lv_bipush (v := 12) hx hb dX4_init_5 (by decide) ?_
  refine k_newi (N := 12) C0 t kw_3 (by decide) (by decide) (by decide) (Nat.le_of_ble_eq_true rfl) (Nat.le_of_ble_eq_true rfl) dX4_init_7 (fun H t => ?_)
  have t : kT D h0 (.inr (4, [.int 0, .int 0, .int 0, .int 0, .null, .null, .null, .null])) sz [k_i cA 12] s.heap H [] := t
  refine k_putF (T := TX4) (N := 8) C0 t uwX4 tyX4 tyX4_ok nmX4 rfl 4 (by decide) kw_15 rfl rfl rfl rfl (Nat.le_of_ble_eq_true rfl) dX4_init_9 (fun H locs t => ?_)
  have t : kT D h0 (.inr (4, [.int 0, .int 0, .int 0, .int 0, .ref (sz + 0), .null, .null, .null])) sz [k_i cA 12] s.heap H locs := t
  refine lv_aload_n hx hb dX4_init_12 rfl (lv_at hl 0 rfl) ?_
  refine lv_bipush (v := 12) hx hb dX4_init_13 (by decide) ?_
  refine k_newi (N := 12) C0 t kw_3 (by decide) (by decide) (by decide) (Nat.le_of_ble_eq_true rfl) (Nat.le_of_ble_eq_true rfl) dX4_init_15 (fun H t => ?_)
  have t : kT D h0 (.inr (4, [.int 0, .int 0, .int 0, .int 0, .ref (sz + 0), .null, .null, .null])) sz [k_i cA 12, k_i cA 12] s.heap H locs := t
  refine k_putF (T := TX4) (N := 8) C0 t uwX4 tyX4 tyX4_ok nmX4 rfl 5 (by decide) kw_16 rfl rfl rfl rfl (Nat.le_of_ble_eq_true rfl) dX4_init_17 (fun H locs t => ?_)
  have t : kT D h0 (.inr (4, [.int 0, .int 0, .int 0, .int 0, .ref (sz + 0), .ref (sz + 1), .null, .null])) sz [k_i cA 12, k_i cA 12] s.heap H locs := t
  refine lv_aload_n hx hb dX4_init_20 rfl (lv_at hl 0 rfl) ?_
  refine lv_bipush (v := 12) hx hb dX4_init_21 (by decide) ?_
  refine lv_iconst (v := 5) hx hb dX4_init_23 (by decide) ?_
  refine k_multi (ty := .int) (t1 := 4) (t2 := 0) (zf := k_i cA 5) (N := 12) (K := 5) C0 t kw_17 kw_3 C0.2.2.2.2.2.1.2.2.2.1 (fun h => h) rfl (fun h => h) rfl (by decide) (by decide) (by decide) (by decide) (by decide) (by decide) (by decide) rfl rfl (fun a H1 h => h) (Nat.le_of_ble_eq_true rfl) (Nat.le_of_ble_eq_true rfl) dX4_init_24 (fun H locs t => ?_)
  have t : kT D h0 (.inr (4, [.int 0, .int 0, .int 0, .int 0, .ref (sz + 0), .ref (sz + 1), .null, .null])) sz [k_i cA 12, k_i cA 12, k_g cA 4 12 (sz + 3), k_i cA 5, k_i cA 5, k_i cA 5, k_i cA 5, k_i cA 5, k_i cA 5, k_i cA 5, k_i cA 5, k_i cA 5, k_i cA 5, k_i cA 5, k_i cA 5] s.heap H locs := t
  refine k_putF (T := TX4) (N := 8) C0 t uwX4 tyX4 tyX4_ok nmX4 rfl 6 (by decide) kw_18 rfl rfl rfl rfl (Nat.le_of_ble_eq_true rfl) dX4_init_28 (fun H locs t => ?_)
  have t : kT D h0 (.inr (4, [.int 0, .int 0, .int 0, .int 0, .ref (sz + 0), .ref (sz + 1), .ref (sz + 2), .null])) sz [k_i cA 12, k_i cA 12, k_g cA 4 12 (sz + 3), k_i cA 5, k_i cA 5, k_i cA 5, k_i cA 5, k_i cA 5, k_i cA 5, k_i cA 5, k_i cA 5, k_i cA 5, k_i cA 5, k_i cA 5, k_i cA 5] s.heap H locs := t
  refine lv_aload_n hx hb dX4_init_31 rfl (lv_at hl 0 rfl) ?_
  refine lv_iconst (v := 5) hx hb dX4_init_32 (by decide) ?_
  refine k_newi (N := 5) C0 t kw_3 (by decide) (by decide) (by decide) (Nat.le_of_ble_eq_true rfl) (Nat.le_of_ble_eq_true rfl) dX4_init_33 (fun H t => ?_)
  have t : kT D h0 (.inr (4, [.int 0, .int 0, .int 0, .int 0, .ref (sz + 0), .ref (sz + 1), .ref (sz + 2), .null])) sz [k_i cA 12, k_i cA 12, k_g cA 4 12 (sz + 3), k_i cA 5, k_i cA 5, k_i cA 5, k_i cA 5, k_i cA 5, k_i cA 5, k_i cA 5, k_i cA 5, k_i cA 5, k_i cA 5, k_i cA 5, k_i cA 5, k_i cA 5] s.heap H locs := t
  refine k_putF (T := TX4) (N := 8) C0 t uwX4 tyX4 tyX4_ok nmX4 rfl 7 (by decide) kw_19 rfl rfl rfl rfl (Nat.le_of_ble_eq_true rfl) dX4_init_35 (fun H locs t => ?_)
  have t : kT D h0 (.inr (4, [.int 0, .int 0, .int 0, .int 0, .ref (sz + 0), .ref (sz + 1), .ref (sz + 2), .ref (sz + 15)])) sz [k_i cA 12, k_i cA 12, k_g cA 4 12 (sz + 3), k_i cA 5, k_i cA 5, k_i cA 5, k_i cA 5, k_i cA 5, k_i cA 5, k_i cA 5, k_i cA 5, k_i cA 5, k_i cA 5, k_i cA 5, k_i cA 5, k_i cA 5] s.heap H locs := t
  exact k_ret C0 t dX4_init_38
theorem dX1_init_0 : decode cX1_init 0 = .ok (.aload_n 0, 1) := by decide +kernel
theorem dX1_init_1 : decode cX1_init 1 = .ok (.invokespecial 3, 3) := by decide +kernel
theorem dX1_init_4 : decode cX1_init 4 = .ok (.aload_n 0, 1) := by decide +kernel
theorem dX1_init_5 : decode cX1_init 5 = .ok (.iconst 5, 1) := by decide +kernel
theorem dX1_init_6 : decode cX1_init 6 = .ok (.newarray .int, 2) := by decide +kernel
theorem dX1_init_8 : decode cX1_init 8 = .ok (.putfield 9, 3) := by decide +kernel
theorem dX1_init_11 : decode cX1_init 11 = .ok (.aload_n 0, 1) := by decide +kernel
theorem dX1_init_12 : decode cX1_init 12 = .ok (.iconst 5, 1) := by decide +kernel
theorem dX1_init_13 : decode cX1_init 13 = .ok (.newarray .int, 2) := by decide +kernel
theorem dX1_init_15 : decode cX1_init 15 = .ok (.putfield 15, 3) := by decide +kernel
theorem dX1_init_18 : decode cX1_init 18 = .ok (.aload_n 0, 1) := by decide +kernel
theorem dX1_init_19 : decode cX1_init 19 = .ok (.iconst 5, 1) := by decide +kernel
theorem dX1_init_20 : decode cX1_init 20 = .ok (.newarray .int, 2) := by decide +kernel
theorem dX1_init_22 : decode cX1_init 22 = .ok (.putfield 18, 3) := by decide +kernel
theorem dX1_init_25 : decode cX1_init 25 = .ok (.aload_n 0, 1) := by decide +kernel
theorem dX1_init_26 : decode cX1_init 26 = .ok (.bipush 12, 2) := by decide +kernel
theorem dX1_init_28 : decode cX1_init 28 = .ok (.putfield 21, 3) := by decide +kernel
theorem dX1_init_31 : decode cX1_init 31 = .ok (.aload_n 0, 1) := by decide +kernel
theorem dX1_init_32 : decode cX1_init 32 = .ok (.iconst 5, 1) := by decide +kernel
theorem dX1_init_33 : decode cX1_init 33 = .ok (.putfield 25, 3) := by decide +kernel
theorem dX1_init_36 : decode cX1_init 36 = .ok (.aload_n 0, 1) := by decide +kernel
theorem dX1_init_37 : decode cX1_init 37 = .ok (.iconst 4, 1) := by decide +kernel
theorem dX1_init_38 : decode cX1_init 38 = .ok (.iconst 5, 1) := by decide +kernel
theorem dX1_init_39 : decode cX1_init 39 = .ok (.multianewarray 28 2, 4) := by decide +kernel
theorem dX1_init_43 : decode cX1_init 43 = .ok (.putfield 30, 3) := by decide +kernel
theorem dX1_init_46 : decode cX1_init 46 = .ok (.aload_n 0, 1) := by decide +kernel
theorem dX1_init_47 : decode cX1_init 47 = .ok (.iconst 4, 1) := by decide +kernel
theorem dX1_init_48 : decode cX1_init 48 = .ok (.newarray .long, 2) := by decide +kernel
theorem dX1_init_50 : decode cX1_init 50 = .ok (.putfield 33, 3) := by decide +kernel
theorem dX1_init_53 : decode cX1_init 53 = .ok (.aload_n 0, 1) := by decide +kernel
theorem dX1_init_54 : decode cX1_init 54 = .ok (.iconst 5, 1) := by decide +kernel
theorem dX1_init_55 : decode cX1_init 55 = .ok (.newarray .long, 2) := by decide +kernel
theorem dX1_init_57 : decode cX1_init 57 = .ok (.putfield 37, 3) := by decide +kernel
theorem dX1_init_60 : decode cX1_init 60 = .ok (.aload_n 0, 1) := by decide +kernel
theorem dX1_init_61 : decode cX1_init 61 = .ok (.iconst 5, 1) := by decide +kernel
theorem dX1_init_62 : decode cX1_init 62 = .ok (.newarray .boolean, 2) := by decide +kernel
theorem dX1_init_64 : decode cX1_init 64 = .ok (.putfield 40, 3) := by decide +kernel
theorem dX1_init_67 : decode cX1_init 67 = .ok (.return_, 1) := by decide +kernel
theorem kw_20 : Cond.methodLink RX1 3 objectInit ∈ mm_tbl := mm_one_at _ 390 (by decide +kernel) rfl
theorem kw_21 : Cond.fieldLink RX1 9 "SelfishWays$Lanes" "a" "[I" ∈ mm_tbl := mm_one_at _ 393 (by decide +kernel) rfl
theorem kw_22 : Cond.fieldLink RX1 15 "SelfishWays$Lanes" "b" "[I" ∈ mm_tbl := mm_one_at _ 394 (by decide +kernel) rfl
theorem kw_23 : Cond.fieldLink RX1 18 "SelfishWays$Lanes" "weights" "[I" ∈ mm_tbl := mm_one_at _ 395 (by decide +kernel) rfl
theorem kw_24 : Cond.fieldLink RX1 21 "SelfishWays$Lanes" "amountInAll" "I" ∈ mm_tbl := mm_one_at _ 398 (by decide +kernel) rfl
theorem kw_25 : Cond.fieldLink RX1 25 "SelfishWays$Lanes" "tenthsLed" "I" ∈ mm_tbl := mm_one_at _ 400 (by decide +kernel) rfl
theorem kw_26 : Cond.classLink RX1 28 ("[" ++ (FieldType.array .long).toString) ∈ mm_tbl := mm_one_at _ 391 (by decide +kernel) rfl
theorem kw_27 : Cond.arrayClass .long ∈ mm_tbl := mm_one_at _ 447 (by decide +kernel) rfl
theorem kw_28 : Cond.fieldLink RX1 30 "SelfishWays$Lanes" "amounts" "[[J" ∈ mm_tbl := mm_one_at _ 404 (by decide +kernel) rfl
theorem kw_29 : Cond.fieldLink RX1 33 "SelfishWays$Lanes" "parts" "[J" ∈ mm_tbl := mm_one_at _ 406 (by decide +kernel) rfl
theorem kw_30 : Cond.fieldLink RX1 37 "SelfishWays$Lanes" "ground" "[J" ∈ mm_tbl := mm_one_at _ 412 (by decide +kernel) rfl
theorem kw_31 : Cond.arrayClass .boolean ∈ mm_tbl := mm_one_at _ 448 (by decide +kernel) rfl
theorem kw_32 : Cond.fieldLink RX1 40 "SelfishWays$Lanes" "open" "[Z" ∈ mm_tbl := mm_one_at _ 413 (by decide +kernel) rfl
def fX1_init (sz : Nat) : List Value := [.ref (sz + 0), .ref (sz + 1), .ref (sz + 2), .int 0, .int 12, .int 5, .int 0, .ref (sz + 3), .ref (sz + 8), .long 0, .long 0, .ref (sz + 9), .ref (sz + 10), .long 0, .long 0]
def eX1_init (cA : Nat → ClassId) (sz : Nat) : List va_E := [k_i cA 5, k_i cA 5, k_i cA 5, k_g cA 5 4 (sz + 4), k_l cA 5, k_l cA 5, k_l cA 5, k_l cA 5, k_l cA 4, k_l cA 5, k_z cA 5]
set_option maxRecDepth 100000 in
set_option maxHeartbeats 4000000 in
theorem bX1_init : kMet yX1_init cX1_init 1 1 12 1 [.null, .null, .null, .int 0, .int 0, .int 0, .int 0, .null, .null, .long 0, .long 0, .null, .null, .long 0, .long 0] 11 53 fX1_init eX1_init := by
  refine k_enter (by decide) rfl (by decide) ?_
  intro p l e s m args below meth c D cA h0 sz ls C0 t hl
  have C0 : kC p s m args meth c cX1_init RX1 1 D cA h0 sz := C0
  obtain ⟨hx, hb, -⟩ := id C0
  refine lv_aload_n hx hb dX1_init_0 rfl (lv_at hl 0 rfl) ?_
  refine k_obj C0 kw_20 kw_1 kw_2 hl dX1_init_1 (Nat.le_of_ble_eq_true rfl) (Nat.le_of_ble_eq_true rfl) ?_
  refine lv_aload_n hx hb dX1_init_4 rfl (lv_at hl 0 rfl) ?_
  refine lv_iconst (v := 5) hx hb dX1_init_5 (by decide) ?_
  refine k_newi (N := 5) C0 t kw_3 (by decide) (by decide) (by decide) (Nat.le_of_ble_eq_true rfl) (Nat.le_of_ble_eq_true rfl) dX1_init_6 (fun H t => ?_)
  have t : kT D h0 (.inr (1, [.null, .null, .null, .int 0, .int 0, .int 0, .int 0, .null, .null, .long 0, .long 0, .null, .null, .long 0, .long 0])) sz [k_i cA 5] s.heap H [] := t
  refine k_putF (T := TX1) (N := 15) C0 t uwX1 tyX1 tyX1_ok nmX1 rfl 0 (by decide) kw_21 rfl rfl rfl rfl (Nat.le_of_ble_eq_true rfl) dX1_init_8 (fun H locs t => ?_)
  have t : kT D h0 (.inr (1, [.ref (sz + 0), .null, .null, .int 0, .int 0, .int 0, .int 0, .null, .null, .long 0, .long 0, .null, .null, .long 0, .long 0])) sz [k_i cA 5] s.heap H locs := t
  refine lv_aload_n hx hb dX1_init_11 rfl (lv_at hl 0 rfl) ?_
  refine lv_iconst (v := 5) hx hb dX1_init_12 (by decide) ?_
  refine k_newi (N := 5) C0 t kw_3 (by decide) (by decide) (by decide) (Nat.le_of_ble_eq_true rfl) (Nat.le_of_ble_eq_true rfl) dX1_init_13 (fun H t => ?_)
  have t : kT D h0 (.inr (1, [.ref (sz + 0), .null, .null, .int 0, .int 0, .int 0, .int 0, .null, .null, .long 0, .long 0, .null, .null, .long 0, .long 0])) sz [k_i cA 5, k_i cA 5] s.heap H locs := t
  refine k_putF (T := TX1) (N := 15) C0 t uwX1 tyX1 tyX1_ok nmX1 rfl 1 (by decide) kw_22 rfl rfl rfl rfl (Nat.le_of_ble_eq_true rfl) dX1_init_15 (fun H locs t => ?_)
  have t : kT D h0 (.inr (1, [.ref (sz + 0), .ref (sz + 1), .null, .int 0, .int 0, .int 0, .int 0, .null, .null, .long 0, .long 0, .null, .null, .long 0, .long 0])) sz [k_i cA 5, k_i cA 5] s.heap H locs := t
  refine lv_aload_n hx hb dX1_init_18 rfl (lv_at hl 0 rfl) ?_
  refine lv_iconst (v := 5) hx hb dX1_init_19 (by decide) ?_
  refine k_newi (N := 5) C0 t kw_3 (by decide) (by decide) (by decide) (Nat.le_of_ble_eq_true rfl) (Nat.le_of_ble_eq_true rfl) dX1_init_20 (fun H t => ?_)
  have t : kT D h0 (.inr (1, [.ref (sz + 0), .ref (sz + 1), .null, .int 0, .int 0, .int 0, .int 0, .null, .null, .long 0, .long 0, .null, .null, .long 0, .long 0])) sz [k_i cA 5, k_i cA 5, k_i cA 5] s.heap H locs := t
  refine k_putF (T := TX1) (N := 15) C0 t uwX1 tyX1 tyX1_ok nmX1 rfl 2 (by decide) kw_23 rfl rfl rfl rfl (Nat.le_of_ble_eq_true rfl) dX1_init_22 (fun H locs t => ?_)
  have t : kT D h0 (.inr (1, [.ref (sz + 0), .ref (sz + 1), .ref (sz + 2), .int 0, .int 0, .int 0, .int 0, .null, .null, .long 0, .long 0, .null, .null, .long 0, .long 0])) sz [k_i cA 5, k_i cA 5, k_i cA 5] s.heap H locs := t
  refine lv_aload_n hx hb dX1_init_25 rfl (lv_at hl 0 rfl) ?_
  refine lv_bipush (v := 12) hx hb dX1_init_26 (by decide) ?_
  refine k_put (T := TX1) (N := 15) C0 t uwX1 tyX1 tyX1_ok nmX1 rfl 4 (by decide) kw_24 rfl rfl rfl rfl (Nat.le_of_ble_eq_true rfl) dX1_init_28 (fun H locs t => ?_)
  have t : kT D h0 (.inr (1, [.ref (sz + 0), .ref (sz + 1), .ref (sz + 2), .int 0, .int 12, .int 0, .int 0, .null, .null, .long 0, .long 0, .null, .null, .long 0, .long 0])) sz [k_i cA 5, k_i cA 5, k_i cA 5] s.heap H locs := t
  refine lv_aload_n hx hb dX1_init_31 rfl (lv_at hl 0 rfl) ?_
  refine lv_iconst (v := 5) hx hb dX1_init_32 (by decide) ?_
  refine k_put (T := TX1) (N := 15) C0 t uwX1 tyX1 tyX1_ok nmX1 rfl 5 (by decide) kw_25 rfl rfl rfl rfl (Nat.le_of_ble_eq_true rfl) dX1_init_33 (fun H locs t => ?_)
  have t : kT D h0 (.inr (1, [.ref (sz + 0), .ref (sz + 1), .ref (sz + 2), .int 0, .int 12, .int 5, .int 0, .null, .null, .long 0, .long 0, .null, .null, .long 0, .long 0])) sz [k_i cA 5, k_i cA 5, k_i cA 5] s.heap H locs := t
  refine lv_aload_n hx hb dX1_init_36 rfl (lv_at hl 0 rfl) ?_
  refine lv_iconst (v := 4) hx hb dX1_init_37 (by decide) ?_
  refine lv_iconst (v := 5) hx hb dX1_init_38 (by decide) ?_
  refine k_multi (ty := .long) (t1 := 5) (t2 := 1) (zf := k_l cA 5) (N := 4) (K := 5) C0 t kw_26 kw_27 C0.2.2.2.2.2.1.2.2.2.2 (fun h => h) rfl (fun h => h) rfl (by decide) (by decide) (by decide) (by decide) (by decide) (by decide) (by decide) rfl rfl (fun a H1 h => h) (Nat.le_of_ble_eq_true rfl) (Nat.le_of_ble_eq_true rfl) dX1_init_39 (fun H locs t => ?_)
  have t : kT D h0 (.inr (1, [.ref (sz + 0), .ref (sz + 1), .ref (sz + 2), .int 0, .int 12, .int 5, .int 0, .null, .null, .long 0, .long 0, .null, .null, .long 0, .long 0])) sz [k_i cA 5, k_i cA 5, k_i cA 5, k_g cA 5 4 (sz + 4), k_l cA 5, k_l cA 5, k_l cA 5, k_l cA 5] s.heap H locs := t
  refine k_putF (T := TX1) (N := 15) C0 t uwX1 tyX1 tyX1_ok nmX1 rfl 7 (by decide) kw_28 rfl rfl rfl rfl (Nat.le_of_ble_eq_true rfl) dX1_init_43 (fun H locs t => ?_)
  have t : kT D h0 (.inr (1, [.ref (sz + 0), .ref (sz + 1), .ref (sz + 2), .int 0, .int 12, .int 5, .int 0, .ref (sz + 3), .null, .long 0, .long 0, .null, .null, .long 0, .long 0])) sz [k_i cA 5, k_i cA 5, k_i cA 5, k_g cA 5 4 (sz + 4), k_l cA 5, k_l cA 5, k_l cA 5, k_l cA 5] s.heap H locs := t
  refine lv_aload_n hx hb dX1_init_46 rfl (lv_at hl 0 rfl) ?_
  refine lv_iconst (v := 4) hx hb dX1_init_47 (by decide) ?_
  refine k_newl (N := 4) C0 t kw_27 (by decide) (by decide) (by decide) (Nat.le_of_ble_eq_true rfl) (Nat.le_of_ble_eq_true rfl) dX1_init_48 (fun H t => ?_)
  have t : kT D h0 (.inr (1, [.ref (sz + 0), .ref (sz + 1), .ref (sz + 2), .int 0, .int 12, .int 5, .int 0, .ref (sz + 3), .null, .long 0, .long 0, .null, .null, .long 0, .long 0])) sz [k_i cA 5, k_i cA 5, k_i cA 5, k_g cA 5 4 (sz + 4), k_l cA 5, k_l cA 5, k_l cA 5, k_l cA 5, k_l cA 4] s.heap H locs := t
  refine k_putF (T := TX1) (N := 15) C0 t uwX1 tyX1 tyX1_ok nmX1 rfl 8 (by decide) kw_29 rfl rfl rfl rfl (Nat.le_of_ble_eq_true rfl) dX1_init_50 (fun H locs t => ?_)
  have t : kT D h0 (.inr (1, [.ref (sz + 0), .ref (sz + 1), .ref (sz + 2), .int 0, .int 12, .int 5, .int 0, .ref (sz + 3), .ref (sz + 8), .long 0, .long 0, .null, .null, .long 0, .long 0])) sz [k_i cA 5, k_i cA 5, k_i cA 5, k_g cA 5 4 (sz + 4), k_l cA 5, k_l cA 5, k_l cA 5, k_l cA 5, k_l cA 4] s.heap H locs := t
  refine lv_aload_n hx hb dX1_init_53 rfl (lv_at hl 0 rfl) ?_
  refine lv_iconst (v := 5) hx hb dX1_init_54 (by decide) ?_
  refine k_newl (N := 5) C0 t kw_27 (by decide) (by decide) (by decide) (Nat.le_of_ble_eq_true rfl) (Nat.le_of_ble_eq_true rfl) dX1_init_55 (fun H t => ?_)
  have t : kT D h0 (.inr (1, [.ref (sz + 0), .ref (sz + 1), .ref (sz + 2), .int 0, .int 12, .int 5, .int 0, .ref (sz + 3), .ref (sz + 8), .long 0, .long 0, .null, .null, .long 0, .long 0])) sz [k_i cA 5, k_i cA 5, k_i cA 5, k_g cA 5 4 (sz + 4), k_l cA 5, k_l cA 5, k_l cA 5, k_l cA 5, k_l cA 4, k_l cA 5] s.heap H locs := t
  refine k_putF (T := TX1) (N := 15) C0 t uwX1 tyX1 tyX1_ok nmX1 rfl 11 (by decide) kw_30 rfl rfl rfl rfl (Nat.le_of_ble_eq_true rfl) dX1_init_57 (fun H locs t => ?_)
  have t : kT D h0 (.inr (1, [.ref (sz + 0), .ref (sz + 1), .ref (sz + 2), .int 0, .int 12, .int 5, .int 0, .ref (sz + 3), .ref (sz + 8), .long 0, .long 0, .ref (sz + 9), .null, .long 0, .long 0])) sz [k_i cA 5, k_i cA 5, k_i cA 5, k_g cA 5 4 (sz + 4), k_l cA 5, k_l cA 5, k_l cA 5, k_l cA 5, k_l cA 4, k_l cA 5] s.heap H locs := t
  refine lv_aload_n hx hb dX1_init_60 rfl (lv_at hl 0 rfl) ?_
  refine lv_iconst (v := 5) hx hb dX1_init_61 (by decide) ?_
  refine k_newz (N := 5) C0 t kw_31 (by decide) (by decide) (by decide) (Nat.le_of_ble_eq_true rfl) (Nat.le_of_ble_eq_true rfl) dX1_init_62 (fun H t => ?_)
  have t : kT D h0 (.inr (1, [.ref (sz + 0), .ref (sz + 1), .ref (sz + 2), .int 0, .int 12, .int 5, .int 0, .ref (sz + 3), .ref (sz + 8), .long 0, .long 0, .ref (sz + 9), .null, .long 0, .long 0])) sz [k_i cA 5, k_i cA 5, k_i cA 5, k_g cA 5 4 (sz + 4), k_l cA 5, k_l cA 5, k_l cA 5, k_l cA 5, k_l cA 4, k_l cA 5, k_z cA 5] s.heap H locs := t
  refine k_putF (T := TX1) (N := 15) C0 t uwX1 tyX1 tyX1_ok nmX1 rfl 12 (by decide) kw_32 rfl rfl rfl rfl (Nat.le_of_ble_eq_true rfl) dX1_init_64 (fun H locs t => ?_)
  have t : kT D h0 (.inr (1, [.ref (sz + 0), .ref (sz + 1), .ref (sz + 2), .int 0, .int 12, .int 5, .int 0, .ref (sz + 3), .ref (sz + 8), .long 0, .long 0, .ref (sz + 9), .ref (sz + 10), .long 0, .long 0])) sz [k_i cA 5, k_i cA 5, k_i cA 5, k_g cA 5 4 (sz + 4), k_l cA 5, k_l cA 5, k_l cA 5, k_l cA 5, k_l cA 4, k_l cA 5, k_z cA 5] s.heap H locs := t
  exact k_ret C0 t dX1_init_67
theorem dX3_init_0 : decode cX3_init 0 = .ok (.aload_n 0, 1) := by decide +kernel
theorem dX3_init_1 : decode cX3_init 1 = .ok (.invokespecial 3, 3) := by decide +kernel
theorem dX3_init_4 : decode cX3_init 4 = .ok (.aload_n 0, 1) := by decide +kernel
theorem dX3_init_5 : decode cX3_init 5 = .ok (.bipush 92, 2) := by decide +kernel
theorem dX3_init_7 : decode cX3_init 7 = .ok (.newarray .int, 2) := by decide +kernel
theorem dX3_init_9 : decode cX3_init 9 = .ok (.putfield 9, 3) := by decide +kernel
theorem dX3_init_12 : decode cX3_init 12 = .ok (.aload_n 0, 1) := by decide +kernel
theorem dX3_init_13 : decode cX3_init 13 = .ok (.new 15, 3) := by decide +kernel
theorem dX3_init_16 : decode cX3_init 16 = .ok (.dup, 1) := by decide +kernel
theorem dX3_init_17 : decode cX3_init 17 = .ok (.invokespecial 17, 3) := by decide +kernel
theorem dX3_init_20 : decode cX3_init 20 = .ok (.putfield 18, 3) := by decide +kernel
theorem dX3_init_23 : decode cX3_init 23 = .ok (.return_, 1) := by decide +kernel
theorem kw_33 : Cond.methodLink RX3 3 objectInit ∈ mm_tbl := mm_one_at _ 127 (by decide +kernel) rfl
theorem kw_34 : Cond.fieldLink RX3 9 "SelfishWays$Page" "letters" "[I" ∈ mm_tbl := mm_one_at _ 178 (by decide +kernel) rfl
theorem kw_35 : Cond.classLink RX3 15 RX2 ∈ mm_tbl := mm_one_at _ 128 (by decide +kernel) rfl
theorem kw_36 : Cond.instantiable RX2 7 ∈ mm_tbl := mm_one_at _ 129 (by decide +kernel) rfl
theorem kw_37 : Cond.initialized RX2 ∈ mm_tbl := mm_one_at _ 106 (by decide +kernel) rfl
theorem kw_38 : Cond.methodLinkNest RX3 17 yX2_init "SelfishWays" ∈ mm_nest := List.mem_filter.mpr ⟨List.mem_of_getElem? (i := 130) (by decide +kernel), rfl⟩
theorem kw_39 : Cond.instanceMethod yX2_init ∈ mm_tbl := mm_one_at _ 131 (by decide +kernel) rfl
theorem kw_40 : Cond.code yX2_init cX2_init 1 none ∈ mm_tbl := mm_one_at _ 132 (by decide +kernel) rfl
theorem kw_41 : Cond.fieldLink RX3 18 "SelfishWays$Page" "draft" "LSelfishWays$Net;" ∈ mm_tbl := mm_one_at _ 182 (by decide +kernel) rfl
def fX3_init (sz : Nat) : List Value := [.ref (sz + 0), .int 0, .ref (sz + 1), .int 0]
def eX3_init (cA : Nat → ClassId) (sz : Nat) : List va_E := [k_i cA 92, .inr (2, [.int 0, .int 0, .ref (sz + 2), .ref (sz + 3), .ref (sz + 4), .ref (sz + 5), .ref (sz + 6)]), k_i cA 10, k_i cA 10, k_i cA 10, k_i cA 10, k_i cA 10]
set_option maxRecDepth 100000 in
set_option maxHeartbeats 4000000 in
theorem bX3_init : kMet yX3_init cX3_init 1 2 32 3 [.null, .int 0, .null, .int 0] 7 149 fX3_init eX3_init := by
  refine k_enter (by decide) rfl (by decide) ?_
  intro p l e s m args below meth c D cA h0 sz ls C0 t hl
  have C0 : kC p s m args meth c cX3_init RX3 1 D cA h0 sz := C0
  obtain ⟨hx, hb, -⟩ := id C0
  refine lv_aload_n hx hb dX3_init_0 rfl (lv_at hl 0 rfl) ?_
  refine k_obj C0 kw_33 kw_1 kw_2 hl dX3_init_1 (Nat.le_of_ble_eq_true rfl) (Nat.le_of_ble_eq_true rfl) ?_
  refine lv_aload_n hx hb dX3_init_4 rfl (lv_at hl 0 rfl) ?_
  refine lv_bipush (v := 92) hx hb dX3_init_5 (by decide) ?_
  refine k_newi (N := 92) C0 t kw_3 (by decide) (by decide) (by decide) (Nat.le_of_ble_eq_true rfl) (Nat.le_of_ble_eq_true rfl) dX3_init_7 (fun H t => ?_)
  have t : kT D h0 (.inr (3, [.null, .int 0, .null, .int 0])) sz [k_i cA 92] s.heap H [] := t
  refine k_putF (T := TX3) (N := 4) C0 t uwX3 tyX3 tyX3_ok nmX3 rfl 0 (by decide) kw_34 rfl rfl rfl rfl (Nat.le_of_ble_eq_true rfl) dX3_init_9 (fun H locs t => ?_)
  have t : kT D h0 (.inr (3, [.ref (sz + 0), .int 0, .null, .int 0])) sz [k_i cA 92] s.heap H locs := t
  refine lv_aload_n hx hb dX3_init_12 rfl (lv_at hl 0 rfl) ?_
  refine k_new (ci := 2) (fs := [.int 0, .int 0, .null, .null, .null, .null, .null]) C0 t uwX2 tyX2 tyX2_ok kw_35 kw_36 kw_37 rfl dfX2 (Nat.le_of_ble_eq_true rfl) (Nat.le_of_ble_eq_true rfl) dX3_init_13 (fun H t => ?_)
  have t : kT D h0 (.inr (3, [.ref (sz + 0), .int 0, .null, .int 0])) sz ([k_i cA 92] ++ [.inr (2, [.int 0, .int 0, .null, .null, .null, .null, .null])]) s.heap H locs := t
  refine lv_dup hx hb dX3_init_16 rfl ?_
  refine k_callN bX2_init C0 (es := [k_i cA 92]) t kw_38 kw_39 kw_37 kw_40 rfl (by decide +kernel) hl (Nat.le_of_ble_eq_true rfl) (Nat.le_of_ble_eq_true rfl) (Nat.le_of_ble_eq_true rfl) dX3_init_17 (Nat.le_of_ble_eq_true rfl) (Nat.le_of_ble_eq_true rfl) (fun H locs t => ?_)
  have t : kT D h0 (.inr (3, [.ref (sz + 0), .int 0, .null, .int 0])) sz [k_i cA 92, .inr (2, [.int 0, .int 0, .ref (sz + 2), .ref (sz + 3), .ref (sz + 4), .ref (sz + 5), .ref (sz + 6)]), k_i cA 10, k_i cA 10, k_i cA 10, k_i cA 10, k_i cA 10] s.heap H locs := t
  refine k_putF (T := TX3) (N := 4) C0 t uwX3 tyX3 tyX3_ok nmX3 rfl 2 (by decide) kw_41 rfl rfl rfl rfl (Nat.le_of_ble_eq_true rfl) dX3_init_20 (fun H locs t => ?_)
  have t : kT D h0 (.inr (3, [.ref (sz + 0), .int 0, .ref (sz + 1), .int 0])) sz [k_i cA 92, .inr (2, [.int 0, .int 0, .ref (sz + 2), .ref (sz + 3), .ref (sz + 4), .ref (sz + 5), .ref (sz + 6)]), k_i cA 10, k_i cA 10, k_i cA 10, k_i cA 10, k_i cA 10] s.heap H locs := t
  exact k_ret C0 t dX3_init_23
theorem dX0_init_0 : decode cX0_init 0 = .ok (.aload_n 0, 1) := by decide +kernel
theorem dX0_init_1 : decode cX0_init 1 = .ok (.invokespecial 3, 3) := by decide +kernel
theorem dX0_init_4 : decode cX0_init 4 = .ok (.aload_n 0, 1) := by decide +kernel
theorem dX0_init_5 : decode cX0_init 5 = .ok (.iconst 5, 1) := by decide +kernel
theorem dX0_init_6 : decode cX0_init 6 = .ok (.newarray .int, 2) := by decide +kernel
theorem dX0_init_8 : decode cX0_init 8 = .ok (.putfield 9, 3) := by decide +kernel
theorem dX0_init_11 : decode cX0_init 11 = .ok (.aload_n 0, 1) := by decide +kernel
theorem dX0_init_12 : decode cX0_init 12 = .ok (.iconst 5, 1) := by decide +kernel
theorem dX0_init_13 : decode cX0_init 13 = .ok (.newarray .int, 2) := by decide +kernel
theorem dX0_init_15 : decode cX0_init 15 = .ok (.putfield 15, 3) := by decide +kernel
theorem dX0_init_18 : decode cX0_init 18 = .ok (.aload_n 0, 1) := by decide +kernel
theorem dX0_init_19 : decode cX0_init 19 = .ok (.sipush 500, 3) := by decide +kernel
theorem dX0_init_22 : decode cX0_init 22 = .ok (.newarray .int, 2) := by decide +kernel
theorem dX0_init_24 : decode cX0_init 24 = .ok (.putfield 18, 3) := by decide +kernel
theorem dX0_init_27 : decode cX0_init 27 = .ok (.aload_n 0, 1) := by decide +kernel
theorem dX0_init_28 : decode cX0_init 28 = .ok (.sipush 500, 3) := by decide +kernel
theorem dX0_init_31 : decode cX0_init 31 = .ok (.newarray .int, 2) := by decide +kernel
theorem dX0_init_33 : decode cX0_init 33 = .ok (.putfield 21, 3) := by decide +kernel
theorem dX0_init_36 : decode cX0_init 36 = .ok (.aload_n 0, 1) := by decide +kernel
theorem dX0_init_37 : decode cX0_init 37 = .ok (.sipush 500, 3) := by decide +kernel
theorem dX0_init_40 : decode cX0_init 40 = .ok (.newarray .int, 2) := by decide +kernel
theorem dX0_init_42 : decode cX0_init 42 = .ok (.putfield 24, 3) := by decide +kernel
theorem dX0_init_45 : decode cX0_init 45 = .ok (.aload_n 0, 1) := by decide +kernel
theorem dX0_init_46 : decode cX0_init 46 = .ok (.new 27, 3) := by decide +kernel
theorem dX0_init_49 : decode cX0_init 49 = .ok (.dup, 1) := by decide +kernel
theorem dX0_init_50 : decode cX0_init 50 = .ok (.invokespecial 29, 3) := by decide +kernel
theorem dX0_init_53 : decode cX0_init 53 = .ok (.putfield 30, 3) := by decide +kernel
theorem dX0_init_56 : decode cX0_init 56 = .ok (.return_, 1) := by decide +kernel
theorem kw_42 : Cond.methodLink RX0 3 objectInit ∈ mm_tbl := mm_one_at _ 286 (by decide +kernel) rfl
theorem kw_43 : Cond.fieldLink RX0 9 "SelfishWays$AllSets" "ways" "[I" ∈ mm_tbl := mm_one_at _ 319 (by decide +kernel) rfl
theorem kw_44 : Cond.fieldLink RX0 15 "SelfishWays$AllSets" "strides" "[I" ∈ mm_tbl := mm_one_at _ 320 (by decide +kernel) rfl
theorem kw_45 : Cond.fieldLink RX0 18 "SelfishWays$AllSets" "socials" "[I" ∈ mm_tbl := mm_one_at _ 321 (by decide +kernel) rfl
theorem kw_46 : Cond.fieldLink RX0 21 "SelfishWays$AllSets" "potentials" "[I" ∈ mm_tbl := mm_one_at _ 322 (by decide +kernel) rfl
theorem kw_47 : Cond.fieldLink RX0 24 "SelfishWays$AllSets" "restSets" "[I" ∈ mm_tbl := mm_one_at _ 323 (by decide +kernel) rfl
theorem kw_48 : Cond.classLink RX0 27 RX5 ∈ mm_tbl := mm_one_at _ 287 (by decide +kernel) rfl
theorem kw_49 : Cond.instantiable RX5 6 ∈ mm_tbl := mm_one_at _ 288 (by decide +kernel) rfl
theorem kw_50 : Cond.initialized RX5 ∈ mm_tbl := mm_one_at _ 110 (by decide +kernel) rfl
theorem kw_51 : Cond.methodLinkNest RX0 29 yX5_init "SelfishWays" ∈ mm_nest := List.mem_filter.mpr ⟨List.mem_of_getElem? (i := 289) (by decide +kernel), rfl⟩
theorem kw_52 : Cond.instanceMethod yX5_init ∈ mm_tbl := mm_one_at _ 290 (by decide +kernel) rfl
theorem kw_53 : Cond.code yX5_init cX5_init 1 none ∈ mm_tbl := mm_one_at _ 291 (by decide +kernel) rfl
theorem kw_54 : Cond.fieldLink RX0 30 "SelfishWays$AllSets" "spread" "LSelfishWays$Spread;" ∈ mm_tbl := mm_one_at _ 339 (by decide +kernel) rfl
def fX0_init (sz : Nat) : List Value := [.int 0, .int 0, .int 0, .ref (sz + 0), .ref (sz + 1), .ref (sz + 2), .ref (sz + 3), .ref (sz + 4), .int 0, .int 0, .int 0, .int 0, .int 0, .int 0, .int 0, .ref (sz + 5), .int 0, .int 0, .int 0]
def eX0_init (cA : Nat → ClassId) (sz : Nat) : List va_E := [k_i cA 5, k_i cA 5, k_i cA 500, k_i cA 500, k_i cA 500, .inr (5, [.int (-1), .ref (sz + 6), .ref (sz + 7), .int 0, .ref (sz + 8), .int 0]), k_i cA 500, k_i cA 500, k_i cA 500]
set_option maxRecDepth 100000 in
set_option maxHeartbeats 4000000 in
theorem bX0_init : kMet yX0_init cX0_init 1 2 32 0 [.int 0, .int 0, .int 0, .null, .null, .null, .null, .null, .int 0, .int 0, .int 0, .int 0, .int 0, .int 0, .int 0, .null, .int 0, .int 0, .int 0] 9 3016 fX0_init eX0_init := by
  refine k_enter (by decide) rfl (by decide) ?_
  intro p l e s m args below meth c D cA h0 sz ls C0 t hl
  have C0 : kC p s m args meth c cX0_init RX0 1 D cA h0 sz := C0
  obtain ⟨hx, hb, -⟩ := id C0
  refine lv_aload_n hx hb dX0_init_0 rfl (lv_at hl 0 rfl) ?_
  refine k_obj C0 kw_42 kw_1 kw_2 hl dX0_init_1 (Nat.le_of_ble_eq_true rfl) (Nat.le_of_ble_eq_true rfl) ?_
  refine lv_aload_n hx hb dX0_init_4 rfl (lv_at hl 0 rfl) ?_
  refine lv_iconst (v := 5) hx hb dX0_init_5 (by decide) ?_
  refine k_newi (N := 5) C0 t kw_3 (by decide) (by decide) (by decide) (Nat.le_of_ble_eq_true rfl) (Nat.le_of_ble_eq_true rfl) dX0_init_6 (fun H t => ?_)
  have t : kT D h0 (.inr (0, [.int 0, .int 0, .int 0, .null, .null, .null, .null, .null, .int 0, .int 0, .int 0, .int 0, .int 0, .int 0, .int 0, .null, .int 0, .int 0, .int 0])) sz [k_i cA 5] s.heap H [] := t
  refine k_putF (T := TX0) (N := 19) C0 t uwX0 tyX0 tyX0_ok nmX0 rfl 3 (by decide) kw_43 rfl rfl rfl rfl (Nat.le_of_ble_eq_true rfl) dX0_init_8 (fun H locs t => ?_)
  have t : kT D h0 (.inr (0, [.int 0, .int 0, .int 0, .ref (sz + 0), .null, .null, .null, .null, .int 0, .int 0, .int 0, .int 0, .int 0, .int 0, .int 0, .null, .int 0, .int 0, .int 0])) sz [k_i cA 5] s.heap H locs := t
  refine lv_aload_n hx hb dX0_init_11 rfl (lv_at hl 0 rfl) ?_
  refine lv_iconst (v := 5) hx hb dX0_init_12 (by decide) ?_
  refine k_newi (N := 5) C0 t kw_3 (by decide) (by decide) (by decide) (Nat.le_of_ble_eq_true rfl) (Nat.le_of_ble_eq_true rfl) dX0_init_13 (fun H t => ?_)
  have t : kT D h0 (.inr (0, [.int 0, .int 0, .int 0, .ref (sz + 0), .null, .null, .null, .null, .int 0, .int 0, .int 0, .int 0, .int 0, .int 0, .int 0, .null, .int 0, .int 0, .int 0])) sz [k_i cA 5, k_i cA 5] s.heap H locs := t
  refine k_putF (T := TX0) (N := 19) C0 t uwX0 tyX0 tyX0_ok nmX0 rfl 4 (by decide) kw_44 rfl rfl rfl rfl (Nat.le_of_ble_eq_true rfl) dX0_init_15 (fun H locs t => ?_)
  have t : kT D h0 (.inr (0, [.int 0, .int 0, .int 0, .ref (sz + 0), .ref (sz + 1), .null, .null, .null, .int 0, .int 0, .int 0, .int 0, .int 0, .int 0, .int 0, .null, .int 0, .int 0, .int 0])) sz [k_i cA 5, k_i cA 5] s.heap H locs := t
  refine lv_aload_n hx hb dX0_init_18 rfl (lv_at hl 0 rfl) ?_
  refine lv_sipush (v := 500) hx hb dX0_init_19 (by decide) ?_
  refine k_newi (N := 500) C0 t kw_3 (by decide) (by decide) (by decide) (Nat.le_of_ble_eq_true rfl) (Nat.le_of_ble_eq_true rfl) dX0_init_22 (fun H t => ?_)
  have t : kT D h0 (.inr (0, [.int 0, .int 0, .int 0, .ref (sz + 0), .ref (sz + 1), .null, .null, .null, .int 0, .int 0, .int 0, .int 0, .int 0, .int 0, .int 0, .null, .int 0, .int 0, .int 0])) sz [k_i cA 5, k_i cA 5, k_i cA 500] s.heap H locs := t
  refine k_putF (T := TX0) (N := 19) C0 t uwX0 tyX0 tyX0_ok nmX0 rfl 5 (by decide) kw_45 rfl rfl rfl rfl (Nat.le_of_ble_eq_true rfl) dX0_init_24 (fun H locs t => ?_)
  have t : kT D h0 (.inr (0, [.int 0, .int 0, .int 0, .ref (sz + 0), .ref (sz + 1), .ref (sz + 2), .null, .null, .int 0, .int 0, .int 0, .int 0, .int 0, .int 0, .int 0, .null, .int 0, .int 0, .int 0])) sz [k_i cA 5, k_i cA 5, k_i cA 500] s.heap H locs := t
  refine lv_aload_n hx hb dX0_init_27 rfl (lv_at hl 0 rfl) ?_
  refine lv_sipush (v := 500) hx hb dX0_init_28 (by decide) ?_
  refine k_newi (N := 500) C0 t kw_3 (by decide) (by decide) (by decide) (Nat.le_of_ble_eq_true rfl) (Nat.le_of_ble_eq_true rfl) dX0_init_31 (fun H t => ?_)
  have t : kT D h0 (.inr (0, [.int 0, .int 0, .int 0, .ref (sz + 0), .ref (sz + 1), .ref (sz + 2), .null, .null, .int 0, .int 0, .int 0, .int 0, .int 0, .int 0, .int 0, .null, .int 0, .int 0, .int 0])) sz [k_i cA 5, k_i cA 5, k_i cA 500, k_i cA 500] s.heap H locs := t
  refine k_putF (T := TX0) (N := 19) C0 t uwX0 tyX0 tyX0_ok nmX0 rfl 6 (by decide) kw_46 rfl rfl rfl rfl (Nat.le_of_ble_eq_true rfl) dX0_init_33 (fun H locs t => ?_)
  have t : kT D h0 (.inr (0, [.int 0, .int 0, .int 0, .ref (sz + 0), .ref (sz + 1), .ref (sz + 2), .ref (sz + 3), .null, .int 0, .int 0, .int 0, .int 0, .int 0, .int 0, .int 0, .null, .int 0, .int 0, .int 0])) sz [k_i cA 5, k_i cA 5, k_i cA 500, k_i cA 500] s.heap H locs := t
  refine lv_aload_n hx hb dX0_init_36 rfl (lv_at hl 0 rfl) ?_
  refine lv_sipush (v := 500) hx hb dX0_init_37 (by decide) ?_
  refine k_newi (N := 500) C0 t kw_3 (by decide) (by decide) (by decide) (Nat.le_of_ble_eq_true rfl) (Nat.le_of_ble_eq_true rfl) dX0_init_40 (fun H t => ?_)
  have t : kT D h0 (.inr (0, [.int 0, .int 0, .int 0, .ref (sz + 0), .ref (sz + 1), .ref (sz + 2), .ref (sz + 3), .null, .int 0, .int 0, .int 0, .int 0, .int 0, .int 0, .int 0, .null, .int 0, .int 0, .int 0])) sz [k_i cA 5, k_i cA 5, k_i cA 500, k_i cA 500, k_i cA 500] s.heap H locs := t
  refine k_putF (T := TX0) (N := 19) C0 t uwX0 tyX0 tyX0_ok nmX0 rfl 7 (by decide) kw_47 rfl rfl rfl rfl (Nat.le_of_ble_eq_true rfl) dX0_init_42 (fun H locs t => ?_)
  have t : kT D h0 (.inr (0, [.int 0, .int 0, .int 0, .ref (sz + 0), .ref (sz + 1), .ref (sz + 2), .ref (sz + 3), .ref (sz + 4), .int 0, .int 0, .int 0, .int 0, .int 0, .int 0, .int 0, .null, .int 0, .int 0, .int 0])) sz [k_i cA 5, k_i cA 5, k_i cA 500, k_i cA 500, k_i cA 500] s.heap H locs := t
  refine lv_aload_n hx hb dX0_init_45 rfl (lv_at hl 0 rfl) ?_
  refine k_new (ci := 5) (fs := [.int 0, .null, .null, .int 0, .null, .int 0]) C0 t uwX5 tyX5 tyX5_ok kw_48 kw_49 kw_50 rfl dfX5 (Nat.le_of_ble_eq_true rfl) (Nat.le_of_ble_eq_true rfl) dX0_init_46 (fun H t => ?_)
  have t : kT D h0 (.inr (0, [.int 0, .int 0, .int 0, .ref (sz + 0), .ref (sz + 1), .ref (sz + 2), .ref (sz + 3), .ref (sz + 4), .int 0, .int 0, .int 0, .int 0, .int 0, .int 0, .int 0, .null, .int 0, .int 0, .int 0])) sz ([k_i cA 5, k_i cA 5, k_i cA 500, k_i cA 500, k_i cA 500] ++ [.inr (5, [.int 0, .null, .null, .int 0, .null, .int 0])]) s.heap H locs := t
  refine lv_dup hx hb dX0_init_49 rfl ?_
  refine k_callN bX5_init C0 (es := [k_i cA 5, k_i cA 5, k_i cA 500, k_i cA 500, k_i cA 500]) t kw_51 kw_52 kw_50 kw_53 rfl (by decide +kernel) hl (Nat.le_of_ble_eq_true rfl) (Nat.le_of_ble_eq_true rfl) (Nat.le_of_ble_eq_true rfl) dX0_init_50 (Nat.le_of_ble_eq_true rfl) (Nat.le_of_ble_eq_true rfl) (fun H locs t => ?_)
  have t : kT D h0 (.inr (0, [.int 0, .int 0, .int 0, .ref (sz + 0), .ref (sz + 1), .ref (sz + 2), .ref (sz + 3), .ref (sz + 4), .int 0, .int 0, .int 0, .int 0, .int 0, .int 0, .int 0, .null, .int 0, .int 0, .int 0])) sz [k_i cA 5, k_i cA 5, k_i cA 500, k_i cA 500, k_i cA 500, .inr (5, [.int (-1), .ref (sz + 6), .ref (sz + 7), .int 0, .ref (sz + 8), .int 0]), k_i cA 500, k_i cA 500, k_i cA 500] s.heap H locs := t
  refine k_putF (T := TX0) (N := 19) C0 t uwX0 tyX0 tyX0_ok nmX0 rfl 15 (by decide) kw_54 rfl rfl rfl rfl (Nat.le_of_ble_eq_true rfl) dX0_init_53 (fun H locs t => ?_)
  have t : kT D h0 (.inr (0, [.int 0, .int 0, .int 0, .ref (sz + 0), .ref (sz + 1), .ref (sz + 2), .ref (sz + 3), .ref (sz + 4), .int 0, .int 0, .int 0, .int 0, .int 0, .int 0, .int 0, .ref (sz + 5), .int 0, .int 0, .int 0])) sz [k_i cA 5, k_i cA 5, k_i cA 500, k_i cA 500, k_i cA 500, .inr (5, [.int (-1), .ref (sz + 6), .ref (sz + 7), .int 0, .ref (sz + 8), .int 0]), k_i cA 500, k_i cA 500, k_i cA 500] s.heap H locs := t
  exact k_ret C0 t dX0_init_56
