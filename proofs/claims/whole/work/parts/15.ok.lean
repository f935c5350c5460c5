def kX7_level : List mm_E := [(0, false, .iload_n 1, []), (1, false, .iconst 0, []), (2, false, .iconst 1, []), (3, false, .invokestatic 47, []), (6, false, .ifCond .ne 6, [12]), (9, false, .bipush (-102), []), (11, false, .ireturn, []), (12, false, .aload_n 0, []), (13, false, .getfield 33, []), (16, false, .getfield 256, []), (19, false, .ifCond .ne 6, [25]), (22, false, .bipush (-103), []), (24, false, .ireturn, []), (25, false, .aload_n 0, []), (26, false, .getfield 33, []), (29, false, .invokevirtual 268, []), (32, false, .aload_n 0, []), (33, false, .getfield 33, []), (36, false, .getfield 279, []), (39, false, .lstore_n 2, []), (40, false, .aload_n 0, []), (41, false, .getfield 33, []), (44, false, .getfield 283, []), (47, false, .lstore 4, []), (49, false, .iload_n 1, []), (50, false, .ifCond .ne 12, [62]), (53, false, .lload_n 2, []), (54, false, .lload 4, []), (56, false, .invokestatic 225, []), (59, false, .goto 9, [68]), (62, false, .lload_n 2, []), (63, false, .lload 4, []), (65, false, .invokestatic 229, []), (68, false, .ireturn, [])]
set_option maxRecDepth 20000 in
theorem kX7_level_ok : mm_cok cX7_level RX7 (mm_ctt ctRX7) kX7_level := mm_c_of (k := false) ctRX7_ok (by decide +kernel)
set_option maxRecDepth 20000 in
theorem wX7_level : ∀ w ∈ ([.instanceMethod yX7_level, .selects RX7 yX7_level yX7_level, .initialized RX7, .code yX7_level cX7_level 6 (some .int)] : List Cond), w ∈ mm_tbl := mm_sub_at _ [881, 882, 104, 883] (by decide +kernel) (by decide +kernel)
def vtX7_level : List (Nat × Nat × Nat × mm_F) := [(268, 1, 1, fX1_partAll)]
def smX7_level : List (Nat × Nat × Nat × mm_F) := [(47, 0, 3, fX7_within), (229, 0, 2, fX7_lowestBelow), (225, 0, 2, fX7_lowestAbove)]
def ZX7_level (p : Program) (l : Launch) (e : Env) (s : State) (m : MethodId) (args : Array Value) (below : List Frame) (meth : Method) (c : Code) (cA : Nat → ClassId) (ad : Nat → Nat) (D : va_G) (A : Nat → Prop) : Prop := mm_Z p l e (mm_rm 4) s m args below meth c lay_c cA ad D A RX7 cX7_level 6 1 (mm_flt flRX7) (mm_clt (vtX7_level)) (mm_clt (smX7_level)) (mm_ctt ctRX7) kX7_level
theorem okX7_level : mm_Ok lay_c yX7_level cX7_level 6 (some .int) 4 fX7_level := by
  refine mm_enter (rt := 1) (by decide +kernel) rfl ?_
  intro p l e s m args below meth c cA ad D A as M Q h C0
  have Z : ZX7_level p l e s m args below meth c cA ad D A := ⟨C0, flRX7_ok, mm_vt_of (mm_fa1 (mm_coV (n := 0) (ci := 1) C0 okX1_partAll rfl rfl (mm_one_at (.methodLink RX7 268 yX1_partAll) 833 (by decide +kernel) rfl) (wX1_partAll _ (by simp)) (wX1_partAll _ (by simp [yX1_partAll])) (wX1_partAll _ (by simp [yX1_partAll])) (wX1_partAll _ (by simp)) (by decide +kernel) (by omega) (by omega)) (mm_fa0)), mm_vt_of (mm_fa1 (mm_coS (n := 3) C0 okX7_within (mm_one_at (.methodLink RX7 47 yX7_within) 475 (by decide +kernel) rfl) (wX7_within _ (by simp)) (wX7_within _ (by simp [yX7_within])) (wX7_within _ (by simp)) (by decide +kernel) (by omega) (by omega)) (mm_fa1 (mm_coS (n := 2) C0 okX7_lowestBelow (mm_one_at (.methodLink RX7 229 yX7_lowestBelow) 740 (by decide +kernel) rfl) (wX7_lowestBelow _ (by simp)) (wX7_lowestBelow _ (by simp [yX7_lowestBelow])) (wX7_lowestBelow _ (by simp)) (by decide +kernel) (by omega) (by omega)) (mm_fa1 (mm_coS (n := 2) C0 okX7_lowestAbove (mm_one_at (.methodLink RX7 225 yX7_lowestAbove) 734 (by decide +kernel) rfl) (wX7_lowestAbove _ (by simp)) (wX7_lowestAbove _ (by simp [yX7_lowestAbove])) (wX7_lowestAbove _ (by simp)) (by decide +kernel) (by omega) (by omega)) (mm_fa0)))), kX7_level_ok, mm_ctok_J ctRX7_ok⟩
  unfold fX7_level at h
  split at h
  · obtain ⟨hb, h⟩ := mm_chk_e h
    cases (Nat.eq_of_beq_eq_true hb)
    exact ⟨Nat.le_of_ble_eq_true rfl, mm_Zb Z 37 0 [] mm_fa0 h⟩
  · exact h.elim
def kX7_total : List mm_E := [(0, false, .iload_n 1, []), (1, false, .iconst 0, []), (2, false, .iconst 2, []), (3, false, .invokestatic 47, []), (6, false, .ifCond .ne 6, [12]), (9, false, .bipush (-102), []), (11, false, .ireturn, []), (12, false, .aload_n 0, []), (13, false, .getfield 33, []), (16, false, .getfield 256, []), (19, false, .ifCond .ne 6, [25]), (22, false, .bipush (-103), []), (24, false, .ireturn, []), (25, false, .aload_n 0, []), (26, false, .getfield 33, []), (29, false, .invokevirtual 268, []), (32, false, .aload_n 0, []), (33, false, .getfield 33, []), (36, false, .iload_n 1, []), (37, false, .invokevirtual 286, []), (40, false, .l2i, []), (41, false, .ireturn, [])]
set_option maxRecDepth 20000 in
theorem kX7_total_ok : mm_cok cX7_total RX7 (mm_ctt ctRX7) kX7_total := mm_c_of (k := false) ctRX7_ok (by decide +kernel)
set_option maxRecDepth 20000 in
theorem wX7_total : ∀ w ∈ ([.instanceMethod yX7_total, .selects RX7 yX7_total yX7_total, .initialized RX7, .code yX7_total cX7_total 2 (some .int)] : List Cond), w ∈ mm_tbl := mm_sub_at _ [885, 886, 104, 887] (by decide +kernel) (by decide +kernel)
def vtX7_total : List (Nat × Nat × Nat × mm_F) := [(268, 1, 1, fX1_partAll), (286, 1, 2, fX1_thousandths)]
def smX7_total : List (Nat × Nat × Nat × mm_F) := [(47, 0, 3, fX7_within)]
def ZX7_total (p : Program) (l : Launch) (e : Env) (s : State) (m : MethodId) (args : Array Value) (below : List Frame) (meth : Method) (c : Code) (cA : Nat → ClassId) (ad : Nat → Nat) (D : va_G) (A : Nat → Prop) : Prop := mm_Z p l e (mm_rm 4) s m args below meth c lay_c cA ad D A RX7 cX7_total 2 1 (mm_flt flRX7) (mm_clt (vtX7_total)) (mm_clt (smX7_total)) (mm_ctt ctRX7) kX7_total
theorem okX7_total : mm_Ok lay_c yX7_total cX7_total 2 (some .int) 4 fX7_total := by
  refine mm_enter (rt := 1) (by decide +kernel) rfl ?_
  intro p l e s m args below meth c cA ad D A as M Q h C0
  have Z : ZX7_total p l e s m args below meth c cA ad D A := ⟨C0, flRX7_ok, mm_vt_of (mm_fa1 (mm_coV (n := 0) (ci := 1) C0 okX1_partAll rfl rfl (mm_one_at (.methodLink RX7 268 yX1_partAll) 833 (by decide +kernel) rfl) (wX1_partAll _ (by simp)) (wX1_partAll _ (by simp [yX1_partAll])) (wX1_partAll _ (by simp [yX1_partAll])) (wX1_partAll _ (by simp)) (by decide +kernel) (by omega) (by omega)) (mm_fa1 (mm_coV (n := 1) (ci := 1) C0 okX1_thousandths rfl rfl (mm_one_at (.methodLink RX7 286 yX1_thousandths) 888 (by decide +kernel) rfl) (wX1_thousandths _ (by simp)) (wX1_thousandths _ (by simp [yX1_thousandths])) (wX1_thousandths _ (by simp [yX1_thousandths])) (wX1_thousandths _ (by simp)) (by decide +kernel) (by omega) (by omega)) (mm_fa0))), mm_vt_of (mm_fa1 (mm_coS (n := 3) C0 okX7_within (mm_one_at (.methodLink RX7 47 yX7_within) 475 (by decide +kernel) rfl) (wX7_within _ (by simp)) (wX7_within _ (by simp [yX7_within])) (wX7_within _ (by simp)) (by decide +kernel) (by omega) (by omega)) (mm_fa0)), kX7_total_ok, mm_ctok_J ctRX7_ok⟩
  unfold fX7_total at h
  split at h
  · obtain ⟨hb, h⟩ := mm_chk_e h
    cases (Nat.eq_of_beq_eq_true hb)
    exact ⟨Nat.le_of_ble_eq_true rfl, mm_Zb Z 25 0 [] mm_fa0 h⟩
  · exact h.elim
def kX7_worse : List mm_E := [(0, false, .iload_n 1, []), (1, false, .iconst 0, []), (2, false, .iconst 2, []), (3, false, .invokestatic 47, []), (6, false, .ifCond .ne 6, [12]), (9, false, .bipush (-102), []), (11, false, .ireturn, []), (12, false, .aload_n 0, []), (13, false, .getfield 33, []), (16, false, .getfield 256, []), (19, false, .ifCond .ne 6, [25]), (22, false, .bipush (-103), []), (24, false, .ireturn, []), (25, false, .aload_n 0, []), (26, false, .getfield 33, []), (29, false, .invokevirtual 268, []), (32, false, .aload_n 0, []), (33, false, .getfield 33, []), (36, false, .iconst 1, []), (37, false, .invokevirtual 286, []), (40, false, .lstore_n 2, []), (41, false, .lload_n 2, []), (42, false, .lconst 0, []), (43, false, .lcmp, []), (44, false, .ifCond .gt 5, [49]), (47, false, .iconst 0, []), (48, false, .ireturn, []), (49, false, .ldc2_w 290, []), (52, false, .aload_n 0, []), (53, false, .getfield 33, []), (56, false, .iload_n 1, []), (57, false, .invokevirtual 286, []), (60, false, .lmul, []), (61, false, .lload_n 2, []), (62, false, .ldiv, []), (63, false, .l2i, []), (64, false, .ireturn, [])]
set_option maxRecDepth 20000 in
theorem kX7_worse_ok : mm_cok cX7_worse RX7 (mm_ctt ctRX7) kX7_worse := mm_c_of (k := false) ctRX7_ok (by decide +kernel)
set_option maxRecDepth 20000 in
theorem wX7_worse : ∀ w ∈ ([.instanceMethod yX7_worse, .selects RX7 yX7_worse yX7_worse, .initialized RX7, .code yX7_worse cX7_worse 4 (some .int)] : List Cond), w ∈ mm_tbl := mm_sub_at _ [894, 895, 104, 896] (by decide +kernel) (by decide +kernel)
def vtX7_worse : List (Nat × Nat × Nat × mm_F) := [(268, 1, 1, fX1_partAll), (286, 1, 2, fX1_thousandths)]
def smX7_worse : List (Nat × Nat × Nat × mm_F) := [(47, 0, 3, fX7_within)]
def ZX7_worse (p : Program) (l : Launch) (e : Env) (s : State) (m : MethodId) (args : Array Value) (below : List Frame) (meth : Method) (c : Code) (cA : Nat → ClassId) (ad : Nat → Nat) (D : va_G) (A : Nat → Prop) : Prop := mm_Z p l e (mm_rm 4) s m args below meth c lay_c cA ad D A RX7 cX7_worse 4 1 (mm_flt flRX7) (mm_clt (vtX7_worse)) (mm_clt (smX7_worse)) (mm_ctt ctRX7) kX7_worse
theorem okX7_worse : mm_Ok lay_c yX7_worse cX7_worse 4 (some .int) 4 fX7_worse := by
  refine mm_enter (rt := 1) (by decide +kernel) rfl ?_
  intro p l e s m args below meth c cA ad D A as M Q h C0
  have Z : ZX7_worse p l e s m args below meth c cA ad D A := ⟨C0, flRX7_ok, mm_vt_of (mm_fa1 (mm_coV (n := 0) (ci := 1) C0 okX1_partAll rfl rfl (mm_one_at (.methodLink RX7 268 yX1_partAll) 833 (by decide +kernel) rfl) (wX1_partAll _ (by simp)) (wX1_partAll _ (by simp [yX1_partAll])) (wX1_partAll _ (by simp [yX1_partAll])) (wX1_partAll _ (by simp)) (by decide +kernel) (by omega) (by omega)) (mm_fa1 (mm_coV (n := 1) (ci := 1) C0 okX1_thousandths rfl rfl (mm_one_at (.methodLink RX7 286 yX1_thousandths) 888 (by decide +kernel) rfl) (wX1_thousandths _ (by simp)) (wX1_thousandths _ (by simp [yX1_thousandths])) (wX1_thousandths _ (by simp [yX1_thousandths])) (wX1_thousandths _ (by simp)) (by decide +kernel) (by omega) (by omega)) (mm_fa0))), mm_vt_of (mm_fa1 (mm_coS (n := 3) C0 okX7_within (mm_one_at (.methodLink RX7 47 yX7_within) 475 (by decide +kernel) rfl) (wX7_within _ (by simp)) (wX7_within _ (by simp [yX7_within])) (wX7_within _ (by simp)) (by decide +kernel) (by omega) (by omega)) (mm_fa0)), kX7_worse_ok, mm_ctok_J ctRX7_ok⟩
  unfold fX7_worse at h
  split at h
  · obtain ⟨hb, h⟩ := mm_chk_e h
    cases (Nat.eq_of_beq_eq_true hb)
    exact ⟨Nat.le_of_ble_eq_true rfl, mm_Zb Z 40 0 [] mm_fa0 h⟩
  · exact h.elim
def kX7_count : List mm_E := [(0, false, .iload_n 1, []), (1, false, .tableswitch 93 0 6 #[43, 54, 62, 70, 78, 83, 88], [94, 44, 55, 63, 71, 79, 84, 89]), (44, false, .aload_n 0, []), (45, false, .getfield 19, []), (48, false, .getfield 78, []), (51, false, .getfield 81, []), (54, false, .ireturn, []), (55, false, .aload_n 0, []), (56, false, .getfield 19, []), (59, false, .getfield 139, []), (62, false, .ireturn, []), (63, false, .aload_n 0, []), (64, false, .getfield 33, []), (67, false, .getfield 256, []), (70, false, .ireturn, []), (71, false, .aload_n 0, []), (72, false, .getfield 12, []), (75, false, .getfield 51, []), (78, false, .ireturn, []), (79, false, .aload_n 0, []), (80, false, .getfield 37, []), (83, false, .ireturn, []), (84, false, .aload_n 0, []), (85, false, .getfield 41, []), (88, false, .ireturn, []), (89, false, .aload_n 0, []), (90, false, .getfield 44, []), (93, false, .ireturn, []), (94, false, .bipush (-102), []), (96, false, .ireturn, [])]
set_option maxRecDepth 20000 in
theorem kX7_count_ok : mm_cok cX7_count RX7 (mm_ctt ctRX7) kX7_count := mm_c_of (k := false) ctRX7_ok (by decide +kernel)
set_option maxRecDepth 20000 in
theorem wX7_count : ∀ w ∈ ([.instanceMethod yX7_count, .selects RX7 yX7_count yX7_count, .initialized RX7, .code yX7_count cX7_count 2 (some .int)] : List Cond), w ∈ mm_tbl := mm_sub_at _ [899, 900, 104, 901] (by decide +kernel) (by decide +kernel)
def vtX7_count : List (Nat × Nat × Nat × mm_F) := []
def smX7_count : List (Nat × Nat × Nat × mm_F) := []
def ZX7_count (p : Program) (l : Launch) (e : Env) (s : State) (m : MethodId) (args : Array Value) (below : List Frame) (meth : Method) (c : Code) (cA : Nat → ClassId) (ad : Nat → Nat) (D : va_G) (A : Nat → Prop) : Prop := mm_Z p l e (mm_rm 0) s m args below meth c lay_c cA ad D A RX7 cX7_count 2 1 (mm_flt flRX7) (mm_clt (vtX7_count)) (mm_clt (smX7_count)) (mm_ctt ctRX7) kX7_count
theorem okX7_count : mm_Ok lay_c yX7_count cX7_count 2 (some .int) 0 fX7_count := by
  refine mm_enter (rt := 1) (by decide +kernel) rfl ?_
  intro p l e s m args below meth c cA ad D A as M Q h C0
  have Z : ZX7_count p l e s m args below meth c cA ad D A := ⟨C0, flRX7_ok, mm_vt_of (mm_fa0), mm_vt_of (mm_fa0), kX7_count_ok, mm_ctok_J ctRX7_ok⟩
  unfold fX7_count at h
  split at h
  · obtain ⟨hb, h⟩ := mm_chk_e h
    cases (Nat.eq_of_beq_eq_true hb)
    exact ⟨Nat.le_of_ble_eq_true rfl, mm_Zb Z 33 0 [] mm_fa0 h⟩
  · exact h.elim
def kX7_mix : List mm_E := [(0, false, .ldc2_w 317, []), (3, false, .lload_n 0, []), (4, false, .lmul, []), (5, false, .lload_n 2, []), (6, false, .ladd, []), (7, false, .lreturn, [])]
set_option maxRecDepth 20000 in
theorem kX7_mix_ok : mm_cok cX7_mix RX7 (mm_ctt ctRX7) kX7_mix := mm_c_of (k := false) ctRX7_ok (by decide +kernel)
set_option maxRecDepth 20000 in
theorem wX7_mix : ∀ w ∈ ([.static yX7_mix, .initialized RX7, .code yX7_mix cX7_mix 4 (some .long)] : List Cond), w ∈ mm_tbl := mm_sub_at _ [913, 104, 914] (by decide +kernel) (by decide +kernel)
def vtX7_mix : List (Nat × Nat × Nat × mm_F) := []
def smX7_mix : List (Nat × Nat × Nat × mm_F) := []
def ZX7_mix (p : Program) (l : Launch) (e : Env) (s : State) (m : MethodId) (args : Array Value) (below : List Frame) (meth : Method) (c : Code) (cA : Nat → ClassId) (ad : Nat → Nat) (D : va_G) (A : Nat → Prop) : Prop := mm_Z p l e (mm_rm 0) s m args below meth c lay_c cA ad D A RX7 cX7_mix 4 3 (mm_flt flRX7) (mm_clt (vtX7_mix)) (mm_clt (smX7_mix)) (mm_ctt ctRX7) kX7_mix
theorem okX7_mix : mm_Ok lay_c yX7_mix cX7_mix 4 (some .long) 0 fX7_mix := by
  refine mm_enter (rt := 3) (by decide +kernel) rfl ?_
  intro p l e s m args below meth c cA ad D A as M Q h C0
  have Z : ZX7_mix p l e s m args below meth c cA ad D A := ⟨C0, flRX7_ok, mm_vt_of (mm_fa0), mm_vt_of (mm_fa0), kX7_mix_ok, mm_ctok_J ctRX7_ok⟩
  unfold fX7_mix at h
  split at h
  · skip
    exact ⟨Nat.le_of_ble_eq_true rfl, mm_Zb Z 9 0 [] mm_fa0 h⟩
  · exact h.elim
def kX7_mixLanes : List mm_E := [(0, false, .lload_n 1, []), (1, false, .lstore_n 3, []), (2, false, .iconst 0, []), (3, false, .istore 5, []), (5, true, .iload 5, []), (7, false, .aload_n 0, []), (8, false, .getfield 33, []), (11, false, .getfield 256, []), (14, false, .if_icmp .ge 54, [68]), (17, false, .iconst 0, []), (18, false, .istore 6, []), (20, true, .iload 6, []), (22, false, .iconst 4, []), (23, false, .if_icmp .ge 39, [62]), (26, false, .lload_n 3, []), (27, false, .aload_n 0, []), (28, false, .iload 6, []), (30, false, .iload 5, []), (32, false, .iconst 0, []), (33, false, .invokevirtual 336, []), (36, false, .i2l, []), (37, false, .invokestatic 310, []), (40, false, .lstore_n 3, []), (41, false, .lload_n 3, []), (42, false, .aload_n 0, []), (43, false, .iload 6, []), (45, false, .iload 5, []), (47, false, .iconst 1, []), (48, false, .invokevirtual 336, []), (51, false, .i2l, []), (52, false, .invokestatic 310, []), (55, false, .lstore_n 3, []), (56, false, .iinc 6 1, []), (59, false, .goto (-39), [20]), (62, false, .iinc 5 1, []), (65, false, .goto (-60), [5]), (68, false, .aload_n 0, []), (69, false, .getfield 33, []), (72, false, .getfield 256, []), (75, false, .ifCond .le 52, [127]), (78, false, .lload_n 3, []), (79, false, .aload_n 0, []), (80, false, .iconst 0, []), (81, false, .invokevirtual 340, []), (84, false, .i2l, []), (85, false, .invokestatic 310, []), (88, false, .lstore_n 3, []), (89, false, .lload_n 3, []), (90, false, .aload_n 0, []), (91, false, .iconst 1, []), (92, false, .invokevirtual 340, []), (95, false, .i2l, []), (96, false, .invokestatic 310, []), (99, false, .lstore_n 3, []), (100, false, .iconst 0, []), (101, false, .istore 5, []), (103, true, .iload 5, []), (105, false, .iconst 2, []), (106, false, .if_icmp .gt 21, [127]), (109, false, .lload_n 3, []), (110, false, .aload_n 0, []), (111, false, .iload 5, []), (113, false, .invokevirtual 343, []), (116, false, .i2l, []), (117, false, .invokestatic 310, []), (120, false, .lstore_n 3, []), (121, false, .iinc 5 1, []), (124, false, .goto (-21), [103]), (127, false, .lload_n 3, []), (128, false, .lreturn, [])]
set_option maxRecDepth 20000 in
theorem kX7_mixLanes_ok : mm_cok cX7_mixLanes RX7 (mm_ctt ctRX7) kX7_mixLanes := mm_c_of (k := false) ctRX7_ok (by decide +kernel)
set_option maxRecDepth 20000 in
theorem wX7_mixLanes : ∀ w ∈ ([.instanceMethod yX7_mixLanes, .selects RX7 yX7_mixLanes yX7_mixLanes, .initialized RX7, .code yX7_mixLanes cX7_mixLanes 7 (some .long)] : List Cond), w ∈ mm_tbl := mm_sub_at _ [935, 32, 104, 936] (by decide +kernel) (by decide +kernel)
def vtX7_mixLanes : List (Nat × Nat × Nat × mm_F) := [(340, 7, 2, fX7_level), (336, 7, 4, fX7_flow), (343, 7, 2, fX7_total)]
def smX7_mixLanes : List (Nat × Nat × Nat × mm_F) := [(310, 0, 2, fX7_mix)]
def ZX7_mixLanes (p : Program) (l : Launch) (e : Env) (s : State) (m : MethodId) (args : Array Value) (below : List Frame) (meth : Method) (c : Code) (cA : Nat → ClassId) (ad : Nat → Nat) (D : va_G) (A : Nat → Prop) : Prop := mm_Z p l e (mm_rm 5) s m args below meth c lay_c cA ad D A RX7 cX7_mixLanes 7 3 (mm_flt flRX7) (mm_clt (vtX7_mixLanes)) (mm_clt (smX7_mixLanes)) (mm_ctt ctRX7) kX7_mixLanes
def qX7_mixLanes_103 (P : Int → Int → mm_M → Prop) : mm_K := fun ls st M => match ls, st with
  | [some (.inr (.inr c0)), _, none, some (.inr (.inl v3)), none, some (.inl v5), _], [] => mm_chk (Nat.beq c0 0) (P v3 v5 M)
  | _, _ => False
def qX7_mixLanes_20 (P : Int → Int → Int → mm_M → Prop) : mm_K := fun ls st M => match ls, st with
  | [some (.inr (.inr c0)), _, none, some (.inr (.inl v3)), none, some (.inl v5), some (.inl v6)], [] => mm_chk (Nat.beq c0 0) (P v3 v5 v6 M)
  | _, _ => False
def qX7_mixLanes_5 (P : Int → Int → mm_M → Prop) : mm_K := fun ls st M => match ls, st with
  | [some (.inr (.inr c0)), _, none, some (.inr (.inl v3)), none, some (.inl v5), _], [] => mm_chk (Nat.beq c0 0) (P v3 v5 M)
  | _, _ => False
theorem okX7_mixLanes_103 {p : Program} {l : Launch} {e : Env} {s : State} {m : MethodId} {args : Array Value} {below : List Frame} {meth : Method} {c : Code} {cA : Nat → ClassId} {ad : Nat → Nat} {D : va_G} {A : Nat → Prop} {Q : Option mm_V → mm_M → Prop} (Z : ZX7_mixLanes p l e s m args below meth c cA ad D A) : ∀ (n : Nat) ls st M, qX7_mixLanes_103 (fun v3 v5 M => bX7_mixLanes_103 n v3 v5 M (fun r M => Q (some (.inr (.inl r))) M)) ls st M → mm_G p l e (mm_rm 5) s m args below meth c lay_c cA ad D A 7 Q 103 ls st M
  | 0, ls, st, M, h => by
    unfold qX7_mixLanes_103 at h
    split at h
    · obtain ⟨hb, h⟩ := mm_chk_e h
      cases (Nat.eq_of_beq_eq_true hb)
      exact h.elim
    · exact h.elim
  | n + 1, ls, st, M, h => by
    have ih := okX7_mixLanes_103 (Q := Q) Z  n
    unfold qX7_mixLanes_103 at h
    split at h
    · obtain ⟨hb, h⟩ := mm_chk_e h
      cases (Nat.eq_of_beq_eq_true hb)
      exact mm_Zb Z 73 103 [(103, qX7_mixLanes_103 (fun v3 v5 M => bX7_mixLanes_103 n v3 v5 M (fun r M => Q (some (.inr (.inl r))) M)))] (mm_fa1 ih mm_fa0) h
    · exact h.elim
theorem okX7_mixLanes_103x {p : Program} {l : Launch} {e : Env} {s : State} {m : MethodId} {args : Array Value} {below : List Frame} {meth : Method} {c : Code} {cA : Nat → ClassId} {ad : Nat → Nat} {D : va_G} {A : Nat → Prop} {Q : Option mm_V → mm_M → Prop} (Z : ZX7_mixLanes p l e s m args below meth c cA ad D A) : ∀ ls st M, qX7_mixLanes_103 (fun v3 v5 M => ∃ j, bX7_mixLanes_103 j v3 v5 M (fun r M => Q (some (.inr (.inl r))) M)) ls st M → mm_G p l e (mm_rm 5) s m args below meth c lay_c cA ad D A 7 Q 103 ls st M := by
  intro ls st M h
  have hex : ∃ n, qX7_mixLanes_103 (fun v3 v5 M => bX7_mixLanes_103 n v3 v5 M (fun r M => Q (some (.inr (.inl r))) M)) ls st M := by
    unfold qX7_mixLanes_103 at h
    split at h
    · obtain ⟨hb, h⟩ := mm_chk_e h
      cases (Nat.eq_of_beq_eq_true hb)
      obtain ⟨n, h⟩ := h
      exact ⟨n, h⟩
    · exact h.elim
  obtain ⟨n, hex⟩ := hex
  exact okX7_mixLanes_103 Z  n ls st M hex
theorem okX7_mixLanes_20 {p : Program} {l : Launch} {e : Env} {s : State} {m : MethodId} {args : Array Value} {below : List Frame} {meth : Method} {c : Code} {cA : Nat → ClassId} {ad : Nat → Nat} {D : va_G} {A : Nat → Prop} {Q : Option mm_V → mm_M → Prop} (Z : ZX7_mixLanes p l e s m args below meth c cA ad D A) {K5 : Int → Int → mm_M → Prop} (hk5 : ∀ ls st M, qX7_mixLanes_5 K5 ls st M → mm_G p l e (mm_rm 5) s m args below meth c lay_c cA ad D A 7 Q 5 ls st M) : ∀ (n : Nat) ls st M, qX7_mixLanes_20 (fun v3 v5 v6 M => bX7_mixLanes_20 K5 n v3 v5 v6 M (fun r M => Q (some (.inr (.inl r))) M)) ls st M → mm_G p l e (mm_rm 5) s m args below meth c lay_c cA ad D A 7 Q 20 ls st M
  | 0, ls, st, M, h => by
    unfold qX7_mixLanes_20 at h
    split at h
    · obtain ⟨hb, h⟩ := mm_chk_e h
      cases (Nat.eq_of_beq_eq_true hb)
      exact h.elim
    · exact h.elim
  | n + 1, ls, st, M, h => by
    have ih := okX7_mixLanes_20 (Q := Q) Z hk5 n
    unfold qX7_mixLanes_20 at h
    split at h
    · obtain ⟨hb, h⟩ := mm_chk_e h
      cases (Nat.eq_of_beq_eq_true hb)
      exact mm_Zb Z 73 20 [(5, qX7_mixLanes_5 (K5)), (20, qX7_mixLanes_20 (fun v3 v5 v6 M => bX7_mixLanes_20 K5 n v3 v5 v6 M (fun r M => Q (some (.inr (.inl r))) M)))] (mm_fa1 hk5 (mm_fa1 ih mm_fa0)) h
    · exact h.elim
theorem okX7_mixLanes_20x {p : Program} {l : Launch} {e : Env} {s : State} {m : MethodId} {args : Array Value} {below : List Frame} {meth : Method} {c : Code} {cA : Nat → ClassId} {ad : Nat → Nat} {D : va_G} {A : Nat → Prop} {Q : Option mm_V → mm_M → Prop} (Z : ZX7_mixLanes p l e s m args below meth c cA ad D A) {K5 : Int → Int → mm_M → Prop} (hk5 : ∀ ls st M, qX7_mixLanes_5 K5 ls st M → mm_G p l e (mm_rm 5) s m args below meth c lay_c cA ad D A 7 Q 5 ls st M) : ∀ ls st M, qX7_mixLanes_20 (fun v3 v5 v6 M => ∃ j, bX7_mixLanes_20 K5 j v3 v5 v6 M (fun r M => Q (some (.inr (.inl r))) M)) ls st M → mm_G p l e (mm_rm 5) s m args below meth c lay_c cA ad D A 7 Q 20 ls st M := by
  intro ls st M h
  have hex : ∃ n, qX7_mixLanes_20 (fun v3 v5 v6 M => bX7_mixLanes_20 K5 n v3 v5 v6 M (fun r M => Q (some (.inr (.inl r))) M)) ls st M := by
    unfold qX7_mixLanes_20 at h
    split at h
    · obtain ⟨hb, h⟩ := mm_chk_e h
      cases (Nat.eq_of_beq_eq_true hb)
      obtain ⟨n, h⟩ := h
      exact ⟨n, h⟩
    · exact h.elim
  obtain ⟨n, hex⟩ := hex
  exact okX7_mixLanes_20 Z hk5 n ls st M hex
theorem okX7_mixLanes_5 {p : Program} {l : Launch} {e : Env} {s : State} {m : MethodId} {args : Array Value} {below : List Frame} {meth : Method} {c : Code} {cA : Nat → ClassId} {ad : Nat → Nat} {D : va_G} {A : Nat → Prop} {Q : Option mm_V → mm_M → Prop} (Z : ZX7_mixLanes p l e s m args below meth c cA ad D A) : ∀ (n : Nat) ls st M, qX7_mixLanes_5 (fun v3 v5 M => bX7_mixLanes_5 n v3 v5 M (fun r M => Q (some (.inr (.inl r))) M)) ls st M → mm_G p l e (mm_rm 5) s m args below meth c lay_c cA ad D A 7 Q 5 ls st M
  | 0, ls, st, M, h => by
    unfold qX7_mixLanes_5 at h
    split at h
    · obtain ⟨hb, h⟩ := mm_chk_e h
      cases (Nat.eq_of_beq_eq_true hb)
      exact h.elim
    · exact h.elim
  | n + 1, ls, st, M, h => by
    have ih := okX7_mixLanes_5 (Q := Q) Z  n
    unfold qX7_mixLanes_5 at h
    split at h
    · obtain ⟨hb, h⟩ := mm_chk_e h
      cases (Nat.eq_of_beq_eq_true hb)
      exact mm_Zb Z 73 5 [(20, qX7_mixLanes_20 (fun v3 v5 v6 M => ∃ j, bX7_mixLanes_20 (fun v3 v5 M => bX7_mixLanes_5 n v3 v5 M (fun r M => Q (some (.inr (.inl r))) M)) j v3 v5 v6 M (fun r M => Q (some (.inr (.inl r))) M))), (103, qX7_mixLanes_103 (fun v3 v5 M => ∃ j, bX7_mixLanes_103 j v3 v5 M (fun r M => Q (some (.inr (.inl r))) M)))] (mm_fa1 (fun ls st M h => okX7_mixLanes_20x Z (ih) ls st M h) (mm_fa1 (fun ls st M h => okX7_mixLanes_103x Z  ls st M h) mm_fa0)) h
    · exact h.elim
theorem okX7_mixLanes_5x {p : Program} {l : Launch} {e : Env} {s : State} {m : MethodId} {args : Array Value} {below : List Frame} {meth : Method} {c : Code} {cA : Nat → ClassId} {ad : Nat → Nat} {D : va_G} {A : Nat → Prop} {Q : Option mm_V → mm_M → Prop} (Z : ZX7_mixLanes p l e s m args below meth c cA ad D A) : ∀ ls st M, qX7_mixLanes_5 (fun v3 v5 M => ∃ j, bX7_mixLanes_5 j v3 v5 M (fun r M => Q (some (.inr (.inl r))) M)) ls st M → mm_G p l e (mm_rm 5) s m args below meth c lay_c cA ad D A 7 Q 5 ls st M := by
  intro ls st M h
  have hex : ∃ n, qX7_mixLanes_5 (fun v3 v5 M => bX7_mixLanes_5 n v3 v5 M (fun r M => Q (some (.inr (.inl r))) M)) ls st M := by
    unfold qX7_mixLanes_5 at h
    split at h
    · obtain ⟨hb, h⟩ := mm_chk_e h
      cases (Nat.eq_of_beq_eq_true hb)
      obtain ⟨n, h⟩ := h
      exact ⟨n, h⟩
    · exact h.elim
  obtain ⟨n, hex⟩ := hex
  exact okX7_mixLanes_5 Z  n ls st M hex
theorem okX7_mixLanes : mm_Ok lay_c yX7_mixLanes cX7_mixLanes 7 (some .long) 5 fX7_mixLanes := by
  refine mm_enter (rt := 3) (by decide +kernel) rfl ?_
  intro p l e s m args below meth c cA ad D A as M Q h C0
  have Z : ZX7_mixLanes p l e s m args below meth c cA ad D A := ⟨C0, flRX7_ok, mm_vt_of (mm_fa1 (mm_coV (n := 1) (ci := 7) C0 okX7_level rfl rfl (mm_one_at (.methodLink RX7 340 yX7_level) 938 (by decide +kernel) rfl) (wX7_level _ (by simp)) (wX7_level _ (by simp [yX7_level])) (wX7_level _ (by simp [yX7_level])) (wX7_level _ (by simp)) (by decide +kernel) (by omega) (by omega)) (mm_fa1 (mm_coV (n := 3) (ci := 7) C0 okX7_flow rfl rfl (mm_one_at (.methodLink RX7 336 yX7_flow) 937 (by decide +kernel) rfl) (wX7_flow _ (by simp)) (wX7_flow _ (by simp [yX7_flow])) (wX7_flow _ (by simp [yX7_flow])) (wX7_flow _ (by simp)) (by decide +kernel) (by omega) (by omega)) (mm_fa1 (mm_coV (n := 1) (ci := 7) C0 okX7_total rfl rfl (mm_one_at (.methodLink RX7 343 yX7_total) 939 (by decide +kernel) rfl) (wX7_total _ (by simp)) (wX7_total _ (by simp [yX7_total])) (wX7_total _ (by simp [yX7_total])) (wX7_total _ (by simp)) (by decide +kernel) (by omega) (by omega)) (mm_fa0)))), mm_vt_of (mm_fa1 (mm_coS (n := 2) C0 okX7_mix (mm_one_at (.methodLink RX7 310 yX7_mix) 912 (by decide +kernel) rfl) (wX7_mix _ (by simp)) (wX7_mix _ (by simp [yX7_mix])) (wX7_mix _ (by simp)) (by decide +kernel) (by omega) (by omega)) (mm_fa0)), kX7_mixLanes_ok, mm_ctok_J ctRX7_ok⟩
  unfold fX7_mixLanes at h
  split at h
  · obtain ⟨hb, h⟩ := mm_chk_e h
    cases (Nat.eq_of_beq_eq_true hb)
    exact ⟨Nat.le_of_ble_eq_true rfl, mm_Zb Z 73 0 [(5, qX7_mixLanes_5 (fun v3 v5 M => ∃ j, bX7_mixLanes_5 j v3 v5 M (fun r M => Q (some (.inr (.inl r))) M)))] (mm_fa1 (fun ls st M h => okX7_mixLanes_5x Z  ls st M h) mm_fa0) h⟩
  · exact h.elim
def kX7_mixNet : List mm_E := [(0, false, .lload_n 1, []), (1, false, .lstore_n 3, []), (2, false, .iconst 0, []), (3, false, .istore 5, []), (5, true, .iload 5, []), (7, false, .bipush 7, []), (9, false, .if_icmp .gt 21, [30]), (12, false, .lload_n 3, []), (13, false, .aload_n 0, []), (14, false, .iload 5, []), (16, false, .invokevirtual 319, []), (19, false, .i2l, []), (20, false, .invokestatic 310, []), (23, false, .lstore_n 3, []), (24, false, .iinc 5 1, []), (27, false, .goto (-22), [5]), (30, false, .iconst 0, []), (31, false, .istore 5, []), (33, true, .iload 5, []), (35, false, .aload_n 0, []), (36, false, .getfield 19, []), (39, false, .getfield 78, []), (42, false, .getfield 81, []), (45, false, .if_icmp .ge 39, [84]), (48, false, .iconst 0, []), (49, false, .istore 6, []), (51, true, .iload 6, []), (53, false, .bipush 7, []), (55, false, .if_icmp .gt 23, [78]), (58, false, .lload_n 3, []), (59, false, .aload_n 0, []), (60, false, .iload 5, []), (62, false, .iload 6, []), (64, false, .invokevirtual 322, []), (67, false, .i2l, []), (68, false, .invokestatic 310, []), (71, false, .lstore_n 3, []), (72, false, .iinc 6 1, []), (75, false, .goto (-24), [51]), (78, false, .iinc 5 1, []), (81, false, .goto (-48), [33]), (84, false, .lload_n 3, []), (85, false, .lreturn, [])]
set_option maxRecDepth 20000 in
theorem kX7_mixNet_ok : mm_cok cX7_mixNet RX7 (mm_ctt ctRX7) kX7_mixNet := mm_c_of (k := false) ctRX7_ok (by decide +kernel)
set_option maxRecDepth 20000 in
theorem wX7_mixNet : ∀ w ∈ ([.instanceMethod yX7_mixNet, .selects RX7 yX7_mixNet yX7_mixNet, .initialized RX7, .code yX7_mixNet cX7_mixNet 7 (some .long)] : List Cond), w ∈ mm_tbl := mm_sub_at _ [909, 28, 104, 910] (by decide +kernel) (by decide +kernel)
def vtX7_mixNet : List (Nat × Nat × Nat × mm_F) := [(319, 7, 2, fX7_about), (322, 7, 3, fX7_road)]
def smX7_mixNet : List (Nat × Nat × Nat × mm_F) := [(310, 0, 2, fX7_mix)]
def ZX7_mixNet (p : Program) (l : Launch) (e : Env) (s : State) (m : MethodId) (args : Array Value) (below : List Frame) (meth : Method) (c : Code) (cA : Nat → ClassId) (ad : Nat → Nat) (D : va_G) (A : Nat → Prop) : Prop := mm_Z p l e (mm_rm 4) s m args below meth c lay_c cA ad D A RX7 cX7_mixNet 7 3 (mm_flt flRX7) (mm_clt (vtX7_mixNet)) (mm_clt (smX7_mixNet)) (mm_ctt ctRX7) kX7_mixNet
def qX7_mixNet_51 (P : Int → Int → Int → mm_M → Prop) : mm_K := fun ls st M => match ls, st with
  | [some (.inr (.inr c0)), _, none, some (.inr (.inl v3)), none, some (.inl v5), some (.inl v6)], [] => mm_chk (Nat.beq c0 0) (P v3 v5 v6 M)
  | _, _ => False
def qX7_mixNet_33 (P : Int → Int → mm_M → Prop) : mm_K := fun ls st M => match ls, st with
  | [some (.inr (.inr c0)), _, none, some (.inr (.inl v3)), none, some (.inl v5), _], [] => mm_chk (Nat.beq c0 0) (P v3 v5 M)
  | _, _ => False
def qX7_mixNet_5 (P : Int → Int → mm_M → Prop) : mm_K := fun ls st M => match ls, st with
  | [some (.inr (.inr c0)), _, none, some (.inr (.inl v3)), none, some (.inl v5), none], [] => mm_chk (Nat.beq c0 0) (P v3 v5 M)
  | _, _ => False
theorem okX7_mixNet_51 {p : Program} {l : Launch} {e : Env} {s : State} {m : MethodId} {args : Array Value} {below : List Frame} {meth : Method} {c : Code} {cA : Nat → ClassId} {ad : Nat → Nat} {D : va_G} {A : Nat → Prop} {Q : Option mm_V → mm_M → Prop} (Z : ZX7_mixNet p l e s m args below meth c cA ad D A) {K33 : Int → Int → mm_M → Prop} (hk33 : ∀ ls st M, qX7_mixNet_33 K33 ls st M → mm_G p l e (mm_rm 4) s m args below meth c lay_c cA ad D A 7 Q 33 ls st M) : ∀ (n : Nat) ls st M, qX7_mixNet_51 (fun v3 v5 v6 M => bX7_mixNet_51 K33 n v3 v5 v6 M (fun r M => Q (some (.inr (.inl r))) M)) ls st M → mm_G p l e (mm_rm 4) s m args below meth c lay_c cA ad D A 7 Q 51 ls st M
  | 0, ls, st, M, h => by
    unfold qX7_mixNet_51 at h
    split at h
    · obtain ⟨hb, h⟩ := mm_chk_e h
      cases (Nat.eq_of_beq_eq_true hb)
      exact h.elim
    · exact h.elim
  | n + 1, ls, st, M, h => by
    have ih := okX7_mixNet_51 (Q := Q) Z hk33 n
    unfold qX7_mixNet_51 at h
    split at h
    · obtain ⟨hb, h⟩ := mm_chk_e h
      cases (Nat.eq_of_beq_eq_true hb)
      exact mm_Zb Z 46 51 [(33, qX7_mixNet_33 (K33)), (51, qX7_mixNet_51 (fun v3 v5 v6 M => bX7_mixNet_51 K33 n v3 v5 v6 M (fun r M => Q (some (.inr (.inl r))) M)))] (mm_fa1 hk33 (mm_fa1 ih mm_fa0)) h
    · exact h.elim
theorem okX7_mixNet_51x {p : Program} {l : Launch} {e : Env} {s : State} {m : MethodId} {args : Array Value} {below : List Frame} {meth : Method} {c : Code} {cA : Nat → ClassId} {ad : Nat → Nat} {D : va_G} {A : Nat → Prop} {Q : Option mm_V → mm_M → Prop} (Z : ZX7_mixNet p l e s m args below meth c cA ad D A) {K33 : Int → Int → mm_M → Prop} (hk33 : ∀ ls st M, qX7_mixNet_33 K33 ls st M → mm_G p l e (mm_rm 4) s m args below meth c lay_c cA ad D A 7 Q 33 ls st M) : ∀ ls st M, qX7_mixNet_51 (fun v3 v5 v6 M => ∃ j, bX7_mixNet_51 K33 j v3 v5 v6 M (fun r M => Q (some (.inr (.inl r))) M)) ls st M → mm_G p l e (mm_rm 4) s m args below meth c lay_c cA ad D A 7 Q 51 ls st M := by
  intro ls st M h
  have hex : ∃ n, qX7_mixNet_51 (fun v3 v5 v6 M => bX7_mixNet_51 K33 n v3 v5 v6 M (fun r M => Q (some (.inr (.inl r))) M)) ls st M := by
    unfold qX7_mixNet_51 at h
    split at h
    · obtain ⟨hb, h⟩ := mm_chk_e h
      cases (Nat.eq_of_beq_eq_true hb)
      obtain ⟨n, h⟩ := h
      exact ⟨n, h⟩
    · exact h.elim
  obtain ⟨n, hex⟩ := hex
  exact okX7_mixNet_51 Z hk33 n ls st M hex
theorem okX7_mixNet_33 {p : Program} {l : Launch} {e : Env} {s : State} {m : MethodId} {args : Array Value} {below : List Frame} {meth : Method} {c : Code} {cA : Nat → ClassId} {ad : Nat → Nat} {D : va_G} {A : Nat → Prop} {Q : Option mm_V → mm_M → Prop} (Z : ZX7_mixNet p l e s m args below meth c cA ad D A) : ∀ (n : Nat) ls st M, qX7_mixNet_33 (fun v3 v5 M => bX7_mixNet_33 n v3 v5 M (fun r M => Q (some (.inr (.inl r))) M)) ls st M → mm_G p l e (mm_rm 4) s m args below meth c lay_c cA ad D A 7 Q 33 ls st M
  | 0, ls, st, M, h => by
    unfold qX7_mixNet_33 at h
    split at h
    · obtain ⟨hb, h⟩ := mm_chk_e h
      cases (Nat.eq_of_beq_eq_true hb)
      exact h.elim
    · exact h.elim
  | n + 1, ls, st, M, h => by
    have ih := okX7_mixNet_33 (Q := Q) Z  n
    unfold qX7_mixNet_33 at h
    split at h
    · obtain ⟨hb, h⟩ := mm_chk_e h
      cases (Nat.eq_of_beq_eq_true hb)
      exact mm_Zb Z 46 33 [(51, qX7_mixNet_51 (fun v3 v5 v6 M => ∃ j, bX7_mixNet_51 (fun v3 v5 M => bX7_mixNet_33 n v3 v5 M (fun r M => Q (some (.inr (.inl r))) M)) j v3 v5 v6 M (fun r M => Q (some (.inr (.inl r))) M)))] (mm_fa1 (fun ls st M h => okX7_mixNet_51x Z (ih) ls st M h) mm_fa0) h
    · exact h.elim
theorem okX7_mixNet_33x {p : Program} {l : Launch} {e : Env} {s : State} {m : MethodId} {args : Array Value} {below : List Frame} {meth : Method} {c : Code} {cA : Nat → ClassId} {ad : Nat → Nat} {D : va_G} {A : Nat → Prop} {Q : Option mm_V → mm_M → Prop} (Z : ZX7_mixNet p l e s m args below meth c cA ad D A) : ∀ ls st M, qX7_mixNet_33 (fun v3 v5 M => ∃ j, bX7_mixNet_33 j v3 v5 M (fun r M => Q (some (.inr (.inl r))) M)) ls st M → mm_G p l e (mm_rm 4) s m args below meth c lay_c cA ad D A 7 Q 33 ls st M := by
  intro ls st M h
  have hex : ∃ n, qX7_mixNet_33 (fun v3 v5 M => bX7_mixNet_33 n v3 v5 M (fun r M => Q (some (.inr (.inl r))) M)) ls st M := by
    unfold qX7_mixNet_33 at h
    split at h
    · obtain ⟨hb, h⟩ := mm_chk_e h
      cases (Nat.eq_of_beq_eq_true hb)
      obtain ⟨n, h⟩ := h
      exact ⟨n, h⟩
    · exact h.elim
  obtain ⟨n, hex⟩ := hex
  exact okX7_mixNet_33 Z  n ls st M hex
theorem okX7_mixNet_5 {p : Program} {l : Launch} {e : Env} {s : State} {m : MethodId} {args : Array Value} {below : List Frame} {meth : Method} {c : Code} {cA : Nat → ClassId} {ad : Nat → Nat} {D : va_G} {A : Nat → Prop} {Q : Option mm_V → mm_M → Prop} (Z : ZX7_mixNet p l e s m args below meth c cA ad D A) : ∀ (n : Nat) ls st M, qX7_mixNet_5 (fun v3 v5 M => bX7_mixNet_5 n v3 v5 M (fun r M => Q (some (.inr (.inl r))) M)) ls st M → mm_G p l e (mm_rm 4) s m args below meth c lay_c cA ad D A 7 Q 5 ls st M
  | 0, ls, st, M, h => by
    unfold qX7_mixNet_5 at h
    split at h
    · obtain ⟨hb, h⟩ := mm_chk_e h
      cases (Nat.eq_of_beq_eq_true hb)
      exact h.elim
    · exact h.elim
  | n + 1, ls, st, M, h => by
    have ih := okX7_mixNet_5 (Q := Q) Z  n
    unfold qX7_mixNet_5 at h
    split at h
    · obtain ⟨hb, h⟩ := mm_chk_e h
      cases (Nat.eq_of_beq_eq_true hb)
      exact mm_Zb Z 46 5 [(5, qX7_mixNet_5 (fun v3 v5 M => bX7_mixNet_5 n v3 v5 M (fun r M => Q (some (.inr (.inl r))) M))), (33, qX7_mixNet_33 (fun v3 v5 M => ∃ j, bX7_mixNet_33 j v3 v5 M (fun r M => Q (some (.inr (.inl r))) M)))] (mm_fa1 ih (mm_fa1 (fun ls st M h => okX7_mixNet_33x Z  ls st M h) mm_fa0)) h
    · exact h.elim
theorem okX7_mixNet_5x {p : Program} {l : Launch} {e : Env} {s : State} {m : MethodId} {args : Array Value} {below : List Frame} {meth : Method} {c : Code} {cA : Nat → ClassId} {ad : Nat → Nat} {D : va_G} {A : Nat → Prop} {Q : Option mm_V → mm_M → Prop} (Z : ZX7_mixNet p l e s m args below meth c cA ad D A) : ∀ ls st M, qX7_mixNet_5 (fun v3 v5 M => ∃ j, bX7_mixNet_5 j v3 v5 M (fun r M => Q (some (.inr (.inl r))) M)) ls st M → mm_G p l e (mm_rm 4) s m args below meth c lay_c cA ad D A 7 Q 5 ls st M := by
  intro ls st M h
  have hex : ∃ n, qX7_mixNet_5 (fun v3 v5 M => bX7_mixNet_5 n v3 v5 M (fun r M => Q (some (.inr (.inl r))) M)) ls st M := by
    unfold qX7_mixNet_5 at h
    split at h
    · obtain ⟨hb, h⟩ := mm_chk_e h
      cases (Nat.eq_of_beq_eq_true hb)
      obtain ⟨n, h⟩ := h
      exact ⟨n, h⟩
    · exact h.elim
  obtain ⟨n, hex⟩ := hex
  exact okX7_mixNet_5 Z  n ls st M hex
theorem okX7_mixNet : mm_Ok lay_c yX7_mixNet cX7_mixNet 7 (some .long) 4 fX7_mixNet := by
  refine mm_enter (rt := 3) (by decide +kernel) rfl ?_
  intro p l e s m args below meth c cA ad D A as M Q h C0
  have Z : ZX7_mixNet p l e s m args below meth c cA ad D A := ⟨C0, flRX7_ok, mm_vt_of (mm_fa1 (mm_coV (n := 1) (ci := 7) C0 okX7_about rfl rfl (mm_one_at (.methodLink RX7 319 yX7_about) 911 (by decide +kernel) rfl) (wX7_about _ (by simp)) (wX7_about _ (by simp [yX7_about])) (wX7_about _ (by simp [yX7_about])) (wX7_about _ (by simp)) (by decide +kernel) (by omega) (by omega)) (mm_fa1 (mm_coV (n := 2) (ci := 7) C0 okX7_road rfl rfl (mm_one_at (.methodLink RX7 322 yX7_road) 916 (by decide +kernel) rfl) (wX7_road _ (by simp)) (wX7_road _ (by simp [yX7_road])) (wX7_road _ (by simp [yX7_road])) (wX7_road _ (by simp)) (by decide +kernel) (by omega) (by omega)) (mm_fa0))), mm_vt_of (mm_fa1 (mm_coS (n := 2) C0 okX7_mix (mm_one_at (.methodLink RX7 310 yX7_mix) 912 (by decide +kernel) rfl) (wX7_mix _ (by simp)) (wX7_mix _ (by simp [yX7_mix])) (wX7_mix _ (by simp)) (by decide +kernel) (by omega) (by omega)) (mm_fa0)), kX7_mixNet_ok, mm_ctok_J ctRX7_ok⟩
  unfold fX7_mixNet at h
  split at h
  · obtain ⟨hb, h⟩ := mm_chk_e h
    cases (Nat.eq_of_beq_eq_true hb)
    exact ⟨Nat.le_of_ble_eq_true rfl, mm_Zb Z 46 0 [(5, qX7_mixNet_5 (fun v3 v5 M => ∃ j, bX7_mixNet_5 j v3 v5 M (fun r M => Q (some (.inr (.inl r))) M)))] (mm_fa1 (fun ls st M h => okX7_mixNet_5x Z  ls st M h) mm_fa0) h⟩
  · exact h.elim
def kX7_mixPlayers : List mm_E := [(0, false, .lload_n 1, []), (1, false, .lstore_n 3, []), (2, false, .iconst 0, []), (3, false, .istore 5, []), (5, true, .iload 5, []), (7, false, .aload_n 0, []), (8, false, .getfield 19, []), (11, false, .getfield 139, []), (14, false, .if_icmp .ge 132, [146]), (17, false, .aload_n 0, []), (18, false, .getfield 19, []), (21, false, .getfield 150, []), (24, false, .iload 5, []), (26, false, .aaload, []), (27, false, .astore 6, []), (29, false, .iconst 0, []), (30, false, .istore 7, []), (32, true, .iload 7, []), (34, false, .bipush 6, []), (36, false, .if_icmp .gt 23, [59]), (39, false, .lload_n 3, []), (40, false, .aload_n 0, []), (41, false, .iload 5, []), (43, false, .iload 7, []), (45, false, .invokevirtual 325, []), (48, false, .i2l, []), (49, false, .invokestatic 310, []), (52, false, .lstore_n 3, []), (53, false, .iinc 7 1, []), (56, false, .goto (-24), [32]), (59, false, .iconst 0, []), (60, false, .istore 7, []), (62, true, .iload 7, []), (64, false, .aload 6, []), (66, false, .getfield 160, []), (69, false, .if_icmp .ge 26, [95]), (72, false, .lload_n 3, []), (73, false, .aload_n 0, []), (74, false, .getfield 19, []), (77, false, .aload 6, []), (79, false, .iload 7, []), (81, false, .invokevirtual 166, []), (84, false, .i2l, []), (85, false, .invokestatic 310, []), (88, false, .lstore_n 3, []), (89, false, .iinc 7 1, []), (92, false, .goto (-30), [62]), (95, false, .iconst 0, []), (96, false, .istore 7, []), (98, true, .iload 7, []), (100, false, .aload 6, []), (102, false, .getfield 177, []), (105, false, .aload 6, []), (107, false, .getfield 163, []), (110, false, .iaload, []), (111, false, .if_icmp .ge 29, [140]), (114, false, .lload_n 3, []), (115, false, .aload 6, []), (117, false, .getfield 180, []), (120, false, .aload 6, []), (122, false, .getfield 163, []), (125, false, .aaload, []), (126, false, .iload 7, []), (128, false, .iaload, []), (129, false, .i2l, []), (130, false, .invokestatic 310, []), (133, false, .lstore_n 3, []), (134, false, .iinc 7 1, []), (137, false, .goto (-39), [98]), (140, false, .iinc 5 1, []), (143, false, .goto (-138), [5]), (146, false, .lload_n 3, []), (147, false, .lreturn, [])]
set_option maxRecDepth 20000 in
theorem kX7_mixPlayers_ok : mm_cok cX7_mixPlayers RX7 (mm_ctt ctRX7) kX7_mixPlayers := mm_c_of (k := false) ctRX7_ok (by decide +kernel)
set_option maxRecDepth 20000 in
theorem wX7_mixPlayers : ∀ w ∈ ([.instanceMethod yX7_mixPlayers, .selects RX7 yX7_mixPlayers yX7_mixPlayers, .initialized RX7, .code yX7_mixPlayers cX7_mixPlayers 8 (some .long)] : List Cond), w ∈ mm_tbl := mm_sub_at _ [919, 29, 104, 920] (by decide +kernel) (by decide +kernel)
def vtX7_mixPlayers : List (Nat × Nat × Nat × mm_F) := [(325, 7, 3, fX7_who), (166, 6, 3, fX6_payBy)]
def smX7_mixPlayers : List (Nat × Nat × Nat × mm_F) := [(310, 0, 2, fX7_mix)]
def ZX7_mixPlayers (p : Program) (l : Launch) (e : Env) (s : State) (m : MethodId) (args : Array Value) (below : List Frame) (meth : Method) (c : Code) (cA : Nat → ClassId) (ad : Nat → Nat) (D : va_G) (A : Nat → Prop) : Prop := mm_Z p l e (mm_rm 3) s m args below meth c lay_c cA ad D A RX7 cX7_mixPlayers 8 3 (mm_flt flRX7) (mm_clt (vtX7_mixPlayers)) (mm_clt (smX7_mixPlayers)) (mm_ctt ctRX7) kX7_mixPlayers
def qX7_mixPlayers_98 (P : Int → Int → Nat → Int → mm_M → Prop) : mm_K := fun ls st M => match ls, st with
  | [some (.inr (.inr c0)), _, none, some (.inr (.inl v3)), none, some (.inl v5), some (.inr (.inr v6)), some (.inl v7)], [] => mm_chk (Nat.beq c0 0) (P v3 v5 v6 v7 M)
  | _, _ => False
def qX7_mixPlayers_62 (P : Int → Int → Nat → Int → mm_M → Prop) : mm_K := fun ls st M => match ls, st with
  | [some (.inr (.inr c0)), _, none, some (.inr (.inl v3)), none, some (.inl v5), some (.inr (.inr v6)), some (.inl v7)], [] => mm_chk (Nat.beq c0 0) (P v3 v5 v6 v7 M)
  | _, _ => False
def qX7_mixPlayers_32 (P : Int → Int → Nat → Int → mm_M → Prop) : mm_K := fun ls st M => match ls, st with
  | [some (.inr (.inr c0)), _, none, some (.inr (.inl v3)), none, some (.inl v5), some (.inr (.inr v6)), some (.inl v7)], [] => mm_chk (Nat.beq c0 0) (P v3 v5 v6 v7 M)
  | _, _ => False
def qX7_mixPlayers_5 (P : Int → Int → mm_M → Prop) : mm_K := fun ls st M => match ls, st with
  | [some (.inr (.inr c0)), _, none, some (.inr (.inl v3)), none, some (.inl v5), _, _], [] => mm_chk (Nat.beq c0 0) (P v3 v5 M)
  | _, _ => False
theorem okX7_mixPlayers_98 {p : Program} {l : Launch} {e : Env} {s : State} {m : MethodId} {args : Array Value} {below : List Frame} {meth : Method} {c : Code} {cA : Nat → ClassId} {ad : Nat → Nat} {D : va_G} {A : Nat → Prop} {Q : Option mm_V → mm_M → Prop} (Z : ZX7_mixPlayers p l e s m args below meth c cA ad D A) {K5 : Int → Int → mm_M → Prop} (hk5 : ∀ ls st M, qX7_mixPlayers_5 K5 ls st M → mm_G p l e (mm_rm 3) s m args below meth c lay_c cA ad D A 8 Q 5 ls st M) : ∀ (n : Nat) ls st M, qX7_mixPlayers_98 (fun v3 v5 v6 v7 M => bX7_mixPlayers_98 K5 n v3 v5 v6 v7 M (fun r M => Q (some (.inr (.inl r))) M)) ls st M → mm_G p l e (mm_rm 3) s m args below meth c lay_c cA ad D A 8 Q 98 ls st M
  | 0, ls, st, M, h => by
    unfold qX7_mixPlayers_98 at h
    split at h
    · obtain ⟨hb, h⟩ := mm_chk_e h
      cases (Nat.eq_of_beq_eq_true hb)
      exact h.elim
    · exact h.elim
  | n + 1, ls, st, M, h => by
    have ih := okX7_mixPlayers_98 (Q := Q) Z hk5 n
    unfold qX7_mixPlayers_98 at h
    split at h
    · obtain ⟨hb, h⟩ := mm_chk_e h
      cases (Nat.eq_of_beq_eq_true hb)
      exact mm_Zb Z 76 98 [(5, qX7_mixPlayers_5 (K5)), (98, qX7_mixPlayers_98 (fun v3 v5 v6 v7 M => bX7_mixPlayers_98 K5 n v3 v5 v6 v7 M (fun r M => Q (some (.inr (.inl r))) M)))] (mm_fa1 hk5 (mm_fa1 ih mm_fa0)) h
    · exact h.elim
theorem okX7_mixPlayers_98x {p : Program} {l : Launch} {e : Env} {s : State} {m : MethodId} {args : Array Value} {below : List Frame} {meth : Method} {c : Code} {cA : Nat → ClassId} {ad : Nat → Nat} {D : va_G} {A : Nat → Prop} {Q : Option mm_V → mm_M → Prop} (Z : ZX7_mixPlayers p l e s m args below meth c cA ad D A) {K5 : Int → Int → mm_M → Prop} (hk5 : ∀ ls st M, qX7_mixPlayers_5 K5 ls st M → mm_G p l e (mm_rm 3) s m args below meth c lay_c cA ad D A 8 Q 5 ls st M) : ∀ ls st M, qX7_mixPlayers_98 (fun v3 v5 v6 v7 M => ∃ j, bX7_mixPlayers_98 K5 j v3 v5 v6 v7 M (fun r M => Q (some (.inr (.inl r))) M)) ls st M → mm_G p l e (mm_rm 3) s m args below meth c lay_c cA ad D A 8 Q 98 ls st M := by
  intro ls st M h
  have hex : ∃ n, qX7_mixPlayers_98 (fun v3 v5 v6 v7 M => bX7_mixPlayers_98 K5 n v3 v5 v6 v7 M (fun r M => Q (some (.inr (.inl r))) M)) ls st M := by
    unfold qX7_mixPlayers_98 at h
    split at h
    · obtain ⟨hb, h⟩ := mm_chk_e h
      cases (Nat.eq_of_beq_eq_true hb)
      obtain ⟨n, h⟩ := h
      exact ⟨n, h⟩
    · exact h.elim
  obtain ⟨n, hex⟩ := hex
  exact okX7_mixPlayers_98 Z hk5 n ls st M hex
theorem okX7_mixPlayers_62 {p : Program} {l : Launch} {e : Env} {s : State} {m : MethodId} {args : Array Value} {below : List Frame} {meth : Method} {c : Code} {cA : Nat → ClassId} {ad : Nat → Nat} {D : va_G} {A : Nat → Prop} {Q : Option mm_V → mm_M → Prop} (Z : ZX7_mixPlayers p l e s m args below meth c cA ad D A) {K5 : Int → Int → mm_M → Prop} (hk5 : ∀ ls st M, qX7_mixPlayers_5 K5 ls st M → mm_G p l e (mm_rm 3) s m args below meth c lay_c cA ad D A 8 Q 5 ls st M) : ∀ (n : Nat) ls st M, qX7_mixPlayers_62 (fun v3 v5 v6 v7 M => bX7_mixPlayers_62 K5 n v3 v5 v6 v7 M (fun r M => Q (some (.inr (.inl r))) M)) ls st M → mm_G p l e (mm_rm 3) s m args below meth c lay_c cA ad D A 8 Q 62 ls st M
  | 0, ls, st, M, h => by
    unfold qX7_mixPlayers_62 at h
    split at h
    · obtain ⟨hb, h⟩ := mm_chk_e h
      cases (Nat.eq_of_beq_eq_true hb)
      exact h.elim
    · exact h.elim
  | n + 1, ls, st, M, h => by
    have ih := okX7_mixPlayers_62 (Q := Q) Z hk5 n
    unfold qX7_mixPlayers_62 at h
    split at h
    · obtain ⟨hb, h⟩ := mm_chk_e h
      cases (Nat.eq_of_beq_eq_true hb)
      exact mm_Zb Z 76 62 [(62, qX7_mixPlayers_62 (fun v3 v5 v6 v7 M => bX7_mixPlayers_62 K5 n v3 v5 v6 v7 M (fun r M => Q (some (.inr (.inl r))) M))), (98, qX7_mixPlayers_98 (fun v3 v5 v6 v7 M => ∃ j, bX7_mixPlayers_98 K5 j v3 v5 v6 v7 M (fun r M => Q (some (.inr (.inl r))) M)))] (mm_fa1 ih (mm_fa1 (fun ls st M h => okX7_mixPlayers_98x Z hk5 ls st M h) mm_fa0)) h
    · exact h.elim
theorem okX7_mixPlayers_62x {p : Program} {l : Launch} {e : Env} {s : State} {m : MethodId} {args : Array Value} {below : List Frame} {meth : Method} {c : Code} {cA : Nat → ClassId} {ad : Nat → Nat} {D : va_G} {A : Nat → Prop} {Q : Option mm_V → mm_M → Prop} (Z : ZX7_mixPlayers p l e s m args below meth c cA ad D A) {K5 : Int → Int → mm_M → Prop} (hk5 : ∀ ls st M, qX7_mixPlayers_5 K5 ls st M → mm_G p l e (mm_rm 3) s m args below meth c lay_c cA ad D A 8 Q 5 ls st M) : ∀ ls st M, qX7_mixPlayers_62 (fun v3 v5 v6 v7 M => ∃ j, bX7_mixPlayers_62 K5 j v3 v5 v6 v7 M (fun r M => Q (some (.inr (.inl r))) M)) ls st M → mm_G p l e (mm_rm 3) s m args below meth c lay_c cA ad D A 8 Q 62 ls st M := by
  intro ls st M h
  have hex : ∃ n, qX7_mixPlayers_62 (fun v3 v5 v6 v7 M => bX7_mixPlayers_62 K5 n v3 v5 v6 v7 M (fun r M => Q (some (.inr (.inl r))) M)) ls st M := by
    unfold qX7_mixPlayers_62 at h
    split at h
    · obtain ⟨hb, h⟩ := mm_chk_e h
      cases (Nat.eq_of_beq_eq_true hb)
      obtain ⟨n, h⟩ := h
      exact ⟨n, h⟩
    · exact h.elim
  obtain ⟨n, hex⟩ := hex
  exact okX7_mixPlayers_62 Z hk5 n ls st M hex
theorem okX7_mixPlayers_32 {p : Program} {l : Launch} {e : Env} {s : State} {m : MethodId} {args : Array Value} {below : List Frame} {meth : Method} {c : Code} {cA : Nat → ClassId} {ad : Nat → Nat} {D : va_G} {A : Nat → Prop} {Q : Option mm_V → mm_M → Prop} (Z : ZX7_mixPlayers p l e s m args below meth c cA ad D A) {K5 : Int → Int → mm_M → Prop} (hk5 : ∀ ls st M, qX7_mixPlayers_5 K5 ls st M → mm_G p l e (mm_rm 3) s m args below meth c lay_c cA ad D A 8 Q 5 ls st M) : ∀ (n : Nat) ls st M, qX7_mixPlayers_32 (fun v3 v5 v6 v7 M => bX7_mixPlayers_32 K5 n v3 v5 v6 v7 M (fun r M => Q (some (.inr (.inl r))) M)) ls st M → mm_G p l e (mm_rm 3) s m args below meth c lay_c cA ad D A 8 Q 32 ls st M
  | 0, ls, st, M, h => by
    unfold qX7_mixPlayers_32 at h
    split at h
    · obtain ⟨hb, h⟩ := mm_chk_e h
      cases (Nat.eq_of_beq_eq_true hb)
      exact h.elim
    · exact h.elim
  | n + 1, ls, st, M, h => by
    have ih := okX7_mixPlayers_32 (Q := Q) Z hk5 n
    unfold qX7_mixPlayers_32 at h
    split at h
    · obtain ⟨hb, h⟩ := mm_chk_e h
      cases (Nat.eq_of_beq_eq_true hb)
      exact mm_Zb Z 76 32 [(32, qX7_mixPlayers_32 (fun v3 v5 v6 v7 M => bX7_mixPlayers_32 K5 n v3 v5 v6 v7 M (fun r M => Q (some (.inr (.inl r))) M))), (62, qX7_mixPlayers_62 (fun v3 v5 v6 v7 M => ∃ j, bX7_mixPlayers_62 K5 j v3 v5 v6 v7 M (fun r M => Q (some (.inr (.inl r))) M)))] (mm_fa1 ih (mm_fa1 (fun ls st M h => okX7_mixPlayers_62x Z hk5 ls st M h) mm_fa0)) h
    · exact h.elim
theorem okX7_mixPlayers_32x {p : Program} {l : Launch} {e : Env} {s : State} {m : MethodId} {args : Array Value} {below : List Frame} {meth : Method} {c : Code} {cA : Nat → ClassId} {ad : Nat → Nat} {D : va_G} {A : Nat → Prop} {Q : Option mm_V → mm_M → Prop} (Z : ZX7_mixPlayers p l e s m args below meth c cA ad D A) {K5 : Int → Int → mm_M → Prop} (hk5 : ∀ ls st M, qX7_mixPlayers_5 K5 ls st M → mm_G p l e (mm_rm 3) s m args below meth c lay_c cA ad D A 8 Q 5 ls st M) : ∀ ls st M, qX7_mixPlayers_32 (fun v3 v5 v6 v7 M => ∃ j, bX7_mixPlayers_32 K5 j v3 v5 v6 v7 M (fun r M => Q (some (.inr (.inl r))) M)) ls st M → mm_G p l e (mm_rm 3) s m args below meth c lay_c cA ad D A 8 Q 32 ls st M := by
  intro ls st M h
  have hex : ∃ n, qX7_mixPlayers_32 (fun v3 v5 v6 v7 M => bX7_mixPlayers_32 K5 n v3 v5 v6 v7 M (fun r M => Q (some (.inr (.inl r))) M)) ls st M := by
    unfold qX7_mixPlayers_32 at h
    split at h
    · obtain ⟨hb, h⟩ := mm_chk_e h
      cases (Nat.eq_of_beq_eq_true hb)
      obtain ⟨n, h⟩ := h
      exact ⟨n, h⟩
    · exact h.elim
  obtain ⟨n, hex⟩ := hex
  exact okX7_mixPlayers_32 Z hk5 n ls st M hex
theorem okX7_mixPlayers_5 {p : Program} {l : Launch} {e : Env} {s : State} {m : MethodId} {args : Array Value} {below : List Frame} {meth : Method} {c : Code} {cA : Nat → ClassId} {ad : Nat → Nat} {D : va_G} {A : Nat → Prop} {Q : Option mm_V → mm_M → Prop} (Z : ZX7_mixPlayers p l e s m args below meth c cA ad D A) : ∀ (n : Nat) ls st M, qX7_mixPlayers_5 (fun v3 v5 M => bX7_mixPlayers_5 n v3 v5 M (fun r M => Q (some (.inr (.inl r))) M)) ls st M → mm_G p l e (mm_rm 3) s m args below meth c lay_c cA ad D A 8 Q 5 ls st M
  | 0, ls, st, M, h => by
    unfold qX7_mixPlayers_5 at h
    split at h
    · obtain ⟨hb, h⟩ := mm_chk_e h
      cases (Nat.eq_of_beq_eq_true hb)
      exact h.elim
    · exact h.elim
  | n + 1, ls, st, M, h => by
    have ih := okX7_mixPlayers_5 (Q := Q) Z  n
    unfold qX7_mixPlayers_5 at h
    split at h
    · obtain ⟨hb, h⟩ := mm_chk_e h
      cases (Nat.eq_of_beq_eq_true hb)
      exact mm_Zb Z 76 5 [(32, qX7_mixPlayers_32 (fun v3 v5 v6 v7 M => ∃ j, bX7_mixPlayers_32 (fun v3 v5 M => bX7_mixPlayers_5 n v3 v5 M (fun r M => Q (some (.inr (.inl r))) M)) j v3 v5 v6 v7 M (fun r M => Q (some (.inr (.inl r))) M)))] (mm_fa1 (fun ls st M h => okX7_mixPlayers_32x Z (ih) ls st M h) mm_fa0) h
    · exact h.elim
theorem okX7_mixPlayers_5x {p : Program} {l : Launch} {e : Env} {s : State} {m : MethodId} {args : Array Value} {below : List Frame} {meth : Method} {c : Code} {cA : Nat → ClassId} {ad : Nat → Nat} {D : va_G} {A : Nat → Prop} {Q : Option mm_V → mm_M → Prop} (Z : ZX7_mixPlayers p l e s m args below meth c cA ad D A) : ∀ ls st M, qX7_mixPlayers_5 (fun v3 v5 M => ∃ j, bX7_mixPlayers_5 j v3 v5 M (fun r M => Q (some (.inr (.inl r))) M)) ls st M → mm_G p l e (mm_rm 3) s m args below meth c lay_c cA ad D A 8 Q 5 ls st M := by
  intro ls st M h
  have hex : ∃ n, qX7_mixPlayers_5 (fun v3 v5 M => bX7_mixPlayers_5 n v3 v5 M (fun r M => Q (some (.inr (.inl r))) M)) ls st M := by
    unfold qX7_mixPlayers_5 at h
    split at h
    · obtain ⟨hb, h⟩ := mm_chk_e h
      cases (Nat.eq_of_beq_eq_true hb)
      obtain ⟨n, h⟩ := h
      exact ⟨n, h⟩
    · exact h.elim
  obtain ⟨n, hex⟩ := hex
  exact okX7_mixPlayers_5 Z  n ls st M hex
theorem okX7_mixPlayers : mm_Ok lay_c yX7_mixPlayers cX7_mixPlayers 8 (some .long) 3 fX7_mixPlayers := by
  refine mm_enter (rt := 3) (by decide +kernel) rfl ?_
  intro p l e s m args below meth c cA ad D A as M Q h C0
  have Z : ZX7_mixPlayers p l e s m args below meth c cA ad D A := ⟨C0, flRX7_ok, mm_vt_of (mm_fa1 (mm_coV (n := 2) (ci := 7) C0 okX7_who rfl rfl (mm_one_at (.methodLink RX7 325 yX7_who) 921 (by decide +kernel) rfl) (wX7_who _ (by simp)) (wX7_who _ (by simp [yX7_who])) (wX7_who _ (by simp [yX7_who])) (wX7_who _ (by simp)) (by decide +kernel) (by omega) (by omega)) (mm_fa1 (mm_coV (n := 2) (ci := 6) C0 okX6_payBy rfl rfl (mm_one_at (.methodLink RX7 166 yX6_payBy) 638 (by decide +kernel) rfl) (wX6_payBy _ (by simp)) (wX6_payBy _ (by simp [yX6_payBy])) (wX6_payBy _ (by simp [yX6_payBy])) (wX6_payBy _ (by simp)) (by decide +kernel) (by omega) (by omega)) (mm_fa0))), mm_vt_of (mm_fa1 (mm_coS (n := 2) C0 okX7_mix (mm_one_at (.methodLink RX7 310 yX7_mix) 912 (by decide +kernel) rfl) (wX7_mix _ (by simp)) (wX7_mix _ (by simp [yX7_mix])) (wX7_mix _ (by simp)) (by decide +kernel) (by omega) (by omega)) (mm_fa0)), kX7_mixPlayers_ok, mm_ctok_J ctRX7_ok⟩
  unfold fX7_mixPlayers at h
  split at h
  · obtain ⟨hb, h⟩ := mm_chk_e h
    cases (Nat.eq_of_beq_eq_true hb)
    exact ⟨Nat.le_of_ble_eq_true rfl, mm_Zb Z 76 0 [(5, qX7_mixPlayers_5 (fun v3 v5 M => ∃ j, bX7_mixPlayers_5 j v3 v5 M (fun r M => Q (some (.inr (.inl r))) M)))] (mm_fa1 (fun ls st M h => okX7_mixPlayers_5x Z  ls st M h) mm_fa0) h⟩
  · exact h.elim
def kX7_mixSets : List mm_E := [(0, false, .lload_n 1, []), (1, false, .lstore_n 3, []), (2, false, .aload_n 0, []), (3, false, .invokevirtual 190, []), (6, false, .ifCond .ne 5, [11]), (9, false, .lload_n 3, []), (10, false, .lreturn, []), (11, false, .iconst 0, []), (12, false, .istore 5, []), (14, true, .iload 5, []), (16, false, .iconst 5, []), (17, false, .if_icmp .gt 21, [38]), (20, false, .lload_n 3, []), (21, false, .aload_n 0, []), (22, false, .iload 5, []), (24, false, .invokevirtual 328, []), (27, false, .i2l, []), (28, false, .invokestatic 310, []), (31, false, .lstore_n 3, []), (32, false, .iinc 5 1, []), (35, false, .goto (-21), [14]), (38, false, .iconst 0, []), (39, false, .istore 5, []), (41, true, .iload 5, []), (43, false, .iconst 3, []), (44, false, .if_icmp .gt 21, [65]), (47, false, .lload_n 3, []), (48, false, .aload_n 0, []), (49, false, .iload 5, []), (51, false, .invokevirtual 330, []), (54, false, .i2l, []), (55, false, .invokestatic 310, []), (58, false, .lstore_n 3, []), (59, false, .iinc 5 1, []), (62, false, .goto (-21), [41]), (65, false, .iconst 0, []), (66, false, .istore 5, []), (68, true, .iload 5, []), (70, false, .iconst 2, []), (71, false, .if_icmp .gt 21, [92]), (74, false, .lload_n 3, []), (75, false, .aload_n 0, []), (76, false, .iload 5, []), (78, false, .invokevirtual 333, []), (81, false, .i2l, []), (82, false, .invokestatic 310, []), (85, false, .lstore_n 3, []), (86, false, .iinc 5 1, []), (89, false, .goto (-21), [68]), (92, false, .lload_n 3, []), (93, false, .lreturn, [])]
set_option maxRecDepth 20000 in
theorem kX7_mixSets_ok : mm_cok cX7_mixSets RX7 (mm_ctt ctRX7) kX7_mixSets := mm_c_of (k := false) ctRX7_ok (by decide +kernel)
set_option maxRecDepth 20000 in
theorem wX7_mixSets : ∀ w ∈ ([.instanceMethod yX7_mixSets, .selects RX7 yX7_mixSets yX7_mixSets, .initialized RX7, .code yX7_mixSets cX7_mixSets 6 (some .long)] : List Cond), w ∈ mm_tbl := mm_sub_at _ [924, 30, 104, 925] (by decide +kernel) (by decide +kernel)
def vtX7_mixSets : List (Nat × Nat × Nat × mm_F) := [(190, 7, 1, fX7_surveyed), (328, 7, 2, fX7_rests), (330, 7, 2, fX7_price), (333, 7, 2, fX7_reach)]
def smX7_mixSets : List (Nat × Nat × Nat × mm_F) := [(310, 0, 2, fX7_mix)]
def ZX7_mixSets (p : Program) (l : Launch) (e : Env) (s : State) (m : MethodId) (args : Array Value) (below : List Frame) (meth : Method) (c : Code) (cA : Nat → ClassId) (ad : Nat → Nat) (D : va_G) (A : Nat → Prop) : Prop := mm_Z p l e (mm_rm 6) s m args below meth c lay_c cA ad D A RX7 cX7_mixSets 6 3 (mm_flt flRX7) (mm_clt (vtX7_mixSets)) (mm_clt (smX7_mixSets)) (mm_ctt ctRX7) kX7_mixSets
def qX7_mixSets_68 (P : Int → Int → mm_M → Prop) : mm_K := fun ls st M => match ls, st with
  | [some (.inr (.inr c0)), _, none, some (.inr (.inl v3)), none, some (.inl v5)], [] => mm_chk (Nat.beq c0 0) (P v3 v5 M)
  | _, _ => False
def qX7_mixSets_41 (P : Int → Int → mm_M → Prop) : mm_K := fun ls st M => match ls, st with
  | [some (.inr (.inr c0)), _, none, some (.inr (.inl v3)), none, some (.inl v5)], [] => mm_chk (Nat.beq c0 0) (P v3 v5 M)
  | _, _ => False
def qX7_mixSets_14 (P : Int → Int → mm_M → Prop) : mm_K := fun ls st M => match ls, st with
  | [some (.inr (.inr c0)), _, none, some (.inr (.inl v3)), none, some (.inl v5)], [] => mm_chk (Nat.beq c0 0) (P v3 v5 M)
  | _, _ => False
theorem okX7_mixSets_68 {p : Program} {l : Launch} {e : Env} {s : State} {m : MethodId} {args : Array Value} {below : List Frame} {meth : Method} {c : Code} {cA : Nat → ClassId} {ad : Nat → Nat} {D : va_G} {A : Nat → Prop} {Q : Option mm_V → mm_M → Prop} (Z : ZX7_mixSets p l e s m args below meth c cA ad D A) : ∀ (n : Nat) ls st M, qX7_mixSets_68 (fun v3 v5 M => bX7_mixSets_68 n v3 v5 M (fun r M => Q (some (.inr (.inl r))) M)) ls st M → mm_G p l e (mm_rm 6) s m args below meth c lay_c cA ad D A 6 Q 68 ls st M
  | 0, ls, st, M, h => by
    unfold qX7_mixSets_68 at h
    split at h
    · obtain ⟨hb, h⟩ := mm_chk_e h
      cases (Nat.eq_of_beq_eq_true hb)
      exact h.elim
    · exact h.elim
  | n + 1, ls, st, M, h => by
    have ih := okX7_mixSets_68 (Q := Q) Z  n
    unfold qX7_mixSets_68 at h
    split at h
    · obtain ⟨hb, h⟩ := mm_chk_e h
      cases (Nat.eq_of_beq_eq_true hb)
      exact mm_Zb Z 54 68 [(68, qX7_mixSets_68 (fun v3 v5 M => bX7_mixSets_68 n v3 v5 M (fun r M => Q (some (.inr (.inl r))) M)))] (mm_fa1 ih mm_fa0) h
    · exact h.elim
theorem okX7_mixSets_68x {p : Program} {l : Launch} {e : Env} {s : State} {m : MethodId} {args : Array Value} {below : List Frame} {meth : Method} {c : Code} {cA : Nat → ClassId} {ad : Nat → Nat} {D : va_G} {A : Nat → Prop} {Q : Option mm_V → mm_M → Prop} (Z : ZX7_mixSets p l e s m args below meth c cA ad D A) : ∀ ls st M, qX7_mixSets_68 (fun v3 v5 M => ∃ j, bX7_mixSets_68 j v3 v5 M (fun r M => Q (some (.inr (.inl r))) M)) ls st M → mm_G p l e (mm_rm 6) s m args below meth c lay_c cA ad D A 6 Q 68 ls st M := by
  intro ls st M h
  have hex : ∃ n, qX7_mixSets_68 (fun v3 v5 M => bX7_mixSets_68 n v3 v5 M (fun r M => Q (some (.inr (.inl r))) M)) ls st M := by
    unfold qX7_mixSets_68 at h
    split at h
    · obtain ⟨hb, h⟩ := mm_chk_e h
      cases (Nat.eq_of_beq_eq_true hb)
      obtain ⟨n, h⟩ := h
      exact ⟨n, h⟩
    · exact h.elim
  obtain ⟨n, hex⟩ := hex
  exact okX7_mixSets_68 Z  n ls st M hex
theorem okX7_mixSets_41 {p : Program} {l : Launch} {e : Env} {s : State} {m : MethodId} {args : Array Value} {below : List Frame} {meth : Method} {c : Code} {cA : Nat → ClassId} {ad : Nat → Nat} {D : va_G} {A : Nat → Prop} {Q : Option mm_V → mm_M → Prop} (Z : ZX7_mixSets p l e s m args below meth c cA ad D A) : ∀ (n : Nat) ls st M, qX7_mixSets_41 (fun v3 v5 M => bX7_mixSets_41 n v3 v5 M (fun r M => Q (some (.inr (.inl r))) M)) ls st M → mm_G p l e (mm_rm 6) s m args below meth c lay_c cA ad D A 6 Q 41 ls st M
  | 0, ls, st, M, h => by
    unfold qX7_mixSets_41 at h
    split at h
    · obtain ⟨hb, h⟩ := mm_chk_e h
      cases (Nat.eq_of_beq_eq_true hb)
      exact h.elim
    · exact h.elim
  | n + 1, ls, st, M, h => by
    have ih := okX7_mixSets_41 (Q := Q) Z  n
    unfold qX7_mixSets_41 at h
    split at h
    · obtain ⟨hb, h⟩ := mm_chk_e h
      cases (Nat.eq_of_beq_eq_true hb)
      exact mm_Zb Z 54 41 [(41, qX7_mixSets_41 (fun v3 v5 M => bX7_mixSets_41 n v3 v5 M (fun r M => Q (some (.inr (.inl r))) M))), (68, qX7_mixSets_68 (fun v3 v5 M => ∃ j, bX7_mixSets_68 j v3 v5 M (fun r M => Q (some (.inr (.inl r))) M)))] (mm_fa1 ih (mm_fa1 (fun ls st M h => okX7_mixSets_68x Z  ls st M h) mm_fa0)) h
    · exact h.elim
theorem okX7_mixSets_41x {p : Program} {l : Launch} {e : Env} {s : State} {m : MethodId} {args : Array Value} {below : List Frame} {meth : Method} {c : Code} {cA : Nat → ClassId} {ad : Nat → Nat} {D : va_G} {A : Nat → Prop} {Q : Option mm_V → mm_M → Prop} (Z : ZX7_mixSets p l e s m args below meth c cA ad D A) : ∀ ls st M, qX7_mixSets_41 (fun v3 v5 M => ∃ j, bX7_mixSets_41 j v3 v5 M (fun r M => Q (some (.inr (.inl r))) M)) ls st M → mm_G p l e (mm_rm 6) s m args below meth c lay_c cA ad D A 6 Q 41 ls st M := by
  intro ls st M h
  have hex : ∃ n, qX7_mixSets_41 (fun v3 v5 M => bX7_mixSets_41 n v3 v5 M (fun r M => Q (some (.inr (.inl r))) M)) ls st M := by
    unfold qX7_mixSets_41 at h
    split at h
    · obtain ⟨hb, h⟩ := mm_chk_e h
      cases (Nat.eq_of_beq_eq_true hb)
      obtain ⟨n, h⟩ := h
      exact ⟨n, h⟩
    · exact h.elim
  obtain ⟨n, hex⟩ := hex
  exact okX7_mixSets_41 Z  n ls st M hex
theorem okX7_mixSets_14 {p : Program} {l : Launch} {e : Env} {s : State} {m : MethodId} {args : Array Value} {below : List Frame} {meth : Method} {c : Code} {cA : Nat → ClassId} {ad : Nat → Nat} {D : va_G} {A : Nat → Prop} {Q : Option mm_V → mm_M → Prop} (Z : ZX7_mixSets p l e s m args below meth c cA ad D A) : ∀ (n : Nat) ls st M, qX7_mixSets_14 (fun v3 v5 M => bX7_mixSets_14 n v3 v5 M (fun r M => Q (some (.inr (.inl r))) M)) ls st M → mm_G p l e (mm_rm 6) s m args below meth c lay_c cA ad D A 6 Q 14 ls st M
  | 0, ls, st, M, h => by
    unfold qX7_mixSets_14 at h
    split at h
    · obtain ⟨hb, h⟩ := mm_chk_e h
      cases (Nat.eq_of_beq_eq_true hb)
      exact h.elim
    · exact h.elim
  | n + 1, ls, st, M, h => by
    have ih := okX7_mixSets_14 (Q := Q) Z  n
    unfold qX7_mixSets_14 at h
    split at h
    · obtain ⟨hb, h⟩ := mm_chk_e h
      cases (Nat.eq_of_beq_eq_true hb)
      exact mm_Zb Z 54 14 [(14, qX7_mixSets_14 (fun v3 v5 M => bX7_mixSets_14 n v3 v5 M (fun r M => Q (some (.inr (.inl r))) M))), (41, qX7_mixSets_41 (fun v3 v5 M => ∃ j, bX7_mixSets_41 j v3 v5 M (fun r M => Q (some (.inr (.inl r))) M)))] (mm_fa1 ih (mm_fa1 (fun ls st M h => okX7_mixSets_41x Z  ls st M h) mm_fa0)) h
    · exact h.elim
theorem okX7_mixSets_14x {p : Program} {l : Launch} {e : Env} {s : State} {m : MethodId} {args : Array Value} {below : List Frame} {meth : Method} {c : Code} {cA : Nat → ClassId} {ad : Nat → Nat} {D : va_G} {A : Nat → Prop} {Q : Option mm_V → mm_M → Prop} (Z : ZX7_mixSets p l e s m args below meth c cA ad D A) : ∀ ls st M, qX7_mixSets_14 (fun v3 v5 M => ∃ j, bX7_mixSets_14 j v3 v5 M (fun r M => Q (some (.inr (.inl r))) M)) ls st M → mm_G p l e (mm_rm 6) s m args below meth c lay_c cA ad D A 6 Q 14 ls st M := by
  intro ls st M h
  have hex : ∃ n, qX7_mixSets_14 (fun v3 v5 M => bX7_mixSets_14 n v3 v5 M (fun r M => Q (some (.inr (.inl r))) M)) ls st M := by
    unfold qX7_mixSets_14 at h
    split at h
    · obtain ⟨hb, h⟩ := mm_chk_e h
      cases (Nat.eq_of_beq_eq_true hb)
      obtain ⟨n, h⟩ := h
      exact ⟨n, h⟩
    · exact h.elim
  obtain ⟨n, hex⟩ := hex
  exact okX7_mixSets_14 Z  n ls st M hex
theorem okX7_mixSets : mm_Ok lay_c yX7_mixSets cX7_mixSets 6 (some .long) 6 fX7_mixSets := by
  refine mm_enter (rt := 3) (by decide +kernel) rfl ?_
  intro p l e s m args below meth c cA ad D A as M Q h C0
  have Z : ZX7_mixSets p l e s m args below meth c cA ad D A := ⟨C0, flRX7_ok, mm_vt_of (mm_fa1 (mm_coV (n := 0) (ci := 7) C0 okX7_surveyed rfl rfl (mm_one_at (.methodLink RX7 190 yX7_surveyed) 673 (by decide +kernel) rfl) (wX7_surveyed _ (by simp)) (wX7_surveyed _ (by simp [yX7_surveyed])) (wX7_surveyed _ (by simp [yX7_surveyed])) (wX7_surveyed _ (by simp)) (by decide +kernel) (by omega) (by omega)) (mm_fa1 (mm_coV (n := 1) (ci := 7) C0 okX7_rests rfl rfl (mm_one_at (.methodLink RX7 328 yX7_rests) 926 (by decide +kernel) rfl) (wX7_rests _ (by simp)) (wX7_rests _ (by simp [yX7_rests])) (wX7_rests _ (by simp [yX7_rests])) (wX7_rests _ (by simp)) (by decide +kernel) (by omega) (by omega)) (mm_fa1 (mm_coV (n := 1) (ci := 7) C0 okX7_price rfl rfl (mm_one_at (.methodLink RX7 330 yX7_price) 927 (by decide +kernel) rfl) (wX7_price _ (by simp)) (wX7_price _ (by simp [yX7_price])) (wX7_price _ (by simp [yX7_price])) (wX7_price _ (by simp)) (by decide +kernel) (by omega) (by omega)) (mm_fa1 (mm_coV (n := 1) (ci := 7) C0 okX7_reach rfl rfl (mm_one_at (.methodLink RX7 333 yX7_reach) 928 (by decide +kernel) rfl) (wX7_reach _ (by simp)) (wX7_reach _ (by simp [yX7_reach])) (wX7_reach _ (by simp [yX7_reach])) (wX7_reach _ (by simp)) (by decide +kernel) (by omega) (by omega)) (mm_fa0))))), mm_vt_of (mm_fa1 (mm_coS (n := 2) C0 okX7_mix (mm_one_at (.methodLink RX7 310 yX7_mix) 912 (by decide +kernel) rfl) (wX7_mix _ (by simp)) (wX7_mix _ (by simp [yX7_mix])) (wX7_mix _ (by simp)) (by decide +kernel) (by omega) (by omega)) (mm_fa0)), kX7_mixSets_ok, mm_ctok_J ctRX7_ok⟩
  unfold fX7_mixSets at h
  split at h
  · obtain ⟨hb, h⟩ := mm_chk_e h
    cases (Nat.eq_of_beq_eq_true hb)
    exact ⟨Nat.le_of_ble_eq_true rfl, mm_Zb Z 54 0 [(14, qX7_mixSets_14 (fun v3 v5 M => ∃ j, bX7_mixSets_14 j v3 v5 M (fun r M => Q (some (.inr (.inl r))) M)))] (mm_fa1 (fun ls st M h => okX7_mixSets_14x Z  ls st M h) mm_fa0) h⟩
  · exact h.elim
def kX7_mixLeads : List mm_E := [(0, false, .lload_n 1, []), (1, false, .lstore_n 3, []), (2, false, .iconst 0, []), (3, false, .istore 5, []), (5, true, .iload 5, []), (7, false, .aload_n 0, []), (8, false, .getfield 19, []), (11, false, .getfield 139, []), (14, false, .if_icmp .ge 53, [67]), (17, false, .iconst 0, []), (18, false, .istore 6, []), (20, true, .iload 6, []), (22, false, .aload_n 0, []), (23, false, .getfield 19, []), (26, false, .getfield 150, []), (29, false, .iload 5, []), (31, false, .aaload, []), (32, false, .getfield 160, []), (35, false, .if_icmp .ge 26, [61]), (38, false, .lload_n 3, []), (39, false, .aload_n 0, []), (40, false, .getfield 19, []), (43, false, .iload 5, []), (45, false, .iload 6, []), (47, false, .invokevirtual 247, []), (50, false, .i2l, []), (51, false, .invokestatic 310, []), (54, false, .lstore_n 3, []), (55, false, .iinc 6 1, []), (58, false, .goto (-38), [20]), (61, false, .iinc 5 1, []), (64, false, .goto (-59), [5]), (67, false, .lload_n 3, []), (68, false, .lreturn, [])]
set_option maxRecDepth 20000 in
theorem kX7_mixLeads_ok : mm_cok cX7_mixLeads RX7 (mm_ctt ctRX7) kX7_mixLeads := mm_c_of (k := false) ctRX7_ok (by decide +kernel)
set_option maxRecDepth 20000 in
theorem wX7_mixLeads : ∀ w ∈ ([.instanceMethod yX7_mixLeads, .selects RX7 yX7_mixLeads yX7_mixLeads, .initialized RX7, .code yX7_mixLeads cX7_mixLeads 7 (some .long)] : List Cond), w ∈ mm_tbl := mm_sub_at _ [931, 31, 104, 932] (by decide +kernel) (by decide +kernel)
def vtX7_mixLeads : List (Nat × Nat × Nat × mm_F) := [(247, 6, 3, fX6_payIfLeading)]
def smX7_mixLeads : List (Nat × Nat × Nat × mm_F) := [(310, 0, 2, fX7_mix)]
def ZX7_mixLeads (p : Program) (l : Launch) (e : Env) (s : State) (m : MethodId) (args : Array Value) (below : List Frame) (meth : Method) (c : Code) (cA : Nat → ClassId) (ad : Nat → Nat) (D : va_G) (A : Nat → Prop) : Prop := mm_Z p l e (mm_rm 5) s m args below meth c lay_c cA ad D A RX7 cX7_mixLeads 7 3 (mm_flt flRX7) (mm_clt (vtX7_mixLeads)) (mm_clt (smX7_mixLeads)) (mm_ctt ctRX7) kX7_mixLeads
def qX7_mixLeads_20 (P : Int → Int → Int → mm_M → Prop) : mm_K := fun ls st M => match ls, st with
  | [some (.inr (.inr c0)), _, none, some (.inr (.inl v3)), none, some (.inl v5), some (.inl v6)], [] => mm_chk (Nat.beq c0 0) (P v3 v5 v6 M)
  | _, _ => False
def qX7_mixLeads_5 (P : Int → Int → mm_M → Prop) : mm_K := fun ls st M => match ls, st with
  | [some (.inr (.inr c0)), _, none, some (.inr (.inl v3)), none, some (.inl v5), _], [] => mm_chk (Nat.beq c0 0) (P v3 v5 M)
  | _, _ => False
theorem okX7_mixLeads_20 {p : Program} {l : Launch} {e : Env} {s : State} {m : MethodId} {args : Array Value} {below : List Frame} {meth : Method} {c : Code} {cA : Nat → ClassId} {ad : Nat → Nat} {D : va_G} {A : Nat → Prop} {Q : Option mm_V → mm_M → Prop} (Z : ZX7_mixLeads p l e s m args below meth c cA ad D A) {K5 : Int → Int → mm_M → Prop} (hk5 : ∀ ls st M, qX7_mixLeads_5 K5 ls st M → mm_G p l e (mm_rm 5) s m args below meth c lay_c cA ad D A 7 Q 5 ls st M) : ∀ (n : Nat) ls st M, qX7_mixLeads_20 (fun v3 v5 v6 M => bX7_mixLeads_20 K5 n v3 v5 v6 M (fun r M => Q (some (.inr (.inl r))) M)) ls st M → mm_G p l e (mm_rm 5) s m args below meth c lay_c cA ad D A 7 Q 20 ls st M
  | 0, ls, st, M, h => by
    unfold qX7_mixLeads_20 at h
    split at h
    · obtain ⟨hb, h⟩ := mm_chk_e h
      cases (Nat.eq_of_beq_eq_true hb)
      exact h.elim
    · exact h.elim
  | n + 1, ls, st, M, h => by
    have ih := okX7_mixLeads_20 (Q := Q) Z hk5 n
    unfold qX7_mixLeads_20 at h
    split at h
    · obtain ⟨hb, h⟩ := mm_chk_e h
      cases (Nat.eq_of_beq_eq_true hb)
      exact mm_Zb Z 37 20 [(5, qX7_mixLeads_5 (K5)), (20, qX7_mixLeads_20 (fun v3 v5 v6 M => bX7_mixLeads_20 K5 n v3 v5 v6 M (fun r M => Q (some (.inr (.inl r))) M)))] (mm_fa1 hk5 (mm_fa1 ih mm_fa0)) h
    · exact h.elim
theorem okX7_mixLeads_20x {p : Program} {l : Launch} {e : Env} {s : State} {m : MethodId} {args : Array Value} {below : List Frame} {meth : Method} {c : Code} {cA : Nat → ClassId} {ad : Nat → Nat} {D : va_G} {A : Nat → Prop} {Q : Option mm_V → mm_M → Prop} (Z : ZX7_mixLeads p l e s m args below meth c cA ad D A) {K5 : Int → Int → mm_M → Prop} (hk5 : ∀ ls st M, qX7_mixLeads_5 K5 ls st M → mm_G p l e (mm_rm 5) s m args below meth c lay_c cA ad D A 7 Q 5 ls st M) : ∀ ls st M, qX7_mixLeads_20 (fun v3 v5 v6 M => ∃ j, bX7_mixLeads_20 K5 j v3 v5 v6 M (fun r M => Q (some (.inr (.inl r))) M)) ls st M → mm_G p l e (mm_rm 5) s m args below meth c lay_c cA ad D A 7 Q 20 ls st M := by
  intro ls st M h
  have hex : ∃ n, qX7_mixLeads_20 (fun v3 v5 v6 M => bX7_mixLeads_20 K5 n v3 v5 v6 M (fun r M => Q (some (.inr (.inl r))) M)) ls st M := by
    unfold qX7_mixLeads_20 at h
    split at h
    · obtain ⟨hb, h⟩ := mm_chk_e h
      cases (Nat.eq_of_beq_eq_true hb)
      obtain ⟨n, h⟩ := h
      exact ⟨n, h⟩
    · exact h.elim
  obtain ⟨n, hex⟩ := hex
  exact okX7_mixLeads_20 Z hk5 n ls st M hex
theorem okX7_mixLeads_5 {p : Program} {l : Launch} {e : Env} {s : State} {m : MethodId} {args : Array Value} {below : List Frame} {meth : Method} {c : Code} {cA : Nat → ClassId} {ad : Nat → Nat} {D : va_G} {A : Nat → Prop} {Q : Option mm_V → mm_M → Prop} (Z : ZX7_mixLeads p l e s m args below meth c cA ad D A) : ∀ (n : Nat) ls st M, qX7_mixLeads_5 (fun v3 v5 M => bX7_mixLeads_5 n v3 v5 M (fun r M => Q (some (.inr (.inl r))) M)) ls st M → mm_G p l e (mm_rm 5) s m args below meth c lay_c cA ad D A 7 Q 5 ls st M
  | 0, ls, st, M, h => by
    unfold qX7_mixLeads_5 at h
    split at h
    · obtain ⟨hb, h⟩ := mm_chk_e h
      cases (Nat.eq_of_beq_eq_true hb)
      exact h.elim
    · exact h.elim
  | n + 1, ls, st, M, h => by
    have ih := okX7_mixLeads_5 (Q := Q) Z  n
    unfold qX7_mixLeads_5 at h
    split at h
    · obtain ⟨hb, h⟩ := mm_chk_e h
      cases (Nat.eq_of_beq_eq_true hb)
      exact mm_Zb Z 37 5 [(20, qX7_mixLeads_20 (fun v3 v5 v6 M => ∃ j, bX7_mixLeads_20 (fun v3 v5 M => bX7_mixLeads_5 n v3 v5 M (fun r M => Q (some (.inr (.inl r))) M)) j v3 v5 v6 M (fun r M => Q (some (.inr (.inl r))) M)))] (mm_fa1 (fun ls st M h => okX7_mixLeads_20x Z (ih) ls st M h) mm_fa0) h
    · exact h.elim
theorem okX7_mixLeads_5x {p : Program} {l : Launch} {e : Env} {s : State} {m : MethodId} {args : Array Value} {below : List Frame} {meth : Method} {c : Code} {cA : Nat → ClassId} {ad : Nat → Nat} {D : va_G} {A : Nat → Prop} {Q : Option mm_V → mm_M → Prop} (Z : ZX7_mixLeads p l e s m args below meth c cA ad D A) : ∀ ls st M, qX7_mixLeads_5 (fun v3 v5 M => ∃ j, bX7_mixLeads_5 j v3 v5 M (fun r M => Q (some (.inr (.inl r))) M)) ls st M → mm_G p l e (mm_rm 5) s m args below meth c lay_c cA ad D A 7 Q 5 ls st M := by
  intro ls st M h
  have hex : ∃ n, qX7_mixLeads_5 (fun v3 v5 M => bX7_mixLeads_5 n v3 v5 M (fun r M => Q (some (.inr (.inl r))) M)) ls st M := by
    unfold qX7_mixLeads_5 at h
    split at h
    · obtain ⟨hb, h⟩ := mm_chk_e h
      cases (Nat.eq_of_beq_eq_true hb)
      obtain ⟨n, h⟩ := h
      exact ⟨n, h⟩
    · exact h.elim
  obtain ⟨n, hex⟩ := hex
  exact okX7_mixLeads_5 Z  n ls st M hex
theorem okX7_mixLeads : mm_Ok lay_c yX7_mixLeads cX7_mixLeads 7 (some .long) 5 fX7_mixLeads := by
  refine mm_enter (rt := 3) (by decide +kernel) rfl ?_
  intro p l e s m args below meth c cA ad D A as M Q h C0
  have Z : ZX7_mixLeads p l e s m args below meth c cA ad D A := ⟨C0, flRX7_ok, mm_vt_of (mm_fa1 (mm_coV (n := 2) (ci := 6) C0 okX6_payIfLeading rfl rfl (mm_one_at (.methodLink RX7 247 yX6_payIfLeading) 783 (by decide +kernel) rfl) (wX6_payIfLeading _ (by simp)) (wX6_payIfLeading _ (by simp [yX6_payIfLeading])) (wX6_payIfLeading _ (by simp [yX6_payIfLeading])) (wX6_payIfLeading _ (by simp)) (by decide +kernel) (by omega) (by omega)) (mm_fa0)), mm_vt_of (mm_fa1 (mm_coS (n := 2) C0 okX7_mix (mm_one_at (.methodLink RX7 310 yX7_mix) 912 (by decide +kernel) rfl) (wX7_mix _ (by simp)) (wX7_mix _ (by simp [yX7_mix])) (wX7_mix _ (by simp)) (by decide +kernel) (by omega) (by omega)) (mm_fa0)), kX7_mixLeads_ok, mm_ctok_J ctRX7_ok⟩
  unfold fX7_mixLeads at h
  split at h
  · obtain ⟨hb, h⟩ := mm_chk_e h
    cases (Nat.eq_of_beq_eq_true hb)
    exact ⟨Nat.le_of_ble_eq_true rfl, mm_Zb Z 37 0 [(5, qX7_mixLeads_5 (fun v3 v5 M => ∃ j, bX7_mixLeads_5 j v3 v5 M (fun r M => Q (some (.inr (.inl r))) M)))] (mm_fa1 (fun ls st M h => okX7_mixLeads_5x Z  ls st M h) mm_fa0) h⟩
  · exact h.elim
def kX7_digest : List mm_E := [(0, false, .ldc2_w 292, []), (3, false, .lstore_n 1, []), (4, false, .aload_n 0, []), (5, false, .invokevirtual 86, []), (8, false, .ifCond .eq 27, [35]), (11, false, .aload_n 0, []), (12, false, .lload_n 1, []), (13, false, .invokevirtual 294, []), (16, false, .lstore_n 1, []), (17, false, .aload_n 0, []), (18, false, .lload_n 1, []), (19, false, .invokevirtual 298, []), (22, false, .lstore_n 1, []), (23, false, .aload_n 0, []), (24, false, .lload_n 1, []), (25, false, .invokevirtual 301, []), (28, false, .lstore_n 1, []), (29, false, .aload_n 0, []), (30, false, .lload_n 1, []), (31, false, .invokevirtual 304, []), (34, false, .lstore_n 1, []), (35, false, .aload_n 0, []), (36, false, .lload_n 1, []), (37, false, .invokevirtual 307, []), (40, false, .lstore_n 1, []), (41, false, .iconst 0, []), (42, false, .istore_n 3, []), (43, true, .iload_n 3, []), (44, false, .aload_n 0, []), (45, false, .getfield 12, []), (48, false, .getfield 51, []), (51, false, .if_icmp .ge 24, [75]), (54, false, .lload_n 1, []), (55, false, .aload_n 0, []), (56, false, .getfield 12, []), (59, false, .getfield 54, []), (62, false, .iload_n 3, []), (63, false, .iaload, []), (64, false, .i2l, []), (65, false, .invokestatic 310, []), (68, false, .lstore_n 1, []), (69, false, .iinc 3 1, []), (72, false, .goto (-29), [43]), (75, false, .iconst 0, []), (76, false, .istore_n 3, []), (77, true, .iload_n 3, []), (78, false, .bipush 6, []), (80, false, .if_icmp .gt 20, [100]), (83, false, .lload_n 1, []), (84, false, .aload_n 0, []), (85, false, .iload_n 3, []), (86, false, .invokevirtual 314, []), (89, false, .i2l, []), (90, false, .invokestatic 310, []), (93, false, .lstore_n 1, []), (94, false, .iinc 3 1, []), (97, false, .goto (-20), [77]), (100, false, .lload_n 1, []), (101, false, .lreturn, [])]
set_option maxRecDepth 20000 in
theorem kX7_digest_ok : mm_cok cX7_digest RX7 (mm_ctt ctRX7) kX7_digest := mm_c_of (k := false) ctRX7_ok (by decide +kernel)
set_option maxRecDepth 20000 in
theorem wX7_digest : ∀ w ∈ ([.instanceMethod yX7_digest, .selects RX7 yX7_digest yX7_digest, .initialized RX7, .code yX7_digest cX7_digest 4 (some .long)] : List Cond), w ∈ mm_tbl := mm_sub_at _ [903, 904, 104, 905] (by decide +kernel) (by decide +kernel)
def vtX7_digest : List (Nat × Nat × Nat × mm_F) := [(86, 7, 1, fX7_hasNet), (307, 7, 2, fX7_mixLanes), (294, 7, 2, fX7_mixNet), (298, 7, 2, fX7_mixPlayers), (301, 7, 2, fX7_mixSets), (304, 7, 2, fX7_mixLeads), (314, 7, 2, fX7_count)]
def smX7_digest : List (Nat × Nat × Nat × mm_F) := [(310, 0, 2, fX7_mix)]
def ZX7_digest (p : Program) (l : Launch) (e : Env) (s : State) (m : MethodId) (args : Array Value) (below : List Frame) (meth : Method) (c : Code) (cA : Nat → ClassId) (ad : Nat → Nat) (D : va_G) (A : Nat → Prop) : Prop := mm_Z p l e (mm_rm 7) s m args below meth c lay_c cA ad D A RX7 cX7_digest 4 3 (mm_flt flRX7) (mm_clt (vtX7_digest)) (mm_clt (smX7_digest)) (mm_ctt ctRX7) kX7_digest
def qX7_digest_77 (P : Int → Int → mm_M → Prop) : mm_K := fun ls st M => match ls, st with
  | [some (.inr (.inr c0)), some (.inr (.inl v1)), none, some (.inl v3)], [] => mm_chk (Nat.beq c0 0) (P v1 v3 M)
  | _, _ => False
def qX7_digest_43 (P : Int → Int → mm_M → Prop) : mm_K := fun ls st M => match ls, st with
  | [some (.inr (.inr c0)), some (.inr (.inl v1)), none, some (.inl v3)], [] => mm_chk (Nat.beq c0 0) (P v1 v3 M)
  | _, _ => False
theorem okX7_digest_77 {p : Program} {l : Launch} {e : Env} {s : State} {m : MethodId} {args : Array Value} {below : List Frame} {meth : Method} {c : Code} {cA : Nat → ClassId} {ad : Nat → Nat} {D : va_G} {A : Nat → Prop} {Q : Option mm_V → mm_M → Prop} (Z : ZX7_digest p l e s m args below meth c cA ad D A) : ∀ (n : Nat) ls st M, qX7_digest_77 (fun v1 v3 M => bX7_digest_77 n v1 v3 M (fun r M => Q (some (.inr (.inl r))) M)) ls st M → mm_G p l e (mm_rm 7) s m args below meth c lay_c cA ad D A 4 Q 77 ls st M
  | 0, ls, st, M, h => by
    unfold qX7_digest_77 at h
    split at h
    · obtain ⟨hb, h⟩ := mm_chk_e h
      cases (Nat.eq_of_beq_eq_true hb)
      exact h.elim
    · exact h.elim
  | n + 1, ls, st, M, h => by
    have ih := okX7_digest_77 (Q := Q) Z  n
    unfold qX7_digest_77 at h
    split at h
    · obtain ⟨hb, h⟩ := mm_chk_e h
      cases (Nat.eq_of_beq_eq_true hb)
      exact mm_Zb Z 62 77 [(77, qX7_digest_77 (fun v1 v3 M => bX7_digest_77 n v1 v3 M (fun r M => Q (some (.inr (.inl r))) M)))] (mm_fa1 ih mm_fa0) h
    · exact h.elim
theorem okX7_digest_77x {p : Program} {l : Launch} {e : Env} {s : State} {m : MethodId} {args : Array Value} {below : List Frame} {meth : Method} {c : Code} {cA : Nat → ClassId} {ad : Nat → Nat} {D : va_G} {A : Nat → Prop} {Q : Option mm_V → mm_M → Prop} (Z : ZX7_digest p l e s m args below meth c cA ad D A) : ∀ ls st M, qX7_digest_77 (fun v1 v3 M => ∃ j, bX7_digest_77 j v1 v3 M (fun r M => Q (some (.inr (.inl r))) M)) ls st M → mm_G p l e (mm_rm 7) s m args below meth c lay_c cA ad D A 4 Q 77 ls st M := by
  intro ls st M h
  have hex : ∃ n, qX7_digest_77 (fun v1 v3 M => bX7_digest_77 n v1 v3 M (fun r M => Q (some (.inr (.inl r))) M)) ls st M := by
    unfold qX7_digest_77 at h
    split at h
    · obtain ⟨hb, h⟩ := mm_chk_e h
      cases (Nat.eq_of_beq_eq_true hb)
      obtain ⟨n, h⟩ := h
      exact ⟨n, h⟩
    · exact h.elim
  obtain ⟨n, hex⟩ := hex
  exact okX7_digest_77 Z  n ls st M hex
theorem okX7_digest_43 {p : Program} {l : Launch} {e : Env} {s : State} {m : MethodId} {args : Array Value} {below : List Frame} {meth : Method} {c : Code} {cA : Nat → ClassId} {ad : Nat → Nat} {D : va_G} {A : Nat → Prop} {Q : Option mm_V → mm_M → Prop} (Z : ZX7_digest p l e s m args below meth c cA ad D A) : ∀ (n : Nat) ls st M, qX7_digest_43 (fun v1 v3 M => bX7_digest_43 n v1 v3 M (fun r M => Q (some (.inr (.inl r))) M)) ls st M → mm_G p l e (mm_rm 7) s m args below meth c lay_c cA ad D A 4 Q 43 ls st M
  | 0, ls, st, M, h => by
    unfold qX7_digest_43 at h
    split at h
    · obtain ⟨hb, h⟩ := mm_chk_e h
      cases (Nat.eq_of_beq_eq_true hb)
      exact h.elim
    · exact h.elim
  | n + 1, ls, st, M, h => by
    have ih := okX7_digest_43 (Q := Q) Z  n
    unfold qX7_digest_43 at h
    split at h
    · obtain ⟨hb, h⟩ := mm_chk_e h
      cases (Nat.eq_of_beq_eq_true hb)
      exact mm_Zb Z 62 43 [(43, qX7_digest_43 (fun v1 v3 M => bX7_digest_43 n v1 v3 M (fun r M => Q (some (.inr (.inl r))) M))), (77, qX7_digest_77 (fun v1 v3 M => ∃ j, bX7_digest_77 j v1 v3 M (fun r M => Q (some (.inr (.inl r))) M)))] (mm_fa1 ih (mm_fa1 (fun ls st M h => okX7_digest_77x Z  ls st M h) mm_fa0)) h
    · exact h.elim
theorem okX7_digest_43x {p : Program} {l : Launch} {e : Env} {s : State} {m : MethodId} {args : Array Value} {below : List Frame} {meth : Method} {c : Code} {cA : Nat → ClassId} {ad : Nat → Nat} {D : va_G} {A : Nat → Prop} {Q : Option mm_V → mm_M → Prop} (Z : ZX7_digest p l e s m args below meth c cA ad D A) : ∀ ls st M, qX7_digest_43 (fun v1 v3 M => ∃ j, bX7_digest_43 j v1 v3 M (fun r M => Q (some (.inr (.inl r))) M)) ls st M → mm_G p l e (mm_rm 7) s m args below meth c lay_c cA ad D A 4 Q 43 ls st M := by
  intro ls st M h
  have hex : ∃ n, qX7_digest_43 (fun v1 v3 M => bX7_digest_43 n v1 v3 M (fun r M => Q (some (.inr (.inl r))) M)) ls st M := by
    unfold qX7_digest_43 at h
    split at h
    · obtain ⟨hb, h⟩ := mm_chk_e h
      cases (Nat.eq_of_beq_eq_true hb)
      obtain ⟨n, h⟩ := h
      exact ⟨n, h⟩
    · exact h.elim
  obtain ⟨n, hex⟩ := hex
  exact okX7_digest_43 Z  n ls st M hex
theorem okX7_digest : mm_Ok lay_c yX7_digest cX7_digest 4 (some .long) 7 fX7_digest := by
  refine mm_enter (rt := 3) (by decide +kernel) rfl ?_
  intro p l e s m args below meth c cA ad D A as M Q h C0
  have Z : ZX7_digest p l e s m args below meth c cA ad D A := ⟨C0, flRX7_ok, mm_vt_of (mm_fa1 (mm_coV (n := 0) (ci := 7) C0 okX7_hasNet rfl rfl (mm_one_at (.methodLink RX7 86 yX7_hasNet) 543 (by decide +kernel) rfl) (wX7_hasNet _ (by simp)) (wX7_hasNet _ (by simp [yX7_hasNet])) (wX7_hasNet _ (by simp [yX7_hasNet])) (wX7_hasNet _ (by simp)) (by decide +kernel) (by omega) (by omega)) (mm_fa1 (mm_coV (n := 1) (ci := 7) C0 okX7_mixLanes rfl rfl (mm_one_at (.methodLink RX7 307 yX7_mixLanes) 933 (by decide +kernel) rfl) (wX7_mixLanes _ (by simp)) (wX7_mixLanes _ (by simp [yX7_mixLanes])) (wX7_mixLanes _ (by simp [yX7_mixLanes])) (wX7_mixLanes _ (by simp)) (by decide +kernel) (by omega) (by omega)) (mm_fa1 (mm_coV (n := 1) (ci := 7) C0 okX7_mixNet rfl rfl (mm_one_at (.methodLink RX7 294 yX7_mixNet) 907 (by decide +kernel) rfl) (wX7_mixNet _ (by simp)) (wX7_mixNet _ (by simp [yX7_mixNet])) (wX7_mixNet _ (by simp [yX7_mixNet])) (wX7_mixNet _ (by simp)) (by decide +kernel) (by omega) (by omega)) (mm_fa1 (mm_coV (n := 1) (ci := 7) C0 okX7_mixPlayers rfl rfl (mm_one_at (.methodLink RX7 298 yX7_mixPlayers) 917 (by decide +kernel) rfl) (wX7_mixPlayers _ (by simp)) (wX7_mixPlayers _ (by simp [yX7_mixPlayers])) (wX7_mixPlayers _ (by simp [yX7_mixPlayers])) (wX7_mixPlayers _ (by simp)) (by decide +kernel) (by omega) (by omega)) (mm_fa1 (mm_coV (n := 1) (ci := 7) C0 okX7_mixSets rfl rfl (mm_one_at (.methodLink RX7 301 yX7_mixSets) 922 (by decide +kernel) rfl) (wX7_mixSets _ (by simp)) (wX7_mixSets _ (by simp [yX7_mixSets])) (wX7_mixSets _ (by simp [yX7_mixSets])) (wX7_mixSets _ (by simp)) (by decide +kernel) (by omega) (by omega)) (mm_fa1 (mm_coV (n := 1) (ci := 7) C0 okX7_mixLeads rfl rfl (mm_one_at (.methodLink RX7 304 yX7_mixLeads) 929 (by decide +kernel) rfl) (wX7_mixLeads _ (by simp)) (wX7_mixLeads _ (by simp [yX7_mixLeads])) (wX7_mixLeads _ (by simp [yX7_mixLeads])) (wX7_mixLeads _ (by simp)) (by decide +kernel) (by omega) (by omega)) (mm_fa1 (mm_coV (n := 1) (ci := 7) C0 okX7_count rfl rfl (mm_one_at (.methodLink RX7 314 yX7_count) 940 (by decide +kernel) rfl) (wX7_count _ (by simp)) (wX7_count _ (by simp [yX7_count])) (wX7_count _ (by simp [yX7_count])) (wX7_count _ (by simp)) (by decide +kernel) (by omega) (by omega)) (mm_fa0)))))))), mm_vt_of (mm_fa1 (mm_coS (n := 2) C0 okX7_mix (mm_one_at (.methodLink RX7 310 yX7_mix) 912 (by decide +kernel) rfl) (wX7_mix _ (by simp)) (wX7_mix _ (by simp [yX7_mix])) (wX7_mix _ (by simp)) (by decide +kernel) (by omega) (by omega)) (mm_fa0)), kX7_digest_ok, mm_ctok_J ctRX7_ok⟩
  unfold fX7_digest at h
  split at h
  · obtain ⟨hb, h⟩ := mm_chk_e h
    cases (Nat.eq_of_beq_eq_true hb)
    exact ⟨Nat.le_of_ble_eq_true rfl, mm_Zb Z 62 0 [(43, qX7_digest_43 (fun v1 v3 M => ∃ j, bX7_digest_43 j v1 v3 M (fun r M => Q (some (.inr (.inl r))) M)))] (mm_fa1 (fun ls st M h => okX7_digest_43x Z  ls st M h) mm_fa0) h⟩
  · exact h.elim
