def kX8_whoNow : List mm_E := [(0, false, .iload_n 2, []), (1, false, .tableswitch 85 0 5 #[39, 46, 53, 60, 67, 79], [86, 40, 47, 54, 61, 68, 80]), (40, false, .aload_n 0, []), (41, false, .getfield 25, []), (44, false, .iload_n 1, []), (45, false, .iaload, []), (46, false, .ireturn, []), (47, false, .aload_n 0, []), (48, false, .getfield 28, []), (51, false, .iload_n 1, []), (52, false, .iaload, []), (53, false, .ireturn, []), (54, false, .aload_n 0, []), (55, false, .getfield 31, []), (58, false, .iload_n 1, []), (59, false, .iaload, []), (60, false, .ireturn, []), (61, false, .aload_n 0, []), (62, false, .getfield 34, []), (65, false, .iload_n 1, []), (66, false, .iaload, []), (67, false, .ireturn, []), (68, false, .aload_n 0, []), (69, false, .iload_n 1, []), (70, false, .aload_n 0, []), (71, false, .getfield 34, []), (74, false, .iload_n 1, []), (75, false, .iaload, []), (76, false, .invokevirtual 213, []), (79, false, .ireturn, []), (80, false, .aload_n 0, []), (81, false, .iload_n 1, []), (82, false, .invokevirtual 175, []), (85, false, .ireturn, []), (86, false, .aload_n 0, []), (87, false, .iload_n 1, []), (88, false, .aload_n 0, []), (89, false, .iload_n 1, []), (90, false, .invokevirtual 175, []), (93, false, .invokevirtual 213, []), (96, false, .ireturn, [])]
set_option maxRecDepth 20000 in
theorem kX8_whoNow_ok : mm_cok cX8_whoNow RX8 (mm_ctt ctRX8) kX8_whoNow := mm_c_of (k := false) ctRX8_ok (by decide +kernel)
set_option maxRecDepth 20000 in
theorem wX8_whoNow : ∀ w ∈ ([.instanceMethod yX8_whoNow, .selects RX8 yX8_whoNow yX8_whoNow, .initialized RX8, .code yX8_whoNow cX8_whoNow 3 (some .int)] : List Cond), w ∈ mm_tbl := mm_sub_at _ [1280, 61, 112, 1281] (by decide +kernel) (by decide +kernel)
def vtX8_whoNow : List (Nat × Nat × Nat × mm_F) := [(175, 8, 2, fX8_bestWay), (213, 8, 3, fX8_payOf)]
def smX8_whoNow : List (Nat × Nat × Nat × mm_F) := []
def ZX8_whoNow (p : Program) (l : Launch) (e : Env) (s : State) (m : MethodId) (args : Array Value) (below : List Frame) (meth : Method) (c : Code) (cA : Nat → ClassId) (ad : Nat → Nat) (D : va_G) (A : Nat → Prop) : Prop := mm_Z p l e (mm_rm 4) s m args below meth c lay_m cA ad D A RX8 cX8_whoNow 3 1 (mm_flt flRX8) (mm_clt (vtX8_whoNow)) (mm_clt (smX8_whoNow)) (mm_ctt ctRX8) kX8_whoNow
theorem okX8_whoNow : mm_Ok lay_m yX8_whoNow cX8_whoNow 3 (some .int) 4 fX8_whoNow := by
  refine mm_enter (rt := 1) (by decide +kernel) rfl ?_
  intro p l e s m args below meth c cA ad D A as M Q h C0
  have Z : ZX8_whoNow p l e s m args below meth c cA ad D A := ⟨C0, flRX8_ok, mm_vt_of (mm_fa1 (mm_coV (n := 1) (ci := 8) C0 okX8_bestWay rfl rfl (mm_one_at (.methodLink RX8 175 yX8_bestWay) 1202 (by decide +kernel) rfl) (wX8_bestWay _ (by simp)) (wX8_bestWay _ (by simp [yX8_bestWay])) (wX8_bestWay _ (by simp [yX8_bestWay])) (wX8_bestWay _ (by simp)) (by decide +kernel) (by omega) (by omega)) (mm_fa1 (mm_coV (n := 2) (ci := 8) C0 okX8_payOf rfl rfl (mm_one_at (.methodLink RX8 213 yX8_payOf) 1262 (by decide +kernel) rfl) (wX8_payOf _ (by simp)) (wX8_payOf _ (by simp [yX8_payOf])) (wX8_payOf _ (by simp [yX8_payOf])) (wX8_payOf _ (by simp)) (by decide +kernel) (by omega) (by omega)) (mm_fa0))), mm_vt_of (mm_fa0), kX8_whoNow_ok, mm_ctok_J ctRX8_ok⟩
  unfold fX8_whoNow at h
  split at h
  · obtain ⟨hb, h⟩ := mm_chk_e h
    cases (Nat.eq_of_beq_eq_true hb)
    exact ⟨Nat.le_of_ble_eq_true rfl, mm_Zb Z 44 0 [] mm_fa0 h⟩
  · exact h.elim
def kX8_who : List mm_E := [(0, false, .aload_n 0, []), (1, false, .iload_n 1, []), (2, false, .invokevirtual 229, []), (5, false, .ifCond .ne 8, [13]), (8, false, .bipush (-101), []), (10, false, .goto 24, [34]), (13, false, .iload_n 2, []), (14, false, .iconst 0, []), (15, false, .bipush 6, []), (17, false, .invokestatic 105, []), (20, false, .ifCond .eq 12, [32]), (23, false, .aload_n 0, []), (24, false, .iload_n 1, []), (25, false, .iload_n 2, []), (26, false, .invokevirtual 232, []), (29, false, .goto 5, [34]), (32, false, .bipush (-102), []), (34, false, .ireturn, [])]
set_option maxRecDepth 20000 in
theorem kX8_who_ok : mm_cok cX8_who RX8 (mm_ctt ctRX8) kX8_who := mm_c_of (k := false) ctRX8_ok (by decide +kernel)
set_option maxRecDepth 20000 in
theorem wX8_who : ∀ w ∈ ([.instanceMethod yX8_who, .selects RX8 yX8_who yX8_who, .initialized RX8, .code yX8_who cX8_who 3 (some .int)] : List Cond), w ∈ mm_tbl := mm_sub_at _ [1271, 1272, 112, 1273] (by decide +kernel) (by decide +kernel)
def vtX8_who : List (Nat × Nat × Nat × mm_F) := [(229, 8, 2, fX8_isPlayer), (232, 8, 3, fX8_whoNow)]
def smX8_who : List (Nat × Nat × Nat × mm_F) := [(105, 0, 3, fX8_within)]
def ZX8_who (p : Program) (l : Launch) (e : Env) (s : State) (m : MethodId) (args : Array Value) (below : List Frame) (meth : Method) (c : Code) (cA : Nat → ClassId) (ad : Nat → Nat) (D : va_G) (A : Nat → Prop) : Prop := mm_Z p l e (mm_rm 5) s m args below meth c lay_m cA ad D A RX8 cX8_who 3 1 (mm_flt flRX8) (mm_clt (vtX8_who)) (mm_clt (smX8_who)) (mm_ctt ctRX8) kX8_who
theorem okX8_who : mm_Ok lay_m yX8_who cX8_who 3 (some .int) 5 fX8_who := by
  refine mm_enter (rt := 1) (by decide +kernel) rfl ?_
  intro p l e s m args below meth c cA ad D A as M Q h C0
  have Z : ZX8_who p l e s m args below meth c cA ad D A := ⟨C0, flRX8_ok, mm_vt_of (mm_fa1 (mm_coV (n := 1) (ci := 8) C0 okX8_isPlayer rfl rfl (mm_one_at (.methodLink RX8 229 yX8_isPlayer) 1274 (by decide +kernel) rfl) (wX8_isPlayer _ (by simp)) (wX8_isPlayer _ (by simp [yX8_isPlayer])) (wX8_isPlayer _ (by simp [yX8_isPlayer])) (wX8_isPlayer _ (by simp)) (by decide +kernel) (by omega) (by omega)) (mm_fa1 (mm_coV (n := 2) (ci := 8) C0 okX8_whoNow rfl rfl (mm_one_at (.methodLink RX8 232 yX8_whoNow) 1278 (by decide +kernel) rfl) (wX8_whoNow _ (by simp)) (wX8_whoNow _ (by simp [yX8_whoNow])) (wX8_whoNow _ (by simp [yX8_whoNow])) (wX8_whoNow _ (by simp)) (by decide +kernel) (by omega) (by omega)) (mm_fa0))), mm_vt_of (mm_fa1 (mm_coS (n := 3) C0 okX8_within (mm_one_at (.methodLink RX8 105 yX8_within) 1123 (by decide +kernel) rfl) (wX8_within _ (by simp)) (wX8_within _ (by simp [yX8_within])) (wX8_within _ (by simp)) (by decide +kernel) (by omega) (by omega)) (mm_fa0)), kX8_who_ok, mm_ctok_J ctRX8_ok⟩
  unfold fX8_who at h
  split at h
  · obtain ⟨hb, h⟩ := mm_chk_e h
    cases (Nat.eq_of_beq_eq_true hb)
    exact ⟨Nat.le_of_ble_eq_true rfl, mm_Zb Z 21 0 [] mm_fa0 h⟩
  · exact h.elim
def kX8_way : List mm_E := [(0, false, .aload_n 0, []), (1, false, .iload_n 1, []), (2, false, .iload_n 2, []), (3, false, .invokevirtual 235, []), (6, false, .ifCond .eq 28, [34]), (9, false, .iload_n 3, []), (10, false, .iconst 0, []), (11, false, .aload_n 0, []), (12, false, .getfield 37, []), (15, false, .bipush 12, []), (17, false, .iload_n 1, []), (18, false, .imul, []), (19, false, .iload_n 2, []), (20, false, .iadd, []), (21, false, .iaload, []), (22, false, .iconst 1, []), (23, false, .isub, []), (24, false, .invokestatic 105, []), (27, false, .ifCond .eq 7, [34]), (30, false, .iconst 1, []), (31, false, .goto 4, [35]), (34, true, .iconst 0, []), (35, false, .istore 4, []), (37, false, .iload 4, []), (39, false, .ifCond .eq 13, [52]), (42, false, .aload_n 0, []), (43, false, .iload_n 1, []), (44, false, .iload_n 2, []), (45, false, .iload_n 3, []), (46, false, .invokevirtual 158, []), (49, false, .goto 5, [54]), (52, false, .bipush (-101), []), (54, false, .ireturn, [])]
set_option maxRecDepth 20000 in
theorem kX8_way_ok : mm_cok cX8_way RX8 (mm_ctt ctRX8) kX8_way := mm_c_of (k := false) ctRX8_ok (by decide +kernel)
set_option maxRecDepth 20000 in
theorem wX8_way : ∀ w ∈ ([.instanceMethod yX8_way, .selects RX8 yX8_way yX8_way, .initialized RX8, .code yX8_way cX8_way 5 (some .int)] : List Cond), w ∈ mm_tbl := mm_sub_at _ [1283, 1284, 112, 1285] (by decide +kernel) (by decide +kernel)
def vtX8_way : List (Nat × Nat × Nat × mm_F) := [(235, 8, 3, fX8_isWay), (158, 8, 4, fX8_roadOf)]
def smX8_way : List (Nat × Nat × Nat × mm_F) := [(105, 0, 3, fX8_within)]
def ZX8_way (p : Program) (l : Launch) (e : Env) (s : State) (m : MethodId) (args : Array Value) (below : List Frame) (meth : Method) (c : Code) (cA : Nat → ClassId) (ad : Nat → Nat) (D : va_G) (A : Nat → Prop) : Prop := mm_Z p l e (mm_rm 3) s m args below meth c lay_m cA ad D A RX8 cX8_way 5 1 (mm_flt flRX8) (mm_clt (vtX8_way)) (mm_clt (smX8_way)) (mm_ctt ctRX8) kX8_way
def qX8_way_34 (P : Int → Int → Int → mm_M → Prop) : mm_K := fun ls st M => match ls, st with
  | [some (.inr (.inr c0)), some (.inl v1), some (.inl v2), some (.inl v3), none], [] => mm_chk (Nat.beq c0 0) (P v1 v2 v3 M)
  | _, _ => False
theorem okX8_way_34 {p : Program} {l : Launch} {e : Env} {s : State} {m : MethodId} {args : Array Value} {below : List Frame} {meth : Method} {c : Code} {cA : Nat → ClassId} {ad : Nat → Nat} {D : va_G} {A : Nat → Prop} {Q : Option mm_V → mm_M → Prop} (Z : ZX8_way p l e s m args below meth c cA ad D A) : ∀ ls st M, qX8_way_34 (fun v1 v2 v3 M => bX8_way_34 v1 v2 v3 M (fun r M => Q (some (.inl r)) M)) ls st M → mm_G p l e (mm_rm 3) s m args below meth c lay_m cA ad D A 5 Q 34 ls st M := by
  intro ls st M h
  unfold qX8_way_34 at h
  split at h
  · obtain ⟨hb, h⟩ := mm_chk_e h
    cases (Nat.eq_of_beq_eq_true hb)
    exact mm_Zb Z 36 34 [] mm_fa0 h
  · exact h.elim
theorem okX8_way : mm_Ok lay_m yX8_way cX8_way 5 (some .int) 3 fX8_way := by
  refine mm_enter (rt := 1) (by decide +kernel) rfl ?_
  intro p l e s m args below meth c cA ad D A as M Q h C0
  have Z : ZX8_way p l e s m args below meth c cA ad D A := ⟨C0, flRX8_ok, mm_vt_of (mm_fa1 (mm_coV (n := 2) (ci := 8) C0 okX8_isWay rfl rfl (mm_one_at (.methodLink RX8 235 yX8_isWay) 1286 (by decide +kernel) rfl) (wX8_isWay _ (by simp)) (wX8_isWay _ (by simp [yX8_isWay])) (wX8_isWay _ (by simp [yX8_isWay])) (wX8_isWay _ (by simp)) (by decide +kernel) (by omega) (by omega)) (mm_fa1 (mm_coV (n := 3) (ci := 8) C0 okX8_roadOf rfl rfl (mm_one_at (.methodLink RX8 158 yX8_roadOf) 1186 (by decide +kernel) rfl) (wX8_roadOf _ (by simp)) (wX8_roadOf _ (by simp [yX8_roadOf])) (wX8_roadOf _ (by simp [yX8_roadOf])) (wX8_roadOf _ (by simp)) (by decide +kernel) (by omega) (by omega)) (mm_fa0))), mm_vt_of (mm_fa1 (mm_coS (n := 3) C0 okX8_within (mm_one_at (.methodLink RX8 105 yX8_within) 1123 (by decide +kernel) rfl) (wX8_within _ (by simp)) (wX8_within _ (by simp [yX8_within])) (wX8_within _ (by simp)) (by decide +kernel) (by omega) (by omega)) (mm_fa0)), kX8_way_ok, mm_ctok_J ctRX8_ok⟩
  unfold fX8_way at h
  split at h
  · obtain ⟨hb, h⟩ := mm_chk_e h
    cases (Nat.eq_of_beq_eq_true hb)
    exact ⟨Nat.le_of_ble_eq_true rfl, mm_Zb Z 36 0 [(34, qX8_way_34 (fun v1 v2 v3 M => bX8_way_34 v1 v2 v3 M (fun r M => Q (some (.inl r)) M)))] (mm_fa1 (fun ls st M h => okX8_way_34 Z  ls st M h) mm_fa0) h⟩
  · exact h.elim
def kX8_pay : List mm_E := [(0, false, .aload_n 0, []), (1, false, .iload_n 1, []), (2, false, .iload_n 2, []), (3, false, .invokevirtual 235, []), (6, false, .ifCond .eq 12, [18]), (9, false, .aload_n 0, []), (10, false, .iload_n 1, []), (11, false, .iload_n 2, []), (12, false, .invokevirtual 213, []), (15, false, .goto 5, [20]), (18, false, .bipush (-101), []), (20, false, .ireturn, [])]
set_option maxRecDepth 20000 in
theorem kX8_pay_ok : mm_cok cX8_pay RX8 (mm_ctt ctRX8) kX8_pay := mm_c_of (k := false) ctRX8_ok (by decide +kernel)
set_option maxRecDepth 20000 in
theorem wX8_pay : ∀ w ∈ ([.instanceMethod yX8_pay, .selects RX8 yX8_pay yX8_pay, .initialized RX8, .code yX8_pay cX8_pay 3 (some .int)] : List Cond), w ∈ mm_tbl := mm_sub_at _ [1291, 1292, 112, 1293] (by decide +kernel) (by decide +kernel)
def vtX8_pay : List (Nat × Nat × Nat × mm_F) := [(235, 8, 3, fX8_isWay), (213, 8, 3, fX8_payOf)]
def smX8_pay : List (Nat × Nat × Nat × mm_F) := []
def ZX8_pay (p : Program) (l : Launch) (e : Env) (s : State) (m : MethodId) (args : Array Value) (below : List Frame) (meth : Method) (c : Code) (cA : Nat → ClassId) (ad : Nat → Nat) (D : va_G) (A : Nat → Prop) : Prop := mm_Z p l e (mm_rm 4) s m args below meth c lay_m cA ad D A RX8 cX8_pay 3 1 (mm_flt flRX8) (mm_clt (vtX8_pay)) (mm_clt (smX8_pay)) (mm_ctt ctRX8) kX8_pay
theorem okX8_pay : mm_Ok lay_m yX8_pay cX8_pay 3 (some .int) 4 fX8_pay := by
  refine mm_enter (rt := 1) (by decide +kernel) rfl ?_
  intro p l e s m args below meth c cA ad D A as M Q h C0
  have Z : ZX8_pay p l e s m args below meth c cA ad D A := ⟨C0, flRX8_ok, mm_vt_of (mm_fa1 (mm_coV (n := 2) (ci := 8) C0 okX8_isWay rfl rfl (mm_one_at (.methodLink RX8 235 yX8_isWay) 1286 (by decide +kernel) rfl) (wX8_isWay _ (by simp)) (wX8_isWay _ (by simp [yX8_isWay])) (wX8_isWay _ (by simp [yX8_isWay])) (wX8_isWay _ (by simp)) (by decide +kernel) (by omega) (by omega)) (mm_fa1 (mm_coV (n := 2) (ci := 8) C0 okX8_payOf rfl rfl (mm_one_at (.methodLink RX8 213 yX8_payOf) 1262 (by decide +kernel) rfl) (wX8_payOf _ (by simp)) (wX8_payOf _ (by simp [yX8_payOf])) (wX8_payOf _ (by simp [yX8_payOf])) (wX8_payOf _ (by simp)) (by decide +kernel) (by omega) (by omega)) (mm_fa0))), mm_vt_of (mm_fa0), kX8_pay_ok, mm_ctok_J ctRX8_ok⟩
  unfold fX8_pay at h
  split at h
  · obtain ⟨hb, h⟩ := mm_chk_e h
    cases (Nat.eq_of_beq_eq_true hb)
    exact ⟨Nat.le_of_ble_eq_true rfl, mm_Zb Z 15 0 [] mm_fa0 h⟩
  · exact h.elim
def kX8_set : List mm_E := [(0, false, .aload_n 0, []), (1, false, .iload_n 1, []), (2, false, .iload_n 2, []), (3, false, .invokevirtual 235, []), (6, false, .ifCond .ne 6, [12]), (9, false, .bipush (-101), []), (11, false, .ireturn, []), (12, false, .aload_n 0, []), (13, false, .getfield 34, []), (16, false, .iload_n 1, []), (17, false, .iaload, []), (18, false, .istore_n 3, []), (19, false, .aload_n 0, []), (20, false, .getfield 34, []), (23, false, .iload_n 1, []), (24, false, .iload_n 2, []), (25, false, .iastore, []), (26, false, .iload_n 3, []), (27, false, .ireturn, [])]
set_option maxRecDepth 20000 in
theorem kX8_set_ok : mm_cok cX8_set RX8 (mm_ctt ctRX8) kX8_set := mm_c_of (k := false) ctRX8_ok (by decide +kernel)
set_option maxRecDepth 20000 in
theorem wX8_set : ∀ w ∈ ([.instanceMethod yX8_set, .selects RX8 yX8_set yX8_set, .initialized RX8, .code yX8_set cX8_set 4 (some .int)] : List Cond), w ∈ mm_tbl := mm_sub_at _ [1295, 1296, 112, 1297] (by decide +kernel) (by decide +kernel)
def vtX8_set : List (Nat × Nat × Nat × mm_F) := [(235, 8, 3, fX8_isWay)]
def smX8_set : List (Nat × Nat × Nat × mm_F) := []
def ZX8_set (p : Program) (l : Launch) (e : Env) (s : State) (m : MethodId) (args : Array Value) (below : List Frame) (meth : Method) (c : Code) (cA : Nat → ClassId) (ad : Nat → Nat) (D : va_G) (A : Nat → Prop) : Prop := mm_Z p l e (mm_rm 3) s m args below meth c lay_m cA ad D A RX8 cX8_set 4 1 (mm_flt flRX8) (mm_clt (vtX8_set)) (mm_clt (smX8_set)) (mm_ctt ctRX8) kX8_set
theorem okX8_set : mm_Ok lay_m yX8_set cX8_set 4 (some .int) 3 fX8_set := by
  refine mm_enter (rt := 1) (by decide +kernel) rfl ?_
  intro p l e s m args below meth c cA ad D A as M Q h C0
  have Z : ZX8_set p l e s m args below meth c cA ad D A := ⟨C0, flRX8_ok, mm_vt_of (mm_fa1 (mm_coV (n := 2) (ci := 8) C0 okX8_isWay rfl rfl (mm_one_at (.methodLink RX8 235 yX8_isWay) 1286 (by decide +kernel) rfl) (wX8_isWay _ (by simp)) (wX8_isWay _ (by simp [yX8_isWay])) (wX8_isWay _ (by simp [yX8_isWay])) (wX8_isWay _ (by simp)) (by decide +kernel) (by omega) (by omega)) (mm_fa0)), mm_vt_of (mm_fa0), kX8_set_ok, mm_ctok_J ctRX8_ok⟩
  unfold fX8_set at h
  split at h
  · obtain ⟨hb, h⟩ := mm_chk_e h
    cases (Nat.eq_of_beq_eq_true hb)
    exact ⟨Nat.le_of_ble_eq_true rfl, mm_Zb Z 22 0 [] mm_fa0 h⟩
  · exact h.elim
def kX8_turnOf : List mm_E := [(0, false, .aload_n 0, []), (1, false, .iload_n 1, []), (2, false, .invokevirtual 185, []), (5, false, .istore_n 2, []), (6, false, .iload_n 2, []), (7, false, .iconst (-1), []), (8, false, .if_icmp .eq 14, [22]), (11, false, .aload_n 0, []), (12, false, .getfield 34, []), (15, false, .iload_n 2, []), (16, false, .aload_n 0, []), (17, false, .iload_n 2, []), (18, false, .invokevirtual 175, []), (21, false, .iastore, []), (22, false, .iload_n 2, []), (23, false, .ireturn, [])]
set_option maxRecDepth 20000 in
theorem kX8_turnOf_ok : mm_cok cX8_turnOf RX8 (mm_ctt ctRX8) kX8_turnOf := mm_c_of (k := false) ctRX8_ok (by decide +kernel)
set_option maxRecDepth 20000 in
theorem wX8_turnOf : ∀ w ∈ ([.instanceMethod yX8_turnOf, .selects RX8 yX8_turnOf yX8_turnOf, .initialized RX8, .code yX8_turnOf cX8_turnOf 3 (some .int)] : List Cond), w ∈ mm_tbl := mm_sub_at _ [1304, 63, 112, 1305] (by decide +kernel) (by decide +kernel)
def vtX8_turnOf : List (Nat × Nat × Nat × mm_F) := [(185, 8, 2, fX8_restless), (175, 8, 2, fX8_bestWay)]
def smX8_turnOf : List (Nat × Nat × Nat × mm_F) := []
def ZX8_turnOf (p : Program) (l : Launch) (e : Env) (s : State) (m : MethodId) (args : Array Value) (below : List Frame) (meth : Method) (c : Code) (cA : Nat → ClassId) (ad : Nat → Nat) (D : va_G) (A : Nat → Prop) : Prop := mm_Z p l e (mm_rm 5) s m args below meth c lay_m cA ad D A RX8 cX8_turnOf 3 1 (mm_flt flRX8) (mm_clt (vtX8_turnOf)) (mm_clt (smX8_turnOf)) (mm_ctt ctRX8) kX8_turnOf
theorem okX8_turnOf : mm_Ok lay_m yX8_turnOf cX8_turnOf 3 (some .int) 5 fX8_turnOf := by
  refine mm_enter (rt := 1) (by decide +kernel) rfl ?_
  intro p l e s m args below meth c cA ad D A as M Q h C0
  have Z : ZX8_turnOf p l e s m args below meth c cA ad D A := ⟨C0, flRX8_ok, mm_vt_of (mm_fa1 (mm_coV (n := 1) (ci := 8) C0 okX8_restless rfl rfl (mm_one_at (.methodLink RX8 185 yX8_restless) 1198 (by decide +kernel) rfl) (wX8_restless _ (by simp)) (wX8_restless _ (by simp [yX8_restless])) (wX8_restless _ (by simp [yX8_restless])) (wX8_restless _ (by simp)) (by decide +kernel) (by omega) (by omega)) (mm_fa1 (mm_coV (n := 1) (ci := 8) C0 okX8_bestWay rfl rfl (mm_one_at (.methodLink RX8 175 yX8_bestWay) 1202 (by decide +kernel) rfl) (wX8_bestWay _ (by simp)) (wX8_bestWay _ (by simp [yX8_bestWay])) (wX8_bestWay _ (by simp [yX8_bestWay])) (wX8_bestWay _ (by simp)) (by decide +kernel) (by omega) (by omega)) (mm_fa0))), mm_vt_of (mm_fa0), kX8_turnOf_ok, mm_ctok_J ctRX8_ok⟩
  unfold fX8_turnOf at h
  split at h
  · obtain ⟨hb, h⟩ := mm_chk_e h
    cases (Nat.eq_of_beq_eq_true hb)
    exact ⟨Nat.le_of_ble_eq_true rfl, mm_Zb Z 19 0 [] mm_fa0 h⟩
  · exact h.elim
def kX8_turn : List mm_E := [(0, false, .aload_n 0, []), (1, false, .invokevirtual 194, []), (4, false, .ifCond .ne 6, [10]), (7, false, .bipush (-103), []), (9, false, .ireturn, []), (10, false, .aload_n 0, []), (11, false, .iconst (-1), []), (12, false, .invokevirtual 239, []), (15, false, .istore_n 1, []), (16, false, .aload_n 0, []), (17, false, .dup, []), (18, false, .getfield 242, []), (21, false, .iload_n 1, []), (22, false, .iconst (-1), []), (23, false, .if_icmp .ne 7, [30]), (26, false, .iconst 0, []), (27, false, .goto 4, [31]), (30, false, .iconst 1, []), (31, false, .iadd, []), (32, false, .putfield 242, []), (35, false, .iload_n 1, []), (36, false, .ireturn, [])]
set_option maxRecDepth 20000 in
theorem kX8_turn_ok : mm_cok cX8_turn RX8 (mm_ctt ctRX8) kX8_turn := mm_c_of (k := false) ctRX8_ok (by decide +kernel)
set_option maxRecDepth 20000 in
theorem wX8_turn : ∀ w ∈ ([.instanceMethod yX8_turn, .selects RX8 yX8_turn yX8_turn, .initialized RX8, .code yX8_turn cX8_turn 2 (some .int)] : List Cond), w ∈ mm_tbl := mm_sub_at _ [1299, 1300, 112, 1301] (by decide +kernel) (by decide +kernel)
def vtX8_turn : List (Nat × Nat × Nat × mm_F) := [(194, 8, 1, fX8_isNet), (239, 8, 2, fX8_turnOf)]
def smX8_turn : List (Nat × Nat × Nat × mm_F) := []
def ZX8_turn (p : Program) (l : Launch) (e : Env) (s : State) (m : MethodId) (args : Array Value) (below : List Frame) (meth : Method) (c : Code) (cA : Nat → ClassId) (ad : Nat → Nat) (D : va_G) (A : Nat → Prop) : Prop := mm_Z p l e (mm_rm 6) s m args below meth c lay_m cA ad D A RX8 cX8_turn 2 1 (mm_flt flRX8) (mm_clt (vtX8_turn)) (mm_clt (smX8_turn)) (mm_ctt ctRX8) kX8_turn
theorem okX8_turn : mm_Ok lay_m yX8_turn cX8_turn 2 (some .int) 6 fX8_turn := by
  refine mm_enter (rt := 1) (by decide +kernel) rfl ?_
  intro p l e s m args below meth c cA ad D A as M Q h C0
  have Z : ZX8_turn p l e s m args below meth c cA ad D A := ⟨C0, flRX8_ok, mm_vt_of (mm_fa1 (mm_coV (n := 0) (ci := 8) C0 okX8_isNet rfl rfl (mm_one_at (.methodLink RX8 194 yX8_isNet) 1166 (by decide +kernel) rfl) (wX8_isNet _ (by simp)) (wX8_isNet _ (by simp [yX8_isNet])) (wX8_isNet _ (by simp [yX8_isNet])) (wX8_isNet _ (by simp)) (by decide +kernel) (by omega) (by omega)) (mm_fa1 (mm_coV (n := 1) (ci := 8) C0 okX8_turnOf rfl rfl (mm_one_at (.methodLink RX8 239 yX8_turnOf) 1302 (by decide +kernel) rfl) (wX8_turnOf _ (by simp)) (wX8_turnOf _ (by simp [yX8_turnOf])) (wX8_turnOf _ (by simp [yX8_turnOf])) (wX8_turnOf _ (by simp)) (by decide +kernel) (by omega) (by omega)) (mm_fa0))), mm_vt_of (mm_fa0), kX8_turn_ok, mm_ctok_J ctRX8_ok⟩
  unfold fX8_turn at h
  split at h
  · obtain ⟨hb, h⟩ := mm_chk_e h
    cases (Nat.eq_of_beq_eq_true hb)
    exact ⟨Nat.le_of_ble_eq_true rfl, mm_Zb Z 25 0 [] mm_fa0 h⟩
  · exact h.elim
def kX8_run : List mm_E := [(0, false, .iload_n 1, []), (1, false, .iconst 1, []), (2, false, .bipush 60, []), (4, false, .invokestatic 105, []), (7, false, .ifCond .ne 6, [13]), (10, false, .bipush (-102), []), (12, false, .ireturn, []), (13, false, .aload_n 0, []), (14, false, .invokevirtual 194, []), (17, false, .ifCond .ne 6, [23]), (20, false, .bipush (-103), []), (22, false, .ireturn, []), (23, false, .iconst 0, []), (24, false, .istore_n 2, []), (25, true, .iload_n 2, []), (26, false, .iload_n 1, []), (27, false, .if_icmp .ge 18, [45]), (30, false, .aload_n 0, []), (31, false, .iconst (-1), []), (32, false, .invokevirtual 239, []), (35, false, .iconst (-1), []), (36, false, .if_icmp .eq 9, [45]), (39, false, .iinc 2 1, []), (42, false, .goto (-17), [25]), (45, false, .aload_n 0, []), (46, false, .dup, []), (47, false, .getfield 242, []), (50, false, .iload_n 2, []), (51, false, .iadd, []), (52, false, .putfield 242, []), (55, false, .iload_n 2, []), (56, false, .ireturn, [])]
set_option maxRecDepth 20000 in
theorem kX8_run_ok : mm_cok cX8_run RX8 (mm_ctt ctRX8) kX8_run := mm_c_of (k := false) ctRX8_ok (by decide +kernel)
set_option maxRecDepth 20000 in
theorem wX8_run : ∀ w ∈ ([.instanceMethod yX8_run, .selects RX8 yX8_run yX8_run, .initialized RX8, .code yX8_run cX8_run 3 (some .int)] : List Cond), w ∈ mm_tbl := mm_sub_at _ [1307, 1308, 112, 1309] (by decide +kernel) (by decide +kernel)
def vtX8_run : List (Nat × Nat × Nat × mm_F) := [(194, 8, 1, fX8_isNet), (239, 8, 2, fX8_turnOf)]
def smX8_run : List (Nat × Nat × Nat × mm_F) := [(105, 0, 3, fX8_within)]
def ZX8_run (p : Program) (l : Launch) (e : Env) (s : State) (m : MethodId) (args : Array Value) (below : List Frame) (meth : Method) (c : Code) (cA : Nat → ClassId) (ad : Nat → Nat) (D : va_G) (A : Nat → Prop) : Prop := mm_Z p l e (mm_rm 6) s m args below meth c lay_m cA ad D A RX8 cX8_run 3 1 (mm_flt flRX8) (mm_clt (vtX8_run)) (mm_clt (smX8_run)) (mm_ctt ctRX8) kX8_run
def qX8_run_25 (P : Int → Int → mm_M → Prop) : mm_K := fun ls st M => match ls, st with
  | [some (.inr (.inr c0)), some (.inl v1), some (.inl v2)], [] => mm_chk (Nat.beq c0 0) (P v1 v2 M)
  | _, _ => False
theorem okX8_run_25 {p : Program} {l : Launch} {e : Env} {s : State} {m : MethodId} {args : Array Value} {below : List Frame} {meth : Method} {c : Code} {cA : Nat → ClassId} {ad : Nat → Nat} {D : va_G} {A : Nat → Prop} {Q : Option mm_V → mm_M → Prop} (Z : ZX8_run p l e s m args below meth c cA ad D A) : ∀ (n : Nat) ls st M, qX8_run_25 (fun v1 v2 M => bX8_run_25 n v1 v2 M (fun r M => Q (some (.inl r)) M)) ls st M → mm_G p l e (mm_rm 6) s m args below meth c lay_m cA ad D A 3 Q 25 ls st M
  | 0, ls, st, M, h => by
    unfold qX8_run_25 at h
    split at h
    · obtain ⟨hb, h⟩ := mm_chk_e h
      cases (Nat.eq_of_beq_eq_true hb)
      exact h.elim
    · exact h.elim
  | n + 1, ls, st, M, h => by
    have ih := okX8_run_25 (Q := Q) Z  n
    unfold qX8_run_25 at h
    split at h
    · obtain ⟨hb, h⟩ := mm_chk_e h
      cases (Nat.eq_of_beq_eq_true hb)
      exact mm_Zb Z 35 25 [(25, qX8_run_25 (fun v1 v2 M => bX8_run_25 n v1 v2 M (fun r M => Q (some (.inl r)) M)))] (mm_fa1 ih mm_fa0) h
    · exact h.elim
theorem okX8_run_25x {p : Program} {l : Launch} {e : Env} {s : State} {m : MethodId} {args : Array Value} {below : List Frame} {meth : Method} {c : Code} {cA : Nat → ClassId} {ad : Nat → Nat} {D : va_G} {A : Nat → Prop} {Q : Option mm_V → mm_M → Prop} (Z : ZX8_run p l e s m args below meth c cA ad D A) : ∀ ls st M, qX8_run_25 (fun v1 v2 M => ∃ j, bX8_run_25 j v1 v2 M (fun r M => Q (some (.inl r)) M)) ls st M → mm_G p l e (mm_rm 6) s m args below meth c lay_m cA ad D A 3 Q 25 ls st M := by
  intro ls st M h
  have hex : ∃ n, qX8_run_25 (fun v1 v2 M => bX8_run_25 n v1 v2 M (fun r M => Q (some (.inl r)) M)) ls st M := by
    unfold qX8_run_25 at h
    split at h
    · obtain ⟨hb, h⟩ := mm_chk_e h
      cases (Nat.eq_of_beq_eq_true hb)
      obtain ⟨n, h⟩ := h
      exact ⟨n, h⟩
    · exact h.elim
  obtain ⟨n, hex⟩ := hex
  exact okX8_run_25 Z  n ls st M hex
theorem okX8_run : mm_Ok lay_m yX8_run cX8_run 3 (some .int) 6 fX8_run := by
  refine mm_enter (rt := 1) (by decide +kernel) rfl ?_
  intro p l e s m args below meth c cA ad D A as M Q h C0
  have Z : ZX8_run p l e s m args below meth c cA ad D A := ⟨C0, flRX8_ok, mm_vt_of (mm_fa1 (mm_coV (n := 0) (ci := 8) C0 okX8_isNet rfl rfl (mm_one_at (.methodLink RX8 194 yX8_isNet) 1166 (by decide +kernel) rfl) (wX8_isNet _ (by simp)) (wX8_isNet _ (by simp [yX8_isNet])) (wX8_isNet _ (by simp [yX8_isNet])) (wX8_isNet _ (by simp)) (by decide +kernel) (by omega) (by omega)) (mm_fa1 (mm_coV (n := 1) (ci := 8) C0 okX8_turnOf rfl rfl (mm_one_at (.methodLink RX8 239 yX8_turnOf) 1302 (by decide +kernel) rfl) (wX8_turnOf _ (by simp)) (wX8_turnOf _ (by simp [yX8_turnOf])) (wX8_turnOf _ (by simp [yX8_turnOf])) (wX8_turnOf _ (by simp)) (by decide +kernel) (by omega) (by omega)) (mm_fa0))), mm_vt_of (mm_fa1 (mm_coS (n := 3) C0 okX8_within (mm_one_at (.methodLink RX8 105 yX8_within) 1123 (by decide +kernel) rfl) (wX8_within _ (by simp)) (wX8_within _ (by simp [yX8_within])) (wX8_within _ (by simp)) (by decide +kernel) (by omega) (by omega)) (mm_fa0)), kX8_run_ok, mm_ctok_J ctRX8_ok⟩
  unfold fX8_run at h
  split at h
  · obtain ⟨hb, h⟩ := mm_chk_e h
    cases (Nat.eq_of_beq_eq_true hb)
    exact ⟨Nat.le_of_ble_eq_true rfl, mm_Zb Z 35 0 [(25, qX8_run_25 (fun v1 v2 M => ∃ j, bX8_run_25 j v1 v2 M (fun r M => Q (some (.inl r)) M)))] (mm_fa1 (fun ls st M h => okX8_run_25x Z  ls st M h) mm_fa0) h⟩
  · exact h.elim
def kX8_keep : List mm_E := [(0, false, .iconst 0, []), (1, false, .istore_n 1, []), (2, true, .iload_n 1, []), (3, false, .aload_n 0, []), (4, false, .getfield 148, []), (7, false, .if_icmp .ge 21, [28]), (10, false, .aload_n 0, []), (11, false, .getfield 77, []), (14, false, .iload_n 1, []), (15, false, .aload_n 0, []), (16, false, .getfield 34, []), (19, false, .iload_n 1, []), (20, false, .iaload, []), (21, false, .iastore, []), (22, false, .iinc 1 1, []), (25, false, .goto (-23), [2]), (28, false, .return_, [])]
set_option maxRecDepth 20000 in
theorem kX8_keep_ok : mm_cok cX8_keep RX8 (mm_ctt ctRX8) kX8_keep := mm_c_of (k := false) ctRX8_ok (by decide +kernel)
set_option maxRecDepth 20000 in
theorem wX8_keep : ∀ w ∈ ([.instanceMethod yX8_keep, .selects RX8 yX8_keep yX8_keep, .initialized RX8, .code yX8_keep cX8_keep 2 none] : List Cond), w ∈ mm_tbl := mm_sub_at _ [1328, 67, 112, 1329] (by decide +kernel) (by decide +kernel)
def vtX8_keep : List (Nat × Nat × Nat × mm_F) := []
def smX8_keep : List (Nat × Nat × Nat × mm_F) := []
def ZX8_keep (p : Program) (l : Launch) (e : Env) (s : State) (m : MethodId) (args : Array Value) (below : List Frame) (meth : Method) (c : Code) (cA : Nat → ClassId) (ad : Nat → Nat) (D : va_G) (A : Nat → Prop) : Prop := mm_Z p l e (mm_rm 0) s m args below meth c lay_m cA ad D A RX8 cX8_keep 2 0 (mm_flt flRX8) (mm_clt (vtX8_keep)) (mm_clt (smX8_keep)) (mm_ctt ctRX8) kX8_keep
def qX8_keep_2 (P : Int → mm_M → Prop) : mm_K := fun ls st M => match ls, st with
  | [some (.inr (.inr c0)), some (.inl v1)], [] => mm_chk (Nat.beq c0 0) (P v1 M)
  | _, _ => False
theorem okX8_keep_2 {p : Program} {l : Launch} {e : Env} {s : State} {m : MethodId} {args : Array Value} {below : List Frame} {meth : Method} {c : Code} {cA : Nat → ClassId} {ad : Nat → Nat} {D : va_G} {A : Nat → Prop} {Q : Option mm_V → mm_M → Prop} (Z : ZX8_keep p l e s m args below meth c cA ad D A) : ∀ (n : Nat) ls st M, qX8_keep_2 (fun v1 M => bX8_keep_2 n v1 M (fun M => Q none M)) ls st M → mm_G p l e (mm_rm 0) s m args below meth c lay_m cA ad D A 2 Q 2 ls st M
  | 0, ls, st, M, h => by
    unfold qX8_keep_2 at h
    split at h
    · obtain ⟨hb, h⟩ := mm_chk_e h
      cases (Nat.eq_of_beq_eq_true hb)
      exact h.elim
    · exact h.elim
  | n + 1, ls, st, M, h => by
    have ih := okX8_keep_2 (Q := Q) Z  n
    unfold qX8_keep_2 at h
    split at h
    · obtain ⟨hb, h⟩ := mm_chk_e h
      cases (Nat.eq_of_beq_eq_true hb)
      exact mm_Zb Z 20 2 [(2, qX8_keep_2 (fun v1 M => bX8_keep_2 n v1 M (fun M => Q none M)))] (mm_fa1 ih mm_fa0) h
    · exact h.elim
theorem okX8_keep_2x {p : Program} {l : Launch} {e : Env} {s : State} {m : MethodId} {args : Array Value} {below : List Frame} {meth : Method} {c : Code} {cA : Nat → ClassId} {ad : Nat → Nat} {D : va_G} {A : Nat → Prop} {Q : Option mm_V → mm_M → Prop} (Z : ZX8_keep p l e s m args below meth c cA ad D A) : ∀ ls st M, qX8_keep_2 (fun v1 M => ∃ j, bX8_keep_2 j v1 M (fun M => Q none M)) ls st M → mm_G p l e (mm_rm 0) s m args below meth c lay_m cA ad D A 2 Q 2 ls st M := by
  intro ls st M h
  have hex : ∃ n, qX8_keep_2 (fun v1 M => bX8_keep_2 n v1 M (fun M => Q none M)) ls st M := by
    unfold qX8_keep_2 at h
    split at h
    · obtain ⟨hb, h⟩ := mm_chk_e h
      cases (Nat.eq_of_beq_eq_true hb)
      obtain ⟨n, h⟩ := h
      exact ⟨n, h⟩
    · exact h.elim
  obtain ⟨n, hex⟩ := hex
  exact okX8_keep_2 Z  n ls st M hex
theorem okX8_keep : mm_Ok lay_m yX8_keep cX8_keep 2 none 0 fX8_keep := by
  refine mm_enter (rt := 0) (by decide +kernel) rfl ?_
  intro p l e s m args below meth c cA ad D A as M Q h C0
  have Z : ZX8_keep p l e s m args below meth c cA ad D A := ⟨C0, flRX8_ok, mm_vt_of (mm_fa0), mm_vt_of (mm_fa0), kX8_keep_ok, mm_ctok_J ctRX8_ok⟩
  unfold fX8_keep at h
  split at h
  · obtain ⟨hb, h⟩ := mm_chk_e h
    cases (Nat.eq_of_beq_eq_true hb)
    exact ⟨Nat.le_of_ble_eq_true rfl, mm_Zb Z 20 0 [(2, qX8_keep_2 (fun v1 M => ∃ j, bX8_keep_2 j v1 M (fun M => Q none M)))] (mm_fa1 (fun ls st M h => okX8_keep_2x Z  ls st M h) mm_fa0) h⟩
  · exact h.elim
def kX8_putBack : List mm_E := [(0, false, .iconst 0, []), (1, false, .istore_n 1, []), (2, true, .iload_n 1, []), (3, false, .aload_n 0, []), (4, false, .getfield 148, []), (7, false, .if_icmp .ge 21, [28]), (10, false, .aload_n 0, []), (11, false, .getfield 34, []), (14, false, .iload_n 1, []), (15, false, .aload_n 0, []), (16, false, .getfield 77, []), (19, false, .iload_n 1, []), (20, false, .iaload, []), (21, false, .iastore, []), (22, false, .iinc 1 1, []), (25, false, .goto (-23), [2]), (28, false, .return_, [])]
set_option maxRecDepth 20000 in
theorem kX8_putBack_ok : mm_cok cX8_putBack RX8 (mm_ctt ctRX8) kX8_putBack := mm_c_of (k := false) ctRX8_ok (by decide +kernel)
set_option maxRecDepth 20000 in
theorem wX8_putBack : ∀ w ∈ ([.instanceMethod yX8_putBack, .selects RX8 yX8_putBack yX8_putBack, .initialized RX8, .code yX8_putBack cX8_putBack 2 none] : List Cond), w ∈ mm_tbl := mm_sub_at _ [1340, 70, 112, 1341] (by decide +kernel) (by decide +kernel)
def vtX8_putBack : List (Nat × Nat × Nat × mm_F) := []
def smX8_putBack : List (Nat × Nat × Nat × mm_F) := []
def ZX8_putBack (p : Program) (l : Launch) (e : Env) (s : State) (m : MethodId) (args : Array Value) (below : List Frame) (meth : Method) (c : Code) (cA : Nat → ClassId) (ad : Nat → Nat) (D : va_G) (A : Nat → Prop) : Prop := mm_Z p l e (mm_rm 0) s m args below meth c lay_m cA ad D A RX8 cX8_putBack 2 0 (mm_flt flRX8) (mm_clt (vtX8_putBack)) (mm_clt (smX8_putBack)) (mm_ctt ctRX8) kX8_putBack
def qX8_putBack_2 (P : Int → mm_M → Prop) : mm_K := fun ls st M => match ls, st with
  | [some (.inr (.inr c0)), some (.inl v1)], [] => mm_chk (Nat.beq c0 0) (P v1 M)
  | _, _ => False
theorem okX8_putBack_2 {p : Program} {l : Launch} {e : Env} {s : State} {m : MethodId} {args : Array Value} {below : List Frame} {meth : Method} {c : Code} {cA : Nat → ClassId} {ad : Nat → Nat} {D : va_G} {A : Nat → Prop} {Q : Option mm_V → mm_M → Prop} (Z : ZX8_putBack p l e s m args below meth c cA ad D A) : ∀ (n : Nat) ls st M, qX8_putBack_2 (fun v1 M => bX8_putBack_2 n v1 M (fun M => Q none M)) ls st M → mm_G p l e (mm_rm 0) s m args below meth c lay_m cA ad D A 2 Q 2 ls st M
  | 0, ls, st, M, h => by
    unfold qX8_putBack_2 at h
    split at h
    · obtain ⟨hb, h⟩ := mm_chk_e h
      cases (Nat.eq_of_beq_eq_true hb)
      exact h.elim
    · exact h.elim
  | n + 1, ls, st, M, h => by
    have ih := okX8_putBack_2 (Q := Q) Z  n
    unfold qX8_putBack_2 at h
    split at h
    · obtain ⟨hb, h⟩ := mm_chk_e h
      cases (Nat.eq_of_beq_eq_true hb)
      exact mm_Zb Z 20 2 [(2, qX8_putBack_2 (fun v1 M => bX8_putBack_2 n v1 M (fun M => Q none M)))] (mm_fa1 ih mm_fa0) h
    · exact h.elim
theorem okX8_putBack_2x {p : Program} {l : Launch} {e : Env} {s : State} {m : MethodId} {args : Array Value} {below : List Frame} {meth : Method} {c : Code} {cA : Nat → ClassId} {ad : Nat → Nat} {D : va_G} {A : Nat → Prop} {Q : Option mm_V → mm_M → Prop} (Z : ZX8_putBack p l e s m args below meth c cA ad D A) : ∀ ls st M, qX8_putBack_2 (fun v1 M => ∃ j, bX8_putBack_2 j v1 M (fun M => Q none M)) ls st M → mm_G p l e (mm_rm 0) s m args below meth c lay_m cA ad D A 2 Q 2 ls st M := by
  intro ls st M h
  have hex : ∃ n, qX8_putBack_2 (fun v1 M => bX8_putBack_2 n v1 M (fun M => Q none M)) ls st M := by
    unfold qX8_putBack_2 at h
    split at h
    · obtain ⟨hb, h⟩ := mm_chk_e h
      cases (Nat.eq_of_beq_eq_true hb)
      obtain ⟨n, h⟩ := h
      exact ⟨n, h⟩
    · exact h.elim
  obtain ⟨n, hex⟩ := hex
  exact okX8_putBack_2 Z  n ls st M hex
theorem okX8_putBack : mm_Ok lay_m yX8_putBack cX8_putBack 2 none 0 fX8_putBack := by
  refine mm_enter (rt := 0) (by decide +kernel) rfl ?_
  intro p l e s m args below meth c cA ad D A as M Q h C0
  have Z : ZX8_putBack p l e s m args below meth c cA ad D A := ⟨C0, flRX8_ok, mm_vt_of (mm_fa0), mm_vt_of (mm_fa0), kX8_putBack_ok, mm_ctok_J ctRX8_ok⟩
  unfold fX8_putBack at h
  split at h
  · obtain ⟨hb, h⟩ := mm_chk_e h
    cases (Nat.eq_of_beq_eq_true hb)
    exact ⟨Nat.le_of_ble_eq_true rfl, mm_Zb Z 20 0 [(2, qX8_putBack_2 (fun v1 M => ∃ j, bX8_putBack_2 j v1 M (fun M => Q none M)))] (mm_fa1 (fun ls st M h => okX8_putBack_2x Z  ls st M h) mm_fa0) h⟩
  · exact h.elim
def kX8_take : List mm_E := [(0, false, .iload_n 1, []), (1, false, .istore_n 2, []), (2, false, .aload_n 0, []), (3, false, .getfield 148, []), (6, false, .iconst 1, []), (7, false, .isub, []), (8, false, .istore_n 3, []), (9, true, .iload_n 3, []), (10, false, .ifCond .lt 32, [42]), (13, false, .aload_n 0, []), (14, false, .getfield 34, []), (17, false, .iload_n 3, []), (18, false, .iload_n 2, []), (19, false, .aload_n 0, []), (20, false, .getfield 31, []), (23, false, .iload_n 3, []), (24, false, .iaload, []), (25, false, .irem, []), (26, false, .iastore, []), (27, false, .iload_n 2, []), (28, false, .aload_n 0, []), (29, false, .getfield 31, []), (32, false, .iload_n 3, []), (33, false, .iaload, []), (34, false, .idiv, []), (35, false, .istore_n 2, []), (36, false, .iinc 3 (-1), []), (39, false, .goto (-30), [9]), (42, false, .return_, [])]
set_option maxRecDepth 20000 in
theorem kX8_take_ok : mm_cok cX8_take RX8 (mm_ctt ctRX8) kX8_take := mm_c_of (k := false) ctRX8_ok (by decide +kernel)
set_option maxRecDepth 20000 in
theorem wX8_take : ∀ w ∈ ([.instanceMethod yX8_take, .selects RX8 yX8_take yX8_take, .initialized RX8, .code yX8_take cX8_take 4 none] : List Cond), w ∈ mm_tbl := mm_sub_at _ [1336, 69, 112, 1337] (by decide +kernel) (by decide +kernel)
def vtX8_take : List (Nat × Nat × Nat × mm_F) := []
def smX8_take : List (Nat × Nat × Nat × mm_F) := []
def ZX8_take (p : Program) (l : Launch) (e : Env) (s : State) (m : MethodId) (args : Array Value) (below : List Frame) (meth : Method) (c : Code) (cA : Nat → ClassId) (ad : Nat → Nat) (D : va_G) (A : Nat → Prop) : Prop := mm_Z p l e (mm_rm 0) s m args below meth c lay_m cA ad D A RX8 cX8_take 4 0 (mm_flt flRX8) (mm_clt (vtX8_take)) (mm_clt (smX8_take)) (mm_ctt ctRX8) kX8_take
def qX8_take_9 (P : Int → Int → Int → mm_M → Prop) : mm_K := fun ls st M => match ls, st with
  | [some (.inr (.inr c0)), some (.inl v1), some (.inl v2), some (.inl v3)], [] => mm_chk (Nat.beq c0 0) (P v1 v2 v3 M)
  | _, _ => False
theorem okX8_take_9 {p : Program} {l : Launch} {e : Env} {s : State} {m : MethodId} {args : Array Value} {below : List Frame} {meth : Method} {c : Code} {cA : Nat → ClassId} {ad : Nat → Nat} {D : va_G} {A : Nat → Prop} {Q : Option mm_V → mm_M → Prop} (Z : ZX8_take p l e s m args below meth c cA ad D A) : ∀ (n : Nat) ls st M, qX8_take_9 (fun v1 v2 v3 M => bX8_take_9 n v1 v2 v3 M (fun M => Q none M)) ls st M → mm_G p l e (mm_rm 0) s m args below meth c lay_m cA ad D A 4 Q 9 ls st M
  | 0, ls, st, M, h => by
    unfold qX8_take_9 at h
    split at h
    · obtain ⟨hb, h⟩ := mm_chk_e h
      cases (Nat.eq_of_beq_eq_true hb)
      exact h.elim
    · exact h.elim
  | n + 1, ls, st, M, h => by
    have ih := okX8_take_9 (Q := Q) Z  n
    unfold qX8_take_9 at h
    split at h
    · obtain ⟨hb, h⟩ := mm_chk_e h
      cases (Nat.eq_of_beq_eq_true hb)
      exact mm_Zb Z 32 9 [(9, qX8_take_9 (fun v1 v2 v3 M => bX8_take_9 n v1 v2 v3 M (fun M => Q none M)))] (mm_fa1 ih mm_fa0) h
    · exact h.elim
theorem okX8_take_9x {p : Program} {l : Launch} {e : Env} {s : State} {m : MethodId} {args : Array Value} {below : List Frame} {meth : Method} {c : Code} {cA : Nat → ClassId} {ad : Nat → Nat} {D : va_G} {A : Nat → Prop} {Q : Option mm_V → mm_M → Prop} (Z : ZX8_take p l e s m args below meth c cA ad D A) : ∀ ls st M, qX8_take_9 (fun v1 v2 v3 M => ∃ j, bX8_take_9 j v1 v2 v3 M (fun M => Q none M)) ls st M → mm_G p l e (mm_rm 0) s m args below meth c lay_m cA ad D A 4 Q 9 ls st M := by
  intro ls st M h
  have hex : ∃ n, qX8_take_9 (fun v1 v2 v3 M => bX8_take_9 n v1 v2 v3 M (fun M => Q none M)) ls st M := by
    unfold qX8_take_9 at h
    split at h
    · obtain ⟨hb, h⟩ := mm_chk_e h
      cases (Nat.eq_of_beq_eq_true hb)
      obtain ⟨n, h⟩ := h
      exact ⟨n, h⟩
    · exact h.elim
  obtain ⟨n, hex⟩ := hex
  exact okX8_take_9 Z  n ls st M hex
theorem okX8_take : mm_Ok lay_m yX8_take cX8_take 4 none 0 fX8_take := by
  refine mm_enter (rt := 0) (by decide +kernel) rfl ?_
  intro p l e s m args below meth c cA ad D A as M Q h C0
  have Z : ZX8_take p l e s m args below meth c cA ad D A := ⟨C0, flRX8_ok, mm_vt_of (mm_fa0), mm_vt_of (mm_fa0), kX8_take_ok, mm_ctok_J ctRX8_ok⟩
  unfold fX8_take at h
  split at h
  · obtain ⟨hb, h⟩ := mm_chk_e h
    cases (Nat.eq_of_beq_eq_true hb)
    exact ⟨Nat.le_of_ble_eq_true rfl, mm_Zb Z 32 0 [(9, qX8_take_9 (fun v1 v2 v3 M => ∃ j, bX8_take_9 j v1 v2 v3 M (fun M => Q none M)))] (mm_fa1 (fun ls st M h => okX8_take_9x Z  ls st M h) mm_fa0) h⟩
  · exact h.elim
def kX8_numberNow : List mm_E := [(0, false, .iconst 0, []), (1, false, .istore_n 1, []), (2, false, .iconst 0, []), (3, false, .istore_n 2, []), (4, true, .iload_n 2, []), (5, false, .aload_n 0, []), (6, false, .getfield 148, []), (9, false, .if_icmp .ge 25, [34]), (12, false, .iload_n 1, []), (13, false, .aload_n 0, []), (14, false, .getfield 31, []), (17, false, .iload_n 2, []), (18, false, .iaload, []), (19, false, .imul, []), (20, false, .aload_n 0, []), (21, false, .getfield 34, []), (24, false, .iload_n 2, []), (25, false, .iaload, []), (26, false, .iadd, []), (27, false, .istore_n 1, []), (28, false, .iinc 2 1, []), (31, false, .goto (-27), [4]), (34, false, .iload_n 1, []), (35, false, .ireturn, [])]
set_option maxRecDepth 20000 in
theorem kX8_numberNow_ok : mm_cok cX8_numberNow RX8 (mm_ctt ctRX8) kX8_numberNow := mm_c_of (k := false) ctRX8_ok (by decide +kernel)
set_option maxRecDepth 20000 in
theorem wX8_numberNow : ∀ w ∈ ([.instanceMethod yX8_numberNow, .selects RX8 yX8_numberNow yX8_numberNow, .initialized RX8, .code yX8_numberNow cX8_numberNow 3 (some .int)] : List Cond), w ∈ mm_tbl := mm_sub_at _ [1382, 74, 112, 1383] (by decide +kernel) (by decide +kernel)
def vtX8_numberNow : List (Nat × Nat × Nat × mm_F) := []
def smX8_numberNow : List (Nat × Nat × Nat × mm_F) := []
def ZX8_numberNow (p : Program) (l : Launch) (e : Env) (s : State) (m : MethodId) (args : Array Value) (below : List Frame) (meth : Method) (c : Code) (cA : Nat → ClassId) (ad : Nat → Nat) (D : va_G) (A : Nat → Prop) : Prop := mm_Z p l e (mm_rm 0) s m args below meth c lay_m cA ad D A RX8 cX8_numberNow 3 1 (mm_flt flRX8) (mm_clt (vtX8_numberNow)) (mm_clt (smX8_numberNow)) (mm_ctt ctRX8) kX8_numberNow
def qX8_numberNow_4 (P : Int → Int → mm_M → Prop) : mm_K := fun ls st M => match ls, st with
  | [some (.inr (.inr c0)), some (.inl v1), some (.inl v2)], [] => mm_chk (Nat.beq c0 0) (P v1 v2 M)
  | _, _ => False
theorem okX8_numberNow_4 {p : Program} {l : Launch} {e : Env} {s : State} {m : MethodId} {args : Array Value} {below : List Frame} {meth : Method} {c : Code} {cA : Nat → ClassId} {ad : Nat → Nat} {D : va_G} {A : Nat → Prop} {Q : Option mm_V → mm_M → Prop} (Z : ZX8_numberNow p l e s m args below meth c cA ad D A) : ∀ (n : Nat) ls st M, qX8_numberNow_4 (fun v1 v2 M => bX8_numberNow_4 n v1 v2 M (fun r M => Q (some (.inl r)) M)) ls st M → mm_G p l e (mm_rm 0) s m args below meth c lay_m cA ad D A 3 Q 4 ls st M
  | 0, ls, st, M, h => by
    unfold qX8_numberNow_4 at h
    split at h
    · obtain ⟨hb, h⟩ := mm_chk_e h
      cases (Nat.eq_of_beq_eq_true hb)
      exact h.elim
    · exact h.elim
  | n + 1, ls, st, M, h => by
    have ih := okX8_numberNow_4 (Q := Q) Z  n
    unfold qX8_numberNow_4 at h
    split at h
    · obtain ⟨hb, h⟩ := mm_chk_e h
      cases (Nat.eq_of_beq_eq_true hb)
      exact mm_Zb Z 27 4 [(4, qX8_numberNow_4 (fun v1 v2 M => bX8_numberNow_4 n v1 v2 M (fun r M => Q (some (.inl r)) M)))] (mm_fa1 ih mm_fa0) h
    · exact h.elim
theorem okX8_numberNow_4x {p : Program} {l : Launch} {e : Env} {s : State} {m : MethodId} {args : Array Value} {below : List Frame} {meth : Method} {c : Code} {cA : Nat → ClassId} {ad : Nat → Nat} {D : va_G} {A : Nat → Prop} {Q : Option mm_V → mm_M → Prop} (Z : ZX8_numberNow p l e s m args below meth c cA ad D A) : ∀ ls st M, qX8_numberNow_4 (fun v1 v2 M => ∃ j, bX8_numberNow_4 j v1 v2 M (fun r M => Q (some (.inl r)) M)) ls st M → mm_G p l e (mm_rm 0) s m args below meth c lay_m cA ad D A 3 Q 4 ls st M := by
  intro ls st M h
  have hex : ∃ n, qX8_numberNow_4 (fun v1 v2 M => bX8_numberNow_4 n v1 v2 M (fun r M => Q (some (.inl r)) M)) ls st M := by
    unfold qX8_numberNow_4 at h
    split at h
    · obtain ⟨hb, h⟩ := mm_chk_e h
      cases (Nat.eq_of_beq_eq_true hb)
      obtain ⟨n, h⟩ := h
      exact ⟨n, h⟩
    · exact h.elim
  obtain ⟨n, hex⟩ := hex
  exact okX8_numberNow_4 Z  n ls st M hex
theorem okX8_numberNow : mm_Ok lay_m yX8_numberNow cX8_numberNow 3 (some .int) 0 fX8_numberNow := by
  refine mm_enter (rt := 1) (by decide +kernel) rfl ?_
  intro p l e s m args below meth c cA ad D A as M Q h C0
  have Z : ZX8_numberNow p l e s m args below meth c cA ad D A := ⟨C0, flRX8_ok, mm_vt_of (mm_fa0), mm_vt_of (mm_fa0), kX8_numberNow_ok, mm_ctok_J ctRX8_ok⟩
  unfold fX8_numberNow at h
  split at h
  · obtain ⟨hb, h⟩ := mm_chk_e h
    cases (Nat.eq_of_beq_eq_true hb)
    exact ⟨Nat.le_of_ble_eq_true rfl, mm_Zb Z 27 0 [(4, qX8_numberNow_4 (fun v1 v2 M => ∃ j, bX8_numberNow_4 j v1 v2 M (fun r M => Q (some (.inl r)) M)))] (mm_fa1 (fun ls st M h => okX8_numberNow_4x Z  ls st M h) mm_fa0) h⟩
  · exact h.elim
def kX8_isCounted : List mm_E := [(0, false, .aload_n 0, []), (1, false, .getfield 148, []), (4, false, .ifCond .le 17, [21]), (7, false, .aload_n 0, []), (8, false, .invokevirtual 188, []), (11, false, .sipush 500, []), (14, false, .if_icmp .gt 7, [21]), (17, false, .iconst 1, []), (18, false, .goto 4, [22]), (21, false, .iconst 0, []), (22, false, .ireturn, [])]
set_option maxRecDepth 20000 in
theorem kX8_isCounted_ok : mm_cok cX8_isCounted RX8 (mm_ctt ctRX8) kX8_isCounted := mm_c_of (k := false) ctRX8_ok (by decide +kernel)
set_option maxRecDepth 20000 in
theorem wX8_isCounted : ∀ w ∈ ([.instanceMethod yX8_isCounted, .selects RX8 yX8_isCounted yX8_isCounted, .initialized RX8, .code yX8_isCounted cX8_isCounted 1 (some .boolean)] : List Cond), w ∈ mm_tbl := mm_sub_at _ [1316, 64, 112, 1317] (by decide +kernel) (by decide +kernel)
def vtX8_isCounted : List (Nat × Nat × Nat × mm_F) := [(188, 8, 1, fX8_setsAll)]
def smX8_isCounted : List (Nat × Nat × Nat × mm_F) := []
def ZX8_isCounted (p : Program) (l : Launch) (e : Env) (s : State) (m : MethodId) (args : Array Value) (below : List Frame) (meth : Method) (c : Code) (cA : Nat → ClassId) (ad : Nat → Nat) (D : va_G) (A : Nat → Prop) : Prop := mm_Z p l e (mm_rm 1) s m args below meth c lay_m cA ad D A RX8 cX8_isCounted 1 2 (mm_flt flRX8) (mm_clt (vtX8_isCounted)) (mm_clt (smX8_isCounted)) (mm_ctt ctRX8) kX8_isCounted
theorem okX8_isCounted : mm_Ok lay_m yX8_isCounted cX8_isCounted 1 (some .boolean) 1 fX8_isCounted := by
  refine mm_enter (rt := 2) (by decide +kernel) rfl ?_
  intro p l e s m args below meth c cA ad D A as M Q h C0
  have Z : ZX8_isCounted p l e s m args below meth c cA ad D A := ⟨C0, flRX8_ok, mm_vt_of (mm_fa1 (mm_coV (n := 0) (ci := 8) C0 okX8_setsAll rfl rfl (mm_one_at (.methodLink RX8 188 yX8_setsAll) 1210 (by decide +kernel) rfl) (wX8_setsAll _ (by simp)) (wX8_setsAll _ (by simp [yX8_setsAll])) (wX8_setsAll _ (by simp [yX8_setsAll])) (wX8_setsAll _ (by simp)) (by decide +kernel) (by omega) (by omega)) (mm_fa0)), mm_vt_of (mm_fa0), kX8_isCounted_ok, mm_ctok_J ctRX8_ok⟩
  unfold fX8_isCounted at h
  split at h
  · obtain ⟨hb, h⟩ := mm_chk_e h
    cases (Nat.eq_of_beq_eq_true hb)
    exact ⟨Nat.le_of_ble_eq_true rfl, mm_Zb Z 14 0 [] mm_fa0 h⟩
  · exact h.elim
def kX8_beginRests : List mm_E := [(0, false, .aload_n 0, []), (1, false, .iconst 0, []), (2, false, .putfield 245, []), (5, false, .aload_n 0, []), (6, false, .iconst 0, []), (7, false, .putfield 248, []), (10, false, .aload_n 0, []), (11, false, .iconst 0, []), (12, false, .putfield 251, []), (15, false, .aload_n 0, []), (16, false, .iconst 0, []), (17, false, .putfield 254, []), (20, false, .aload_n 0, []), (21, false, .iconst 0, []), (22, false, .putfield 257, []), (25, false, .aload_n 0, []), (26, false, .iconst 0, []), (27, false, .putfield 260, []), (30, false, .aload_n 0, []), (31, false, .iconst (-1), []), (32, false, .putfield 263, []), (35, false, .return_, [])]
set_option maxRecDepth 20000 in
theorem kX8_beginRests_ok : mm_cok cX8_beginRests RX8 (mm_ctt ctRX8) kX8_beginRests := mm_c_of (k := false) ctRX8_ok (by decide +kernel)
set_option maxRecDepth 20000 in
theorem wX8_beginRests : ∀ w ∈ ([.instanceMethod yX8_beginRests, .selects RX8 yX8_beginRests yX8_beginRests, .initialized RX8, .code yX8_beginRests cX8_beginRests 1 none] : List Cond), w ∈ mm_tbl := mm_sub_at _ [1332, 68, 112, 1333] (by decide +kernel) (by decide +kernel)
def vtX8_beginRests : List (Nat × Nat × Nat × mm_F) := []
def smX8_beginRests : List (Nat × Nat × Nat × mm_F) := []
def ZX8_beginRests (p : Program) (l : Launch) (e : Env) (s : State) (m : MethodId) (args : Array Value) (below : List Frame) (meth : Method) (c : Code) (cA : Nat → ClassId) (ad : Nat → Nat) (D : va_G) (A : Nat → Prop) : Prop := mm_Z p l e (mm_rm 0) s m args below meth c lay_m cA ad D A RX8 cX8_beginRests 1 0 (mm_flt flRX8) (mm_clt (vtX8_beginRests)) (mm_clt (smX8_beginRests)) (mm_ctt ctRX8) kX8_beginRests
theorem okX8_beginRests : mm_Ok lay_m yX8_beginRests cX8_beginRests 1 none 0 fX8_beginRests := by
  refine mm_enter (rt := 0) (by decide +kernel) rfl ?_
  intro p l e s m args below meth c cA ad D A as M Q h C0
  have Z : ZX8_beginRests p l e s m args below meth c cA ad D A := ⟨C0, flRX8_ok, mm_vt_of (mm_fa0), mm_vt_of (mm_fa0), kX8_beginRests_ok, mm_ctok_J ctRX8_ok⟩
  unfold fX8_beginRests at h
  split at h
  · obtain ⟨hb, h⟩ := mm_chk_e h
    cases (Nat.eq_of_beq_eq_true hb)
    exact ⟨Nat.le_of_ble_eq_true rfl, mm_Zb Z 25 0 [] mm_fa0 h⟩
  · exact h.elim
def kX8_layRests : List mm_E := [(0, false, .aload_n 0, []), (1, false, .invokevirtual 266, []), (4, false, .aload_n 0, []), (5, false, .invokevirtual 269, []), (8, false, .aload_n 0, []), (9, false, .invokevirtual 188, []), (12, false, .istore_n 1, []), (13, false, .iconst 0, []), (14, false, .istore_n 2, []), (15, true, .iload_n 2, []), (16, false, .iload_n 1, []), (17, false, .if_icmp .ge 211, [228]), (20, false, .aload_n 0, []), (21, false, .iload_n 2, []), (22, false, .invokevirtual 272, []), (25, false, .aload_n 0, []), (26, false, .invokevirtual 179, []), (29, false, .istore_n 3, []), (30, false, .aload_n 0, []), (31, false, .invokevirtual 182, []), (34, false, .istore 4, []), (36, false, .iload_n 2, []), (37, false, .ifCond .eq 11, [48]), (40, false, .iload_n 3, []), (41, false, .aload_n 0, []), (42, false, .getfield 257, []), (45, false, .if_icmp .ge 7, [52]), (48, false, .iconst 1, []), (49, false, .goto 4, [53]), (52, false, .iconst 0, []), (53, false, .istore 5, []), (55, false, .aload_n 0, []), (56, false, .iload 5, []), (58, false, .ifCond .eq 7, [65]), (61, false, .iload_n 2, []), (62, false, .goto 7, [69]), (65, false, .aload_n 0, []), (66, false, .getfield 263, []), (69, true, .putfield 263, []), (72, false, .aload_n 0, []), (73, false, .iload 5, []), (75, false, .ifCond .eq 7, [82]), (78, false, .iconst 1, []), (79, false, .goto 24, [103]), (82, false, .iload_n 3, []), (83, false, .aload_n 0, []), (84, false, .getfield 257, []), (87, false, .if_icmp .ne 12, [99]), (90, false, .aload_n 0, []), (91, false, .getfield 254, []), (94, false, .iconst 1, []), (95, false, .iadd, []), (96, false, .goto 7, [103]), (99, false, .aload_n 0, []), (100, false, .getfield 254, []), (103, false, .putfield 254, []), (106, false, .aload_n 0, []), (107, false, .iload 5, []), (109, false, .ifCond .eq 7, [116]), (112, false, .iload_n 3, []), (113, false, .goto 7, [120]), (116, false, .aload_n 0, []), (117, false, .getfield 257, []), (120, true, .putfield 257, []), (123, false, .aload_n 0, []), (124, false, .iload_n 2, []), (125, false, .ifCond .eq 12, [137]), (128, false, .iload 4, []), (130, false, .aload_n 0, []), (131, false, .getfield 260, []), (134, false, .if_icmp .ge 8, [142]), (137, false, .iload 4, []), (139, false, .goto 7, [146]), (142, false, .aload_n 0, []), (143, false, .getfield 260, []), (146, true, .putfield 260, []), (149, false, .aload_n 0, []), (150, false, .iconst (-1), []), (151, false, .invokevirtual 185, []), (154, false, .iconst (-1), []), (155, false, .if_icmp .ne 67, [222]), (158, false, .aload_n 0, []), (159, false, .aload_n 0, []), (160, false, .getfield 245, []), (163, false, .ifCond .eq 11, [174]), (166, false, .iload_n 3, []), (167, false, .aload_n 0, []), (168, false, .getfield 248, []), (171, false, .if_icmp .ge 7, [178]), (174, false, .iload_n 3, []), (175, false, .goto 7, [182]), (178, false, .aload_n 0, []), (179, false, .getfield 248, []), (182, true, .putfield 248, []), (185, false, .aload_n 0, []), (186, false, .aload_n 0, []), (187, false, .getfield 245, []), (190, false, .ifCond .eq 11, [201]), (193, false, .iload_n 3, []), (194, false, .aload_n 0, []), (195, false, .getfield 251, []), (198, false, .if_icmp .le 7, [205]), (201, false, .iload_n 3, []), (202, false, .goto 7, [209]), (205, false, .aload_n 0, []), (206, false, .getfield 251, []), (209, false, .putfield 251, []), (212, false, .aload_n 0, []), (213, false, .dup, []), (214, false, .getfield 245, []), (217, false, .iconst 1, []), (218, false, .iadd, []), (219, false, .putfield 245, []), (222, false, .iinc 2 1, []), (225, false, .goto (-210), [15]), (228, false, .aload_n 0, []), (229, false, .invokevirtual 276, []), (232, false, .return_, [])]
set_option maxRecDepth 20000 in
theorem kX8_layRests_ok : mm_cok cX8_layRests RX8 (mm_ctt ctRX8) kX8_layRests := mm_c_of (k := false) ctRX8_ok (by decide +kernel)
set_option maxRecDepth 20000 in
theorem wX8_layRests : ∀ w ∈ ([.instanceMethod yX8_layRests, .selects RX8 yX8_layRests yX8_layRests, .initialized RX8, .code yX8_layRests cX8_layRests 6 none] : List Cond), w ∈ mm_tbl := mm_sub_at _ [1324, 66, 112, 1325] (by decide +kernel) (by decide +kernel)
def vtX8_layRests : List (Nat × Nat × Nat × mm_F) := [(266, 8, 1, fX8_keep), (269, 8, 1, fX8_beginRests), (188, 8, 1, fX8_setsAll), (276, 8, 1, fX8_putBack), (272, 8, 2, fX8_take), (179, 8, 1, fX8_socialNow), (182, 8, 1, fX8_potentialNow), (185, 8, 2, fX8_restless)]
def smX8_layRests : List (Nat × Nat × Nat × mm_F) := []
def ZX8_layRests (p : Program) (l : Launch) (e : Env) (s : State) (m : MethodId) (args : Array Value) (below : List Frame) (meth : Method) (c : Code) (cA : Nat → ClassId) (ad : Nat → Nat) (D : va_G) (A : Nat → Prop) : Prop := mm_Z p l e (mm_rm 5) s m args below meth c lay_m cA ad D A RX8 cX8_layRests 6 0 (mm_flt flRX8) (mm_clt (vtX8_layRests)) (mm_clt (smX8_layRests)) (mm_ctt ctRX8) kX8_layRests
def qX8_layRests_182 (P : Int → Int → Int → Int → Int → mm_M → Prop) : mm_K := fun ls st M => match ls, st with
  | [some (.inr (.inr c0)), some (.inl v1), some (.inl v2), some (.inl v3), some (.inl v4), _], [.inl w0, .inr (.inr d1)] => mm_chk (Nat.beq c0 0 && Nat.beq d1 0) (P v1 v2 v3 v4 w0 M)
  | _, _ => False
def qX8_layRests_146 (P : Int → Int → Int → Int → Int → mm_M → Prop) : mm_K := fun ls st M => match ls, st with
  | [some (.inr (.inr c0)), some (.inl v1), some (.inl v2), some (.inl v3), some (.inl v4), _], [.inl w0, .inr (.inr d1)] => mm_chk (Nat.beq c0 0 && Nat.beq d1 0) (P v1 v2 v3 v4 w0 M)
  | _, _ => False
def qX8_layRests_120 (P : Int → Int → Int → Int → Int → mm_M → Prop) : mm_K := fun ls st M => match ls, st with
  | [some (.inr (.inr c0)), some (.inl v1), some (.inl v2), some (.inl v3), some (.inl v4), _], [.inl w0, .inr (.inr d1)] => mm_chk (Nat.beq c0 0 && Nat.beq d1 0) (P v1 v2 v3 v4 w0 M)
  | _, _ => False
def qX8_layRests_69 (P : Int → Int → Int → Int → Int → Int → mm_M → Prop) : mm_K := fun ls st M => match ls, st with
  | [some (.inr (.inr c0)), some (.inl v1), some (.inl v2), some (.inl v3), some (.inl v4), some (.inl v5)], [.inl w0, .inr (.inr d1)] => mm_chk (Nat.beq c0 0 && Nat.beq d1 0) (P v1 v2 v3 v4 v5 w0 M)
  | _, _ => False
def qX8_layRests_15 (P : Int → Int → mm_M → Prop) : mm_K := fun ls st M => match ls, st with
  | [some (.inr (.inr c0)), some (.inl v1), some (.inl v2), _, _, _], [] => mm_chk (Nat.beq c0 0) (P v1 v2 M)
  | _, _ => False
set_option maxRecDepth 100000 in
theorem okX8_layRests_182 {p : Program} {l : Launch} {e : Env} {s : State} {m : MethodId} {args : Array Value} {below : List Frame} {meth : Method} {c : Code} {cA : Nat → ClassId} {ad : Nat → Nat} {D : va_G} {A : Nat → Prop} {Q : Option mm_V → mm_M → Prop} (Z : ZX8_layRests p l e s m args below meth c cA ad D A) {K15 : Int → Int → mm_M → Prop} (hk15 : ∀ ls st M, qX8_layRests_15 K15 ls st M → mm_G p l e (mm_rm 5) s m args below meth c lay_m cA ad D A 6 Q 15 ls st M) : ∀ ls st M, qX8_layRests_182 (fun v1 v2 v3 v4 w0 M => bX8_layRests_182 K15 v1 v2 v3 v4 w0 M (fun M => Q none M)) ls st M → mm_G p l e (mm_rm 5) s m args below meth c lay_m cA ad D A 6 Q 182 ls st M := by
  intro ls st M h
  unfold qX8_layRests_182 at h
  split at h
  · obtain ⟨hb, h⟩ := mm_chk_e h
    simp only [Bool.and_eq_true] at hb
    obtain ⟨x0, x1⟩ := hb
    cases (Nat.eq_of_beq_eq_true x0)
    cases (Nat.eq_of_beq_eq_true x1)
    exact mm_Zb Z 121 182 [(15, qX8_layRests_15 (K15))] (mm_fa1 hk15 mm_fa0) h
  · exact h.elim
set_option maxRecDepth 100000 in
theorem okX8_layRests_146 {p : Program} {l : Launch} {e : Env} {s : State} {m : MethodId} {args : Array Value} {below : List Frame} {meth : Method} {c : Code} {cA : Nat → ClassId} {ad : Nat → Nat} {D : va_G} {A : Nat → Prop} {Q : Option mm_V → mm_M → Prop} (Z : ZX8_layRests p l e s m args below meth c cA ad D A) {K15 : Int → Int → mm_M → Prop} (hk15 : ∀ ls st M, qX8_layRests_15 K15 ls st M → mm_G p l e (mm_rm 5) s m args below meth c lay_m cA ad D A 6 Q 15 ls st M) : ∀ ls st M, qX8_layRests_146 (fun v1 v2 v3 v4 w0 M => bX8_layRests_146 K15 v1 v2 v3 v4 w0 M (fun M => Q none M)) ls st M → mm_G p l e (mm_rm 5) s m args below meth c lay_m cA ad D A 6 Q 146 ls st M := by
  intro ls st M h
  unfold qX8_layRests_146 at h
  split at h
  · obtain ⟨hb, h⟩ := mm_chk_e h
    simp only [Bool.and_eq_true] at hb
    obtain ⟨x0, x1⟩ := hb
    cases (Nat.eq_of_beq_eq_true x0)
    cases (Nat.eq_of_beq_eq_true x1)
    exact mm_Zb Z 121 146 [(15, qX8_layRests_15 (K15)), (182, qX8_layRests_182 (fun v1 v2 v3 v4 w0 M => bX8_layRests_182 K15 v1 v2 v3 v4 w0 M (fun M => Q none M)))] (mm_fa1 hk15 (mm_fa1 (fun ls st M h => okX8_layRests_182 Z hk15 ls st M h) mm_fa0)) h
  · exact h.elim
set_option maxRecDepth 100000 in
theorem okX8_layRests_120 {p : Program} {l : Launch} {e : Env} {s : State} {m : MethodId} {args : Array Value} {below : List Frame} {meth : Method} {c : Code} {cA : Nat → ClassId} {ad : Nat → Nat} {D : va_G} {A : Nat → Prop} {Q : Option mm_V → mm_M → Prop} (Z : ZX8_layRests p l e s m args below meth c cA ad D A) {K15 : Int → Int → mm_M → Prop} (hk15 : ∀ ls st M, qX8_layRests_15 K15 ls st M → mm_G p l e (mm_rm 5) s m args below meth c lay_m cA ad D A 6 Q 15 ls st M) : ∀ ls st M, qX8_layRests_120 (fun v1 v2 v3 v4 w0 M => bX8_layRests_120 K15 v1 v2 v3 v4 w0 M (fun M => Q none M)) ls st M → mm_G p l e (mm_rm 5) s m args below meth c lay_m cA ad D A 6 Q 120 ls st M := by
  intro ls st M h
  unfold qX8_layRests_120 at h
  split at h
  · obtain ⟨hb, h⟩ := mm_chk_e h
    simp only [Bool.and_eq_true] at hb
    obtain ⟨x0, x1⟩ := hb
    cases (Nat.eq_of_beq_eq_true x0)
    cases (Nat.eq_of_beq_eq_true x1)
    exact mm_Zb Z 121 120 [(146, qX8_layRests_146 (fun v1 v2 v3 v4 w0 M => bX8_layRests_146 K15 v1 v2 v3 v4 w0 M (fun M => Q none M)))] (mm_fa1 (fun ls st M h => okX8_layRests_146 Z hk15 ls st M h) mm_fa0) h
  · exact h.elim
set_option maxRecDepth 100000 in
theorem okX8_layRests_69 {p : Program} {l : Launch} {e : Env} {s : State} {m : MethodId} {args : Array Value} {below : List Frame} {meth : Method} {c : Code} {cA : Nat → ClassId} {ad : Nat → Nat} {D : va_G} {A : Nat → Prop} {Q : Option mm_V → mm_M → Prop} (Z : ZX8_layRests p l e s m args below meth c cA ad D A) {K15 : Int → Int → mm_M → Prop} (hk15 : ∀ ls st M, qX8_layRests_15 K15 ls st M → mm_G p l e (mm_rm 5) s m args below meth c lay_m cA ad D A 6 Q 15 ls st M) : ∀ ls st M, qX8_layRests_69 (fun v1 v2 v3 v4 v5 w0 M => bX8_layRests_69 K15 v1 v2 v3 v4 v5 w0 M (fun M => Q none M)) ls st M → mm_G p l e (mm_rm 5) s m args below meth c lay_m cA ad D A 6 Q 69 ls st M := by
  intro ls st M h
  unfold qX8_layRests_69 at h
  split at h
  · obtain ⟨hb, h⟩ := mm_chk_e h
    simp only [Bool.and_eq_true] at hb
    obtain ⟨x0, x1⟩ := hb
    cases (Nat.eq_of_beq_eq_true x0)
    cases (Nat.eq_of_beq_eq_true x1)
    exact mm_Zb Z 121 69 [(120, qX8_layRests_120 (fun v1 v2 v3 v4 w0 M => bX8_layRests_120 K15 v1 v2 v3 v4 w0 M (fun M => Q none M)))] (mm_fa1 (fun ls st M h => okX8_layRests_120 Z hk15 ls st M h) mm_fa0) h
  · exact h.elim
set_option maxRecDepth 100000 in
theorem okX8_layRests_15 {p : Program} {l : Launch} {e : Env} {s : State} {m : MethodId} {args : Array Value} {below : List Frame} {meth : Method} {c : Code} {cA : Nat → ClassId} {ad : Nat → Nat} {D : va_G} {A : Nat → Prop} {Q : Option mm_V → mm_M → Prop} (Z : ZX8_layRests p l e s m args below meth c cA ad D A) : ∀ (n : Nat) ls st M, qX8_layRests_15 (fun v1 v2 M => bX8_layRests_15 n v1 v2 M (fun M => Q none M)) ls st M → mm_G p l e (mm_rm 5) s m args below meth c lay_m cA ad D A 6 Q 15 ls st M
  | 0, ls, st, M, h => by
    unfold qX8_layRests_15 at h
    split at h
    · obtain ⟨hb, h⟩ := mm_chk_e h
      cases (Nat.eq_of_beq_eq_true hb)
      exact h.elim
    · exact h.elim
  | n + 1, ls, st, M, h => by
    have ih := okX8_layRests_15 (Q := Q) Z  n
    unfold qX8_layRests_15 at h
    split at h
    · obtain ⟨hb, h⟩ := mm_chk_e h
      cases (Nat.eq_of_beq_eq_true hb)
      exact mm_Zb Z 121 15 [(69, qX8_layRests_69 (fun v1 v2 v3 v4 v5 w0 M => bX8_layRests_69 (fun v1 v2 M => bX8_layRests_15 n v1 v2 M (fun M => Q none M)) v1 v2 v3 v4 v5 w0 M (fun M => Q none M)))] (mm_fa1 (fun ls st M h => okX8_layRests_69 Z (ih) ls st M h) mm_fa0) h
    · exact h.elim
set_option maxRecDepth 100000 in
theorem okX8_layRests_15x {p : Program} {l : Launch} {e : Env} {s : State} {m : MethodId} {args : Array Value} {below : List Frame} {meth : Method} {c : Code} {cA : Nat → ClassId} {ad : Nat → Nat} {D : va_G} {A : Nat → Prop} {Q : Option mm_V → mm_M → Prop} (Z : ZX8_layRests p l e s m args below meth c cA ad D A) : ∀ ls st M, qX8_layRests_15 (fun v1 v2 M => ∃ j, bX8_layRests_15 j v1 v2 M (fun M => Q none M)) ls st M → mm_G p l e (mm_rm 5) s m args below meth c lay_m cA ad D A 6 Q 15 ls st M := by
  intro ls st M h
  have hex : ∃ n, qX8_layRests_15 (fun v1 v2 M => bX8_layRests_15 n v1 v2 M (fun M => Q none M)) ls st M := by
    unfold qX8_layRests_15 at h
    split at h
    · obtain ⟨hb, h⟩ := mm_chk_e h
      cases (Nat.eq_of_beq_eq_true hb)
      obtain ⟨n, h⟩ := h
      exact ⟨n, h⟩
    · exact h.elim
  obtain ⟨n, hex⟩ := hex
  exact okX8_layRests_15 Z  n ls st M hex
set_option maxRecDepth 100000 in
theorem okX8_layRests : mm_Ok lay_m yX8_layRests cX8_layRests 6 none 5 fX8_layRests := by
  refine mm_enter (rt := 0) (by decide +kernel) rfl ?_
  intro p l e s m args below meth c cA ad D A as M Q h C0
  have Z : ZX8_layRests p l e s m args below meth c cA ad D A := ⟨C0, flRX8_ok, mm_vt_of (mm_fa1 (mm_coV (n := 0) (ci := 8) C0 okX8_keep rfl rfl (mm_one_at (.methodLink RX8 266 yX8_keep) 1326 (by decide +kernel) rfl) (wX8_keep _ (by simp)) (wX8_keep _ (by simp [yX8_keep])) (wX8_keep _ (by simp [yX8_keep])) (wX8_keep _ (by simp)) (by decide +kernel) (by omega) (by omega)) (mm_fa1 (mm_coV (n := 0) (ci := 8) C0 okX8_beginRests rfl rfl (mm_one_at (.methodLink RX8 269 yX8_beginRests) 1330 (by decide +kernel) rfl) (wX8_beginRests _ (by simp)) (wX8_beginRests _ (by simp [yX8_beginRests])) (wX8_beginRests _ (by simp [yX8_beginRests])) (wX8_beginRests _ (by simp)) (by decide +kernel) (by omega) (by omega)) (mm_fa1 (mm_coV (n := 0) (ci := 8) C0 okX8_setsAll rfl rfl (mm_one_at (.methodLink RX8 188 yX8_setsAll) 1210 (by decide +kernel) rfl) (wX8_setsAll _ (by simp)) (wX8_setsAll _ (by simp [yX8_setsAll])) (wX8_setsAll _ (by simp [yX8_setsAll])) (wX8_setsAll _ (by simp)) (by decide +kernel) (by omega) (by omega)) (mm_fa1 (mm_coV (n := 0) (ci := 8) C0 okX8_putBack rfl rfl (mm_one_at (.methodLink RX8 276 yX8_putBack) 1338 (by decide +kernel) rfl) (wX8_putBack _ (by simp)) (wX8_putBack _ (by simp [yX8_putBack])) (wX8_putBack _ (by simp [yX8_putBack])) (wX8_putBack _ (by simp)) (by decide +kernel) (by omega) (by omega)) (mm_fa1 (mm_coV (n := 1) (ci := 8) C0 okX8_take rfl rfl (mm_one_at (.methodLink RX8 272 yX8_take) 1334 (by decide +kernel) rfl) (wX8_take _ (by simp)) (wX8_take _ (by simp [yX8_take])) (wX8_take _ (by simp [yX8_take])) (wX8_take _ (by simp)) (by decide +kernel) (by omega) (by omega)) (mm_fa1 (mm_coV (n := 0) (ci := 8) C0 okX8_socialNow rfl rfl (mm_one_at (.methodLink RX8 179 yX8_socialNow) 1174 (by decide +kernel) rfl) (wX8_socialNow _ (by simp)) (wX8_socialNow _ (by simp [yX8_socialNow])) (wX8_socialNow _ (by simp [yX8_socialNow])) (wX8_socialNow _ (by simp)) (by decide +kernel) (by omega) (by omega)) (mm_fa1 (mm_coV (n := 0) (ci := 8) C0 okX8_potentialNow rfl rfl (mm_one_at (.methodLink RX8 182 yX8_potentialNow) 1190 (by decide +kernel) rfl) (wX8_potentialNow _ (by simp)) (wX8_potentialNow _ (by simp [yX8_potentialNow])) (wX8_potentialNow _ (by simp [yX8_potentialNow])) (wX8_potentialNow _ (by simp)) (by decide +kernel) (by omega) (by omega)) (mm_fa1 (mm_coV (n := 1) (ci := 8) C0 okX8_restless rfl rfl (mm_one_at (.methodLink RX8 185 yX8_restless) 1198 (by decide +kernel) rfl) (wX8_restless _ (by simp)) (wX8_restless _ (by simp [yX8_restless])) (wX8_restless _ (by simp [yX8_restless])) (wX8_restless _ (by simp)) (by decide +kernel) (by omega) (by omega)) (mm_fa0))))))))), mm_vt_of (mm_fa0), kX8_layRests_ok, mm_ctok_J ctRX8_ok⟩
  unfold fX8_layRests at h
  split at h
  · obtain ⟨hb, h⟩ := mm_chk_e h
    cases (Nat.eq_of_beq_eq_true hb)
    exact ⟨Nat.le_of_ble_eq_true rfl, mm_Zb Z 121 0 [(15, qX8_layRests_15 (fun v1 v2 M => ∃ j, bX8_layRests_15 j v1 v2 M (fun M => Q none M)))] (mm_fa1 (fun ls st M h => okX8_layRests_15x Z  ls st M h) mm_fa0) h⟩
  · exact h.elim
def kX8_restsNow : List mm_E := [(0, false, .aload_n 0, []), (1, false, .invokevirtual 279, []), (4, false, .iload_n 1, []), (5, false, .tableswitch 60 0 4 #[35, 40, 45, 50, 55], [65, 40, 45, 50, 55, 60]), (40, false, .aload_n 0, []), (41, false, .getfield 245, []), (44, false, .ireturn, []), (45, false, .aload_n 0, []), (46, false, .getfield 248, []), (49, false, .ireturn, []), (50, false, .aload_n 0, []), (51, false, .getfield 251, []), (54, false, .ireturn, []), (55, false, .aload_n 0, []), (56, false, .getfield 257, []), (59, false, .ireturn, []), (60, false, .aload_n 0, []), (61, false, .getfield 260, []), (64, false, .ireturn, []), (65, false, .aload_n 0, []), (66, false, .getfield 254, []), (69, false, .ireturn, [])]
set_option maxRecDepth 20000 in
theorem kX8_restsNow_ok : mm_cok cX8_restsNow RX8 (mm_ctt ctRX8) kX8_restsNow := mm_c_of (k := false) ctRX8_ok (by decide +kernel)
set_option maxRecDepth 20000 in
theorem wX8_restsNow : ∀ w ∈ ([.instanceMethod yX8_restsNow, .selects RX8 yX8_restsNow yX8_restsNow, .initialized RX8, .code yX8_restsNow cX8_restsNow 2 (some .int)] : List Cond), w ∈ mm_tbl := mm_sub_at _ [1320, 65, 112, 1321] (by decide +kernel) (by decide +kernel)
def vtX8_restsNow : List (Nat × Nat × Nat × mm_F) := [(279, 8, 1, fX8_layRests)]
def smX8_restsNow : List (Nat × Nat × Nat × mm_F) := []
def ZX8_restsNow (p : Program) (l : Launch) (e : Env) (s : State) (m : MethodId) (args : Array Value) (below : List Frame) (meth : Method) (c : Code) (cA : Nat → ClassId) (ad : Nat → Nat) (D : va_G) (A : Nat → Prop) : Prop := mm_Z p l e (mm_rm 6) s m args below meth c lay_m cA ad D A RX8 cX8_restsNow 2 1 (mm_flt flRX8) (mm_clt (vtX8_restsNow)) (mm_clt (smX8_restsNow)) (mm_ctt ctRX8) kX8_restsNow
theorem okX8_restsNow : mm_Ok lay_m yX8_restsNow cX8_restsNow 2 (some .int) 6 fX8_restsNow := by
  refine mm_enter (rt := 1) (by decide +kernel) rfl ?_
  intro p l e s m args below meth c cA ad D A as M Q h C0
  have Z : ZX8_restsNow p l e s m args below meth c cA ad D A := ⟨C0, flRX8_ok, mm_vt_of (mm_fa1 (mm_coV (n := 0) (ci := 8) C0 okX8_layRests rfl rfl (mm_one_at (.methodLink RX8 279 yX8_layRests) 1322 (by decide +kernel) rfl) (wX8_layRests _ (by simp)) (wX8_layRests _ (by simp [yX8_layRests])) (wX8_layRests _ (by simp [yX8_layRests])) (wX8_layRests _ (by simp)) (by decide +kernel) (by omega) (by omega)) (mm_fa0)), mm_vt_of (mm_fa0), kX8_restsNow_ok, mm_ctok_J ctRX8_ok⟩
  unfold fX8_restsNow at h
  split at h
  · obtain ⟨hb, h⟩ := mm_chk_e h
    cases (Nat.eq_of_beq_eq_true hb)
    exact ⟨Nat.le_of_ble_eq_true rfl, mm_Zb Z 25 0 [] mm_fa0 h⟩
  · exact h.elim
def kX8_rests : List mm_E := [(0, false, .iload_n 1, []), (1, false, .iconst 0, []), (2, false, .iconst 5, []), (3, false, .invokestatic 105, []), (6, false, .ifCond .ne 6, [12]), (9, false, .bipush (-102), []), (11, false, .ireturn, []), (12, false, .aload_n 0, []), (13, false, .invokevirtual 282, []), (16, false, .ifCond .eq 11, [27]), (19, false, .aload_n 0, []), (20, false, .iload_n 1, []), (21, false, .invokevirtual 285, []), (24, false, .goto 5, [29]), (27, false, .bipush (-103), []), (29, false, .ireturn, [])]
set_option maxRecDepth 20000 in
theorem kX8_rests_ok : mm_cok cX8_rests RX8 (mm_ctt ctRX8) kX8_rests := mm_c_of (k := false) ctRX8_ok (by decide +kernel)
set_option maxRecDepth 20000 in
theorem wX8_rests : ∀ w ∈ ([.instanceMethod yX8_rests, .selects RX8 yX8_rests yX8_rests, .initialized RX8, .code yX8_rests cX8_rests 2 (some .int)] : List Cond), w ∈ mm_tbl := mm_sub_at _ [1311, 1312, 112, 1313] (by decide +kernel) (by decide +kernel)
def vtX8_rests : List (Nat × Nat × Nat × mm_F) := [(282, 8, 1, fX8_isCounted), (285, 8, 2, fX8_restsNow)]
def smX8_rests : List (Nat × Nat × Nat × mm_F) := [(105, 0, 3, fX8_within)]
def ZX8_rests (p : Program) (l : Launch) (e : Env) (s : State) (m : MethodId) (args : Array Value) (below : List Frame) (meth : Method) (c : Code) (cA : Nat → ClassId) (ad : Nat → Nat) (D : va_G) (A : Nat → Prop) : Prop := mm_Z p l e (mm_rm 7) s m args below meth c lay_m cA ad D A RX8 cX8_rests 2 1 (mm_flt flRX8) (mm_clt (vtX8_rests)) (mm_clt (smX8_rests)) (mm_ctt ctRX8) kX8_rests
theorem okX8_rests : mm_Ok lay_m yX8_rests cX8_rests 2 (some .int) 7 fX8_rests := by
  refine mm_enter (rt := 1) (by decide +kernel) rfl ?_
  intro p l e s m args below meth c cA ad D A as M Q h C0
  have Z : ZX8_rests p l e s m args below meth c cA ad D A := ⟨C0, flRX8_ok, mm_vt_of (mm_fa1 (mm_coV (n := 0) (ci := 8) C0 okX8_isCounted rfl rfl (mm_one_at (.methodLink RX8 282 yX8_isCounted) 1314 (by decide +kernel) rfl) (wX8_isCounted _ (by simp)) (wX8_isCounted _ (by simp [yX8_isCounted])) (wX8_isCounted _ (by simp [yX8_isCounted])) (wX8_isCounted _ (by simp)) (by decide +kernel) (by omega) (by omega)) (mm_fa1 (mm_coV (n := 1) (ci := 8) C0 okX8_restsNow rfl rfl (mm_one_at (.methodLink RX8 285 yX8_restsNow) 1318 (by decide +kernel) rfl) (wX8_restsNow _ (by simp)) (wX8_restsNow _ (by simp [yX8_restsNow])) (wX8_restsNow _ (by simp [yX8_restsNow])) (wX8_restsNow _ (by simp)) (by decide +kernel) (by omega) (by omega)) (mm_fa0))), mm_vt_of (mm_fa1 (mm_coS (n := 3) C0 okX8_within (mm_one_at (.methodLink RX8 105 yX8_within) 1123 (by decide +kernel) rfl) (wX8_within _ (by simp)) (wX8_within _ (by simp [yX8_within])) (wX8_within _ (by simp)) (by decide +kernel) (by omega) (by omega)) (mm_fa0)), kX8_rests_ok, mm_ctok_J ctRX8_ok⟩
  unfold fX8_rests at h
  split at h
  · obtain ⟨hb, h⟩ := mm_chk_e h
    cases (Nat.eq_of_beq_eq_true hb)
    exact ⟨Nat.le_of_ble_eq_true rfl, mm_Zb Z 19 0 [] mm_fa0 h⟩
  · exact h.elim
def kX8_restAt : List mm_E := [(0, false, .aload_n 0, []), (1, false, .invokevirtual 266, []), (4, false, .iload_n 1, []), (5, false, .istore_n 2, []), (6, false, .iconst (-1), []), (7, false, .istore_n 3, []), (8, false, .aload_n 0, []), (9, false, .invokevirtual 188, []), (12, false, .istore 4, []), (14, false, .iconst 0, []), (15, false, .istore 5, []), (17, true, .iload 5, []), (19, false, .iload 4, []), (21, false, .if_icmp .ge 47, [68]), (24, false, .iload_n 3, []), (25, false, .iconst (-1), []), (26, false, .if_icmp .ne 42, [68]), (29, false, .iload_n 1, []), (30, false, .ifCond .lt 38, [68]), (33, false, .aload_n 0, []), (34, false, .iload 5, []), (36, false, .invokevirtual 272, []), (39, false, .aload_n 0, []), (40, false, .iconst (-1), []), (41, false, .invokevirtual 185, []), (44, false, .iconst (-1), []), (45, false, .if_icmp .ne 17, [62]), (48, false, .iload_n 2, []), (49, false, .ifCond .ne 8, [57]), (52, false, .iload 5, []), (54, false, .goto 4, [58]), (57, false, .iconst (-1), []), (58, false, .istore_n 3, []), (59, false, .iinc 2 (-1), []), (62, false, .iinc 5 1, []), (65, false, .goto (-48), [17]), (68, false, .aload_n 0, []), (69, false, .invokevirtual 276, []), (72, false, .iload_n 3, []), (73, false, .ireturn, [])]
set_option maxRecDepth 20000 in
theorem kX8_restAt_ok : mm_cok cX8_restAt RX8 (mm_ctt ctRX8) kX8_restAt := mm_c_of (k := false) ctRX8_ok (by decide +kernel)
set_option maxRecDepth 20000 in
theorem wX8_restAt : ∀ w ∈ ([.instanceMethod yX8_restAt, .selects RX8 yX8_restAt yX8_restAt, .initialized RX8, .code yX8_restAt cX8_restAt 6 (some .int)] : List Cond), w ∈ mm_tbl := mm_sub_at _ [1348, 71, 112, 1349] (by decide +kernel) (by decide +kernel)
def vtX8_restAt : List (Nat × Nat × Nat × mm_F) := [(266, 8, 1, fX8_keep), (188, 8, 1, fX8_setsAll), (276, 8, 1, fX8_putBack), (272, 8, 2, fX8_take), (185, 8, 2, fX8_restless)]
def smX8_restAt : List (Nat × Nat × Nat × mm_F) := []
def ZX8_restAt (p : Program) (l : Launch) (e : Env) (s : State) (m : MethodId) (args : Array Value) (below : List Frame) (meth : Method) (c : Code) (cA : Nat → ClassId) (ad : Nat → Nat) (D : va_G) (A : Nat → Prop) : Prop := mm_Z p l e (mm_rm 5) s m args below meth c lay_m cA ad D A RX8 cX8_restAt 6 1 (mm_flt flRX8) (mm_clt (vtX8_restAt)) (mm_clt (smX8_restAt)) (mm_ctt ctRX8) kX8_restAt
def qX8_restAt_17 (P : Int → Int → Int → Int → Int → mm_M → Prop) : mm_K := fun ls st M => match ls, st with
  | [some (.inr (.inr c0)), some (.inl v1), some (.inl v2), some (.inl v3), some (.inl v4), some (.inl v5)], [] => mm_chk (Nat.beq c0 0) (P v1 v2 v3 v4 v5 M)
  | _, _ => False
theorem okX8_restAt_17 {p : Program} {l : Launch} {e : Env} {s : State} {m : MethodId} {args : Array Value} {below : List Frame} {meth : Method} {c : Code} {cA : Nat → ClassId} {ad : Nat → Nat} {D : va_G} {A : Nat → Prop} {Q : Option mm_V → mm_M → Prop} (Z : ZX8_restAt p l e s m args below meth c cA ad D A) : ∀ (n : Nat) ls st M, qX8_restAt_17 (fun v1 v2 v3 v4 v5 M => bX8_restAt_17 n v1 v2 v3 v4 v5 M (fun r M => Q (some (.inl r)) M)) ls st M → mm_G p l e (mm_rm 5) s m args below meth c lay_m cA ad D A 6 Q 17 ls st M
  | 0, ls, st, M, h => by
    unfold qX8_restAt_17 at h
    split at h
    · obtain ⟨hb, h⟩ := mm_chk_e h
      cases (Nat.eq_of_beq_eq_true hb)
      exact h.elim
    · exact h.elim
  | n + 1, ls, st, M, h => by
    have ih := okX8_restAt_17 (Q := Q) Z  n
    unfold qX8_restAt_17 at h
    split at h
    · obtain ⟨hb, h⟩ := mm_chk_e h
      cases (Nat.eq_of_beq_eq_true hb)
      exact mm_Zb Z 43 17 [(17, qX8_restAt_17 (fun v1 v2 v3 v4 v5 M => bX8_restAt_17 n v1 v2 v3 v4 v5 M (fun r M => Q (some (.inl r)) M)))] (mm_fa1 ih mm_fa0) h
    · exact h.elim
theorem okX8_restAt_17x {p : Program} {l : Launch} {e : Env} {s : State} {m : MethodId} {args : Array Value} {below : List Frame} {meth : Method} {c : Code} {cA : Nat → ClassId} {ad : Nat → Nat} {D : va_G} {A : Nat → Prop} {Q : Option mm_V → mm_M → Prop} (Z : ZX8_restAt p l e s m args below meth c cA ad D A) : ∀ ls st M, qX8_restAt_17 (fun v1 v2 v3 v4 v5 M => ∃ j, bX8_restAt_17 j v1 v2 v3 v4 v5 M (fun r M => Q (some (.inl r)) M)) ls st M → mm_G p l e (mm_rm 5) s m args below meth c lay_m cA ad D A 6 Q 17 ls st M := by
  intro ls st M h
  have hex : ∃ n, qX8_restAt_17 (fun v1 v2 v3 v4 v5 M => bX8_restAt_17 n v1 v2 v3 v4 v5 M (fun r M => Q (some (.inl r)) M)) ls st M := by
    unfold qX8_restAt_17 at h
    split at h
    · obtain ⟨hb, h⟩ := mm_chk_e h
      cases (Nat.eq_of_beq_eq_true hb)
      obtain ⟨n, h⟩ := h
      exact ⟨n, h⟩
    · exact h.elim
  obtain ⟨n, hex⟩ := hex
  exact okX8_restAt_17 Z  n ls st M hex
theorem okX8_restAt : mm_Ok lay_m yX8_restAt cX8_restAt 6 (some .int) 5 fX8_restAt := by
  refine mm_enter (rt := 1) (by decide +kernel) rfl ?_
  intro p l e s m args below meth c cA ad D A as M Q h C0
  have Z : ZX8_restAt p l e s m args below meth c cA ad D A := ⟨C0, flRX8_ok, mm_vt_of (mm_fa1 (mm_coV (n := 0) (ci := 8) C0 okX8_keep rfl rfl (mm_one_at (.methodLink RX8 266 yX8_keep) 1326 (by decide +kernel) rfl) (wX8_keep _ (by simp)) (wX8_keep _ (by simp [yX8_keep])) (wX8_keep _ (by simp [yX8_keep])) (wX8_keep _ (by simp)) (by decide +kernel) (by omega) (by omega)) (mm_fa1 (mm_coV (n := 0) (ci := 8) C0 okX8_setsAll rfl rfl (mm_one_at (.methodLink RX8 188 yX8_setsAll) 1210 (by decide +kernel) rfl) (wX8_setsAll _ (by simp)) (wX8_setsAll _ (by simp [yX8_setsAll])) (wX8_setsAll _ (by simp [yX8_setsAll])) (wX8_setsAll _ (by simp)) (by decide +kernel) (by omega) (by omega)) (mm_fa1 (mm_coV (n := 0) (ci := 8) C0 okX8_putBack rfl rfl (mm_one_at (.methodLink RX8 276 yX8_putBack) 1338 (by decide +kernel) rfl) (wX8_putBack _ (by simp)) (wX8_putBack _ (by simp [yX8_putBack])) (wX8_putBack _ (by simp [yX8_putBack])) (wX8_putBack _ (by simp)) (by decide +kernel) (by omega) (by omega)) (mm_fa1 (mm_coV (n := 1) (ci := 8) C0 okX8_take rfl rfl (mm_one_at (.methodLink RX8 272 yX8_take) 1334 (by decide +kernel) rfl) (wX8_take _ (by simp)) (wX8_take _ (by simp [yX8_take])) (wX8_take _ (by simp [yX8_take])) (wX8_take _ (by simp)) (by decide +kernel) (by omega) (by omega)) (mm_fa1 (mm_coV (n := 1) (ci := 8) C0 okX8_restless rfl rfl (mm_one_at (.methodLink RX8 185 yX8_restless) 1198 (by decide +kernel) rfl) (wX8_restless _ (by simp)) (wX8_restless _ (by simp [yX8_restless])) (wX8_restless _ (by simp [yX8_restless])) (wX8_restless _ (by simp)) (by decide +kernel) (by omega) (by omega)) (mm_fa0)))))), mm_vt_of (mm_fa0), kX8_restAt_ok, mm_ctok_J ctRX8_ok⟩
  unfold fX8_restAt at h
  split at h
  · obtain ⟨hb, h⟩ := mm_chk_e h
    cases (Nat.eq_of_beq_eq_true hb)
    exact ⟨Nat.le_of_ble_eq_true rfl, mm_Zb Z 43 0 [(17, qX8_restAt_17 (fun v1 v2 v3 v4 v5 M => ∃ j, bX8_restAt_17 j v1 v2 v3 v4 v5 M (fun r M => Q (some (.inl r)) M)))] (mm_fa1 (fun ls st M h => okX8_restAt_17x Z  ls st M h) mm_fa0) h⟩
  · exact h.elim
def kX8_rest : List mm_E := [(0, false, .aload_n 0, []), (1, false, .invokevirtual 282, []), (4, false, .ifCond .ne 6, [10]), (7, false, .bipush (-103), []), (9, false, .ireturn, []), (10, false, .aload_n 0, []), (11, false, .iload_n 1, []), (12, false, .invokevirtual 288, []), (15, false, .istore_n 3, []), (16, false, .iload_n 3, []), (17, false, .iconst (-1), []), (18, false, .if_icmp .eq 11, [29]), (21, false, .aload_n 0, []), (22, false, .iload_n 2, []), (23, false, .invokevirtual 229, []), (26, false, .ifCond .ne 6, [32]), (29, false, .bipush (-101), []), (31, false, .ireturn, []), (32, false, .aload_n 0, []), (33, false, .getfield 148, []), (36, false, .iconst 1, []), (37, false, .isub, []), (38, false, .istore 4, []), (40, true, .iload 4, []), (42, false, .iload_n 2, []), (43, false, .if_icmp .le 19, [62]), (46, false, .iload_n 3, []), (47, false, .aload_n 0, []), (48, false, .getfield 31, []), (51, false, .iload 4, []), (53, false, .iaload, []), (54, false, .idiv, []), (55, false, .istore_n 3, []), (56, false, .iinc 4 (-1), []), (59, false, .goto (-19), [40]), (62, false, .iload_n 3, []), (63, false, .aload_n 0, []), (64, false, .getfield 31, []), (67, false, .iload_n 2, []), (68, false, .iaload, []), (69, false, .irem, []), (70, false, .ireturn, [])]
set_option maxRecDepth 20000 in
theorem kX8_rest_ok : mm_cok cX8_rest RX8 (mm_ctt ctRX8) kX8_rest := mm_c_of (k := false) ctRX8_ok (by decide +kernel)
set_option maxRecDepth 20000 in
theorem wX8_rest : ∀ w ∈ ([.instanceMethod yX8_rest, .selects RX8 yX8_rest yX8_rest, .initialized RX8, .code yX8_rest cX8_rest 5 (some .int)] : List Cond), w ∈ mm_tbl := mm_sub_at _ [1343, 1344, 112, 1345] (by decide +kernel) (by decide +kernel)
def vtX8_rest : List (Nat × Nat × Nat × mm_F) := [(282, 8, 1, fX8_isCounted), (288, 8, 2, fX8_restAt), (229, 8, 2, fX8_isPlayer)]
def smX8_rest : List (Nat × Nat × Nat × mm_F) := []
def ZX8_rest (p : Program) (l : Launch) (e : Env) (s : State) (m : MethodId) (args : Array Value) (below : List Frame) (meth : Method) (c : Code) (cA : Nat → ClassId) (ad : Nat → Nat) (D : va_G) (A : Nat → Prop) : Prop := mm_Z p l e (mm_rm 6) s m args below meth c lay_m cA ad D A RX8 cX8_rest 5 1 (mm_flt flRX8) (mm_clt (vtX8_rest)) (mm_clt (smX8_rest)) (mm_ctt ctRX8) kX8_rest
def qX8_rest_40 (P : Int → Int → Int → mm_M → Prop) : mm_K := fun ls st M => match ls, st with
  | [some (.inr (.inr c0)), _, some (.inl v2), some (.inl v3), some (.inl v4)], [] => mm_chk (Nat.beq c0 0) (P v2 v3 v4 M)
  | _, _ => False
theorem okX8_rest_40 {p : Program} {l : Launch} {e : Env} {s : State} {m : MethodId} {args : Array Value} {below : List Frame} {meth : Method} {c : Code} {cA : Nat → ClassId} {ad : Nat → Nat} {D : va_G} {A : Nat → Prop} {Q : Option mm_V → mm_M → Prop} (Z : ZX8_rest p l e s m args below meth c cA ad D A) : ∀ (n : Nat) ls st M, qX8_rest_40 (fun v2 v3 v4 M => bX8_rest_40 n v2 v3 v4 M (fun r M => Q (some (.inl r)) M)) ls st M → mm_G p l e (mm_rm 6) s m args below meth c lay_m cA ad D A 5 Q 40 ls st M
  | 0, ls, st, M, h => by
    unfold qX8_rest_40 at h
    split at h
    · obtain ⟨hb, h⟩ := mm_chk_e h
      cases (Nat.eq_of_beq_eq_true hb)
      exact h.elim
    · exact h.elim
  | n + 1, ls, st, M, h => by
    have ih := okX8_rest_40 (Q := Q) Z  n
    unfold qX8_rest_40 at h
    split at h
    · obtain ⟨hb, h⟩ := mm_chk_e h
      cases (Nat.eq_of_beq_eq_true hb)
      exact mm_Zb Z 45 40 [(40, qX8_rest_40 (fun v2 v3 v4 M => bX8_rest_40 n v2 v3 v4 M (fun r M => Q (some (.inl r)) M)))] (mm_fa1 ih mm_fa0) h
    · exact h.elim
theorem okX8_rest_40x {p : Program} {l : Launch} {e : Env} {s : State} {m : MethodId} {args : Array Value} {below : List Frame} {meth : Method} {c : Code} {cA : Nat → ClassId} {ad : Nat → Nat} {D : va_G} {A : Nat → Prop} {Q : Option mm_V → mm_M → Prop} (Z : ZX8_rest p l e s m args below meth c cA ad D A) : ∀ ls st M, qX8_rest_40 (fun v2 v3 v4 M => ∃ j, bX8_rest_40 j v2 v3 v4 M (fun r M => Q (some (.inl r)) M)) ls st M → mm_G p l e (mm_rm 6) s m args below meth c lay_m cA ad D A 5 Q 40 ls st M := by
  intro ls st M h
  have hex : ∃ n, qX8_rest_40 (fun v2 v3 v4 M => bX8_rest_40 n v2 v3 v4 M (fun r M => Q (some (.inl r)) M)) ls st M := by
    unfold qX8_rest_40 at h
    split at h
    · obtain ⟨hb, h⟩ := mm_chk_e h
      cases (Nat.eq_of_beq_eq_true hb)
      obtain ⟨n, h⟩ := h
      exact ⟨n, h⟩
    · exact h.elim
  obtain ⟨n, hex⟩ := hex
  exact okX8_rest_40 Z  n ls st M hex
theorem okX8_rest : mm_Ok lay_m yX8_rest cX8_rest 5 (some .int) 6 fX8_rest := by
  refine mm_enter (rt := 1) (by decide +kernel) rfl ?_
  intro p l e s m args below meth c cA ad D A as M Q h C0
  have Z : ZX8_rest p l e s m args below meth c cA ad D A := ⟨C0, flRX8_ok, mm_vt_of (mm_fa1 (mm_coV (n := 0) (ci := 8) C0 okX8_isCounted rfl rfl (mm_one_at (.methodLink RX8 282 yX8_isCounted) 1314 (by decide +kernel) rfl) (wX8_isCounted _ (by simp)) (wX8_isCounted _ (by simp [yX8_isCounted])) (wX8_isCounted _ (by simp [yX8_isCounted])) (wX8_isCounted _ (by simp)) (by decide +kernel) (by omega) (by omega)) (mm_fa1 (mm_coV (n := 1) (ci := 8) C0 okX8_restAt rfl rfl (mm_one_at (.methodLink RX8 288 yX8_restAt) 1346 (by decide +kernel) rfl) (wX8_restAt _ (by simp)) (wX8_restAt _ (by simp [yX8_restAt])) (wX8_restAt _ (by simp [yX8_restAt])) (wX8_restAt _ (by simp)) (by decide +kernel) (by omega) (by omega)) (mm_fa1 (mm_coV (n := 1) (ci := 8) C0 okX8_isPlayer rfl rfl (mm_one_at (.methodLink RX8 229 yX8_isPlayer) 1274 (by decide +kernel) rfl) (wX8_isPlayer _ (by simp)) (wX8_isPlayer _ (by simp [yX8_isPlayer])) (wX8_isPlayer _ (by simp [yX8_isPlayer])) (wX8_isPlayer _ (by simp)) (by decide +kernel) (by omega) (by omega)) (mm_fa0)))), mm_vt_of (mm_fa0), kX8_rest_ok, mm_ctok_J ctRX8_ok⟩
  unfold fX8_rest at h
  split at h
  · obtain ⟨hb, h⟩ := mm_chk_e h
    cases (Nat.eq_of_beq_eq_true hb)
    exact ⟨Nat.le_of_ble_eq_true rfl, mm_Zb Z 45 0 [(40, qX8_rest_40 (fun v2 v3 v4 M => ∃ j, bX8_rest_40 j v2 v3 v4 M (fun r M => Q (some (.inl r)) M)))] (mm_fa1 (fun ls st M h => okX8_rest_40x Z  ls st M h) mm_fa0) h⟩
  · exact h.elim
def kX8_go : List mm_E := [(0, false, .aload_n 0, []), (1, false, .invokevirtual 282, []), (4, false, .ifCond .ne 6, [10]), (7, false, .bipush (-103), []), (9, false, .ireturn, []), (10, false, .aload_n 0, []), (11, false, .iload_n 1, []), (12, false, .invokevirtual 288, []), (15, false, .istore_n 2, []), (16, false, .iload_n 2, []), (17, false, .iconst (-1), []), (18, false, .if_icmp .ne 6, [24]), (21, false, .bipush (-101), []), (23, false, .ireturn, []), (24, false, .aload_n 0, []), (25, false, .iload_n 2, []), (26, false, .invokevirtual 272, []), (29, false, .aload_n 0, []), (30, false, .invokevirtual 179, []), (33, false, .ireturn, [])]
set_option maxRecDepth 20000 in
theorem kX8_go_ok : mm_cok cX8_go RX8 (mm_ctt ctRX8) kX8_go := mm_c_of (k := false) ctRX8_ok (by decide +kernel)
set_option maxRecDepth 20000 in
theorem wX8_go : ∀ w ∈ ([.instanceMethod yX8_go, .selects RX8 yX8_go yX8_go, .initialized RX8, .code yX8_go cX8_go 3 (some .int)] : List Cond), w ∈ mm_tbl := mm_sub_at _ [1351, 1352, 112, 1353] (by decide +kernel) (by decide +kernel)
def vtX8_go : List (Nat × Nat × Nat × mm_F) := [(282, 8, 1, fX8_isCounted), (288, 8, 2, fX8_restAt), (272, 8, 2, fX8_take), (179, 8, 1, fX8_socialNow)]
def smX8_go : List (Nat × Nat × Nat × mm_F) := []
def ZX8_go (p : Program) (l : Launch) (e : Env) (s : State) (m : MethodId) (args : Array Value) (below : List Frame) (meth : Method) (c : Code) (cA : Nat → ClassId) (ad : Nat → Nat) (D : va_G) (A : Nat → Prop) : Prop := mm_Z p l e (mm_rm 6) s m args below meth c lay_m cA ad D A RX8 cX8_go 3 1 (mm_flt flRX8) (mm_clt (vtX8_go)) (mm_clt (smX8_go)) (mm_ctt ctRX8) kX8_go
theorem okX8_go : mm_Ok lay_m yX8_go cX8_go 3 (some .int) 6 fX8_go := by
  refine mm_enter (rt := 1) (by decide +kernel) rfl ?_
  intro p l e s m args below meth c cA ad D A as M Q h C0
  have Z : ZX8_go p l e s m args below meth c cA ad D A := ⟨C0, flRX8_ok, mm_vt_of (mm_fa1 (mm_coV (n := 0) (ci := 8) C0 okX8_isCounted rfl rfl (mm_one_at (.methodLink RX8 282 yX8_isCounted) 1314 (by decide +kernel) rfl) (wX8_isCounted _ (by simp)) (wX8_isCounted _ (by simp [yX8_isCounted])) (wX8_isCounted _ (by simp [yX8_isCounted])) (wX8_isCounted _ (by simp)) (by decide +kernel) (by omega) (by omega)) (mm_fa1 (mm_coV (n := 1) (ci := 8) C0 okX8_restAt rfl rfl (mm_one_at (.methodLink RX8 288 yX8_restAt) 1346 (by decide +kernel) rfl) (wX8_restAt _ (by simp)) (wX8_restAt _ (by simp [yX8_restAt])) (wX8_restAt _ (by simp [yX8_restAt])) (wX8_restAt _ (by simp)) (by decide +kernel) (by omega) (by omega)) (mm_fa1 (mm_coV (n := 1) (ci := 8) C0 okX8_take rfl rfl (mm_one_at (.methodLink RX8 272 yX8_take) 1334 (by decide +kernel) rfl) (wX8_take _ (by simp)) (wX8_take _ (by simp [yX8_take])) (wX8_take _ (by simp [yX8_take])) (wX8_take _ (by simp)) (by decide +kernel) (by omega) (by omega)) (mm_fa1 (mm_coV (n := 0) (ci := 8) C0 okX8_socialNow rfl rfl (mm_one_at (.methodLink RX8 179 yX8_socialNow) 1174 (by decide +kernel) rfl) (wX8_socialNow _ (by simp)) (wX8_socialNow _ (by simp [yX8_socialNow])) (wX8_socialNow _ (by simp [yX8_socialNow])) (wX8_socialNow _ (by simp)) (by decide +kernel) (by omega) (by omega)) (mm_fa0))))), mm_vt_of (mm_fa0), kX8_go_ok, mm_ctok_J ctRX8_ok⟩
  unfold fX8_go at h
  split at h
  · obtain ⟨hb, h⟩ := mm_chk_e h
    cases (Nat.eq_of_beq_eq_true hb)
    exact ⟨Nat.le_of_ble_eq_true rfl, mm_Zb Z 23 0 [] mm_fa0 h⟩
  · exact h.elim
