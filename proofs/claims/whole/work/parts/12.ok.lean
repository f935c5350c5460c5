def kX3_readA : List mm_E := [(0, false, .iload_n 1, []), (1, false, .iconst (-1), []), (2, false, .if_icmp .ne 5, [7]), (5, false, .iconst (-1), []), (6, false, .ireturn, []), (7, false, .aload_n 0, []), (8, false, .getfield 18, []), (11, false, .getfield 67, []), (14, false, .aload_n 0, []), (15, false, .getfield 18, []), (18, false, .getfield 29, []), (21, false, .iload_n 1, []), (22, false, .iastore, []), (23, false, .bipush 7, []), (25, false, .ireturn, [])]
set_option maxRecDepth 20000 in
theorem kX3_readA_ok : mm_cok cX3_readA RX3 (mm_ctt ctRX3) kX3_readA := mm_c_of (k := false) ctRX3_ok (by decide +kernel)
set_option maxRecDepth 20000 in
theorem wX3_readA : ∀ w ∈ ([.instanceMethod yX3_readA, .selects RX3 yX3_readA yX3_readA, .initialized RX3, .code yX3_readA cX3_readA 2 (some .int)] : List Cond), w ∈ mm_tbl := mm_sub_at _ [509, 4, 105, 510] (by decide +kernel) (by decide +kernel)
def vtX3_readA : List (Nat × Nat × Nat × mm_F) := []
def smX3_readA : List (Nat × Nat × Nat × mm_F) := []
def ZX3_readA (p : Program) (l : Launch) (e : Env) (s : State) (m : MethodId) (args : Array Value) (below : List Frame) (meth : Method) (c : Code) (cA : Nat → ClassId) (ad : Nat → Nat) (D : va_G) (A : Nat → Prop) : Prop := mm_Z p l e (mm_rm 0) s m args below meth c lay_c cA ad D A RX3 cX3_readA 2 1 (mm_flt flRX3) (mm_clt (vtX3_readA)) (mm_clt (smX3_readA)) (mm_ctt ctRX3) kX3_readA
theorem okX3_readA : mm_Ok lay_c yX3_readA cX3_readA 2 (some .int) 0 fX3_readA := by
  refine mm_enter (rt := 1) (by decide +kernel) rfl ?_
  intro p l e s m args below meth c cA ad D A as M Q h C0
  have Z : ZX3_readA p l e s m args below meth c cA ad D A := ⟨C0, flRX3_ok, mm_vt_of (mm_fa0), mm_vt_of (mm_fa0), kX3_readA_ok, mm_ctok_J ctRX3_ok⟩
  unfold fX3_readA at h
  split at h
  · obtain ⟨hb, h⟩ := mm_chk_e h
    cases (Nat.eq_of_beq_eq_true hb)
    exact ⟨Nat.le_of_ble_eq_true rfl, mm_Zb Z 18 0 [] mm_fa0 h⟩
  · exact h.elim
def kX3_readMoreOfA : List mm_E := [(0, false, .aload_n 0, []), (1, false, .getfield 18, []), (4, false, .getfield 67, []), (7, false, .aload_n 0, []), (8, false, .getfield 18, []), (11, false, .getfield 29, []), (14, false, .iaload, []), (15, false, .istore_n 2, []), (16, false, .iload_n 1, []), (17, false, .iconst (-1), []), (18, false, .if_icmp .eq 18, [36]), (21, false, .iload_n 2, []), (22, false, .ifCond .eq 14, [36]), (25, false, .bipush 10, []), (27, false, .iload_n 2, []), (28, false, .imul, []), (29, false, .iload_n 1, []), (30, false, .iadd, []), (31, false, .bipush 20, []), (33, false, .if_icmp .le 5, [38]), (36, false, .iconst (-1), []), (37, false, .ireturn, []), (38, false, .aload_n 0, []), (39, false, .getfield 18, []), (42, false, .getfield 67, []), (45, false, .aload_n 0, []), (46, false, .getfield 18, []), (49, false, .getfield 29, []), (52, false, .bipush 10, []), (54, false, .iload_n 2, []), (55, false, .imul, []), (56, false, .iload_n 1, []), (57, false, .iadd, []), (58, false, .iastore, []), (59, false, .bipush 7, []), (61, false, .ireturn, [])]
set_option maxRecDepth 20000 in
theorem kX3_readMoreOfA_ok : mm_cok cX3_readMoreOfA RX3 (mm_ctt ctRX3) kX3_readMoreOfA := mm_c_of (k := false) ctRX3_ok (by decide +kernel)
set_option maxRecDepth 20000 in
theorem wX3_readMoreOfA : ∀ w ∈ ([.instanceMethod yX3_readMoreOfA, .selects RX3 yX3_readMoreOfA yX3_readMoreOfA, .initialized RX3, .code yX3_readMoreOfA cX3_readMoreOfA 3 (some .int)] : List Cond), w ∈ mm_tbl := mm_sub_at _ [513, 5, 105, 514] (by decide +kernel) (by decide +kernel)
def vtX3_readMoreOfA : List (Nat × Nat × Nat × mm_F) := []
def smX3_readMoreOfA : List (Nat × Nat × Nat × mm_F) := []
def ZX3_readMoreOfA (p : Program) (l : Launch) (e : Env) (s : State) (m : MethodId) (args : Array Value) (below : List Frame) (meth : Method) (c : Code) (cA : Nat → ClassId) (ad : Nat → Nat) (D : va_G) (A : Nat → Prop) : Prop := mm_Z p l e (mm_rm 0) s m args below meth c lay_c cA ad D A RX3 cX3_readMoreOfA 3 1 (mm_flt flRX3) (mm_clt (vtX3_readMoreOfA)) (mm_clt (smX3_readMoreOfA)) (mm_ctt ctRX3) kX3_readMoreOfA
theorem okX3_readMoreOfA : mm_Ok lay_c yX3_readMoreOfA cX3_readMoreOfA 3 (some .int) 0 fX3_readMoreOfA := by
  refine mm_enter (rt := 1) (by decide +kernel) rfl ?_
  intro p l e s m args below meth c cA ad D A as M Q h C0
  have Z : ZX3_readMoreOfA p l e s m args below meth c cA ad D A := ⟨C0, flRX3_ok, mm_vt_of (mm_fa0), mm_vt_of (mm_fa0), kX3_readMoreOfA_ok, mm_ctok_J ctRX3_ok⟩
  unfold fX3_readMoreOfA at h
  split at h
  · obtain ⟨hb, h⟩ := mm_chk_e h
    cases (Nat.eq_of_beq_eq_true hb)
    exact ⟨Nat.le_of_ble_eq_true rfl, mm_Zb Z 39 0 [] mm_fa0 h⟩
  · exact h.elim
def kX3_readB : List mm_E := [(0, false, .iload_n 1, []), (1, false, .iconst (-1), []), (2, false, .if_icmp .ne 5, [7]), (5, false, .iconst (-1), []), (6, false, .ireturn, []), (7, false, .aload_n 0, []), (8, false, .getfield 18, []), (11, false, .getfield 70, []), (14, false, .aload_n 0, []), (15, false, .getfield 18, []), (18, false, .getfield 29, []), (21, false, .iload_n 1, []), (22, false, .iastore, []), (23, false, .aload_n 0, []), (24, false, .getfield 18, []), (27, false, .dup, []), (28, false, .getfield 29, []), (31, false, .iconst 1, []), (32, false, .iadd, []), (33, false, .putfield 29, []), (36, false, .iconst 1, []), (37, false, .ireturn, [])]
set_option maxRecDepth 20000 in
theorem kX3_readB_ok : mm_cok cX3_readB RX3 (mm_ctt ctRX3) kX3_readB := mm_c_of (k := false) ctRX3_ok (by decide +kernel)
set_option maxRecDepth 20000 in
theorem wX3_readB : ∀ w ∈ ([.instanceMethod yX3_readB, .selects RX3 yX3_readB yX3_readB, .initialized RX3, .code yX3_readB cX3_readB 2 (some .int)] : List Cond), w ∈ mm_tbl := mm_sub_at _ [517, 6, 105, 518] (by decide +kernel) (by decide +kernel)
def vtX3_readB : List (Nat × Nat × Nat × mm_F) := []
def smX3_readB : List (Nat × Nat × Nat × mm_F) := []
def ZX3_readB (p : Program) (l : Launch) (e : Env) (s : State) (m : MethodId) (args : Array Value) (below : List Frame) (meth : Method) (c : Code) (cA : Nat → ClassId) (ad : Nat → Nat) (D : va_G) (A : Nat → Prop) : Prop := mm_Z p l e (mm_rm 0) s m args below meth c lay_c cA ad D A RX3 cX3_readB 2 1 (mm_flt flRX3) (mm_clt (vtX3_readB)) (mm_clt (smX3_readB)) (mm_ctt ctRX3) kX3_readB
theorem okX3_readB : mm_Ok lay_c yX3_readB cX3_readB 2 (some .int) 0 fX3_readB := by
  refine mm_enter (rt := 1) (by decide +kernel) rfl ?_
  intro p l e s m args below meth c cA ad D A as M Q h C0
  have Z : ZX3_readB p l e s m args below meth c cA ad D A := ⟨C0, flRX3_ok, mm_vt_of (mm_fa0), mm_vt_of (mm_fa0), kX3_readB_ok, mm_ctok_J ctRX3_ok⟩
  unfold fX3_readB at h
  split at h
  · obtain ⟨hb, h⟩ := mm_chk_e h
    cases (Nat.eq_of_beq_eq_true hb)
    exact ⟨Nat.le_of_ble_eq_true rfl, mm_Zb Z 25 0 [] mm_fa0 h⟩
  · exact h.elim
def kX3_phaseBehind : List mm_E := [(0, false, .iload_n 1, []), (1, false, .bipush 48, []), (3, false, .bipush 57, []), (5, false, .invokestatic 39, []), (8, false, .ifCond .eq 10, [18]), (11, false, .iload_n 1, []), (12, false, .bipush 48, []), (14, false, .isub, []), (15, false, .goto 4, [19]), (18, false, .iconst (-1), []), (19, true, .istore_n 2, []), (20, false, .aload_n 0, []), (21, false, .getfield 22, []), (24, false, .tableswitch 148 0 8 #[52, 58, 82, 88, 100, 106, 119, 125, 142], [172, 76, 82, 106, 112, 124, 130, 143, 149, 166]), (76, false, .aload_n 0, []), (77, false, .iload_n 2, []), (78, false, .invokevirtual 43, []), (81, false, .ireturn, []), (82, false, .iload_n 1, []), (83, false, .bipush 59, []), (85, false, .if_icmp .ne 19, [104]), (88, false, .aload_n 0, []), (89, false, .getfield 18, []), (92, false, .getfield 29, []), (95, false, .bipush 10, []), (97, false, .if_icmp .ge 7, [104]), (100, false, .iconst 2, []), (101, false, .goto 4, [105]), (104, false, .iconst (-1), []), (105, false, .ireturn, []), (106, false, .aload_n 0, []), (107, false, .iload_n 2, []), (108, false, .invokevirtual 46, []), (111, false, .ireturn, []), (112, false, .iload_n 1, []), (113, false, .bipush 62, []), (115, false, .if_icmp .ne 7, [122]), (118, false, .iconst 4, []), (119, false, .goto 4, [123]), (122, false, .iconst (-1), []), (123, false, .ireturn, []), (124, false, .aload_n 0, []), (125, false, .iload_n 2, []), (126, false, .invokevirtual 49, []), (129, false, .ireturn, []), (130, false, .iload_n 1, []), (131, false, .bipush 58, []), (133, false, .if_icmp .ne 8, [141]), (136, false, .bipush 6, []), (138, false, .goto 4, [142]), (141, false, .iconst (-1), []), (142, false, .ireturn, []), (143, false, .aload_n 0, []), (144, false, .iload_n 2, []), (145, false, .invokevirtual 52, []), (148, false, .ireturn, []), (149, false, .iload_n 1, []), (150, false, .bipush 43, []), (152, false, .if_icmp .ne 8, [160]), (155, false, .bipush 8, []), (157, false, .goto 8, [165]), (160, false, .aload_n 0, []), (161, false, .iload_n 2, []), (162, false, .invokevirtual 55, []), (165, false, .ireturn, []), (166, false, .aload_n 0, []), (167, false, .iload_n 2, []), (168, false, .invokevirtual 58, []), (171, false, .ireturn, []), (172, false, .iconst (-1), []), (173, false, .ireturn, [])]
set_option maxRecDepth 20000 in
theorem kX3_phaseBehind_ok : mm_cok cX3_phaseBehind RX3 (mm_ctt ctRX3) kX3_phaseBehind := mm_c_of (k := false) ctRX3_ok (by decide +kernel)
set_option maxRecDepth 20000 in
theorem wX3_phaseBehind : ∀ w ∈ ([.instanceMethod yX3_phaseBehind, .selects RX3 yX3_phaseBehind yX3_phaseBehind, .initialized RX3, .code yX3_phaseBehind cX3_phaseBehind 3 (some .int)] : List Cond), w ∈ mm_tbl := mm_sub_at _ [492, 0, 105, 493] (by decide +kernel) (by decide +kernel)
def vtX3_phaseBehind : List (Nat × Nat × Nat × mm_F) := [(43, 3, 2, fX3_readNodes), (46, 3, 2, fX3_readFrom), (49, 3, 2, fX3_readTo), (52, 3, 2, fX3_readA), (55, 3, 2, fX3_readMoreOfA), (58, 3, 2, fX3_readB)]
def smX3_phaseBehind : List (Nat × Nat × Nat × mm_F) := [(39, 0, 3, fX7_within)]
def ZX3_phaseBehind (p : Program) (l : Launch) (e : Env) (s : State) (m : MethodId) (args : Array Value) (below : List Frame) (meth : Method) (c : Code) (cA : Nat → ClassId) (ad : Nat → Nat) (D : va_G) (A : Nat → Prop) : Prop := mm_Z p l e (mm_rm 2) s m args below meth c lay_c cA ad D A RX3 cX3_phaseBehind 3 1 (mm_flt flRX3) (mm_clt (vtX3_phaseBehind)) (mm_clt (smX3_phaseBehind)) (mm_ctt ctRX3) kX3_phaseBehind
def qX3_phaseBehind_19 (P : Int → Int → mm_M → Prop) : mm_K := fun ls st M => match ls, st with
  | [some (.inr (.inr c0)), some (.inl v1), none], [.inl w0] => mm_chk (Nat.beq c0 1) (P v1 w0 M)
  | _, _ => False
theorem okX3_phaseBehind_19 {p : Program} {l : Launch} {e : Env} {s : State} {m : MethodId} {args : Array Value} {below : List Frame} {meth : Method} {c : Code} {cA : Nat → ClassId} {ad : Nat → Nat} {D : va_G} {A : Nat → Prop} {Q : Option mm_V → mm_M → Prop} (Z : ZX3_phaseBehind p l e s m args below meth c cA ad D A) : ∀ ls st M, qX3_phaseBehind_19 (fun v1 w0 M => bX3_phaseBehind_19 v1 w0 M (fun r M => Q (some (.inl r)) M)) ls st M → mm_G p l e (mm_rm 2) s m args below meth c lay_c cA ad D A 3 Q 19 ls st M := by
  intro ls st M h
  unfold qX3_phaseBehind_19 at h
  split at h
  · obtain ⟨hb, h⟩ := mm_chk_e h
    cases (Nat.eq_of_beq_eq_true hb)
    exact mm_Zb Z 74 19 [] mm_fa0 h
  · exact h.elim
theorem okX3_phaseBehind : mm_Ok lay_c yX3_phaseBehind cX3_phaseBehind 3 (some .int) 2 fX3_phaseBehind := by
  refine mm_enter (rt := 1) (by decide +kernel) rfl ?_
  intro p l e s m args below meth c cA ad D A as M Q h C0
  have Z : ZX3_phaseBehind p l e s m args below meth c cA ad D A := ⟨C0, flRX3_ok, mm_vt_of (mm_fa1 (mm_coV (n := 1) (ci := 3) C0 okX3_readNodes rfl rfl (mm_one_at (.methodLink RX3 43 yX3_readNodes) 495 (by decide +kernel) rfl) (wX3_readNodes _ (by simp)) (wX3_readNodes _ (by simp [yX3_readNodes])) (wX3_readNodes _ (by simp [yX3_readNodes])) (wX3_readNodes _ (by simp)) (by decide +kernel) (by omega) (by omega)) (mm_fa1 (mm_coV (n := 1) (ci := 3) C0 okX3_readFrom rfl rfl (mm_one_at (.methodLink RX3 46 yX3_readFrom) 499 (by decide +kernel) rfl) (wX3_readFrom _ (by simp)) (wX3_readFrom _ (by simp [yX3_readFrom])) (wX3_readFrom _ (by simp [yX3_readFrom])) (wX3_readFrom _ (by simp)) (by decide +kernel) (by omega) (by omega)) (mm_fa1 (mm_coV (n := 1) (ci := 3) C0 okX3_readTo rfl rfl (mm_one_at (.methodLink RX3 49 yX3_readTo) 503 (by decide +kernel) rfl) (wX3_readTo _ (by simp)) (wX3_readTo _ (by simp [yX3_readTo])) (wX3_readTo _ (by simp [yX3_readTo])) (wX3_readTo _ (by simp)) (by decide +kernel) (by omega) (by omega)) (mm_fa1 (mm_coV (n := 1) (ci := 3) C0 okX3_readA rfl rfl (mm_one_at (.methodLink RX3 52 yX3_readA) 507 (by decide +kernel) rfl) (wX3_readA _ (by simp)) (wX3_readA _ (by simp [yX3_readA])) (wX3_readA _ (by simp [yX3_readA])) (wX3_readA _ (by simp)) (by decide +kernel) (by omega) (by omega)) (mm_fa1 (mm_coV (n := 1) (ci := 3) C0 okX3_readMoreOfA rfl rfl (mm_one_at (.methodLink RX3 55 yX3_readMoreOfA) 511 (by decide +kernel) rfl) (wX3_readMoreOfA _ (by simp)) (wX3_readMoreOfA _ (by simp [yX3_readMoreOfA])) (wX3_readMoreOfA _ (by simp [yX3_readMoreOfA])) (wX3_readMoreOfA _ (by simp)) (by decide +kernel) (by omega) (by omega)) (mm_fa1 (mm_coV (n := 1) (ci := 3) C0 okX3_readB rfl rfl (mm_one_at (.methodLink RX3 58 yX3_readB) 515 (by decide +kernel) rfl) (wX3_readB _ (by simp)) (wX3_readB _ (by simp [yX3_readB])) (wX3_readB _ (by simp [yX3_readB])) (wX3_readB _ (by simp)) (by decide +kernel) (by omega) (by omega)) (mm_fa0))))))), mm_vt_of (mm_fa1 (mm_coN (n := 3) (host := "SelfishWays") C0 okX7_within (List.mem_filter.mpr ⟨List.mem_of_getElem? (i := 494) (by decide +kernel), rfl⟩) (wX7_within _ (by simp)) (wX7_within _ (by simp [yX7_within])) (wX7_within _ (by simp)) (by decide +kernel) (by omega) (by omega)) (mm_fa0)), kX3_phaseBehind_ok, mm_ctok_J ctRX3_ok⟩
  unfold fX3_phaseBehind at h
  split at h
  · obtain ⟨hb, h⟩ := mm_chk_e h
    cases (Nat.eq_of_beq_eq_true hb)
    exact ⟨Nat.le_of_ble_eq_true rfl, mm_Zb Z 74 0 [(19, qX3_phaseBehind_19 (fun v1 w0 M => bX3_phaseBehind_19 v1 w0 M (fun r M => Q (some (.inl r)) M)))] (mm_fa1 (fun ls st M h => okX3_phaseBehind_19 Z  ls st M h) mm_fa0) h⟩
  · exact h.elim
def kX3_readIntoDraft : List mm_E := [(0, false, .aload_n 0, []), (1, false, .iconst 0, []), (2, false, .putfield 22, []), (5, false, .aload_n 0, []), (6, false, .getfield 18, []), (9, false, .iconst 0, []), (10, false, .putfield 26, []), (13, false, .aload_n 0, []), (14, false, .getfield 18, []), (17, false, .iconst 0, []), (18, false, .putfield 29, []), (21, false, .iconst 0, []), (22, false, .istore_n 1, []), (23, true, .iload_n 1, []), (24, false, .aload_n 0, []), (25, false, .getfield 32, []), (28, false, .if_icmp .ge 33, [61]), (31, false, .aload_n 0, []), (32, false, .aload_n 0, []), (33, false, .aload_n 0, []), (34, false, .getfield 9, []), (37, false, .iload_n 1, []), (38, false, .iaload, []), (39, false, .invokevirtual 35, []), (42, false, .putfield 22, []), (45, false, .aload_n 0, []), (46, false, .getfield 22, []), (49, false, .iconst (-1), []), (50, false, .if_icmp .ne 5, [55]), (53, false, .iload_n 1, []), (54, false, .ireturn, []), (55, false, .iinc 1 1, []), (58, false, .goto (-35), [23]), (61, false, .aload_n 0, []), (62, false, .getfield 32, []), (65, false, .ireturn, [])]
set_option maxRecDepth 20000 in
theorem kX3_readIntoDraft_ok : mm_cok cX3_readIntoDraft RX3 (mm_ctt ctRX3) kX3_readIntoDraft := mm_c_of (k := false) ctRX3_ok (by decide +kernel)
set_option maxRecDepth 20000 in
theorem wX3_readIntoDraft : ∀ w ∈ ([.instanceMethod yX3_readIntoDraft, .selects RX3 yX3_readIntoDraft yX3_readIntoDraft, .initialized RX3, .code yX3_readIntoDraft cX3_readIntoDraft 2 (some .int)] : List Cond), w ∈ mm_tbl := mm_sub_at _ [487, 488, 105, 489] (by decide +kernel) (by decide +kernel)
def vtX3_readIntoDraft : List (Nat × Nat × Nat × mm_F) := [(35, 3, 2, fX3_phaseBehind)]
def smX3_readIntoDraft : List (Nat × Nat × Nat × mm_F) := []
def ZX3_readIntoDraft (p : Program) (l : Launch) (e : Env) (s : State) (m : MethodId) (args : Array Value) (below : List Frame) (meth : Method) (c : Code) (cA : Nat → ClassId) (ad : Nat → Nat) (D : va_G) (A : Nat → Prop) : Prop := mm_Z p l e (mm_rm 3) s m args below meth c lay_c cA ad D A RX3 cX3_readIntoDraft 2 1 (mm_flt flRX3) (mm_clt (vtX3_readIntoDraft)) (mm_clt (smX3_readIntoDraft)) (mm_ctt ctRX3) kX3_readIntoDraft
def qX3_readIntoDraft_23 (P : Int → mm_M → Prop) : mm_K := fun ls st M => match ls, st with
  | [some (.inr (.inr c0)), some (.inl v1)], [] => mm_chk (Nat.beq c0 1) (P v1 M)
  | _, _ => False
theorem okX3_readIntoDraft_23 {p : Program} {l : Launch} {e : Env} {s : State} {m : MethodId} {args : Array Value} {below : List Frame} {meth : Method} {c : Code} {cA : Nat → ClassId} {ad : Nat → Nat} {D : va_G} {A : Nat → Prop} {Q : Option mm_V → mm_M → Prop} (Z : ZX3_readIntoDraft p l e s m args below meth c cA ad D A) : ∀ (n : Nat) ls st M, qX3_readIntoDraft_23 (fun v1 M => bX3_readIntoDraft_23 n v1 M (fun r M => Q (some (.inl r)) M)) ls st M → mm_G p l e (mm_rm 3) s m args below meth c lay_c cA ad D A 2 Q 23 ls st M
  | 0, ls, st, M, h => by
    unfold qX3_readIntoDraft_23 at h
    split at h
    · obtain ⟨hb, h⟩ := mm_chk_e h
      cases (Nat.eq_of_beq_eq_true hb)
      exact h.elim
    · exact h.elim
  | n + 1, ls, st, M, h => by
    have ih := okX3_readIntoDraft_23 (Q := Q) Z  n
    unfold qX3_readIntoDraft_23 at h
    split at h
    · obtain ⟨hb, h⟩ := mm_chk_e h
      cases (Nat.eq_of_beq_eq_true hb)
      exact mm_Zb Z 39 23 [(23, qX3_readIntoDraft_23 (fun v1 M => bX3_readIntoDraft_23 n v1 M (fun r M => Q (some (.inl r)) M)))] (mm_fa1 ih mm_fa0) h
    · exact h.elim
theorem okX3_readIntoDraft_23x {p : Program} {l : Launch} {e : Env} {s : State} {m : MethodId} {args : Array Value} {below : List Frame} {meth : Method} {c : Code} {cA : Nat → ClassId} {ad : Nat → Nat} {D : va_G} {A : Nat → Prop} {Q : Option mm_V → mm_M → Prop} (Z : ZX3_readIntoDraft p l e s m args below meth c cA ad D A) : ∀ ls st M, qX3_readIntoDraft_23 (fun v1 M => ∃ j, bX3_readIntoDraft_23 j v1 M (fun r M => Q (some (.inl r)) M)) ls st M → mm_G p l e (mm_rm 3) s m args below meth c lay_c cA ad D A 2 Q 23 ls st M := by
  intro ls st M h
  have hex : ∃ n, qX3_readIntoDraft_23 (fun v1 M => bX3_readIntoDraft_23 n v1 M (fun r M => Q (some (.inl r)) M)) ls st M := by
    unfold qX3_readIntoDraft_23 at h
    split at h
    · obtain ⟨hb, h⟩ := mm_chk_e h
      cases (Nat.eq_of_beq_eq_true hb)
      obtain ⟨n, h⟩ := h
      exact ⟨n, h⟩
    · exact h.elim
  obtain ⟨n, hex⟩ := hex
  exact okX3_readIntoDraft_23 Z  n ls st M hex
theorem okX3_readIntoDraft : mm_Ok lay_c yX3_readIntoDraft cX3_readIntoDraft 2 (some .int) 3 fX3_readIntoDraft := by
  refine mm_enter (rt := 1) (by decide +kernel) rfl ?_
  intro p l e s m args below meth c cA ad D A as M Q h C0
  have Z : ZX3_readIntoDraft p l e s m args below meth c cA ad D A := ⟨C0, flRX3_ok, mm_vt_of (mm_fa1 (mm_coV (n := 1) (ci := 3) C0 okX3_phaseBehind rfl rfl (mm_one_at (.methodLink RX3 35 yX3_phaseBehind) 490 (by decide +kernel) rfl) (wX3_phaseBehind _ (by simp)) (wX3_phaseBehind _ (by simp [yX3_phaseBehind])) (wX3_phaseBehind _ (by simp [yX3_phaseBehind])) (wX3_phaseBehind _ (by simp)) (by decide +kernel) (by omega) (by omega)) (mm_fa0)), mm_vt_of (mm_fa0), kX3_readIntoDraft_ok, mm_ctok_J ctRX3_ok⟩
  unfold fX3_readIntoDraft at h
  split at h
  · obtain ⟨hb, h⟩ := mm_chk_e h
    cases (Nat.eq_of_beq_eq_true hb)
    exact ⟨Nat.le_of_ble_eq_true rfl, mm_Zb Z 39 0 [(23, qX3_readIntoDraft_23 (fun v1 M => ∃ j, bX3_readIntoDraft_23 j v1 M (fun r M => Q (some (.inl r)) M)))] (mm_fa1 (fun ls st M h => okX3_readIntoDraft_23x Z  ls st M h) mm_fa0) h⟩
  · exact h.elim
def kX3_isWhole : List mm_E := [(0, false, .aload_n 0, []), (1, false, .getfield 22, []), (4, false, .iconst 1, []), (5, false, .if_icmp .ne 17, [22]), (8, false, .aload_n 0, []), (9, false, .getfield 18, []), (12, false, .getfield 29, []), (15, false, .ifCond .le 7, [22]), (18, false, .iconst 1, []), (19, false, .goto 4, [23]), (22, false, .iconst 0, []), (23, false, .ireturn, [])]
set_option maxRecDepth 20000 in
theorem kX3_isWhole_ok : mm_cok cX3_isWhole RX3 (mm_ctt ctRX3) kX3_isWhole := mm_c_of (k := false) ctRX3_ok (by decide +kernel)
set_option maxRecDepth 20000 in
theorem wX3_isWhole : ∀ w ∈ ([.instanceMethod yX3_isWhole, .selects RX3 yX3_isWhole yX3_isWhole, .initialized RX3, .code yX3_isWhole cX3_isWhole 1 (some .boolean)] : List Cond), w ∈ mm_tbl := mm_sub_at _ [524, 525, 105, 526] (by decide +kernel) (by decide +kernel)
def vtX3_isWhole : List (Nat × Nat × Nat × mm_F) := []
def smX3_isWhole : List (Nat × Nat × Nat × mm_F) := []
def ZX3_isWhole (p : Program) (l : Launch) (e : Env) (s : State) (m : MethodId) (args : Array Value) (below : List Frame) (meth : Method) (c : Code) (cA : Nat → ClassId) (ad : Nat → Nat) (D : va_G) (A : Nat → Prop) : Prop := mm_Z p l e (mm_rm 0) s m args below meth c lay_c cA ad D A RX3 cX3_isWhole 1 2 (mm_flt flRX3) (mm_clt (vtX3_isWhole)) (mm_clt (smX3_isWhole)) (mm_ctt ctRX3) kX3_isWhole
theorem okX3_isWhole : mm_Ok lay_c yX3_isWhole cX3_isWhole 1 (some .boolean) 0 fX3_isWhole := by
  refine mm_enter (rt := 2) (by decide +kernel) rfl ?_
  intro p l e s m args below meth c cA ad D A as M Q h C0
  have Z : ZX3_isWhole p l e s m args below meth c cA ad D A := ⟨C0, flRX3_ok, mm_vt_of (mm_fa0), mm_vt_of (mm_fa0), kX3_isWhole_ok, mm_ctok_J ctRX3_ok⟩
  unfold fX3_isWhole at h
  split at h
  · obtain ⟨hb, h⟩ := mm_chk_e h
    cases (Nat.eq_of_beq_eq_true hb)
    exact ⟨Nat.le_of_ble_eq_true rfl, mm_Zb Z 15 0 [] mm_fa0 h⟩
  · exact h.elim
def kX4_keepPath : List mm_E := [(0, false, .aload_n 0, []), (1, false, .getfield 26, []), (4, false, .bipush 12, []), (6, false, .if_icmp .ge 73, [79]), (9, false, .aload_n 0, []), (10, false, .getfield 9, []), (13, false, .aload_n 0, []), (14, false, .getfield 26, []), (17, false, .iload_n 1, []), (18, false, .iastore, []), (19, false, .aload_n 0, []), (20, false, .getfield 15, []), (23, false, .aload_n 0, []), (24, false, .getfield 26, []), (27, false, .iconst 0, []), (28, false, .iastore, []), (29, false, .iconst 0, []), (30, false, .istore_n 2, []), (31, true, .iload_n 2, []), (32, false, .iload_n 1, []), (33, false, .if_icmp .ge 46, [79]), (36, false, .aload_n 0, []), (37, false, .getfield 20, []), (40, false, .aload_n 0, []), (41, false, .getfield 26, []), (44, false, .aaload, []), (45, false, .iload_n 2, []), (46, false, .aload_n 0, []), (47, false, .getfield 23, []), (50, false, .iload_n 2, []), (51, false, .iaload, []), (52, false, .iastore, []), (53, false, .aload_n 0, []), (54, false, .getfield 15, []), (57, false, .aload_n 0, []), (58, false, .getfield 26, []), (61, false, .dup2, []), (62, false, .iaload, []), (63, false, .iconst 1, []), (64, false, .aload_n 0, []), (65, false, .getfield 23, []), (68, false, .iload_n 2, []), (69, false, .iaload, []), (70, false, .ishl, []), (71, false, .ior, []), (72, false, .iastore, []), (73, false, .iinc 2 1, []), (76, false, .goto (-45), [31]), (79, false, .aload_n 0, []), (80, false, .dup, []), (81, false, .getfield 26, []), (84, false, .iconst 1, []), (85, false, .iadd, []), (86, false, .putfield 26, []), (89, false, .return_, [])]
set_option maxRecDepth 20000 in
theorem kX4_keepPath_ok : mm_cok cX4_keepPath RX4 (mm_ctt ctRX4) kX4_keepPath := mm_c_of (k := false) ctRX4_ok (by decide +kernel)
set_option maxRecDepth 20000 in
theorem wX4_keepPath : ∀ w ∈ ([.instanceMethod yX4_keepPath, .selects RX4 yX4_keepPath yX4_keepPath, .initialized RX4, .code yX4_keepPath cX4_keepPath 3 none] : List Cond), w ∈ mm_tbl := mm_sub_at _ [612, 9, 108, 613] (by decide +kernel) (by decide +kernel)
def vtX4_keepPath : List (Nat × Nat × Nat × mm_F) := []
def smX4_keepPath : List (Nat × Nat × Nat × mm_F) := []
def ZX4_keepPath (p : Program) (l : Launch) (e : Env) (s : State) (m : MethodId) (args : Array Value) (below : List Frame) (meth : Method) (c : Code) (cA : Nat → ClassId) (ad : Nat → Nat) (D : va_G) (A : Nat → Prop) : Prop := mm_Z p l e (mm_rm 0) s m args below meth c lay_c cA ad D A RX4 cX4_keepPath 3 0 (mm_flt flRX4) (mm_clt (vtX4_keepPath)) (mm_clt (smX4_keepPath)) (mm_ctt ctRX4) kX4_keepPath
def qX4_keepPath_31 (P : Nat → Int → Int → mm_M → Prop) : mm_K := fun ls st M => match ls, st with
  | [some (.inr (.inr v0)), some (.inl v1), some (.inl v2)], [] => P v0 v1 v2 M
  | _, _ => False
theorem okX4_keepPath_31 {p : Program} {l : Launch} {e : Env} {s : State} {m : MethodId} {args : Array Value} {below : List Frame} {meth : Method} {c : Code} {cA : Nat → ClassId} {ad : Nat → Nat} {D : va_G} {A : Nat → Prop} {Q : Option mm_V → mm_M → Prop} (Z : ZX4_keepPath p l e s m args below meth c cA ad D A) : ∀ (n : Nat) ls st M, qX4_keepPath_31 (fun v0 v1 v2 M => bX4_keepPath_31 n v0 v1 v2 M (fun M => Q none M)) ls st M → mm_G p l e (mm_rm 0) s m args below meth c lay_c cA ad D A 3 Q 31 ls st M
  | 0, ls, st, M, h => by
    unfold qX4_keepPath_31 at h
    split at h
    · skip
      exact h.elim
    · exact h.elim
  | n + 1, ls, st, M, h => by
    have ih := okX4_keepPath_31 (Q := Q) Z  n
    unfold qX4_keepPath_31 at h
    split at h
    · skip
      exact mm_Zb Z 58 31 [(31, qX4_keepPath_31 (fun v0 v1 v2 M => bX4_keepPath_31 n v0 v1 v2 M (fun M => Q none M)))] (mm_fa1 ih mm_fa0) h
    · exact h.elim
theorem okX4_keepPath_31x {p : Program} {l : Launch} {e : Env} {s : State} {m : MethodId} {args : Array Value} {below : List Frame} {meth : Method} {c : Code} {cA : Nat → ClassId} {ad : Nat → Nat} {D : va_G} {A : Nat → Prop} {Q : Option mm_V → mm_M → Prop} (Z : ZX4_keepPath p l e s m args below meth c cA ad D A) : ∀ ls st M, qX4_keepPath_31 (fun v0 v1 v2 M => ∃ j, bX4_keepPath_31 j v0 v1 v2 M (fun M => Q none M)) ls st M → mm_G p l e (mm_rm 0) s m args below meth c lay_c cA ad D A 3 Q 31 ls st M := by
  intro ls st M h
  have hex : ∃ n, qX4_keepPath_31 (fun v0 v1 v2 M => bX4_keepPath_31 n v0 v1 v2 M (fun M => Q none M)) ls st M := by
    unfold qX4_keepPath_31 at h
    split at h
    · skip
      obtain ⟨n, h⟩ := h
      exact ⟨n, h⟩
    · exact h.elim
  obtain ⟨n, hex⟩ := hex
  exact okX4_keepPath_31 Z  n ls st M hex
theorem okX4_keepPath : mm_Ok lay_c yX4_keepPath cX4_keepPath 3 none 0 fX4_keepPath := by
  refine mm_enter (rt := 0) (by decide +kernel) rfl ?_
  intro p l e s m args below meth c cA ad D A as M Q h C0
  have Z : ZX4_keepPath p l e s m args below meth c cA ad D A := ⟨C0, flRX4_ok, mm_vt_of (mm_fa0), mm_vt_of (mm_fa0), kX4_keepPath_ok, mm_ctok_J ctRX4_ok⟩
  unfold fX4_keepPath at h
  split at h
  · skip
    exact ⟨Nat.le_of_ble_eq_true rfl, mm_Zb Z 58 0 [(31, qX4_keepPath_31 (fun v0 v1 v2 M => ∃ j, bX4_keepPath_31 j v0 v1 v2 M (fun M => Q none M)))] (mm_fa1 (fun ls st M h => okX4_keepPath_31x Z  ls st M h) mm_fa0) h⟩
  · exact h.elim
def kX4_extend : List mm_E := [(0, false, .iload_n 3, []), (1, false, .iload 4, []), (3, false, .if_icmp .ge 8, [11]), (6, false, .iload_n 3, []), (7, false, .iconst 5, []), (8, false, .if_icmp .lt 17, [25]), (11, false, .iload_n 2, []), (12, false, .aload_n 1, []), (13, false, .getfield 45, []), (16, false, .if_icmp .ne 8, [24]), (19, false, .aload_n 1, []), (20, false, .iload_n 3, []), (21, false, .invokevirtual 48, []), (24, false, .return_, []), (25, false, .iconst 0, []), (26, false, .istore 6, []), (28, true, .iload 6, []), (30, false, .aload_n 0, []), (31, false, .getfield 52, []), (34, false, .if_icmp .ge 75, [109]), (37, false, .aload_n 1, []), (38, false, .getfield 26, []), (41, false, .bipush 12, []), (43, false, .if_icmp .gt 66, [109]), (46, false, .aload_n 0, []), (47, false, .getfield 54, []), (50, false, .iload 6, []), (52, false, .iaload, []), (53, false, .istore 7, []), (55, false, .aload_n 0, []), (56, false, .getfield 56, []), (59, false, .iload 6, []), (61, false, .iaload, []), (62, false, .iload_n 2, []), (63, false, .if_icmp .ne 40, [103]), (66, false, .iload 5, []), (68, false, .iload 7, []), (70, false, .ishr, []), (71, false, .iconst 1, []), (72, false, .iand, []), (73, false, .ifCond .ne 30, [103]), (76, false, .aload_n 1, []), (77, false, .getfield 23, []), (80, false, .iload_n 3, []), (81, false, .iload 6, []), (83, false, .iastore, []), (84, false, .aload_n 0, []), (85, false, .aload_n 1, []), (86, false, .iload 7, []), (88, false, .iload_n 3, []), (89, false, .iconst 1, []), (90, false, .iadd, []), (91, false, .iload 4, []), (93, false, .iload 5, []), (95, false, .iconst 1, []), (96, false, .iload 7, []), (98, false, .ishl, []), (99, false, .ior, []), (100, false, .invokestatic 41, []), (103, false, .iinc 6 1, []), (106, false, .goto (-78), [28]), (109, false, .return_, [])]
set_option maxRecDepth 20000 in
theorem kX4_extend_ok : mm_cok cX4_extend RX4 (mm_ctt ctRX4) kX4_extend := mm_c_of (k := false) ctRX4_ok (by decide +kernel)
set_option maxRecDepth 20000 in
theorem wX4_extend : ∀ w ∈ ([.static yX4_extend, .initialized RX4, .code yX4_extend cX4_extend 8 none] : List Cond), w ∈ mm_tbl := mm_sub_at _ [608, 108, 609] (by decide +kernel) (by decide +kernel)
def vtX4_extend (d : Nat) : List (Nat × Nat × Nat × mm_F) := [(48, 4, 2, fX4_keepPath)]
def smX4_extend (d : Nat) : List (Nat × Nat × Nat × mm_F) := [(41, 0, 6, (fX4_extend d))]
def ZX4_extend (d : Nat) (p : Program) (l : Launch) (e : Env) (s : State) (m : MethodId) (args : Array Value) (below : List Frame) (meth : Method) (c : Code) (cA : Nat → ClassId) (ad : Nat → Nat) (D : va_G) (A : Nat → Prop) : Prop := mm_Z p l e (mm_rm (d + 1 + 2)) s m args below meth c lay_c cA ad D A RX4 cX4_extend 8 0 (mm_flt flRX4) (mm_clt (vtX4_extend d)) (mm_clt (smX4_extend d)) (mm_ctt ctRX4) kX4_extend
def qX4_extend_28 (P : Nat → Int → Int → Int → Int → Int → mm_M → Prop) : mm_K := fun ls st M => match ls, st with
  | [some (.inr (.inr c0)), some (.inr (.inr v1)), some (.inl v2), some (.inl v3), some (.inl v4), some (.inl v5), some (.inl v6), _], [] => mm_chk (Nat.beq c0 10) (P v1 v2 v3 v4 v5 v6 M)
  | _, _ => False
theorem okX4_extend_28 {d : Nat} {p : Program} {l : Launch} {e : Env} {s : State} {m : MethodId} {args : Array Value} {below : List Frame} {meth : Method} {c : Code} {cA : Nat → ClassId} {ad : Nat → Nat} {D : va_G} {A : Nat → Prop} {Q : Option mm_V → mm_M → Prop} (Z : ZX4_extend d p l e s m args below meth c cA ad D A) : ∀ (n : Nat) ls st M, qX4_extend_28 (fun v1 v2 v3 v4 v5 v6 M => bX4_extend_28 (mX4_extend d) n v1 v2 v3 v4 v5 v6 M (fun M => Q none M)) ls st M → mm_G p l e (mm_rm (d + 1 + 2)) s m args below meth c lay_c cA ad D A 8 Q 28 ls st M
  | 0, ls, st, M, h => by
    unfold qX4_extend_28 at h
    split at h
    · obtain ⟨hb, h⟩ := mm_chk_e h
      cases (Nat.eq_of_beq_eq_true hb)
      exact h.elim
    · exact h.elim
  | n + 1, ls, st, M, h => by
    have ih := okX4_extend_28 (Q := Q) Z  n
    unfold qX4_extend_28 at h
    split at h
    · obtain ⟨hb, h⟩ := mm_chk_e h
      cases (Nat.eq_of_beq_eq_true hb)
      exact mm_Zb Z 65 28 [(28, qX4_extend_28 (fun v1 v2 v3 v4 v5 v6 M => bX4_extend_28 (mX4_extend d) n v1 v2 v3 v4 v5 v6 M (fun M => Q none M)))] (mm_fa1 ih mm_fa0) h
    · exact h.elim
theorem okX4_extend_28x {d : Nat} {p : Program} {l : Launch} {e : Env} {s : State} {m : MethodId} {args : Array Value} {below : List Frame} {meth : Method} {c : Code} {cA : Nat → ClassId} {ad : Nat → Nat} {D : va_G} {A : Nat → Prop} {Q : Option mm_V → mm_M → Prop} (Z : ZX4_extend d p l e s m args below meth c cA ad D A) : ∀ ls st M, qX4_extend_28 (fun v1 v2 v3 v4 v5 v6 M => ∃ j, bX4_extend_28 (mX4_extend d) j v1 v2 v3 v4 v5 v6 M (fun M => Q none M)) ls st M → mm_G p l e (mm_rm (d + 1 + 2)) s m args below meth c lay_c cA ad D A 8 Q 28 ls st M := by
  intro ls st M h
  have hex : ∃ n, qX4_extend_28 (fun v1 v2 v3 v4 v5 v6 M => bX4_extend_28 (mX4_extend d) n v1 v2 v3 v4 v5 v6 M (fun M => Q none M)) ls st M := by
    unfold qX4_extend_28 at h
    split at h
    · obtain ⟨hb, h⟩ := mm_chk_e h
      cases (Nat.eq_of_beq_eq_true hb)
      obtain ⟨n, h⟩ := h
      exact ⟨n, h⟩
    · exact h.elim
  obtain ⟨n, hex⟩ := hex
  exact okX4_extend_28 Z  n ls st M hex
theorem okX4_extend : ∀ d, mm_Ok lay_c yX4_extend cX4_extend 8 none (d + 2) (fX4_extend d)
  | 0 => by
    refine mm_enter (rt := 0) (by decide +kernel) rfl ?_
    intro p l e s m args below meth c cA ad D A as M Q h C0
    unfold fX4_extend at h
    split at h
    · obtain ⟨hb, h⟩ := mm_chk_e h
      exact h.elim
    · exact h.elim
  | d + 1 => by
    have ih := okX4_extend d
    refine mm_enter (rt := 0) (by decide +kernel) rfl ?_
    intro p l e s m args below meth c cA ad D A as M Q h C0
    have Z : ZX4_extend d p l e s m args below meth c cA ad D A := ⟨C0, flRX4_ok, mm_vt_of (mm_fa1 (mm_coV (n := 1) (ci := 4) C0 okX4_keepPath rfl rfl (mm_one_at (.methodLink RX4 48 yX4_keepPath) 610 (by decide +kernel) rfl) (wX4_keepPath _ (by simp)) (wX4_keepPath _ (by simp [yX4_keepPath])) (wX4_keepPath _ (by simp [yX4_keepPath])) (wX4_keepPath _ (by simp)) (by decide +kernel) (by omega) (by omega)) (mm_fa0)), mm_vt_of (mm_fa1 (mm_coS (n := 6) C0 ih (mm_one_at (.methodLink RX4 41 yX4_extend) 607 (by decide +kernel) rfl) (wX4_extend _ (by simp)) (wX4_extend _ (by simp [yX4_extend])) (wX4_extend _ (by simp)) (by decide +kernel) (by omega) (by omega)) (mm_fa0)), kX4_extend_ok, mm_ctok_J ctRX4_ok⟩
    unfold fX4_extend at h
    split at h
    · obtain ⟨hb, h⟩ := mm_chk_e h
      cases (Nat.eq_of_beq_eq_true hb)
      exact ⟨Nat.le_of_ble_eq_true rfl, mm_Zb Z 65 0 [(28, qX4_extend_28 (fun v1 v2 v3 v4 v5 v6 M => ∃ j, bX4_extend_28 (mX4_extend d) j v1 v2 v3 v4 v5 v6 M (fun M => Q none M)))] (mm_fa1 (fun ls st M h => okX4_extend_28x Z  ls st M h) mm_fa0) h⟩
    · exact h.elim
def kX4_findWays : List mm_E := [(0, false, .aload_n 0, []), (1, false, .iconst 0, []), (2, false, .putfield 26, []), (5, false, .aload_n 0, []), (6, false, .iconst 0, []), (7, false, .putfield 30, []), (10, false, .iconst 1, []), (11, false, .istore_n 2, []), (12, true, .iload_n 2, []), (13, false, .aload_n 1, []), (14, false, .getfield 33, []), (17, false, .if_icmp .ge 26, [43]), (20, false, .aload_n 1, []), (21, false, .aload_n 0, []), (22, false, .aload_n 0, []), (23, false, .getfield 38, []), (26, false, .iconst 0, []), (27, false, .iload_n 2, []), (28, false, .iconst 1, []), (29, false, .aload_n 0, []), (30, false, .getfield 38, []), (33, false, .ishl, []), (34, false, .invokestatic 41, []), (37, false, .iinc 2 1, []), (40, false, .goto (-28), [12]), (43, false, .return_, [])]
set_option maxRecDepth 20000 in
theorem kX4_findWays_ok : mm_cok cX4_findWays RX4 (mm_ctt ctRX4) kX4_findWays := mm_c_of (k := false) ctRX4_ok (by decide +kernel)
set_option maxRecDepth 20000 in
theorem wX4_findWays : ∀ w ∈ ([.instanceMethod yX4_findWays, .selects RX4 yX4_findWays yX4_findWays, .initialized RX4, .code yX4_findWays cX4_findWays 3 none] : List Cond), w ∈ mm_tbl := mm_sub_at _ [604, 605, 108, 606] (by decide +kernel) (by decide +kernel)
def vtX4_findWays : List (Nat × Nat × Nat × mm_F) := []
def smX4_findWays : List (Nat × Nat × Nat × mm_F) := [(41, 0, 6, (fX4_extend 8))]
def ZX4_findWays (p : Program) (l : Launch) (e : Env) (s : State) (m : MethodId) (args : Array Value) (below : List Frame) (meth : Method) (c : Code) (cA : Nat → ClassId) (ad : Nat → Nat) (D : va_G) (A : Nat → Prop) : Prop := mm_Z p l e (mm_rm 11) s m args below meth c lay_c cA ad D A RX4 cX4_findWays 3 0 (mm_flt flRX4) (mm_clt (vtX4_findWays)) (mm_clt (smX4_findWays)) (mm_ctt ctRX4) kX4_findWays
def qX4_findWays_12 (P : Nat → Int → mm_M → Prop) : mm_K := fun ls st M => match ls, st with
  | [some (.inr (.inr v0)), some (.inr (.inr c1)), some (.inl v2)], [] => mm_chk (Nat.beq c1 10) (P v0 v2 M)
  | _, _ => False
theorem okX4_findWays_12 {p : Program} {l : Launch} {e : Env} {s : State} {m : MethodId} {args : Array Value} {below : List Frame} {meth : Method} {c : Code} {cA : Nat → ClassId} {ad : Nat → Nat} {D : va_G} {A : Nat → Prop} {Q : Option mm_V → mm_M → Prop} (Z : ZX4_findWays p l e s m args below meth c cA ad D A) : ∀ (n : Nat) ls st M, qX4_findWays_12 (fun v0 v2 M => bX4_findWays_12 n v0 v2 M (fun M => Q none M)) ls st M → mm_G p l e (mm_rm 11) s m args below meth c lay_c cA ad D A 3 Q 12 ls st M
  | 0, ls, st, M, h => by
    unfold qX4_findWays_12 at h
    split at h
    · obtain ⟨hb, h⟩ := mm_chk_e h
      cases (Nat.eq_of_beq_eq_true hb)
      exact h.elim
    · exact h.elim
  | n + 1, ls, st, M, h => by
    have ih := okX4_findWays_12 (Q := Q) Z  n
    unfold qX4_findWays_12 at h
    split at h
    · obtain ⟨hb, h⟩ := mm_chk_e h
      cases (Nat.eq_of_beq_eq_true hb)
      exact mm_Zb Z 29 12 [(12, qX4_findWays_12 (fun v0 v2 M => bX4_findWays_12 n v0 v2 M (fun M => Q none M)))] (mm_fa1 ih mm_fa0) h
    · exact h.elim
theorem okX4_findWays_12x {p : Program} {l : Launch} {e : Env} {s : State} {m : MethodId} {args : Array Value} {below : List Frame} {meth : Method} {c : Code} {cA : Nat → ClassId} {ad : Nat → Nat} {D : va_G} {A : Nat → Prop} {Q : Option mm_V → mm_M → Prop} (Z : ZX4_findWays p l e s m args below meth c cA ad D A) : ∀ ls st M, qX4_findWays_12 (fun v0 v2 M => ∃ j, bX4_findWays_12 j v0 v2 M (fun M => Q none M)) ls st M → mm_G p l e (mm_rm 11) s m args below meth c lay_c cA ad D A 3 Q 12 ls st M := by
  intro ls st M h
  have hex : ∃ n, qX4_findWays_12 (fun v0 v2 M => bX4_findWays_12 n v0 v2 M (fun M => Q none M)) ls st M := by
    unfold qX4_findWays_12 at h
    split at h
    · obtain ⟨hb, h⟩ := mm_chk_e h
      cases (Nat.eq_of_beq_eq_true hb)
      obtain ⟨n, h⟩ := h
      exact ⟨n, h⟩
    · exact h.elim
  obtain ⟨n, hex⟩ := hex
  exact okX4_findWays_12 Z  n ls st M hex
theorem okX4_findWays : mm_Ok lay_c yX4_findWays cX4_findWays 3 none 11 fX4_findWays := by
  refine mm_enter (rt := 0) (by decide +kernel) rfl ?_
  intro p l e s m args below meth c cA ad D A as M Q h C0
  have Z : ZX4_findWays p l e s m args below meth c cA ad D A := ⟨C0, flRX4_ok, mm_vt_of (mm_fa0), mm_vt_of (mm_fa1 (mm_coS (n := 6) C0 (okX4_extend 8) (mm_one_at (.methodLink RX4 41 yX4_extend) 607 (by decide +kernel) rfl) (wX4_extend _ (by simp)) (wX4_extend _ (by simp [yX4_extend])) (wX4_extend _ (by simp)) (by decide +kernel) (by omega) (by omega)) (mm_fa0)), kX4_findWays_ok, mm_ctok_J ctRX4_ok⟩
  unfold fX4_findWays at h
  split at h
  · obtain ⟨hb, h⟩ := mm_chk_e h
    cases (Nat.eq_of_beq_eq_true hb)
    exact ⟨Nat.le_of_ble_eq_true rfl, mm_Zb Z 29 0 [(12, qX4_findWays_12 (fun v0 v2 M => ∃ j, bX4_findWays_12 j v0 v2 M (fun M => Q none M)))] (mm_fa1 (fun ls st M h => okX4_findWays_12x Z  ls st M h) mm_fa0) h⟩
  · exact h.elim
def kX6_priceRoads : List mm_E := [(0, false, .iconst 0, []), (1, false, .istore_n 1, []), (2, true, .iload_n 1, []), (3, false, .aload_n 0, []), (4, false, .getfield 12, []), (7, false, .getfield 48, []), (10, false, .if_icmp .ge 109, [119]), (13, false, .aload_n 0, []), (14, false, .getfield 12, []), (17, false, .getfield 51, []), (20, false, .iload_n 1, []), (21, false, .iaload, []), (22, false, .aload_n 0, []), (23, false, .getfield 54, []), (26, false, .iconst 1, []), (27, false, .if_icmp .ne 15, [42]), (30, false, .aload_n 0, []), (31, false, .getfield 12, []), (34, false, .getfield 57, []), (37, false, .iload_n 1, []), (38, false, .iaload, []), (39, false, .goto 4, [43]), (42, false, .iconst 0, []), (43, true, .iadd, []), (44, false, .istore_n 2, []), (45, false, .aload_n 0, []), (46, false, .getfield 54, []), (49, false, .iconst 2, []), (50, false, .if_icmp .ne 15, [65]), (53, false, .aload_n 0, []), (54, false, .getfield 12, []), (57, false, .getfield 60, []), (60, false, .iload_n 1, []), (61, false, .iaload, []), (62, false, .goto 4, [66]), (65, false, .iconst 0, []), (66, false, .istore_n 3, []), (67, false, .iconst 1, []), (68, false, .istore 4, []), (70, true, .iload 4, []), (72, false, .bipush 6, []), (74, false, .if_icmp .gt 39, [113]), (77, false, .aload_n 0, []), (78, false, .getfield 30, []), (81, false, .iload_n 1, []), (82, false, .aaload, []), (83, false, .iload 4, []), (85, false, .iload_n 2, []), (86, false, .aload_n 0, []), (87, false, .getfield 12, []), (90, false, .getfield 60, []), (93, false, .iload_n 1, []), (94, false, .iaload, []), (95, false, .iload 4, []), (97, false, .imul, []), (98, false, .iadd, []), (99, false, .iload_n 3, []), (100, false, .iload 4, []), (102, false, .iconst 1, []), (103, false, .isub, []), (104, false, .imul, []), (105, false, .iadd, []), (106, false, .iastore, []), (107, false, .iinc 4 1, []), (110, false, .goto (-40), [70]), (113, false, .iinc 1 1, []), (116, false, .goto (-114), [2]), (119, false, .return_, [])]
set_option maxRecDepth 20000 in
theorem kX6_priceRoads_ok : mm_cok cX6_priceRoads RX6 (mm_ctt ctRX6) kX6_priceRoads := mm_c_of (k := true) ctRX6_ok (by decide +kernel)
set_option maxRecDepth 20000 in
theorem wX6_priceRoads : ∀ w ∈ ([.instanceMethod yX6_priceRoads, .selects RX6 yX6_priceRoads yX6_priceRoads, .initialized RX6, .code yX6_priceRoads cX6_priceRoads 5 none] : List Cond), w ∈ mm_tbl := mm_sub_at _ [536, 537, 107, 538] (by decide +kernel) (by decide +kernel)
def vtX6_priceRoads : List (Nat × Nat × Nat × mm_F) := []
def smX6_priceRoads : List (Nat × Nat × Nat × mm_F) := []
def ZX6_priceRoads (p : Program) (l : Launch) (e : Env) (s : State) (m : MethodId) (args : Array Value) (below : List Frame) (meth : Method) (c : Code) (cA : Nat → ClassId) (ad : Nat → Nat) (D : va_G) (A : Nat → Prop) : Prop := mm_Z p l e (mm_rm 0) s m args below meth c lay_c cA ad D A RX6 cX6_priceRoads 5 0 (mm_flt flRX6) (mm_clt (vtX6_priceRoads)) (mm_clt (smX6_priceRoads)) (mm_ctt ctRX6) kX6_priceRoads
def qX6_priceRoads_70 (P : Int → Int → Int → Int → mm_M → Prop) : mm_K := fun ls st M => match ls, st with
  | [some (.inr (.inr c0)), some (.inl v1), some (.inl v2), some (.inl v3), some (.inl v4)], [] => mm_chk (Nat.beq c0 9) (P v1 v2 v3 v4 M)
  | _, _ => False
def qX6_priceRoads_43 (P : Int → Int → Int → mm_M → Prop) : mm_K := fun ls st M => match ls, st with
  | [some (.inr (.inr c0)), some (.inl v1), _, _, _], [.inl w0, .inl w1] => mm_chk (Nat.beq c0 9) (P v1 w0 w1 M)
  | _, _ => False
def qX6_priceRoads_2 (P : Int → mm_M → Prop) : mm_K := fun ls st M => match ls, st with
  | [some (.inr (.inr c0)), some (.inl v1), _, _, _], [] => mm_chk (Nat.beq c0 9) (P v1 M)
  | _, _ => False
theorem okX6_priceRoads_70 {p : Program} {l : Launch} {e : Env} {s : State} {m : MethodId} {args : Array Value} {below : List Frame} {meth : Method} {c : Code} {cA : Nat → ClassId} {ad : Nat → Nat} {D : va_G} {A : Nat → Prop} {Q : Option mm_V → mm_M → Prop} (Z : ZX6_priceRoads p l e s m args below meth c cA ad D A) {K2 : Int → mm_M → Prop} (hk2 : ∀ ls st M, qX6_priceRoads_2 K2 ls st M → mm_G p l e (mm_rm 0) s m args below meth c lay_c cA ad D A 5 Q 2 ls st M) : ∀ (n : Nat) ls st M, qX6_priceRoads_70 (fun v1 v2 v3 v4 M => bX6_priceRoads_70 K2 n v1 v2 v3 v4 M (fun M => Q none M)) ls st M → mm_G p l e (mm_rm 0) s m args below meth c lay_c cA ad D A 5 Q 70 ls st M
  | 0, ls, st, M, h => by
    unfold qX6_priceRoads_70 at h
    split at h
    · obtain ⟨hb, h⟩ := mm_chk_e h
      cases (Nat.eq_of_beq_eq_true hb)
      exact h.elim
    · exact h.elim
  | n + 1, ls, st, M, h => by
    have ih := okX6_priceRoads_70 (Q := Q) Z hk2 n
    unfold qX6_priceRoads_70 at h
    split at h
    · obtain ⟨hb, h⟩ := mm_chk_e h
      cases (Nat.eq_of_beq_eq_true hb)
      exact mm_Zb Z 71 70 [(2, qX6_priceRoads_2 (K2)), (70, qX6_priceRoads_70 (fun v1 v2 v3 v4 M => bX6_priceRoads_70 K2 n v1 v2 v3 v4 M (fun M => Q none M)))] (mm_fa1 hk2 (mm_fa1 ih mm_fa0)) h
    · exact h.elim
theorem okX6_priceRoads_70x {p : Program} {l : Launch} {e : Env} {s : State} {m : MethodId} {args : Array Value} {below : List Frame} {meth : Method} {c : Code} {cA : Nat → ClassId} {ad : Nat → Nat} {D : va_G} {A : Nat → Prop} {Q : Option mm_V → mm_M → Prop} (Z : ZX6_priceRoads p l e s m args below meth c cA ad D A) {K2 : Int → mm_M → Prop} (hk2 : ∀ ls st M, qX6_priceRoads_2 K2 ls st M → mm_G p l e (mm_rm 0) s m args below meth c lay_c cA ad D A 5 Q 2 ls st M) : ∀ ls st M, qX6_priceRoads_70 (fun v1 v2 v3 v4 M => ∃ j, bX6_priceRoads_70 K2 j v1 v2 v3 v4 M (fun M => Q none M)) ls st M → mm_G p l e (mm_rm 0) s m args below meth c lay_c cA ad D A 5 Q 70 ls st M := by
  intro ls st M h
  have hex : ∃ n, qX6_priceRoads_70 (fun v1 v2 v3 v4 M => bX6_priceRoads_70 K2 n v1 v2 v3 v4 M (fun M => Q none M)) ls st M := by
    unfold qX6_priceRoads_70 at h
    split at h
    · obtain ⟨hb, h⟩ := mm_chk_e h
      cases (Nat.eq_of_beq_eq_true hb)
      obtain ⟨n, h⟩ := h
      exact ⟨n, h⟩
    · exact h.elim
  obtain ⟨n, hex⟩ := hex
  exact okX6_priceRoads_70 Z hk2 n ls st M hex
theorem okX6_priceRoads_43 {p : Program} {l : Launch} {e : Env} {s : State} {m : MethodId} {args : Array Value} {below : List Frame} {meth : Method} {c : Code} {cA : Nat → ClassId} {ad : Nat → Nat} {D : va_G} {A : Nat → Prop} {Q : Option mm_V → mm_M → Prop} (Z : ZX6_priceRoads p l e s m args below meth c cA ad D A) {K2 : Int → mm_M → Prop} (hk2 : ∀ ls st M, qX6_priceRoads_2 K2 ls st M → mm_G p l e (mm_rm 0) s m args below meth c lay_c cA ad D A 5 Q 2 ls st M) : ∀ ls st M, qX6_priceRoads_43 (fun v1 w0 w1 M => bX6_priceRoads_43 K2 v1 w0 w1 M (fun M => Q none M)) ls st M → mm_G p l e (mm_rm 0) s m args below meth c lay_c cA ad D A 5 Q 43 ls st M := by
  intro ls st M h
  unfold qX6_priceRoads_43 at h
  split at h
  · obtain ⟨hb, h⟩ := mm_chk_e h
    cases (Nat.eq_of_beq_eq_true hb)
    exact mm_Zb Z 71 43 [(70, qX6_priceRoads_70 (fun v1 v2 v3 v4 M => ∃ j, bX6_priceRoads_70 K2 j v1 v2 v3 v4 M (fun M => Q none M)))] (mm_fa1 (fun ls st M h => okX6_priceRoads_70x Z hk2 ls st M h) mm_fa0) h
  · exact h.elim
theorem okX6_priceRoads_2 {p : Program} {l : Launch} {e : Env} {s : State} {m : MethodId} {args : Array Value} {below : List Frame} {meth : Method} {c : Code} {cA : Nat → ClassId} {ad : Nat → Nat} {D : va_G} {A : Nat → Prop} {Q : Option mm_V → mm_M → Prop} (Z : ZX6_priceRoads p l e s m args below meth c cA ad D A) : ∀ (n : Nat) ls st M, qX6_priceRoads_2 (fun v1 M => bX6_priceRoads_2 n v1 M (fun M => Q none M)) ls st M → mm_G p l e (mm_rm 0) s m args below meth c lay_c cA ad D A 5 Q 2 ls st M
  | 0, ls, st, M, h => by
    unfold qX6_priceRoads_2 at h
    split at h
    · obtain ⟨hb, h⟩ := mm_chk_e h
      cases (Nat.eq_of_beq_eq_true hb)
      exact h.elim
    · exact h.elim
  | n + 1, ls, st, M, h => by
    have ih := okX6_priceRoads_2 (Q := Q) Z  n
    unfold qX6_priceRoads_2 at h
    split at h
    · obtain ⟨hb, h⟩ := mm_chk_e h
      cases (Nat.eq_of_beq_eq_true hb)
      exact mm_Zb Z 71 2 [(43, qX6_priceRoads_43 (fun v1 w0 w1 M => bX6_priceRoads_43 (fun v1 M => bX6_priceRoads_2 n v1 M (fun M => Q none M)) v1 w0 w1 M (fun M => Q none M)))] (mm_fa1 (fun ls st M h => okX6_priceRoads_43 Z (ih) ls st M h) mm_fa0) h
    · exact h.elim
theorem okX6_priceRoads_2x {p : Program} {l : Launch} {e : Env} {s : State} {m : MethodId} {args : Array Value} {below : List Frame} {meth : Method} {c : Code} {cA : Nat → ClassId} {ad : Nat → Nat} {D : va_G} {A : Nat → Prop} {Q : Option mm_V → mm_M → Prop} (Z : ZX6_priceRoads p l e s m args below meth c cA ad D A) : ∀ ls st M, qX6_priceRoads_2 (fun v1 M => ∃ j, bX6_priceRoads_2 j v1 M (fun M => Q none M)) ls st M → mm_G p l e (mm_rm 0) s m args below meth c lay_c cA ad D A 5 Q 2 ls st M := by
  intro ls st M h
  have hex : ∃ n, qX6_priceRoads_2 (fun v1 M => bX6_priceRoads_2 n v1 M (fun M => Q none M)) ls st M := by
    unfold qX6_priceRoads_2 at h
    split at h
    · obtain ⟨hb, h⟩ := mm_chk_e h
      cases (Nat.eq_of_beq_eq_true hb)
      obtain ⟨n, h⟩ := h
      exact ⟨n, h⟩
    · exact h.elim
  obtain ⟨n, hex⟩ := hex
  exact okX6_priceRoads_2 Z  n ls st M hex
theorem okX6_priceRoads : mm_Ok lay_c yX6_priceRoads cX6_priceRoads 5 none 0 fX6_priceRoads := by
  refine mm_enter (rt := 0) (by decide +kernel) rfl ?_
  intro p l e s m args below meth c cA ad D A as M Q h C0
  have Z : ZX6_priceRoads p l e s m args below meth c cA ad D A := ⟨C0, flRX6_ok, mm_vt_of (mm_fa0), mm_vt_of (mm_fa0), kX6_priceRoads_ok, mm_ctok_I ctRX6_ok⟩
  unfold fX6_priceRoads at h
  split at h
  · obtain ⟨hb, h⟩ := mm_chk_e h
    cases (Nat.eq_of_beq_eq_true hb)
    exact ⟨Nat.le_of_ble_eq_true rfl, mm_Zb Z 71 0 [(2, qX6_priceRoads_2 (fun v1 M => ∃ j, bX6_priceRoads_2 j v1 M (fun M => Q none M)))] (mm_fa1 (fun ls st M h => okX6_priceRoads_2x Z  ls st M h) mm_fa0) h⟩
  · exact h.elim
def kX6_beginOn : List mm_E := [(0, false, .aload_n 0, []), (1, false, .getfield 12, []), (4, false, .aload_n 1, []), (5, false, .invokevirtual 37, []), (8, false, .aload_n 0, []), (9, false, .iconst 0, []), (10, false, .putfield 41, []), (13, false, .iconst 0, []), (14, false, .istore_n 2, []), (15, true, .iload_n 2, []), (16, false, .bipush 10, []), (18, false, .if_icmp .ge 16, [34]), (21, false, .aload_n 0, []), (22, false, .getfield 24, []), (25, false, .iload_n 2, []), (26, false, .iconst 0, []), (27, false, .iastore, []), (28, false, .iinc 2 1, []), (31, false, .goto (-16), [15]), (34, false, .aload_n 0, []), (35, false, .invokevirtual 45, []), (38, false, .return_, [])]
set_option maxRecDepth 20000 in
theorem kX6_beginOn_ok : mm_cok cX6_beginOn RX6 (mm_ctt ctRX6) kX6_beginOn := mm_c_of (k := true) ctRX6_ok (by decide +kernel)
set_option maxRecDepth 20000 in
theorem wX6_beginOn : ∀ w ∈ ([.instanceMethod yX6_beginOn, .selects RX6 yX6_beginOn yX6_beginOn, .initialized RX6, .code yX6_beginOn cX6_beginOn 3 none] : List Cond), w ∈ mm_tbl := mm_sub_at _ [528, 529, 107, 530] (by decide +kernel) (by decide +kernel)
def vtX6_beginOn : List (Nat × Nat × Nat × mm_F) := [(37, 2, 2, fX2_becomeLike), (45, 6, 1, fX6_priceRoads)]
def smX6_beginOn : List (Nat × Nat × Nat × mm_F) := []
def ZX6_beginOn (p : Program) (l : Launch) (e : Env) (s : State) (m : MethodId) (args : Array Value) (below : List Frame) (meth : Method) (c : Code) (cA : Nat → ClassId) (ad : Nat → Nat) (D : va_G) (A : Nat → Prop) : Prop := mm_Z p l e (mm_rm 1) s m args below meth c lay_c cA ad D A RX6 cX6_beginOn 3 0 (mm_flt flRX6) (mm_clt (vtX6_beginOn)) (mm_clt (smX6_beginOn)) (mm_ctt ctRX6) kX6_beginOn
def qX6_beginOn_15 (P : Int → mm_M → Prop) : mm_K := fun ls st M => match ls, st with
  | [some (.inr (.inr c0)), some (.inr (.inr c1)), some (.inl v2)], [] => mm_chk (Nat.beq c0 9 && Nat.beq c1 3) (P v2 M)
  | _, _ => False
theorem okX6_beginOn_15 {p : Program} {l : Launch} {e : Env} {s : State} {m : MethodId} {args : Array Value} {below : List Frame} {meth : Method} {c : Code} {cA : Nat → ClassId} {ad : Nat → Nat} {D : va_G} {A : Nat → Prop} {Q : Option mm_V → mm_M → Prop} (Z : ZX6_beginOn p l e s m args below meth c cA ad D A) : ∀ (n : Nat) ls st M, qX6_beginOn_15 (fun v2 M => bX6_beginOn_15 n v2 M (fun M => Q none M)) ls st M → mm_G p l e (mm_rm 1) s m args below meth c lay_c cA ad D A 3 Q 15 ls st M
  | 0, ls, st, M, h => by
    unfold qX6_beginOn_15 at h
    split at h
    · obtain ⟨hb, h⟩ := mm_chk_e h
      simp only [Bool.and_eq_true] at hb
      obtain ⟨x0, x1⟩ := hb
      cases (Nat.eq_of_beq_eq_true x0)
      cases (Nat.eq_of_beq_eq_true x1)
      exact h.elim
    · exact h.elim
  | n + 1, ls, st, M, h => by
    have ih := okX6_beginOn_15 (Q := Q) Z  n
    unfold qX6_beginOn_15 at h
    split at h
    · obtain ⟨hb, h⟩ := mm_chk_e h
      simp only [Bool.and_eq_true] at hb
      obtain ⟨x0, x1⟩ := hb
      cases (Nat.eq_of_beq_eq_true x0)
      cases (Nat.eq_of_beq_eq_true x1)
      exact mm_Zb Z 25 15 [(15, qX6_beginOn_15 (fun v2 M => bX6_beginOn_15 n v2 M (fun M => Q none M)))] (mm_fa1 ih mm_fa0) h
    · exact h.elim
theorem okX6_beginOn_15x {p : Program} {l : Launch} {e : Env} {s : State} {m : MethodId} {args : Array Value} {below : List Frame} {meth : Method} {c : Code} {cA : Nat → ClassId} {ad : Nat → Nat} {D : va_G} {A : Nat → Prop} {Q : Option mm_V → mm_M → Prop} (Z : ZX6_beginOn p l e s m args below meth c cA ad D A) : ∀ ls st M, qX6_beginOn_15 (fun v2 M => ∃ j, bX6_beginOn_15 j v2 M (fun M => Q none M)) ls st M → mm_G p l e (mm_rm 1) s m args below meth c lay_c cA ad D A 3 Q 15 ls st M := by
  intro ls st M h
  have hex : ∃ n, qX6_beginOn_15 (fun v2 M => bX6_beginOn_15 n v2 M (fun M => Q none M)) ls st M := by
    unfold qX6_beginOn_15 at h
    split at h
    · obtain ⟨hb, h⟩ := mm_chk_e h
      simp only [Bool.and_eq_true] at hb
      obtain ⟨x0, x1⟩ := hb
      cases (Nat.eq_of_beq_eq_true x0)
      cases (Nat.eq_of_beq_eq_true x1)
      obtain ⟨n, h⟩ := h
      exact ⟨n, h⟩
    · exact h.elim
  obtain ⟨n, hex⟩ := hex
  exact okX6_beginOn_15 Z  n ls st M hex
theorem okX6_beginOn : mm_Ok lay_c yX6_beginOn cX6_beginOn 3 none 1 fX6_beginOn := by
  refine mm_enter (rt := 0) (by decide +kernel) rfl ?_
  intro p l e s m args below meth c cA ad D A as M Q h C0
  have Z : ZX6_beginOn p l e s m args below meth c cA ad D A := ⟨C0, flRX6_ok, mm_vt_of (mm_fa1 (mm_coV (n := 1) (ci := 2) C0 okX2_becomeLike rfl rfl (mm_one_at (.methodLink RX6 37 yX2_becomeLike) 531 (by decide +kernel) rfl) (wX2_becomeLike _ (by simp)) (wX2_becomeLike _ (by simp [yX2_becomeLike])) (wX2_becomeLike _ (by simp [yX2_becomeLike])) (wX2_becomeLike _ (by simp)) (by decide +kernel) (by omega) (by omega)) (mm_fa1 (mm_coV (n := 0) (ci := 6) C0 okX6_priceRoads rfl rfl (mm_one_at (.methodLink RX6 45 yX6_priceRoads) 535 (by decide +kernel) rfl) (wX6_priceRoads _ (by simp)) (wX6_priceRoads _ (by simp [yX6_priceRoads])) (wX6_priceRoads _ (by simp [yX6_priceRoads])) (wX6_priceRoads _ (by simp)) (by decide +kernel) (by omega) (by omega)) (mm_fa0))), mm_vt_of (mm_fa0), kX6_beginOn_ok, mm_ctok_I ctRX6_ok⟩
  unfold fX6_beginOn at h
  split at h
  · obtain ⟨hb, h⟩ := mm_chk_e h
    simp only [Bool.and_eq_true] at hb
    obtain ⟨x0, x1⟩ := hb
    cases (Nat.eq_of_beq_eq_true x0)
    cases (Nat.eq_of_beq_eq_true x1)
    exact ⟨Nat.le_of_ble_eq_true rfl, mm_Zb Z 25 0 [(15, qX6_beginOn_15 (fun v2 M => ∃ j, bX6_beginOn_15 j v2 M (fun M => Q none M)))] (mm_fa1 (fun ls st M h => okX6_beginOn_15x Z  ls st M h) mm_fa0) h⟩
  · exact h.elim
def kX6_payBy : List mm_E := [(0, false, .aload_n 1, []), (1, false, .getfield 94, []), (4, false, .aload_n 1, []), (5, false, .getfield 89, []), (8, false, .iaload, []), (9, false, .istore_n 3, []), (10, false, .iconst 0, []), (11, false, .istore 4, []), (13, false, .iconst 0, []), (14, false, .istore 5, []), (16, true, .iload 5, []), (18, false, .aload_n 1, []), (19, false, .getfield 86, []), (22, false, .iload_n 2, []), (23, false, .iaload, []), (24, false, .if_icmp .ge 60, [84]), (27, false, .aload_n 1, []), (28, false, .getfield 92, []), (31, false, .iload_n 2, []), (32, false, .aaload, []), (33, false, .iload 5, []), (35, false, .iaload, []), (36, false, .istore 6, []), (38, false, .iload_n 3, []), (39, false, .iload 6, []), (41, false, .ishr, []), (42, false, .iconst 1, []), (43, false, .iand, []), (44, false, .iconst 1, []), (45, false, .if_icmp .ne 7, [52]), (48, false, .iconst 0, []), (49, false, .goto 4, [53]), (52, false, .iconst 1, []), (53, true, .istore 7, []), (55, false, .iload 4, []), (57, false, .aload_n 0, []), (58, false, .getfield 30, []), (61, false, .iload 6, []), (63, false, .aaload, []), (64, false, .aload_n 0, []), (65, false, .getfield 24, []), (68, false, .iload 6, []), (70, false, .iaload, []), (71, false, .iload 7, []), (73, false, .iadd, []), (74, false, .iaload, []), (75, false, .iadd, []), (76, false, .istore 4, []), (78, false, .iinc 5 1, []), (81, false, .goto (-65), [16]), (84, false, .iload 4, []), (86, false, .ireturn, [])]
set_option maxRecDepth 20000 in
theorem kX6_payBy_ok : mm_cok cX6_payBy RX6 (mm_ctt ctRX6) kX6_payBy := mm_c_of (k := true) ctRX6_ok (by decide +kernel)
set_option maxRecDepth 20000 in
theorem wX6_payBy : ∀ w ∈ ([.instanceMethod yX6_payBy, .selects RX6 yX6_payBy yX6_payBy, .initialized RX6, .code yX6_payBy cX6_payBy 8 (some .int)] : List Cond), w ∈ mm_tbl := mm_sub_at _ [564, 565, 107, 566] (by decide +kernel) (by decide +kernel)
def vtX6_payBy : List (Nat × Nat × Nat × mm_F) := []
def smX6_payBy : List (Nat × Nat × Nat × mm_F) := []
def ZX6_payBy (p : Program) (l : Launch) (e : Env) (s : State) (m : MethodId) (args : Array Value) (below : List Frame) (meth : Method) (c : Code) (cA : Nat → ClassId) (ad : Nat → Nat) (D : va_G) (A : Nat → Prop) : Prop := mm_Z p l e (mm_rm 0) s m args below meth c lay_c cA ad D A RX6 cX6_payBy 8 1 (mm_flt flRX6) (mm_clt (vtX6_payBy)) (mm_clt (smX6_payBy)) (mm_ctt ctRX6) kX6_payBy
def qX6_payBy_53 (P : Nat → Int → Int → Int → Int → Int → Int → mm_M → Prop) : mm_K := fun ls st M => match ls, st with
  | [some (.inr (.inr c0)), some (.inr (.inr v1)), some (.inl v2), some (.inl v3), some (.inl v4), some (.inl v5), some (.inl v6), _], [.inl w0] => mm_chk (Nat.beq c0 9) (P v1 v2 v3 v4 v5 v6 w0 M)
  | _, _ => False
def qX6_payBy_16 (P : Nat → Int → Int → Int → Int → mm_M → Prop) : mm_K := fun ls st M => match ls, st with
  | [some (.inr (.inr c0)), some (.inr (.inr v1)), some (.inl v2), some (.inl v3), some (.inl v4), some (.inl v5), _, _], [] => mm_chk (Nat.beq c0 9) (P v1 v2 v3 v4 v5 M)
  | _, _ => False
theorem okX6_payBy_53 {p : Program} {l : Launch} {e : Env} {s : State} {m : MethodId} {args : Array Value} {below : List Frame} {meth : Method} {c : Code} {cA : Nat → ClassId} {ad : Nat → Nat} {D : va_G} {A : Nat → Prop} {Q : Option mm_V → mm_M → Prop} (Z : ZX6_payBy p l e s m args below meth c cA ad D A) {K16 : Nat → Int → Int → Int → Int → mm_M → Prop} (hk16 : ∀ ls st M, qX6_payBy_16 K16 ls st M → mm_G p l e (mm_rm 0) s m args below meth c lay_c cA ad D A 8 Q 16 ls st M) : ∀ ls st M, qX6_payBy_53 (fun v1 v2 v3 v4 v5 v6 w0 M => bX6_payBy_53 K16 v1 v2 v3 v4 v5 v6 w0 M (fun r M => Q (some (.inl r)) M)) ls st M → mm_G p l e (mm_rm 0) s m args below meth c lay_c cA ad D A 8 Q 53 ls st M := by
  intro ls st M h
  unfold qX6_payBy_53 at h
  split at h
  · obtain ⟨hb, h⟩ := mm_chk_e h
    cases (Nat.eq_of_beq_eq_true hb)
    exact mm_Zb Z 55 53 [(16, qX6_payBy_16 (K16))] (mm_fa1 hk16 mm_fa0) h
  · exact h.elim
theorem okX6_payBy_16 {p : Program} {l : Launch} {e : Env} {s : State} {m : MethodId} {args : Array Value} {below : List Frame} {meth : Method} {c : Code} {cA : Nat → ClassId} {ad : Nat → Nat} {D : va_G} {A : Nat → Prop} {Q : Option mm_V → mm_M → Prop} (Z : ZX6_payBy p l e s m args below meth c cA ad D A) : ∀ (n : Nat) ls st M, qX6_payBy_16 (fun v1 v2 v3 v4 v5 M => bX6_payBy_16 n v1 v2 v3 v4 v5 M (fun r M => Q (some (.inl r)) M)) ls st M → mm_G p l e (mm_rm 0) s m args below meth c lay_c cA ad D A 8 Q 16 ls st M
  | 0, ls, st, M, h => by
    unfold qX6_payBy_16 at h
    split at h
    · obtain ⟨hb, h⟩ := mm_chk_e h
      cases (Nat.eq_of_beq_eq_true hb)
      exact h.elim
    · exact h.elim
  | n + 1, ls, st, M, h => by
    have ih := okX6_payBy_16 (Q := Q) Z  n
    unfold qX6_payBy_16 at h
    split at h
    · obtain ⟨hb, h⟩ := mm_chk_e h
      cases (Nat.eq_of_beq_eq_true hb)
      exact mm_Zb Z 55 16 [(53, qX6_payBy_53 (fun v1 v2 v3 v4 v5 v6 w0 M => bX6_payBy_53 (fun v1 v2 v3 v4 v5 M => bX6_payBy_16 n v1 v2 v3 v4 v5 M (fun r M => Q (some (.inl r)) M)) v1 v2 v3 v4 v5 v6 w0 M (fun r M => Q (some (.inl r)) M)))] (mm_fa1 (fun ls st M h => okX6_payBy_53 Z (ih) ls st M h) mm_fa0) h
    · exact h.elim
theorem okX6_payBy_16x {p : Program} {l : Launch} {e : Env} {s : State} {m : MethodId} {args : Array Value} {below : List Frame} {meth : Method} {c : Code} {cA : Nat → ClassId} {ad : Nat → Nat} {D : va_G} {A : Nat → Prop} {Q : Option mm_V → mm_M → Prop} (Z : ZX6_payBy p l e s m args below meth c cA ad D A) : ∀ ls st M, qX6_payBy_16 (fun v1 v2 v3 v4 v5 M => ∃ j, bX6_payBy_16 j v1 v2 v3 v4 v5 M (fun r M => Q (some (.inl r)) M)) ls st M → mm_G p l e (mm_rm 0) s m args below meth c lay_c cA ad D A 8 Q 16 ls st M := by
  intro ls st M h
  have hex : ∃ n, qX6_payBy_16 (fun v1 v2 v3 v4 v5 M => bX6_payBy_16 n v1 v2 v3 v4 v5 M (fun r M => Q (some (.inl r)) M)) ls st M := by
    unfold qX6_payBy_16 at h
    split at h
    · obtain ⟨hb, h⟩ := mm_chk_e h
      cases (Nat.eq_of_beq_eq_true hb)
      obtain ⟨n, h⟩ := h
      exact ⟨n, h⟩
    · exact h.elim
  obtain ⟨n, hex⟩ := hex
  exact okX6_payBy_16 Z  n ls st M hex
theorem okX6_payBy : mm_Ok lay_c yX6_payBy cX6_payBy 8 (some .int) 0 fX6_payBy := by
  refine mm_enter (rt := 1) (by decide +kernel) rfl ?_
  intro p l e s m args below meth c cA ad D A as M Q h C0
  have Z : ZX6_payBy p l e s m args below meth c cA ad D A := ⟨C0, flRX6_ok, mm_vt_of (mm_fa0), mm_vt_of (mm_fa0), kX6_payBy_ok, mm_ctok_I ctRX6_ok⟩
  unfold fX6_payBy at h
  split at h
  · obtain ⟨hb, h⟩ := mm_chk_e h
    cases (Nat.eq_of_beq_eq_true hb)
    exact ⟨Nat.le_of_ble_eq_true rfl, mm_Zb Z 55 0 [(16, qX6_payBy_16 (fun v1 v2 v3 v4 v5 M => ∃ j, bX6_payBy_16 j v1 v2 v3 v4 v5 M (fun r M => Q (some (.inl r)) M)))] (mm_fa1 (fun ls st M h => okX6_payBy_16x Z  ls st M h) mm_fa0) h⟩
  · exact h.elim
def kX6_bestWayOf : List mm_E := [(0, false, .aload_n 1, []), (1, false, .getfield 89, []), (4, false, .istore_n 2, []), (5, false, .aload_n 0, []), (6, false, .aload_n 1, []), (7, false, .aload_n 1, []), (8, false, .getfield 89, []), (11, false, .invokevirtual 97, []), (14, false, .istore_n 3, []), (15, false, .iconst 0, []), (16, false, .istore 4, []), (18, true, .iload 4, []), (20, false, .aload_n 1, []), (21, false, .getfield 72, []), (24, false, .if_icmp .ge 30, [54]), (27, false, .aload_n 0, []), (28, false, .aload_n 1, []), (29, false, .iload 4, []), (31, false, .invokevirtual 97, []), (34, false, .istore 5, []), (36, false, .iload 5, []), (38, false, .iload_n 3, []), (39, false, .if_icmp .ge 9, [48]), (42, false, .iload 5, []), (44, false, .istore_n 3, []), (45, false, .iload 4, []), (47, false, .istore_n 2, []), (48, false, .iinc 4 1, []), (51, false, .goto (-33), [18]), (54, false, .iload_n 2, []), (55, false, .ireturn, [])]
set_option maxRecDepth 20000 in
theorem kX6_bestWayOf_ok : mm_cok cX6_bestWayOf RX6 (mm_ctt ctRX6) kX6_bestWayOf := mm_c_of (k := true) ctRX6_ok (by decide +kernel)
set_option maxRecDepth 20000 in
theorem wX6_bestWayOf : ∀ w ∈ ([.instanceMethod yX6_bestWayOf, .selects RX6 yX6_bestWayOf yX6_bestWayOf, .initialized RX6, .code yX6_bestWayOf cX6_bestWayOf 6 (some .int)] : List Cond), w ∈ mm_tbl := mm_sub_at _ [560, 561, 107, 562] (by decide +kernel) (by decide +kernel)
def vtX6_bestWayOf : List (Nat × Nat × Nat × mm_F) := [(97, 6, 3, fX6_payBy)]
def smX6_bestWayOf : List (Nat × Nat × Nat × mm_F) := []
def ZX6_bestWayOf (p : Program) (l : Launch) (e : Env) (s : State) (m : MethodId) (args : Array Value) (below : List Frame) (meth : Method) (c : Code) (cA : Nat → ClassId) (ad : Nat → Nat) (D : va_G) (A : Nat → Prop) : Prop := mm_Z p l e (mm_rm 1) s m args below meth c lay_c cA ad D A RX6 cX6_bestWayOf 6 1 (mm_flt flRX6) (mm_clt (vtX6_bestWayOf)) (mm_clt (smX6_bestWayOf)) (mm_ctt ctRX6) kX6_bestWayOf
def qX6_bestWayOf_18 (P : Nat → Int → Int → Int → mm_M → Prop) : mm_K := fun ls st M => match ls, st with
  | [some (.inr (.inr c0)), some (.inr (.inr v1)), some (.inl v2), some (.inl v3), some (.inl v4), _], [] => mm_chk (Nat.beq c0 9) (P v1 v2 v3 v4 M)
  | _, _ => False
theorem okX6_bestWayOf_18 {p : Program} {l : Launch} {e : Env} {s : State} {m : MethodId} {args : Array Value} {below : List Frame} {meth : Method} {c : Code} {cA : Nat → ClassId} {ad : Nat → Nat} {D : va_G} {A : Nat → Prop} {Q : Option mm_V → mm_M → Prop} (Z : ZX6_bestWayOf p l e s m args below meth c cA ad D A) : ∀ (n : Nat) ls st M, qX6_bestWayOf_18 (fun v1 v2 v3 v4 M => bX6_bestWayOf_18 n v1 v2 v3 v4 M (fun r M => Q (some (.inl r)) M)) ls st M → mm_G p l e (mm_rm 1) s m args below meth c lay_c cA ad D A 6 Q 18 ls st M
  | 0, ls, st, M, h => by
    unfold qX6_bestWayOf_18 at h
    split at h
    · obtain ⟨hb, h⟩ := mm_chk_e h
      cases (Nat.eq_of_beq_eq_true hb)
      exact h.elim
    · exact h.elim
  | n + 1, ls, st, M, h => by
    have ih := okX6_bestWayOf_18 (Q := Q) Z  n
    unfold qX6_bestWayOf_18 at h
    split at h
    · obtain ⟨hb, h⟩ := mm_chk_e h
      cases (Nat.eq_of_beq_eq_true hb)
      exact mm_Zb Z 34 18 [(18, qX6_bestWayOf_18 (fun v1 v2 v3 v4 M => bX6_bestWayOf_18 n v1 v2 v3 v4 M (fun r M => Q (some (.inl r)) M)))] (mm_fa1 ih mm_fa0) h
    · exact h.elim
theorem okX6_bestWayOf_18x {p : Program} {l : Launch} {e : Env} {s : State} {m : MethodId} {args : Array Value} {below : List Frame} {meth : Method} {c : Code} {cA : Nat → ClassId} {ad : Nat → Nat} {D : va_G} {A : Nat → Prop} {Q : Option mm_V → mm_M → Prop} (Z : ZX6_bestWayOf p l e s m args below meth c cA ad D A) : ∀ ls st M, qX6_bestWayOf_18 (fun v1 v2 v3 v4 M => ∃ j, bX6_bestWayOf_18 j v1 v2 v3 v4 M (fun r M => Q (some (.inl r)) M)) ls st M → mm_G p l e (mm_rm 1) s m args below meth c lay_c cA ad D A 6 Q 18 ls st M := by
  intro ls st M h
  have hex : ∃ n, qX6_bestWayOf_18 (fun v1 v2 v3 v4 M => bX6_bestWayOf_18 n v1 v2 v3 v4 M (fun r M => Q (some (.inl r)) M)) ls st M := by
    unfold qX6_bestWayOf_18 at h
    split at h
    · obtain ⟨hb, h⟩ := mm_chk_e h
      cases (Nat.eq_of_beq_eq_true hb)
      obtain ⟨n, h⟩ := h
      exact ⟨n, h⟩
    · exact h.elim
  obtain ⟨n, hex⟩ := hex
  exact okX6_bestWayOf_18 Z  n ls st M hex
theorem okX6_bestWayOf : mm_Ok lay_c yX6_bestWayOf cX6_bestWayOf 6 (some .int) 1 fX6_bestWayOf := by
  refine mm_enter (rt := 1) (by decide +kernel) rfl ?_
  intro p l e s m args below meth c cA ad D A as M Q h C0
  have Z : ZX6_bestWayOf p l e s m args below meth c cA ad D A := ⟨C0, flRX6_ok, mm_vt_of (mm_fa1 (mm_coV (n := 2) (ci := 6) C0 okX6_payBy rfl rfl (mm_one_at (.methodLink RX6 97 yX6_payBy) 563 (by decide +kernel) rfl) (wX6_payBy _ (by simp)) (wX6_payBy _ (by simp [yX6_payBy])) (wX6_payBy _ (by simp [yX6_payBy])) (wX6_payBy _ (by simp)) (by decide +kernel) (by omega) (by omega)) (mm_fa0)), mm_vt_of (mm_fa0), kX6_bestWayOf_ok, mm_ctok_I ctRX6_ok⟩
  unfold fX6_bestWayOf at h
  split at h
  · obtain ⟨hb, h⟩ := mm_chk_e h
    cases (Nat.eq_of_beq_eq_true hb)
    exact ⟨Nat.le_of_ble_eq_true rfl, mm_Zb Z 34 0 [(18, qX6_bestWayOf_18 (fun v1 v2 v3 v4 M => ∃ j, bX6_bestWayOf_18 j v1 v2 v3 v4 M (fun r M => Q (some (.inl r)) M)))] (mm_fa1 (fun ls st M h => okX6_bestWayOf_18x Z  ls st M h) mm_fa0) h⟩
  · exact h.elim
def kX6_admit : List mm_E := [(0, false, .aload_n 0, []), (1, false, .getfield 20, []), (4, false, .aload_n 0, []), (5, false, .getfield 41, []), (8, false, .aaload, []), (9, false, .astore_n 3, []), (10, false, .aload_n 3, []), (11, false, .iload_n 1, []), (12, false, .putfield 63, []), (15, false, .aload_n 3, []), (16, false, .iload_n 2, []), (17, false, .putfield 66, []), (20, false, .aload_n 3, []), (21, false, .aload_n 0, []), (22, false, .getfield 12, []), (25, false, .invokevirtual 69, []), (28, false, .aload_n 3, []), (29, false, .getfield 72, []), (32, false, .ifCond .eq 12, [44]), (35, false, .aload_n 3, []), (36, false, .getfield 72, []), (39, false, .bipush 12, []), (41, false, .if_icmp .le 5, [46]), (44, false, .iconst 0, []), (45, false, .ireturn, []), (46, false, .aload_n 0, []), (47, false, .dup, []), (48, false, .getfield 41, []), (51, false, .iconst 1, []), (52, false, .iadd, []), (53, false, .putfield 41, []), (56, false, .aload_n 0, []), (57, false, .aload_n 3, []), (58, false, .iconst 1, []), (59, false, .invokevirtual 75, []), (62, false, .aload_n 0, []), (63, false, .aload_n 3, []), (64, false, .aload_n 0, []), (65, false, .aload_n 3, []), (66, false, .invokevirtual 79, []), (69, false, .invokevirtual 83, []), (72, false, .iconst 1, []), (73, false, .ireturn, [])]
set_option maxRecDepth 20000 in
theorem kX6_admit_ok : mm_cok cX6_admit RX6 (mm_ctt ctRX6) kX6_admit := mm_c_of (k := true) ctRX6_ok (by decide +kernel)
set_option maxRecDepth 20000 in
theorem wX6_admit : ∀ w ∈ ([.instanceMethod yX6_admit, .selects RX6 yX6_admit yX6_admit, .initialized RX6, .code yX6_admit cX6_admit 4 (some .boolean)] : List Cond), w ∈ mm_tbl := mm_sub_at _ [600, 601, 107, 602] (by decide +kernel) (by decide +kernel)
def vtX6_admit : List (Nat × Nat × Nat × mm_F) := [(69, 4, 2, fX4_findWays), (75, 6, 3, fX6_burden), (79, 6, 2, fX6_bestWayOf), (83, 6, 3, fX6_moveTo)]
def smX6_admit : List (Nat × Nat × Nat × mm_F) := []
def ZX6_admit (p : Program) (l : Launch) (e : Env) (s : State) (m : MethodId) (args : Array Value) (below : List Frame) (meth : Method) (c : Code) (cA : Nat → ClassId) (ad : Nat → Nat) (D : va_G) (A : Nat → Prop) : Prop := mm_Z p l e (mm_rm 12) s m args below meth c lay_c cA ad D A RX6 cX6_admit 4 2 (mm_flt flRX6) (mm_clt (vtX6_admit)) (mm_clt (smX6_admit)) (mm_ctt ctRX6) kX6_admit
theorem okX6_admit : mm_Ok lay_c yX6_admit cX6_admit 4 (some .boolean) 12 fX6_admit := by
  refine mm_enter (rt := 2) (by decide +kernel) rfl ?_
  intro p l e s m args below meth c cA ad D A as M Q h C0
  have Z : ZX6_admit p l e s m args below meth c cA ad D A := ⟨C0, flRX6_ok, mm_vt_of (mm_fa1 (mm_coV (n := 1) (ci := 4) C0 okX4_findWays rfl rfl (mm_one_at (.methodLink RX6 69 yX4_findWays) 603 (by decide +kernel) rfl) (wX4_findWays _ (by simp)) (wX4_findWays _ (by simp [yX4_findWays])) (wX4_findWays _ (by simp [yX4_findWays])) (wX4_findWays _ (by simp)) (by decide +kernel) (by omega) (by omega)) (mm_fa1 (mm_coV (n := 2) (ci := 6) C0 okX6_burden rfl rfl (mm_one_at (.methodLink RX6 75 yX6_burden) 614 (by decide +kernel) rfl) (wX6_burden _ (by simp)) (wX6_burden _ (by simp [yX6_burden])) (wX6_burden _ (by simp [yX6_burden])) (wX6_burden _ (by simp)) (by decide +kernel) (by omega) (by omega)) (mm_fa1 (mm_coV (n := 1) (ci := 6) C0 okX6_bestWayOf rfl rfl (mm_one_at (.methodLink RX6 79 yX6_bestWayOf) 559 (by decide +kernel) rfl) (wX6_bestWayOf _ (by simp)) (wX6_bestWayOf _ (by simp [yX6_bestWayOf])) (wX6_bestWayOf _ (by simp [yX6_bestWayOf])) (wX6_bestWayOf _ (by simp)) (by decide +kernel) (by omega) (by omega)) (mm_fa1 (mm_coV (n := 2) (ci := 6) C0 okX6_moveTo rfl rfl (mm_one_at (.methodLink RX6 83 yX6_moveTo) 618 (by decide +kernel) rfl) (wX6_moveTo _ (by simp)) (wX6_moveTo _ (by simp [yX6_moveTo])) (wX6_moveTo _ (by simp [yX6_moveTo])) (wX6_moveTo _ (by simp)) (by decide +kernel) (by omega) (by omega)) (mm_fa0))))), mm_vt_of (mm_fa0), kX6_admit_ok, mm_ctok_I ctRX6_ok⟩
  unfold fX6_admit at h
  split at h
  · obtain ⟨hb, h⟩ := mm_chk_e h
    cases (Nat.eq_of_beq_eq_true hb)
    exact ⟨Nat.le_of_ble_eq_true rfl, mm_Zb Z 46 0 [] mm_fa0 h⟩
  · exact h.elim
def kX6_dismissLast : List mm_E := [(0, false, .aload_n 0, []), (1, false, .getfield 41, []), (4, false, .ifCond .le 27, [31]), (7, false, .aload_n 0, []), (8, false, .dup, []), (9, false, .getfield 41, []), (12, false, .iconst 1, []), (13, false, .isub, []), (14, false, .putfield 41, []), (17, false, .aload_n 0, []), (18, false, .aload_n 0, []), (19, false, .getfield 20, []), (22, false, .aload_n 0, []), (23, false, .getfield 41, []), (26, false, .aaload, []), (27, false, .iconst (-1), []), (28, false, .invokevirtual 75, []), (31, false, .return_, [])]
set_option maxRecDepth 20000 in
theorem kX6_dismissLast_ok : mm_cok cX6_dismissLast RX6 (mm_ctt ctRX6) kX6_dismissLast := mm_c_of (k := true) ctRX6_ok (by decide +kernel)
set_option maxRecDepth 20000 in
theorem wX6_dismissLast : ∀ w ∈ ([.instanceMethod yX6_dismissLast, .selects RX6 yX6_dismissLast yX6_dismissLast, .initialized RX6, .code yX6_dismissLast cX6_dismissLast 1 none] : List Cond), w ∈ mm_tbl := mm_sub_at _ [627, 628, 107, 629] (by decide +kernel) (by decide +kernel)
def vtX6_dismissLast : List (Nat × Nat × Nat × mm_F) := [(75, 6, 3, fX6_burden)]
def smX6_dismissLast : List (Nat × Nat × Nat × mm_F) := []
def ZX6_dismissLast (p : Program) (l : Launch) (e : Env) (s : State) (m : MethodId) (args : Array Value) (below : List Frame) (meth : Method) (c : Code) (cA : Nat → ClassId) (ad : Nat → Nat) (D : va_G) (A : Nat → Prop) : Prop := mm_Z p l e (mm_rm 1) s m args below meth c lay_c cA ad D A RX6 cX6_dismissLast 1 0 (mm_flt flRX6) (mm_clt (vtX6_dismissLast)) (mm_clt (smX6_dismissLast)) (mm_ctt ctRX6) kX6_dismissLast
theorem okX6_dismissLast : mm_Ok lay_c yX6_dismissLast cX6_dismissLast 1 none 1 fX6_dismissLast := by
  refine mm_enter (rt := 0) (by decide +kernel) rfl ?_
  intro p l e s m args below meth c cA ad D A as M Q h C0
  have Z : ZX6_dismissLast p l e s m args below meth c cA ad D A := ⟨C0, flRX6_ok, mm_vt_of (mm_fa1 (mm_coV (n := 2) (ci := 6) C0 okX6_burden rfl rfl (mm_one_at (.methodLink RX6 75 yX6_burden) 614 (by decide +kernel) rfl) (wX6_burden _ (by simp)) (wX6_burden _ (by simp [yX6_burden])) (wX6_burden _ (by simp [yX6_burden])) (wX6_burden _ (by simp)) (by decide +kernel) (by omega) (by omega)) (mm_fa0)), mm_vt_of (mm_fa0), kX6_dismissLast_ok, mm_ctok_I ctRX6_ok⟩
  unfold fX6_dismissLast at h
  split at h
  · obtain ⟨hb, h⟩ := mm_chk_e h
    cases (Nat.eq_of_beq_eq_true hb)
    exact ⟨Nat.le_of_ble_eq_true rfl, mm_Zb Z 21 0 [] mm_fa0 h⟩
  · exact h.elim
def kX6_restsNow : List mm_E := [(0, false, .iconst 0, []), (1, false, .istore_n 1, []), (2, true, .iload_n 1, []), (3, false, .aload_n 0, []), (4, false, .getfield 41, []), (7, false, .if_icmp .ge 33, [40]), (10, false, .aload_n 0, []), (11, false, .aload_n 0, []), (12, false, .getfield 20, []), (15, false, .iload_n 1, []), (16, false, .aaload, []), (17, false, .invokevirtual 79, []), (20, false, .aload_n 0, []), (21, false, .getfield 20, []), (24, false, .iload_n 1, []), (25, false, .aaload, []), (26, false, .getfield 89, []), (29, false, .if_icmp .eq 5, [34]), (32, false, .iconst 0, []), (33, false, .ireturn, []), (34, false, .iinc 1 1, []), (37, false, .goto (-35), [2]), (40, false, .iconst 1, []), (41, false, .ireturn, [])]
set_option maxRecDepth 20000 in
theorem kX6_restsNow_ok : mm_cok cX6_restsNow RX6 (mm_ctt ctRX6) kX6_restsNow := mm_c_of (k := true) ctRX6_ok (by decide +kernel)
set_option maxRecDepth 20000 in
theorem wX6_restsNow : ∀ w ∈ ([.instanceMethod yX6_restsNow, .selects RX6 yX6_restsNow yX6_restsNow, .initialized RX6, .code yX6_restsNow cX6_restsNow 2 (some .boolean)] : List Cond), w ∈ mm_tbl := mm_sub_at _ [556, 557, 107, 558] (by decide +kernel) (by decide +kernel)
def vtX6_restsNow : List (Nat × Nat × Nat × mm_F) := [(79, 6, 2, fX6_bestWayOf)]
def smX6_restsNow : List (Nat × Nat × Nat × mm_F) := []
def ZX6_restsNow (p : Program) (l : Launch) (e : Env) (s : State) (m : MethodId) (args : Array Value) (below : List Frame) (meth : Method) (c : Code) (cA : Nat → ClassId) (ad : Nat → Nat) (D : va_G) (A : Nat → Prop) : Prop := mm_Z p l e (mm_rm 2) s m args below meth c lay_c cA ad D A RX6 cX6_restsNow 2 2 (mm_flt flRX6) (mm_clt (vtX6_restsNow)) (mm_clt (smX6_restsNow)) (mm_ctt ctRX6) kX6_restsNow
def qX6_restsNow_2 (P : Int → mm_M → Prop) : mm_K := fun ls st M => match ls, st with
  | [some (.inr (.inr c0)), some (.inl v1)], [] => mm_chk (Nat.beq c0 9) (P v1 M)
  | _, _ => False
theorem okX6_restsNow_2 {p : Program} {l : Launch} {e : Env} {s : State} {m : MethodId} {args : Array Value} {below : List Frame} {meth : Method} {c : Code} {cA : Nat → ClassId} {ad : Nat → Nat} {D : va_G} {A : Nat → Prop} {Q : Option mm_V → mm_M → Prop} (Z : ZX6_restsNow p l e s m args below meth c cA ad D A) : ∀ (n : Nat) ls st M, qX6_restsNow_2 (fun v1 M => bX6_restsNow_2 n v1 M (fun r M => Q (some (.inl r)) M)) ls st M → mm_G p l e (mm_rm 2) s m args below meth c lay_c cA ad D A 2 Q 2 ls st M
  | 0, ls, st, M, h => by
    unfold qX6_restsNow_2 at h
    split at h
    · obtain ⟨hb, h⟩ := mm_chk_e h
      cases (Nat.eq_of_beq_eq_true hb)
      exact h.elim
    · exact h.elim
  | n + 1, ls, st, M, h => by
    have ih := okX6_restsNow_2 (Q := Q) Z  n
    unfold qX6_restsNow_2 at h
    split at h
    · obtain ⟨hb, h⟩ := mm_chk_e h
      cases (Nat.eq_of_beq_eq_true hb)
      exact mm_Zb Z 27 2 [(2, qX6_restsNow_2 (fun v1 M => bX6_restsNow_2 n v1 M (fun r M => Q (some (.inl r)) M)))] (mm_fa1 ih mm_fa0) h
    · exact h.elim
theorem okX6_restsNow_2x {p : Program} {l : Launch} {e : Env} {s : State} {m : MethodId} {args : Array Value} {below : List Frame} {meth : Method} {c : Code} {cA : Nat → ClassId} {ad : Nat → Nat} {D : va_G} {A : Nat → Prop} {Q : Option mm_V → mm_M → Prop} (Z : ZX6_restsNow p l e s m args below meth c cA ad D A) : ∀ ls st M, qX6_restsNow_2 (fun v1 M => ∃ j, bX6_restsNow_2 j v1 M (fun r M => Q (some (.inl r)) M)) ls st M → mm_G p l e (mm_rm 2) s m args below meth c lay_c cA ad D A 2 Q 2 ls st M := by
  intro ls st M h
  have hex : ∃ n, qX6_restsNow_2 (fun v1 M => bX6_restsNow_2 n v1 M (fun r M => Q (some (.inl r)) M)) ls st M := by
    unfold qX6_restsNow_2 at h
    split at h
    · obtain ⟨hb, h⟩ := mm_chk_e h
      cases (Nat.eq_of_beq_eq_true hb)
      obtain ⟨n, h⟩ := h
      exact ⟨n, h⟩
    · exact h.elim
  obtain ⟨n, hex⟩ := hex
  exact okX6_restsNow_2 Z  n ls st M hex
theorem okX6_restsNow : mm_Ok lay_c yX6_restsNow cX6_restsNow 2 (some .boolean) 2 fX6_restsNow := by
  refine mm_enter (rt := 2) (by decide +kernel) rfl ?_
  intro p l e s m args below meth c cA ad D A as M Q h C0
  have Z : ZX6_restsNow p l e s m args below meth c cA ad D A := ⟨C0, flRX6_ok, mm_vt_of (mm_fa1 (mm_coV (n := 1) (ci := 6) C0 okX6_bestWayOf rfl rfl (mm_one_at (.methodLink RX6 79 yX6_bestWayOf) 559 (by decide +kernel) rfl) (wX6_bestWayOf _ (by simp)) (wX6_bestWayOf _ (by simp [yX6_bestWayOf])) (wX6_bestWayOf _ (by simp [yX6_bestWayOf])) (wX6_bestWayOf _ (by simp)) (by decide +kernel) (by omega) (by omega)) (mm_fa0)), mm_vt_of (mm_fa0), kX6_restsNow_ok, mm_ctok_I ctRX6_ok⟩
  unfold fX6_restsNow at h
  split at h
  · obtain ⟨hb, h⟩ := mm_chk_e h
    cases (Nat.eq_of_beq_eq_true hb)
    exact ⟨Nat.le_of_ble_eq_true rfl, mm_Zb Z 27 0 [(2, qX6_restsNow_2 (fun v1 M => ∃ j, bX6_restsNow_2 j v1 M (fun r M => Q (some (.inl r)) M)))] (mm_fa1 (fun ls st M h => okX6_restsNow_2x Z  ls st M h) mm_fa0) h⟩
  · exact h.elim
def kX6_moveFirst : List mm_E := [(0, false, .iconst 0, []), (1, false, .istore_n 2, []), (2, true, .iload_n 2, []), (3, false, .aload_n 0, []), (4, false, .getfield 41, []), (7, false, .if_icmp .ge 53, [60]), (10, false, .aload_n 0, []), (11, false, .getfield 20, []), (14, false, .iload_n 2, []), (15, false, .aaload, []), (16, false, .astore_n 3, []), (17, false, .iload_n 2, []), (18, false, .iload_n 1, []), (19, false, .if_icmp .ne 10, [29]), (22, false, .aload_n 3, []), (23, false, .getfield 89, []), (26, false, .goto 8, [34]), (29, false, .aload_n 0, []), (30, false, .aload_n 3, []), (31, false, .invokevirtual 79, []), (34, true, .istore 4, []), (36, false, .iload 4, []), (38, false, .aload_n 3, []), (39, false, .getfield 89, []), (42, false, .if_icmp .eq 12, [54]), (45, false, .aload_n 0, []), (46, false, .aload_n 3, []), (47, false, .iload 4, []), (49, false, .invokevirtual 83, []), (52, false, .iload_n 2, []), (53, false, .ireturn, []), (54, false, .iinc 2 1, []), (57, false, .goto (-55), [2]), (60, false, .iconst (-1), []), (61, false, .ireturn, [])]
set_option maxRecDepth 20000 in
theorem kX6_moveFirst_ok : mm_cok cX6_moveFirst RX6 (mm_ctt ctRX6) kX6_moveFirst := mm_c_of (k := true) ctRX6_ok (by decide +kernel)
set_option maxRecDepth 20000 in
theorem wX6_moveFirst : ∀ w ∈ ([.instanceMethod yX6_moveFirst, .selects RX6 yX6_moveFirst yX6_moveFirst, .initialized RX6, .code yX6_moveFirst cX6_moveFirst 5 (some .int)] : List Cond), w ∈ mm_tbl := mm_sub_at _ [662, 663, 107, 664] (by decide +kernel) (by decide +kernel)
def vtX6_moveFirst : List (Nat × Nat × Nat × mm_F) := [(79, 6, 2, fX6_bestWayOf), (83, 6, 3, fX6_moveTo)]
def smX6_moveFirst : List (Nat × Nat × Nat × mm_F) := []
def ZX6_moveFirst (p : Program) (l : Launch) (e : Env) (s : State) (m : MethodId) (args : Array Value) (below : List Frame) (meth : Method) (c : Code) (cA : Nat → ClassId) (ad : Nat → Nat) (D : va_G) (A : Nat → Prop) : Prop := mm_Z p l e (mm_rm 2) s m args below meth c lay_c cA ad D A RX6 cX6_moveFirst 5 1 (mm_flt flRX6) (mm_clt (vtX6_moveFirst)) (mm_clt (smX6_moveFirst)) (mm_ctt ctRX6) kX6_moveFirst
def qX6_moveFirst_34 (P : Int → Int → Nat → Int → mm_M → Prop) : mm_K := fun ls st M => match ls, st with
  | [some (.inr (.inr c0)), some (.inl v1), some (.inl v2), some (.inr (.inr v3)), _], [.inl w0] => mm_chk (Nat.beq c0 9) (P v1 v2 v3 w0 M)
  | _, _ => False
def qX6_moveFirst_2 (P : Int → Int → mm_M → Prop) : mm_K := fun ls st M => match ls, st with
  | [some (.inr (.inr c0)), some (.inl v1), some (.inl v2), _, _], [] => mm_chk (Nat.beq c0 9) (P v1 v2 M)
  | _, _ => False
theorem okX6_moveFirst_34 {p : Program} {l : Launch} {e : Env} {s : State} {m : MethodId} {args : Array Value} {below : List Frame} {meth : Method} {c : Code} {cA : Nat → ClassId} {ad : Nat → Nat} {D : va_G} {A : Nat → Prop} {Q : Option mm_V → mm_M → Prop} (Z : ZX6_moveFirst p l e s m args below meth c cA ad D A) {K2 : Int → Int → mm_M → Prop} (hk2 : ∀ ls st M, qX6_moveFirst_2 K2 ls st M → mm_G p l e (mm_rm 2) s m args below meth c lay_c cA ad D A 5 Q 2 ls st M) : ∀ ls st M, qX6_moveFirst_34 (fun v1 v2 v3 w0 M => bX6_moveFirst_34 K2 v1 v2 v3 w0 M (fun r M => Q (some (.inl r)) M)) ls st M → mm_G p l e (mm_rm 2) s m args below meth c lay_c cA ad D A 5 Q 34 ls st M := by
  intro ls st M h
  unfold qX6_moveFirst_34 at h
  split at h
  · obtain ⟨hb, h⟩ := mm_chk_e h
    cases (Nat.eq_of_beq_eq_true hb)
    exact mm_Zb Z 38 34 [(2, qX6_moveFirst_2 (K2))] (mm_fa1 hk2 mm_fa0) h
  · exact h.elim
theorem okX6_moveFirst_2 {p : Program} {l : Launch} {e : Env} {s : State} {m : MethodId} {args : Array Value} {below : List Frame} {meth : Method} {c : Code} {cA : Nat → ClassId} {ad : Nat → Nat} {D : va_G} {A : Nat → Prop} {Q : Option mm_V → mm_M → Prop} (Z : ZX6_moveFirst p l e s m args below meth c cA ad D A) : ∀ (n : Nat) ls st M, qX6_moveFirst_2 (fun v1 v2 M => bX6_moveFirst_2 n v1 v2 M (fun r M => Q (some (.inl r)) M)) ls st M → mm_G p l e (mm_rm 2) s m args below meth c lay_c cA ad D A 5 Q 2 ls st M
  | 0, ls, st, M, h => by
    unfold qX6_moveFirst_2 at h
    split at h
    · obtain ⟨hb, h⟩ := mm_chk_e h
      cases (Nat.eq_of_beq_eq_true hb)
      exact h.elim
    · exact h.elim
  | n + 1, ls, st, M, h => by
    have ih := okX6_moveFirst_2 (Q := Q) Z  n
    unfold qX6_moveFirst_2 at h
    split at h
    · obtain ⟨hb, h⟩ := mm_chk_e h
      cases (Nat.eq_of_beq_eq_true hb)
      exact mm_Zb Z 38 2 [(34, qX6_moveFirst_34 (fun v1 v2 v3 w0 M => bX6_moveFirst_34 (fun v1 v2 M => bX6_moveFirst_2 n v1 v2 M (fun r M => Q (some (.inl r)) M)) v1 v2 v3 w0 M (fun r M => Q (some (.inl r)) M)))] (mm_fa1 (fun ls st M h => okX6_moveFirst_34 Z (ih) ls st M h) mm_fa0) h
    · exact h.elim
theorem okX6_moveFirst_2x {p : Program} {l : Launch} {e : Env} {s : State} {m : MethodId} {args : Array Value} {below : List Frame} {meth : Method} {c : Code} {cA : Nat → ClassId} {ad : Nat → Nat} {D : va_G} {A : Nat → Prop} {Q : Option mm_V → mm_M → Prop} (Z : ZX6_moveFirst p l e s m args below meth c cA ad D A) : ∀ ls st M, qX6_moveFirst_2 (fun v1 v2 M => ∃ j, bX6_moveFirst_2 j v1 v2 M (fun r M => Q (some (.inl r)) M)) ls st M → mm_G p l e (mm_rm 2) s m args below meth c lay_c cA ad D A 5 Q 2 ls st M := by
  intro ls st M h
  have hex : ∃ n, qX6_moveFirst_2 (fun v1 v2 M => bX6_moveFirst_2 n v1 v2 M (fun r M => Q (some (.inl r)) M)) ls st M := by
    unfold qX6_moveFirst_2 at h
    split at h
    · obtain ⟨hb, h⟩ := mm_chk_e h
      cases (Nat.eq_of_beq_eq_true hb)
      obtain ⟨n, h⟩ := h
      exact ⟨n, h⟩
    · exact h.elim
  obtain ⟨n, hex⟩ := hex
  exact okX6_moveFirst_2 Z  n ls st M hex
theorem okX6_moveFirst : mm_Ok lay_c yX6_moveFirst cX6_moveFirst 5 (some .int) 2 fX6_moveFirst := by
  refine mm_enter (rt := 1) (by decide +kernel) rfl ?_
  intro p l e s m args below meth c cA ad D A as M Q h C0
  have Z : ZX6_moveFirst p l e s m args below meth c cA ad D A := ⟨C0, flRX6_ok, mm_vt_of (mm_fa1 (mm_coV (n := 1) (ci := 6) C0 okX6_bestWayOf rfl rfl (mm_one_at (.methodLink RX6 79 yX6_bestWayOf) 559 (by decide +kernel) rfl) (wX6_bestWayOf _ (by simp)) (wX6_bestWayOf _ (by simp [yX6_bestWayOf])) (wX6_bestWayOf _ (by simp [yX6_bestWayOf])) (wX6_bestWayOf _ (by simp)) (by decide +kernel) (by omega) (by omega)) (mm_fa1 (mm_coV (n := 2) (ci := 6) C0 okX6_moveTo rfl rfl (mm_one_at (.methodLink RX6 83 yX6_moveTo) 618 (by decide +kernel) rfl) (wX6_moveTo _ (by simp)) (wX6_moveTo _ (by simp [yX6_moveTo])) (wX6_moveTo _ (by simp [yX6_moveTo])) (wX6_moveTo _ (by simp)) (by decide +kernel) (by omega) (by omega)) (mm_fa0))), mm_vt_of (mm_fa0), kX6_moveFirst_ok, mm_ctok_I ctRX6_ok⟩
  unfold fX6_moveFirst at h
  split at h
  · obtain ⟨hb, h⟩ := mm_chk_e h
    cases (Nat.eq_of_beq_eq_true hb)
    exact ⟨Nat.le_of_ble_eq_true rfl, mm_Zb Z 38 0 [(2, qX6_moveFirst_2 (fun v1 v2 M => ∃ j, bX6_moveFirst_2 j v1 v2 M (fun r M => Q (some (.inl r)) M)))] (mm_fa1 (fun ls st M h => okX6_moveFirst_2x Z  ls st M h) mm_fa0) h⟩
  · exact h.elim
def kX6_settleBehind : List mm_E := [(0, false, .aload_n 0, []), (1, false, .aload_n 0, []), (2, false, .getfield 20, []), (5, false, .iload_n 1, []), (6, false, .aaload, []), (7, false, .iload_n 2, []), (8, false, .invokevirtual 83, []), (11, false, .iconst 0, []), (12, false, .istore_n 3, []), (13, true, .iload_n 3, []), (14, false, .ldc 101, []), (16, false, .if_icmp .ge 21, [37]), (19, false, .aload_n 0, []), (20, false, .iload_n 1, []), (21, false, .invokevirtual 102, []), (24, false, .iconst (-1), []), (25, false, .if_icmp .ne 6, [31]), (28, false, .goto 9, [37]), (31, false, .iinc 3 1, []), (34, false, .goto (-21), [13]), (37, false, .aload_n 0, []), (38, false, .aload_n 0, []), (39, false, .getfield 20, []), (42, false, .iload_n 1, []), (43, false, .aaload, []), (44, false, .iload_n 2, []), (45, false, .invokevirtual 97, []), (48, false, .ireturn, [])]
set_option maxRecDepth 20000 in
theorem kX6_settleBehind_ok : mm_cok cX6_settleBehind RX6 (mm_ctt ctRX6) kX6_settleBehind := mm_c_of (k := true) ctRX6_ok (by decide +kernel)
set_option maxRecDepth 20000 in
theorem wX6_settleBehind : ∀ w ∈ ([.instanceMethod yX6_settleBehind, .selects RX6 yX6_settleBehind yX6_settleBehind, .initialized RX6, .code yX6_settleBehind cX6_settleBehind 4 (some .int)] : List Cond), w ∈ mm_tbl := mm_sub_at _ [789, 790, 107, 791] (by decide +kernel) (by decide +kernel)
def vtX6_settleBehind : List (Nat × Nat × Nat × mm_F) := [(83, 6, 3, fX6_moveTo), (97, 6, 3, fX6_payBy), (102, 6, 2, fX6_moveFirst)]
def smX6_settleBehind : List (Nat × Nat × Nat × mm_F) := []
def ZX6_settleBehind (p : Program) (l : Launch) (e : Env) (s : State) (m : MethodId) (args : Array Value) (below : List Frame) (meth : Method) (c : Code) (cA : Nat → ClassId) (ad : Nat → Nat) (D : va_G) (A : Nat → Prop) : Prop := mm_Z p l e (mm_rm 3) s m args below meth c lay_c cA ad D A RX6 cX6_settleBehind 4 1 (mm_flt flRX6) (mm_clt (vtX6_settleBehind)) (mm_clt (smX6_settleBehind)) (mm_ctt ctRX6) kX6_settleBehind
def qX6_settleBehind_13 (P : Int → Int → Int → mm_M → Prop) : mm_K := fun ls st M => match ls, st with
  | [some (.inr (.inr c0)), some (.inl v1), some (.inl v2), some (.inl v3)], [] => mm_chk (Nat.beq c0 9) (P v1 v2 v3 M)
  | _, _ => False
theorem okX6_settleBehind_13 {p : Program} {l : Launch} {e : Env} {s : State} {m : MethodId} {args : Array Value} {below : List Frame} {meth : Method} {c : Code} {cA : Nat → ClassId} {ad : Nat → Nat} {D : va_G} {A : Nat → Prop} {Q : Option mm_V → mm_M → Prop} (Z : ZX6_settleBehind p l e s m args below meth c cA ad D A) : ∀ (n : Nat) ls st M, qX6_settleBehind_13 (fun v1 v2 v3 M => bX6_settleBehind_13 n v1 v2 v3 M (fun r M => Q (some (.inl r)) M)) ls st M → mm_G p l e (mm_rm 3) s m args below meth c lay_c cA ad D A 4 Q 13 ls st M
  | 0, ls, st, M, h => by
    unfold qX6_settleBehind_13 at h
    split at h
    · obtain ⟨hb, h⟩ := mm_chk_e h
      cases (Nat.eq_of_beq_eq_true hb)
      exact h.elim
    · exact h.elim
  | n + 1, ls, st, M, h => by
    have ih := okX6_settleBehind_13 (Q := Q) Z  n
    unfold qX6_settleBehind_13 at h
    split at h
    · obtain ⟨hb, h⟩ := mm_chk_e h
      cases (Nat.eq_of_beq_eq_true hb)
      exact mm_Zb Z 31 13 [(13, qX6_settleBehind_13 (fun v1 v2 v3 M => bX6_settleBehind_13 n v1 v2 v3 M (fun r M => Q (some (.inl r)) M)))] (mm_fa1 ih mm_fa0) h
    · exact h.elim
theorem okX6_settleBehind_13x {p : Program} {l : Launch} {e : Env} {s : State} {m : MethodId} {args : Array Value} {below : List Frame} {meth : Method} {c : Code} {cA : Nat → ClassId} {ad : Nat → Nat} {D : va_G} {A : Nat → Prop} {Q : Option mm_V → mm_M → Prop} (Z : ZX6_settleBehind p l e s m args below meth c cA ad D A) : ∀ ls st M, qX6_settleBehind_13 (fun v1 v2 v3 M => ∃ j, bX6_settleBehind_13 j v1 v2 v3 M (fun r M => Q (some (.inl r)) M)) ls st M → mm_G p l e (mm_rm 3) s m args below meth c lay_c cA ad D A 4 Q 13 ls st M := by
  intro ls st M h
  have hex : ∃ n, qX6_settleBehind_13 (fun v1 v2 v3 M => bX6_settleBehind_13 n v1 v2 v3 M (fun r M => Q (some (.inl r)) M)) ls st M := by
    unfold qX6_settleBehind_13 at h
    split at h
    · obtain ⟨hb, h⟩ := mm_chk_e h
      cases (Nat.eq_of_beq_eq_true hb)
      obtain ⟨n, h⟩ := h
      exact ⟨n, h⟩
    · exact h.elim
  obtain ⟨n, hex⟩ := hex
  exact okX6_settleBehind_13 Z  n ls st M hex
theorem okX6_settleBehind : mm_Ok lay_c yX6_settleBehind cX6_settleBehind 4 (some .int) 3 fX6_settleBehind := by
  refine mm_enter (rt := 1) (by decide +kernel) rfl ?_
  intro p l e s m args below meth c cA ad D A as M Q h C0
  have Z : ZX6_settleBehind p l e s m args below meth c cA ad D A := ⟨C0, flRX6_ok, mm_vt_of (mm_fa1 (mm_coV (n := 2) (ci := 6) C0 okX6_moveTo rfl rfl (mm_one_at (.methodLink RX6 83 yX6_moveTo) 618 (by decide +kernel) rfl) (wX6_moveTo _ (by simp)) (wX6_moveTo _ (by simp [yX6_moveTo])) (wX6_moveTo _ (by simp [yX6_moveTo])) (wX6_moveTo _ (by simp)) (by decide +kernel) (by omega) (by omega)) (mm_fa1 (mm_coV (n := 2) (ci := 6) C0 okX6_payBy rfl rfl (mm_one_at (.methodLink RX6 97 yX6_payBy) 563 (by decide +kernel) rfl) (wX6_payBy _ (by simp)) (wX6_payBy _ (by simp [yX6_payBy])) (wX6_payBy _ (by simp [yX6_payBy])) (wX6_payBy _ (by simp)) (by decide +kernel) (by omega) (by omega)) (mm_fa1 (mm_coV (n := 1) (ci := 6) C0 okX6_moveFirst rfl rfl (mm_one_at (.methodLink RX6 102 yX6_moveFirst) 793 (by decide +kernel) rfl) (wX6_moveFirst _ (by simp)) (wX6_moveFirst _ (by simp [yX6_moveFirst])) (wX6_moveFirst _ (by simp [yX6_moveFirst])) (wX6_moveFirst _ (by simp)) (by decide +kernel) (by omega) (by omega)) (mm_fa0)))), mm_vt_of (mm_fa0), kX6_settleBehind_ok, mm_ctok_I ctRX6_ok⟩
  unfold fX6_settleBehind at h
  split at h
  · obtain ⟨hb, h⟩ := mm_chk_e h
    cases (Nat.eq_of_beq_eq_true hb)
    exact ⟨Nat.le_of_ble_eq_true rfl, mm_Zb Z 31 0 [(13, qX6_settleBehind_13 (fun v1 v2 v3 M => ∃ j, bX6_settleBehind_13 j v1 v2 v3 M (fun r M => Q (some (.inl r)) M)))] (mm_fa1 (fun ls st M h => okX6_settleBehind_13x Z  ls st M h) mm_fa0) h⟩
  · exact h.elim
def kX6_payIfLeading : List mm_E := [(0, false, .aload_n 0, []), (1, false, .invokevirtual 106, []), (4, false, .aload_n 0, []), (5, false, .iload_n 1, []), (6, false, .iload_n 2, []), (7, false, .invokevirtual 109, []), (10, false, .istore_n 3, []), (11, false, .aload_n 0, []), (12, false, .invokevirtual 113, []), (15, false, .iload_n 3, []), (16, false, .ireturn, [])]
set_option maxRecDepth 20000 in
theorem kX6_payIfLeading_ok : mm_cok cX6_payIfLeading RX6 (mm_ctt ctRX6) kX6_payIfLeading := mm_c_of (k := true) ctRX6_ok (by decide +kernel)
set_option maxRecDepth 20000 in
theorem wX6_payIfLeading : ∀ w ∈ ([.instanceMethod yX6_payIfLeading, .selects RX6 yX6_payIfLeading yX6_payIfLeading, .initialized RX6, .code yX6_payIfLeading cX6_payIfLeading 4 (some .int)] : List Cond), w ∈ mm_tbl := mm_sub_at _ [784, 785, 107, 786] (by decide +kernel) (by decide +kernel)
def vtX6_payIfLeading : List (Nat × Nat × Nat × mm_F) := [(106, 6, 1, fX6_keepSet), (109, 6, 3, fX6_settleBehind), (113, 6, 1, fX6_takeKeptSet)]
def smX6_payIfLeading : List (Nat × Nat × Nat × mm_F) := []
def ZX6_payIfLeading (p : Program) (l : Launch) (e : Env) (s : State) (m : MethodId) (args : Array Value) (below : List Frame) (meth : Method) (c : Code) (cA : Nat → ClassId) (ad : Nat → Nat) (D : va_G) (A : Nat → Prop) : Prop := mm_Z p l e (mm_rm 4) s m args below meth c lay_c cA ad D A RX6 cX6_payIfLeading 4 1 (mm_flt flRX6) (mm_clt (vtX6_payIfLeading)) (mm_clt (smX6_payIfLeading)) (mm_ctt ctRX6) kX6_payIfLeading
theorem okX6_payIfLeading : mm_Ok lay_c yX6_payIfLeading cX6_payIfLeading 4 (some .int) 4 fX6_payIfLeading := by
  refine mm_enter (rt := 1) (by decide +kernel) rfl ?_
  intro p l e s m args below meth c cA ad D A as M Q h C0
  have Z : ZX6_payIfLeading p l e s m args below meth c cA ad D A := ⟨C0, flRX6_ok, mm_vt_of (mm_fa1 (mm_coV (n := 0) (ci := 6) C0 okX6_keepSet rfl rfl (mm_one_at (.methodLink RX6 106 yX6_keepSet) 787 (by decide +kernel) rfl) (wX6_keepSet _ (by simp)) (wX6_keepSet _ (by simp [yX6_keepSet])) (wX6_keepSet _ (by simp [yX6_keepSet])) (wX6_keepSet _ (by simp)) (by decide +kernel) (by omega) (by omega)) (mm_fa1 (mm_coV (n := 2) (ci := 6) C0 okX6_settleBehind rfl rfl (mm_one_at (.methodLink RX6 109 yX6_settleBehind) 788 (by decide +kernel) rfl) (wX6_settleBehind _ (by simp)) (wX6_settleBehind _ (by simp [yX6_settleBehind])) (wX6_settleBehind _ (by simp [yX6_settleBehind])) (wX6_settleBehind _ (by simp)) (by decide +kernel) (by omega) (by omega)) (mm_fa1 (mm_coV (n := 0) (ci := 6) C0 okX6_takeKeptSet rfl rfl (mm_one_at (.methodLink RX6 113 yX6_takeKeptSet) 794 (by decide +kernel) rfl) (wX6_takeKeptSet _ (by simp)) (wX6_takeKeptSet _ (by simp [yX6_takeKeptSet])) (wX6_takeKeptSet _ (by simp [yX6_takeKeptSet])) (wX6_takeKeptSet _ (by simp)) (by decide +kernel) (by omega) (by omega)) (mm_fa0)))), mm_vt_of (mm_fa0), kX6_payIfLeading_ok, mm_ctok_I ctRX6_ok⟩
  unfold fX6_payIfLeading at h
  split at h
  · obtain ⟨hb, h⟩ := mm_chk_e h
    cases (Nat.eq_of_beq_eq_true hb)
    exact ⟨Nat.le_of_ble_eq_true rfl, mm_Zb Z 14 0 [] mm_fa0 h⟩
  · exact h.elim
def kX6_bestLeadOf : List mm_E := [(0, false, .iconst 0, []), (1, false, .istore_n 2, []), (2, false, .aload_n 0, []), (3, false, .iload_n 1, []), (4, false, .iconst 0, []), (5, false, .invokevirtual 116, []), (8, false, .istore_n 3, []), (9, false, .iconst 1, []), (10, false, .istore 4, []), (12, true, .iload 4, []), (14, false, .aload_n 0, []), (15, false, .getfield 20, []), (18, false, .iload_n 1, []), (19, false, .aaload, []), (20, false, .getfield 72, []), (23, false, .if_icmp .ge 30, [53]), (26, false, .aload_n 0, []), (27, false, .iload_n 1, []), (28, false, .iload 4, []), (30, false, .invokevirtual 116, []), (33, false, .istore 5, []), (35, false, .iload 5, []), (37, false, .iload_n 3, []), (38, false, .if_icmp .ge 9, [47]), (41, false, .iload 5, []), (43, false, .istore_n 3, []), (44, false, .iload 4, []), (46, false, .istore_n 2, []), (47, false, .iinc 4 1, []), (50, false, .goto (-38), [12]), (53, false, .iload_n 2, []), (54, false, .ireturn, [])]
set_option maxRecDepth 20000 in
theorem kX6_bestLeadOf_ok : mm_cok cX6_bestLeadOf RX6 (mm_ctt ctRX6) kX6_bestLeadOf := mm_c_of (k := true) ctRX6_ok (by decide +kernel)
set_option maxRecDepth 20000 in
theorem wX6_bestLeadOf : ∀ w ∈ ([.instanceMethod yX6_bestLeadOf, .selects RX6 yX6_bestLeadOf yX6_bestLeadOf, .initialized RX6, .code yX6_bestLeadOf cX6_bestLeadOf 6 (some .int)] : List Cond), w ∈ mm_tbl := mm_sub_at _ [800, 801, 107, 802] (by decide +kernel) (by decide +kernel)
def vtX6_bestLeadOf : List (Nat × Nat × Nat × mm_F) := [(116, 6, 3, fX6_payIfLeading)]
def smX6_bestLeadOf : List (Nat × Nat × Nat × mm_F) := []
def ZX6_bestLeadOf (p : Program) (l : Launch) (e : Env) (s : State) (m : MethodId) (args : Array Value) (below : List Frame) (meth : Method) (c : Code) (cA : Nat → ClassId) (ad : Nat → Nat) (D : va_G) (A : Nat → Prop) : Prop := mm_Z p l e (mm_rm 5) s m args below meth c lay_c cA ad D A RX6 cX6_bestLeadOf 6 1 (mm_flt flRX6) (mm_clt (vtX6_bestLeadOf)) (mm_clt (smX6_bestLeadOf)) (mm_ctt ctRX6) kX6_bestLeadOf
def qX6_bestLeadOf_12 (P : Int → Int → Int → Int → mm_M → Prop) : mm_K := fun ls st M => match ls, st with
  | [some (.inr (.inr c0)), some (.inl v1), some (.inl v2), some (.inl v3), some (.inl v4), _], [] => mm_chk (Nat.beq c0 9) (P v1 v2 v3 v4 M)
  | _, _ => False
theorem okX6_bestLeadOf_12 {p : Program} {l : Launch} {e : Env} {s : State} {m : MethodId} {args : Array Value} {below : List Frame} {meth : Method} {c : Code} {cA : Nat → ClassId} {ad : Nat → Nat} {D : va_G} {A : Nat → Prop} {Q : Option mm_V → mm_M → Prop} (Z : ZX6_bestLeadOf p l e s m args below meth c cA ad D A) : ∀ (n : Nat) ls st M, qX6_bestLeadOf_12 (fun v1 v2 v3 v4 M => bX6_bestLeadOf_12 n v1 v2 v3 v4 M (fun r M => Q (some (.inl r)) M)) ls st M → mm_G p l e (mm_rm 5) s m args below meth c lay_c cA ad D A 6 Q 12 ls st M
  | 0, ls, st, M, h => by
    unfold qX6_bestLeadOf_12 at h
    split at h
    · obtain ⟨hb, h⟩ := mm_chk_e h
      cases (Nat.eq_of_beq_eq_true hb)
      exact h.elim
    · exact h.elim
  | n + 1, ls, st, M, h => by
    have ih := okX6_bestLeadOf_12 (Q := Q) Z  n
    unfold qX6_bestLeadOf_12 at h
    split at h
    · obtain ⟨hb, h⟩ := mm_chk_e h
      cases (Nat.eq_of_beq_eq_true hb)
      exact mm_Zb Z 35 12 [(12, qX6_bestLeadOf_12 (fun v1 v2 v3 v4 M => bX6_bestLeadOf_12 n v1 v2 v3 v4 M (fun r M => Q (some (.inl r)) M)))] (mm_fa1 ih mm_fa0) h
    · exact h.elim
theorem okX6_bestLeadOf_12x {p : Program} {l : Launch} {e : Env} {s : State} {m : MethodId} {args : Array Value} {below : List Frame} {meth : Method} {c : Code} {cA : Nat → ClassId} {ad : Nat → Nat} {D : va_G} {A : Nat → Prop} {Q : Option mm_V → mm_M → Prop} (Z : ZX6_bestLeadOf p l e s m args below meth c cA ad D A) : ∀ ls st M, qX6_bestLeadOf_12 (fun v1 v2 v3 v4 M => ∃ j, bX6_bestLeadOf_12 j v1 v2 v3 v4 M (fun r M => Q (some (.inl r)) M)) ls st M → mm_G p l e (mm_rm 5) s m args below meth c lay_c cA ad D A 6 Q 12 ls st M := by
  intro ls st M h
  have hex : ∃ n, qX6_bestLeadOf_12 (fun v1 v2 v3 v4 M => bX6_bestLeadOf_12 n v1 v2 v3 v4 M (fun r M => Q (some (.inl r)) M)) ls st M := by
    unfold qX6_bestLeadOf_12 at h
    split at h
    · obtain ⟨hb, h⟩ := mm_chk_e h
      cases (Nat.eq_of_beq_eq_true hb)
      obtain ⟨n, h⟩ := h
      exact ⟨n, h⟩
    · exact h.elim
  obtain ⟨n, hex⟩ := hex
  exact okX6_bestLeadOf_12 Z  n ls st M hex
theorem okX6_bestLeadOf : mm_Ok lay_c yX6_bestLeadOf cX6_bestLeadOf 6 (some .int) 5 fX6_bestLeadOf := by
  refine mm_enter (rt := 1) (by decide +kernel) rfl ?_
  intro p l e s m args below meth c cA ad D A as M Q h C0
  have Z : ZX6_bestLeadOf p l e s m args below meth c cA ad D A := ⟨C0, flRX6_ok, mm_vt_of (mm_fa1 (mm_coV (n := 2) (ci := 6) C0 okX6_payIfLeading rfl rfl (mm_one_at (.methodLink RX6 116 yX6_payIfLeading) 803 (by decide +kernel) rfl) (wX6_payIfLeading _ (by simp)) (wX6_payIfLeading _ (by simp [yX6_payIfLeading])) (wX6_payIfLeading _ (by simp [yX6_payIfLeading])) (wX6_payIfLeading _ (by simp)) (by decide +kernel) (by omega) (by omega)) (mm_fa0)), mm_vt_of (mm_fa0), kX6_bestLeadOf_ok, mm_ctok_I ctRX6_ok⟩
  unfold fX6_bestLeadOf at h
  split at h
  · obtain ⟨hb, h⟩ := mm_chk_e h
    cases (Nat.eq_of_beq_eq_true hb)
    exact ⟨Nat.le_of_ble_eq_true rfl, mm_Zb Z 35 0 [(12, qX6_bestLeadOf_12 (fun v1 v2 v3 v4 M => ∃ j, bX6_bestLeadOf_12 j v1 v2 v3 v4 M (fun r M => Q (some (.inl r)) M)))] (mm_fa1 (fun ls st M h => okX6_bestLeadOf_12x Z  ls st M h) mm_fa0) h⟩
  · exact h.elim
