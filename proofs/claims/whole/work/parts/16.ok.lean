def kX8_within : List mm_E := [(0, false, .iload_n 0, []), (1, false, .iload_n 1, []), (2, false, .if_icmp .lt 12, [14]), (5, false, .iload_n 0, []), (6, false, .iload_n 2, []), (7, false, .if_icmp .gt 7, [14]), (10, false, .iconst 1, []), (11, false, .goto 4, [15]), (14, false, .iconst 0, []), (15, false, .ireturn, [])]
set_option maxRecDepth 20000 in
theorem kX8_within_ok : mm_cok cX8_within RX8 (mm_ctt ctRX8) kX8_within := mm_c_of (k := false) ctRX8_ok (by decide +kernel)
set_option maxRecDepth 20000 in
theorem wX8_within : ∀ w ∈ ([.static yX8_within, .initialized RX8, .code yX8_within cX8_within 3 (some .boolean)] : List Cond), w ∈ mm_tbl := mm_sub_at _ [1124, 112, 1125] (by decide +kernel) (by decide +kernel)
def vtX8_within : List (Nat × Nat × Nat × mm_F) := []
def smX8_within : List (Nat × Nat × Nat × mm_F) := []
def ZX8_within (p : Program) (l : Launch) (e : Env) (s : State) (m : MethodId) (args : Array Value) (below : List Frame) (meth : Method) (c : Code) (cA : Nat → ClassId) (ad : Nat → Nat) (D : va_G) (A : Nat → Prop) : Prop := mm_Z p l e (mm_rm 0) s m args below meth c lay_m cA ad D A RX8 cX8_within 3 2 (mm_flt flRX8) (mm_clt (vtX8_within)) (mm_clt (smX8_within)) (mm_ctt ctRX8) kX8_within
theorem okX8_within : mm_Ok lay_m yX8_within cX8_within 3 (some .boolean) 0 fX8_within := by
  refine mm_enter (rt := 2) (by decide +kernel) rfl ?_
  intro p l e s m args below meth c cA ad D A as M Q h C0
  have Z : ZX8_within p l e s m args below meth c cA ad D A := ⟨C0, flRX8_ok, mm_vt_of (mm_fa0), mm_vt_of (mm_fa0), kX8_within_ok, mm_ctok_J ctRX8_ok⟩
  unfold fX8_within at h
  split at h
  · skip
    exact ⟨Nat.le_of_ble_eq_true rfl, mm_Zb Z 13 0 [] mm_fa0 h⟩
  · exact h.elim
def kX8_letter : List mm_E := [(0, false, .iload_n 1, []), (1, false, .bipush 32, []), (3, false, .bipush 126, []), (5, false, .invokestatic 105, []), (8, false, .ifCond .ne 6, [14]), (11, false, .bipush (-102), []), (13, false, .ireturn, []), (14, false, .aload_n 0, []), (15, false, .getfield 109, []), (18, false, .bipush 92, []), (20, false, .if_icmp .ne 6, [26]), (23, false, .bipush (-104), []), (25, false, .ireturn, []), (26, false, .aload_n 0, []), (27, false, .getfield 56, []), (30, false, .aload_n 0, []), (31, false, .getfield 109, []), (34, false, .iload_n 1, []), (35, false, .iastore, []), (36, false, .aload_n 0, []), (37, false, .dup, []), (38, false, .getfield 109, []), (41, false, .iconst 1, []), (42, false, .iadd, []), (43, false, .putfield 109, []), (46, false, .aload_n 0, []), (47, false, .getfield 109, []), (50, false, .ireturn, [])]
set_option maxRecDepth 20000 in
theorem kX8_letter_ok : mm_cok cX8_letter RX8 (mm_ctt ctRX8) kX8_letter := mm_c_of (k := false) ctRX8_ok (by decide +kernel)
set_option maxRecDepth 20000 in
theorem wX8_letter : ∀ w ∈ ([.instanceMethod yX8_letter, .selects RX8 yX8_letter yX8_letter, .initialized RX8, .code yX8_letter cX8_letter 2 (some .int)] : List Cond), w ∈ mm_tbl := mm_sub_at _ [1120, 1121, 112, 1122] (by decide +kernel) (by decide +kernel)
def vtX8_letter : List (Nat × Nat × Nat × mm_F) := []
def smX8_letter : List (Nat × Nat × Nat × mm_F) := [(105, 0, 3, fX8_within)]
def ZX8_letter (p : Program) (l : Launch) (e : Env) (s : State) (m : MethodId) (args : Array Value) (below : List Frame) (meth : Method) (c : Code) (cA : Nat → ClassId) (ad : Nat → Nat) (D : va_G) (A : Nat → Prop) : Prop := mm_Z p l e (mm_rm 1) s m args below meth c lay_m cA ad D A RX8 cX8_letter 2 1 (mm_flt flRX8) (mm_clt (vtX8_letter)) (mm_clt (smX8_letter)) (mm_ctt ctRX8) kX8_letter
theorem okX8_letter : mm_Ok lay_m yX8_letter cX8_letter 2 (some .int) 1 fX8_letter := by
  refine mm_enter (rt := 1) (by decide +kernel) rfl ?_
  intro p l e s m args below meth c cA ad D A as M Q h C0
  have Z : ZX8_letter p l e s m args below meth c cA ad D A := ⟨C0, flRX8_ok, mm_vt_of (mm_fa0), mm_vt_of (mm_fa1 (mm_coS (n := 3) C0 okX8_within (mm_one_at (.methodLink RX8 105 yX8_within) 1123 (by decide +kernel) rfl) (wX8_within _ (by simp)) (wX8_within _ (by simp [yX8_within])) (wX8_within _ (by simp)) (by decide +kernel) (by omega) (by omega)) (mm_fa0)), kX8_letter_ok, mm_ctok_J ctRX8_ok⟩
  unfold fX8_letter at h
  split at h
  · obtain ⟨hb, h⟩ := mm_chk_e h
    cases (Nat.eq_of_beq_eq_true hb)
    exact ⟨Nat.le_of_ble_eq_true rfl, mm_Zb Z 31 0 [] mm_fa0 h⟩
  · exact h.elim
def kX8_blank : List mm_E := [(0, false, .aload_n 0, []), (1, false, .getfield 109, []), (4, false, .istore_n 1, []), (5, false, .aload_n 0, []), (6, false, .iconst 0, []), (7, false, .putfield 109, []), (10, false, .iload_n 1, []), (11, false, .ireturn, [])]
set_option maxRecDepth 20000 in
theorem kX8_blank_ok : mm_cok cX8_blank RX8 (mm_ctt ctRX8) kX8_blank := mm_c_of (k := false) ctRX8_ok (by decide +kernel)
set_option maxRecDepth 20000 in
theorem wX8_blank : ∀ w ∈ ([.instanceMethod yX8_blank, .selects RX8 yX8_blank yX8_blank, .initialized RX8, .code yX8_blank cX8_blank 2 (some .int)] : List Cond), w ∈ mm_tbl := mm_sub_at _ [1127, 1128, 112, 1129] (by decide +kernel) (by decide +kernel)
def vtX8_blank : List (Nat × Nat × Nat × mm_F) := []
def smX8_blank : List (Nat × Nat × Nat × mm_F) := []
def ZX8_blank (p : Program) (l : Launch) (e : Env) (s : State) (m : MethodId) (args : Array Value) (below : List Frame) (meth : Method) (c : Code) (cA : Nat → ClassId) (ad : Nat → Nat) (D : va_G) (A : Nat → Prop) : Prop := mm_Z p l e (mm_rm 0) s m args below meth c lay_m cA ad D A RX8 cX8_blank 2 1 (mm_flt flRX8) (mm_clt (vtX8_blank)) (mm_clt (smX8_blank)) (mm_ctt ctRX8) kX8_blank
theorem okX8_blank : mm_Ok lay_m yX8_blank cX8_blank 2 (some .int) 0 fX8_blank := by
  refine mm_enter (rt := 1) (by decide +kernel) rfl ?_
  intro p l e s m args below meth c cA ad D A as M Q h C0
  have Z : ZX8_blank p l e s m args below meth c cA ad D A := ⟨C0, flRX8_ok, mm_vt_of (mm_fa0), mm_vt_of (mm_fa0), kX8_blank_ok, mm_ctok_J ctRX8_ok⟩
  unfold fX8_blank at h
  split at h
  · obtain ⟨hb, h⟩ := mm_chk_e h
    cases (Nat.eq_of_beq_eq_true hb)
    exact ⟨Nat.le_of_ble_eq_true rfl, mm_Zb Z 11 0 [] mm_fa0 h⟩
  · exact h.elim
def kX8_goes : List mm_E := [(0, false, .aload_n 0, []), (1, false, .iload_n 1, []), (2, false, .ifCond .eq 7, [9]), (5, false, .iload_n 2, []), (6, false, .goto 7, [13]), (9, false, .aload_n 0, []), (10, false, .getfield 112, []), (13, false, .putfield 112, []), (16, false, .iload_n 1, []), (17, false, .ireturn, [])]
set_option maxRecDepth 20000 in
theorem kX8_goes_ok : mm_cok cX8_goes RX8 (mm_ctt ctRX8) kX8_goes := mm_c_of (k := false) ctRX8_ok (by decide +kernel)
set_option maxRecDepth 20000 in
theorem wX8_goes : ∀ w ∈ ([.instanceMethod yX8_goes, .selects RX8 yX8_goes yX8_goes, .initialized RX8, .code yX8_goes cX8_goes 3 (some .boolean)] : List Cond), w ∈ mm_tbl := mm_sub_at _ [1144, 35, 112, 1145] (by decide +kernel) (by decide +kernel)
def vtX8_goes : List (Nat × Nat × Nat × mm_F) := []
def smX8_goes : List (Nat × Nat × Nat × mm_F) := []
def ZX8_goes (p : Program) (l : Launch) (e : Env) (s : State) (m : MethodId) (args : Array Value) (below : List Frame) (meth : Method) (c : Code) (cA : Nat → ClassId) (ad : Nat → Nat) (D : va_G) (A : Nat → Prop) : Prop := mm_Z p l e (mm_rm 0) s m args below meth c lay_m cA ad D A RX8 cX8_goes 3 2 (mm_flt flRX8) (mm_clt (vtX8_goes)) (mm_clt (smX8_goes)) (mm_ctt ctRX8) kX8_goes
theorem okX8_goes : mm_Ok lay_m yX8_goes cX8_goes 3 (some .boolean) 0 fX8_goes := by
  refine mm_enter (rt := 2) (by decide +kernel) rfl ?_
  intro p l e s m args below meth c cA ad D A as M Q h C0
  have Z : ZX8_goes p l e s m args below meth c cA ad D A := ⟨C0, flRX8_ok, mm_vt_of (mm_fa0), mm_vt_of (mm_fa0), kX8_goes_ok, mm_ctok_J ctRX8_ok⟩
  unfold fX8_goes at h
  split at h
  · obtain ⟨hb, h⟩ := mm_chk_e h
    cases (Nat.eq_of_beq_eq_true hb)
    exact ⟨Nat.le_of_ble_eq_true rfl, mm_Zb Z 13 0 [] mm_fa0 h⟩
  · exact h.elim
def kX8_takesEnd : List mm_E := [(0, false, .iload_n 1, []), (1, false, .bipush 48, []), (3, false, .isub, []), (4, false, .istore_n 2, []), (5, false, .iload_n 2, []), (6, false, .iconst 0, []), (7, false, .aload_n 0, []), (8, false, .getfield 115, []), (11, false, .iconst 1, []), (12, false, .isub, []), (13, false, .invokestatic 105, []), (16, false, .istore_n 3, []), (17, false, .aload_n 0, []), (18, false, .getfield 112, []), (21, false, .iconst 2, []), (22, false, .if_icmp .ne 20, [42]), (25, false, .aload_n 0, []), (26, false, .getfield 59, []), (29, false, .aload_n 0, []), (30, false, .getfield 118, []), (33, false, .iload_n 2, []), (34, false, .iastore, []), (35, false, .aload_n 0, []), (36, false, .iload_n 3, []), (37, false, .iconst 3, []), (38, false, .invokevirtual 121, []), (41, false, .ireturn, []), (42, false, .aload_n 0, []), (43, false, .getfield 62, []), (46, false, .aload_n 0, []), (47, false, .getfield 118, []), (50, false, .iload_n 2, []), (51, false, .iastore, []), (52, false, .aload_n 0, []), (53, false, .iload_n 3, []), (54, false, .ifCond .eq 20, [74]), (57, false, .iload_n 2, []), (58, false, .aload_n 0, []), (59, false, .getfield 59, []), (62, false, .aload_n 0, []), (63, false, .getfield 118, []), (66, false, .iaload, []), (67, false, .if_icmp .eq 7, [74]), (70, false, .iconst 1, []), (71, false, .goto 4, [75]), (74, false, .iconst 0, []), (75, false, .iconst 5, []), (76, false, .invokevirtual 121, []), (79, false, .ireturn, [])]
set_option maxRecDepth 20000 in
theorem kX8_takesEnd_ok : mm_cok cX8_takesEnd RX8 (mm_ctt ctRX8) kX8_takesEnd := mm_c_of (k := false) ctRX8_ok (by decide +kernel)
set_option maxRecDepth 20000 in
theorem wX8_takesEnd : ∀ w ∈ ([.instanceMethod yX8_takesEnd, .selects RX8 yX8_takesEnd yX8_takesEnd, .initialized RX8, .code yX8_takesEnd cX8_takesEnd 4 (some .boolean)] : List Cond), w ∈ mm_tbl := mm_sub_at _ [1148, 36, 112, 1149] (by decide +kernel) (by decide +kernel)
def vtX8_takesEnd : List (Nat × Nat × Nat × mm_F) := [(121, 8, 3, fX8_goes)]
def smX8_takesEnd : List (Nat × Nat × Nat × mm_F) := [(105, 0, 3, fX8_within)]
def ZX8_takesEnd (p : Program) (l : Launch) (e : Env) (s : State) (m : MethodId) (args : Array Value) (below : List Frame) (meth : Method) (c : Code) (cA : Nat → ClassId) (ad : Nat → Nat) (D : va_G) (A : Nat → Prop) : Prop := mm_Z p l e (mm_rm 1) s m args below meth c lay_m cA ad D A RX8 cX8_takesEnd 4 2 (mm_flt flRX8) (mm_clt (vtX8_takesEnd)) (mm_clt (smX8_takesEnd)) (mm_ctt ctRX8) kX8_takesEnd
theorem okX8_takesEnd : mm_Ok lay_m yX8_takesEnd cX8_takesEnd 4 (some .boolean) 1 fX8_takesEnd := by
  refine mm_enter (rt := 2) (by decide +kernel) rfl ?_
  intro p l e s m args below meth c cA ad D A as M Q h C0
  have Z : ZX8_takesEnd p l e s m args below meth c cA ad D A := ⟨C0, flRX8_ok, mm_vt_of (mm_fa1 (mm_coV (n := 2) (ci := 8) C0 okX8_goes rfl rfl (mm_one_at (.methodLink RX8 121 yX8_goes) 1142 (by decide +kernel) rfl) (wX8_goes _ (by simp)) (wX8_goes _ (by simp [yX8_goes])) (wX8_goes _ (by simp [yX8_goes])) (wX8_goes _ (by simp)) (by decide +kernel) (by omega) (by omega)) (mm_fa0)), mm_vt_of (mm_fa1 (mm_coS (n := 3) C0 okX8_within (mm_one_at (.methodLink RX8 105 yX8_within) 1123 (by decide +kernel) rfl) (wX8_within _ (by simp)) (wX8_within _ (by simp [yX8_within])) (wX8_within _ (by simp)) (by decide +kernel) (by omega) (by omega)) (mm_fa0)), kX8_takesEnd_ok, mm_ctok_J ctRX8_ok⟩
  unfold fX8_takesEnd at h
  split at h
  · obtain ⟨hb, h⟩ := mm_chk_e h
    cases (Nat.eq_of_beq_eq_true hb)
    exact ⟨Nat.le_of_ble_eq_true rfl, mm_Zb Z 52 0 [] mm_fa0 h⟩
  · exact h.elim
def kX8_takesA : List mm_E := [(0, false, .iload_n 1, []), (1, false, .bipush 48, []), (3, false, .isub, []), (4, false, .istore_n 2, []), (5, false, .aload_n 0, []), (6, false, .getfield 112, []), (9, false, .bipush 6, []), (11, false, .if_icmp .ne 27, [38]), (14, false, .aload_n 0, []), (15, false, .getfield 65, []), (18, false, .aload_n 0, []), (19, false, .getfield 118, []), (22, false, .iload_n 2, []), (23, false, .iastore, []), (24, false, .aload_n 0, []), (25, false, .iload_n 2, []), (26, false, .iconst 0, []), (27, false, .bipush 9, []), (29, false, .invokestatic 105, []), (32, false, .bipush 7, []), (34, false, .invokevirtual 121, []), (37, false, .ireturn, []), (38, false, .iload_n 1, []), (39, false, .bipush 43, []), (41, false, .if_icmp .ne 11, [52]), (44, false, .aload_n 0, []), (45, false, .bipush 9, []), (47, false, .putfield 112, []), (50, false, .iconst 1, []), (51, false, .ireturn, []), (52, false, .bipush 10, []), (54, false, .aload_n 0, []), (55, false, .getfield 65, []), (58, false, .aload_n 0, []), (59, false, .getfield 118, []), (62, false, .iaload, []), (63, false, .imul, []), (64, false, .iload_n 2, []), (65, false, .iadd, []), (66, false, .istore_n 3, []), (67, false, .aload_n 0, []), (68, false, .getfield 112, []), (71, false, .bipush 7, []), (73, false, .if_icmp .ne 28, [101]), (76, false, .iload_n 2, []), (77, false, .iconst 0, []), (78, false, .bipush 9, []), (80, false, .invokestatic 105, []), (83, false, .ifCond .eq 18, [101]), (86, false, .iload_n 3, []), (87, false, .bipush 10, []), (89, false, .bipush 20, []), (91, false, .invokestatic 105, []), (94, false, .ifCond .eq 7, [101]), (97, false, .iconst 1, []), (98, false, .goto 4, [102]), (101, false, .iconst 0, []), (102, true, .istore 4, []), (104, false, .iload 4, []), (106, false, .ifCond .eq 19, [125]), (109, false, .aload_n 0, []), (110, false, .getfield 65, []), (113, false, .aload_n 0, []), (114, false, .getfield 118, []), (117, false, .iload_n 3, []), (118, false, .iastore, []), (119, false, .aload_n 0, []), (120, false, .bipush 8, []), (122, false, .putfield 112, []), (125, false, .iload 4, []), (127, false, .ireturn, [])]
set_option maxRecDepth 20000 in
theorem kX8_takesA_ok : mm_cok cX8_takesA RX8 (mm_ctt ctRX8) kX8_takesA := mm_c_of (k := false) ctRX8_ok (by decide +kernel)
set_option maxRecDepth 20000 in
theorem wX8_takesA : ∀ w ∈ ([.instanceMethod yX8_takesA, .selects RX8 yX8_takesA yX8_takesA, .initialized RX8, .code yX8_takesA cX8_takesA 5 (some .boolean)] : List Cond), w ∈ mm_tbl := mm_sub_at _ [1156, 38, 112, 1157] (by decide +kernel) (by decide +kernel)
def vtX8_takesA : List (Nat × Nat × Nat × mm_F) := [(121, 8, 3, fX8_goes)]
def smX8_takesA : List (Nat × Nat × Nat × mm_F) := [(105, 0, 3, fX8_within)]
def ZX8_takesA (p : Program) (l : Launch) (e : Env) (s : State) (m : MethodId) (args : Array Value) (below : List Frame) (meth : Method) (c : Code) (cA : Nat → ClassId) (ad : Nat → Nat) (D : va_G) (A : Nat → Prop) : Prop := mm_Z p l e (mm_rm 1) s m args below meth c lay_m cA ad D A RX8 cX8_takesA 5 2 (mm_flt flRX8) (mm_clt (vtX8_takesA)) (mm_clt (smX8_takesA)) (mm_ctt ctRX8) kX8_takesA
def qX8_takesA_102 (P : Int → Int → Int → Int → mm_M → Prop) : mm_K := fun ls st M => match ls, st with
  | [some (.inr (.inr c0)), some (.inl v1), some (.inl v2), some (.inl v3), none], [.inl w0] => mm_chk (Nat.beq c0 0) (P v1 v2 v3 w0 M)
  | _, _ => False
theorem okX8_takesA_102 {p : Program} {l : Launch} {e : Env} {s : State} {m : MethodId} {args : Array Value} {below : List Frame} {meth : Method} {c : Code} {cA : Nat → ClassId} {ad : Nat → Nat} {D : va_G} {A : Nat → Prop} {Q : Option mm_V → mm_M → Prop} (Z : ZX8_takesA p l e s m args below meth c cA ad D A) : ∀ ls st M, qX8_takesA_102 (fun v1 v2 v3 w0 M => bX8_takesA_102 v1 v2 v3 w0 M (fun r M => Q (some (.inl r)) M)) ls st M → mm_G p l e (mm_rm 1) s m args below meth c lay_m cA ad D A 5 Q 102 ls st M := by
  intro ls st M h
  unfold qX8_takesA_102 at h
  split at h
  · obtain ⟨hb, h⟩ := mm_chk_e h
    cases (Nat.eq_of_beq_eq_true hb)
    exact mm_Zb Z 74 102 [] mm_fa0 h
  · exact h.elim
theorem okX8_takesA : mm_Ok lay_m yX8_takesA cX8_takesA 5 (some .boolean) 1 fX8_takesA := by
  refine mm_enter (rt := 2) (by decide +kernel) rfl ?_
  intro p l e s m args below meth c cA ad D A as M Q h C0
  have Z : ZX8_takesA p l e s m args below meth c cA ad D A := ⟨C0, flRX8_ok, mm_vt_of (mm_fa1 (mm_coV (n := 2) (ci := 8) C0 okX8_goes rfl rfl (mm_one_at (.methodLink RX8 121 yX8_goes) 1142 (by decide +kernel) rfl) (wX8_goes _ (by simp)) (wX8_goes _ (by simp [yX8_goes])) (wX8_goes _ (by simp [yX8_goes])) (wX8_goes _ (by simp)) (by decide +kernel) (by omega) (by omega)) (mm_fa0)), mm_vt_of (mm_fa1 (mm_coS (n := 3) C0 okX8_within (mm_one_at (.methodLink RX8 105 yX8_within) 1123 (by decide +kernel) rfl) (wX8_within _ (by simp)) (wX8_within _ (by simp [yX8_within])) (wX8_within _ (by simp)) (by decide +kernel) (by omega) (by omega)) (mm_fa0)), kX8_takesA_ok, mm_ctok_J ctRX8_ok⟩
  unfold fX8_takesA at h
  split at h
  · obtain ⟨hb, h⟩ := mm_chk_e h
    cases (Nat.eq_of_beq_eq_true hb)
    exact ⟨Nat.le_of_ble_eq_true rfl, mm_Zb Z 74 0 [(102, qX8_takesA_102 (fun v1 v2 v3 w0 M => bX8_takesA_102 v1 v2 v3 w0 M (fun r M => Q (some (.inl r)) M)))] (mm_fa1 (fun ls st M h => okX8_takesA_102 Z  ls st M h) mm_fa0) h⟩
  · exact h.elim
def kX8_takesB : List mm_E := [(0, false, .aload_n 0, []), (1, false, .getfield 68, []), (4, false, .aload_n 0, []), (5, false, .getfield 118, []), (8, false, .iload_n 1, []), (9, false, .bipush 48, []), (11, false, .isub, []), (12, false, .iastore, []), (13, false, .iload_n 1, []), (14, false, .bipush 48, []), (16, false, .bipush 57, []), (18, false, .invokestatic 105, []), (21, false, .istore_n 2, []), (22, false, .iload_n 2, []), (23, false, .ifCond .eq 18, [41]), (26, false, .aload_n 0, []), (27, false, .dup, []), (28, false, .getfield 118, []), (31, false, .iconst 1, []), (32, false, .iadd, []), (33, false, .putfield 118, []), (36, false, .aload_n 0, []), (37, false, .iconst 1, []), (38, false, .putfield 112, []), (41, false, .iload_n 2, []), (42, false, .ireturn, [])]
set_option maxRecDepth 20000 in
theorem kX8_takesB_ok : mm_cok cX8_takesB RX8 (mm_ctt ctRX8) kX8_takesB := mm_c_of (k := false) ctRX8_ok (by decide +kernel)
set_option maxRecDepth 20000 in
theorem wX8_takesB : ∀ w ∈ ([.instanceMethod yX8_takesB, .selects RX8 yX8_takesB yX8_takesB, .initialized RX8, .code yX8_takesB cX8_takesB 3 (some .boolean)] : List Cond), w ∈ mm_tbl := mm_sub_at _ [1152, 37, 112, 1153] (by decide +kernel) (by decide +kernel)
def vtX8_takesB : List (Nat × Nat × Nat × mm_F) := []
def smX8_takesB : List (Nat × Nat × Nat × mm_F) := [(105, 0, 3, fX8_within)]
def ZX8_takesB (p : Program) (l : Launch) (e : Env) (s : State) (m : MethodId) (args : Array Value) (below : List Frame) (meth : Method) (c : Code) (cA : Nat → ClassId) (ad : Nat → Nat) (D : va_G) (A : Nat → Prop) : Prop := mm_Z p l e (mm_rm 1) s m args below meth c lay_m cA ad D A RX8 cX8_takesB 3 2 (mm_flt flRX8) (mm_clt (vtX8_takesB)) (mm_clt (smX8_takesB)) (mm_ctt ctRX8) kX8_takesB
theorem okX8_takesB : mm_Ok lay_m yX8_takesB cX8_takesB 3 (some .boolean) 1 fX8_takesB := by
  refine mm_enter (rt := 2) (by decide +kernel) rfl ?_
  intro p l e s m args below meth c cA ad D A as M Q h C0
  have Z : ZX8_takesB p l e s m args below meth c cA ad D A := ⟨C0, flRX8_ok, mm_vt_of (mm_fa0), mm_vt_of (mm_fa1 (mm_coS (n := 3) C0 okX8_within (mm_one_at (.methodLink RX8 105 yX8_within) 1123 (by decide +kernel) rfl) (wX8_within _ (by simp)) (wX8_within _ (by simp [yX8_within])) (wX8_within _ (by simp)) (by decide +kernel) (by omega) (by omega)) (mm_fa0)), kX8_takesB_ok, mm_ctok_J ctRX8_ok⟩
  unfold fX8_takesB at h
  split at h
  · obtain ⟨hb, h⟩ := mm_chk_e h
    cases (Nat.eq_of_beq_eq_true hb)
    exact ⟨Nat.le_of_ble_eq_true rfl, mm_Zb Z 29 0 [] mm_fa0 h⟩
  · exact h.elim
def kX8_takesLetter : List mm_E := [(0, false, .aload_n 0, []), (1, false, .getfield 112, []), (4, false, .tableswitch 153 0 9 #[56, 80, 106, 112, 106, 129, 153, 153, 153, 147], [157, 60, 84, 110, 116, 110, 133, 157, 157, 157, 151]), (60, false, .aload_n 0, []), (61, false, .iload_n 1, []), (62, false, .bipush 48, []), (64, false, .isub, []), (65, false, .putfield 115, []), (68, false, .aload_n 0, []), (69, false, .aload_n 0, []), (70, false, .getfield 115, []), (73, false, .iconst 2, []), (74, false, .bipush 6, []), (76, false, .invokestatic 105, []), (79, false, .iconst 1, []), (80, false, .invokevirtual 121, []), (83, false, .ireturn, []), (84, false, .aload_n 0, []), (85, false, .iload_n 1, []), (86, false, .bipush 59, []), (88, false, .if_icmp .ne 16, [104]), (91, false, .aload_n 0, []), (92, false, .getfield 118, []), (95, false, .bipush 10, []), (97, false, .if_icmp .ge 7, [104]), (100, false, .iconst 1, []), (101, false, .goto 4, [105]), (104, false, .iconst 0, []), (105, false, .iconst 2, []), (106, false, .invokevirtual 121, []), (109, false, .ireturn, []), (110, false, .aload_n 0, []), (111, false, .iload_n 1, []), (112, false, .invokevirtual 125, []), (115, false, .ireturn, []), (116, false, .aload_n 0, []), (117, false, .iload_n 1, []), (118, false, .bipush 62, []), (120, false, .if_icmp .ne 7, [127]), (123, false, .iconst 1, []), (124, false, .goto 4, [128]), (127, false, .iconst 0, []), (128, false, .iconst 4, []), (129, false, .invokevirtual 121, []), (132, false, .ireturn, []), (133, false, .aload_n 0, []), (134, false, .iload_n 1, []), (135, false, .bipush 58, []), (137, false, .if_icmp .ne 7, [144]), (140, false, .iconst 1, []), (141, false, .goto 4, [145]), (144, false, .iconst 0, []), (145, false, .bipush 6, []), (147, false, .invokevirtual 121, []), (150, false, .ireturn, []), (151, false, .aload_n 0, []), (152, false, .iload_n 1, []), (153, false, .invokevirtual 129, []), (156, false, .ireturn, []), (157, false, .aload_n 0, []), (158, false, .iload_n 1, []), (159, false, .invokevirtual 132, []), (162, false, .ireturn, [])]
set_option maxRecDepth 20000 in
theorem kX8_takesLetter_ok : mm_cok cX8_takesLetter RX8 (mm_ctt ctRX8) kX8_takesLetter := mm_c_of (k := false) ctRX8_ok (by decide +kernel)
set_option maxRecDepth 20000 in
theorem wX8_takesLetter : ∀ w ∈ ([.instanceMethod yX8_takesLetter, .selects RX8 yX8_takesLetter yX8_takesLetter, .initialized RX8, .code yX8_takesLetter cX8_takesLetter 2 (some .boolean)] : List Cond), w ∈ mm_tbl := mm_sub_at _ [1140, 34, 112, 1141] (by decide +kernel) (by decide +kernel)
def vtX8_takesLetter : List (Nat × Nat × Nat × mm_F) := [(132, 8, 2, fX8_takesA), (121, 8, 3, fX8_goes), (125, 8, 2, fX8_takesEnd), (129, 8, 2, fX8_takesB)]
def smX8_takesLetter : List (Nat × Nat × Nat × mm_F) := [(105, 0, 3, fX8_within)]
def ZX8_takesLetter (p : Program) (l : Launch) (e : Env) (s : State) (m : MethodId) (args : Array Value) (below : List Frame) (meth : Method) (c : Code) (cA : Nat → ClassId) (ad : Nat → Nat) (D : va_G) (A : Nat → Prop) : Prop := mm_Z p l e (mm_rm 2) s m args below meth c lay_m cA ad D A RX8 cX8_takesLetter 2 2 (mm_flt flRX8) (mm_clt (vtX8_takesLetter)) (mm_clt (smX8_takesLetter)) (mm_ctt ctRX8) kX8_takesLetter
theorem okX8_takesLetter : mm_Ok lay_m yX8_takesLetter cX8_takesLetter 2 (some .boolean) 2 fX8_takesLetter := by
  refine mm_enter (rt := 2) (by decide +kernel) rfl ?_
  intro p l e s m args below meth c cA ad D A as M Q h C0
  have Z : ZX8_takesLetter p l e s m args below meth c cA ad D A := ⟨C0, flRX8_ok, mm_vt_of (mm_fa1 (mm_coV (n := 1) (ci := 8) C0 okX8_takesA rfl rfl (mm_one_at (.methodLink RX8 132 yX8_takesA) 1154 (by decide +kernel) rfl) (wX8_takesA _ (by simp)) (wX8_takesA _ (by simp [yX8_takesA])) (wX8_takesA _ (by simp [yX8_takesA])) (wX8_takesA _ (by simp)) (by decide +kernel) (by omega) (by omega)) (mm_fa1 (mm_coV (n := 2) (ci := 8) C0 okX8_goes rfl rfl (mm_one_at (.methodLink RX8 121 yX8_goes) 1142 (by decide +kernel) rfl) (wX8_goes _ (by simp)) (wX8_goes _ (by simp [yX8_goes])) (wX8_goes _ (by simp [yX8_goes])) (wX8_goes _ (by simp)) (by decide +kernel) (by omega) (by omega)) (mm_fa1 (mm_coV (n := 1) (ci := 8) C0 okX8_takesEnd rfl rfl (mm_one_at (.methodLink RX8 125 yX8_takesEnd) 1146 (by decide +kernel) rfl) (wX8_takesEnd _ (by simp)) (wX8_takesEnd _ (by simp [yX8_takesEnd])) (wX8_takesEnd _ (by simp [yX8_takesEnd])) (wX8_takesEnd _ (by simp)) (by decide +kernel) (by omega) (by omega)) (mm_fa1 (mm_coV (n := 1) (ci := 8) C0 okX8_takesB rfl rfl (mm_one_at (.methodLink RX8 129 yX8_takesB) 1150 (by decide +kernel) rfl) (wX8_takesB _ (by simp)) (wX8_takesB _ (by simp [yX8_takesB])) (wX8_takesB _ (by simp [yX8_takesB])) (wX8_takesB _ (by simp)) (by decide +kernel) (by omega) (by omega)) (mm_fa0))))), mm_vt_of (mm_fa1 (mm_coS (n := 3) C0 okX8_within (mm_one_at (.methodLink RX8 105 yX8_within) 1123 (by decide +kernel) rfl) (wX8_within _ (by simp)) (wX8_within _ (by simp [yX8_within])) (wX8_within _ (by simp)) (by decide +kernel) (by omega) (by omega)) (mm_fa0)), kX8_takesLetter_ok, mm_ctok_J ctRX8_ok⟩
  unfold fX8_takesLetter at h
  split at h
  · obtain ⟨hb, h⟩ := mm_chk_e h
    cases (Nat.eq_of_beq_eq_true hb)
    exact ⟨Nat.le_of_ble_eq_true rfl, mm_Zb Z 66 0 [] mm_fa0 h⟩
  · exact h.elim
def kX8_read : List mm_E := [(0, false, .aload_n 0, []), (1, false, .iconst 0, []), (2, false, .putfield 112, []), (5, false, .aload_n 0, []), (6, false, .iconst 0, []), (7, false, .putfield 118, []), (10, false, .iconst 0, []), (11, false, .istore_n 1, []), (12, true, .iload_n 1, []), (13, false, .aload_n 0, []), (14, false, .getfield 109, []), (17, false, .if_icmp .ge 22, [39]), (20, false, .aload_n 0, []), (21, false, .aload_n 0, []), (22, false, .getfield 56, []), (25, false, .iload_n 1, []), (26, false, .iaload, []), (27, false, .invokevirtual 135, []), (30, false, .ifCond .eq 9, [39]), (33, false, .iinc 1 1, []), (36, false, .goto (-24), [12]), (39, false, .iload_n 1, []), (40, false, .ireturn, [])]
set_option maxRecDepth 20000 in
theorem kX8_read_ok : mm_cok cX8_read RX8 (mm_ctt ctRX8) kX8_read := mm_c_of (k := false) ctRX8_ok (by decide +kernel)
set_option maxRecDepth 20000 in
theorem wX8_read : ∀ w ∈ ([.instanceMethod yX8_read, .selects RX8 yX8_read yX8_read, .initialized RX8, .code yX8_read cX8_read 2 (some .int)] : List Cond), w ∈ mm_tbl := mm_sub_at _ [1136, 33, 112, 1137] (by decide +kernel) (by decide +kernel)
def vtX8_read : List (Nat × Nat × Nat × mm_F) := [(135, 8, 2, fX8_takesLetter)]
def smX8_read : List (Nat × Nat × Nat × mm_F) := []
def ZX8_read (p : Program) (l : Launch) (e : Env) (s : State) (m : MethodId) (args : Array Value) (below : List Frame) (meth : Method) (c : Code) (cA : Nat → ClassId) (ad : Nat → Nat) (D : va_G) (A : Nat → Prop) : Prop := mm_Z p l e (mm_rm 3) s m args below meth c lay_m cA ad D A RX8 cX8_read 2 1 (mm_flt flRX8) (mm_clt (vtX8_read)) (mm_clt (smX8_read)) (mm_ctt ctRX8) kX8_read
def qX8_read_12 (P : Int → mm_M → Prop) : mm_K := fun ls st M => match ls, st with
  | [some (.inr (.inr c0)), some (.inl v1)], [] => mm_chk (Nat.beq c0 0) (P v1 M)
  | _, _ => False
theorem okX8_read_12 {p : Program} {l : Launch} {e : Env} {s : State} {m : MethodId} {args : Array Value} {below : List Frame} {meth : Method} {c : Code} {cA : Nat → ClassId} {ad : Nat → Nat} {D : va_G} {A : Nat → Prop} {Q : Option mm_V → mm_M → Prop} (Z : ZX8_read p l e s m args below meth c cA ad D A) : ∀ (n : Nat) ls st M, qX8_read_12 (fun v1 M => bX8_read_12 n v1 M (fun r M => Q (some (.inl r)) M)) ls st M → mm_G p l e (mm_rm 3) s m args below meth c lay_m cA ad D A 2 Q 12 ls st M
  | 0, ls, st, M, h => by
    unfold qX8_read_12 at h
    split at h
    · obtain ⟨hb, h⟩ := mm_chk_e h
      cases (Nat.eq_of_beq_eq_true hb)
      exact h.elim
    · exact h.elim
  | n + 1, ls, st, M, h => by
    have ih := okX8_read_12 (Q := Q) Z  n
    unfold qX8_read_12 at h
    split at h
    · obtain ⟨hb, h⟩ := mm_chk_e h
      cases (Nat.eq_of_beq_eq_true hb)
      exact mm_Zb Z 26 12 [(12, qX8_read_12 (fun v1 M => bX8_read_12 n v1 M (fun r M => Q (some (.inl r)) M)))] (mm_fa1 ih mm_fa0) h
    · exact h.elim
theorem okX8_read_12x {p : Program} {l : Launch} {e : Env} {s : State} {m : MethodId} {args : Array Value} {below : List Frame} {meth : Method} {c : Code} {cA : Nat → ClassId} {ad : Nat → Nat} {D : va_G} {A : Nat → Prop} {Q : Option mm_V → mm_M → Prop} (Z : ZX8_read p l e s m args below meth c cA ad D A) : ∀ ls st M, qX8_read_12 (fun v1 M => ∃ j, bX8_read_12 j v1 M (fun r M => Q (some (.inl r)) M)) ls st M → mm_G p l e (mm_rm 3) s m args below meth c lay_m cA ad D A 2 Q 12 ls st M := by
  intro ls st M h
  have hex : ∃ n, qX8_read_12 (fun v1 M => bX8_read_12 n v1 M (fun r M => Q (some (.inl r)) M)) ls st M := by
    unfold qX8_read_12 at h
    split at h
    · obtain ⟨hb, h⟩ := mm_chk_e h
      cases (Nat.eq_of_beq_eq_true hb)
      obtain ⟨n, h⟩ := h
      exact ⟨n, h⟩
    · exact h.elim
  obtain ⟨n, hex⟩ := hex
  exact okX8_read_12 Z  n ls st M hex
theorem okX8_read : mm_Ok lay_m yX8_read cX8_read 2 (some .int) 3 fX8_read := by
  refine mm_enter (rt := 1) (by decide +kernel) rfl ?_
  intro p l e s m args below meth c cA ad D A as M Q h C0
  have Z : ZX8_read p l e s m args below meth c cA ad D A := ⟨C0, flRX8_ok, mm_vt_of (mm_fa1 (mm_coV (n := 1) (ci := 8) C0 okX8_takesLetter rfl rfl (mm_one_at (.methodLink RX8 135 yX8_takesLetter) 1138 (by decide +kernel) rfl) (wX8_takesLetter _ (by simp)) (wX8_takesLetter _ (by simp [yX8_takesLetter])) (wX8_takesLetter _ (by simp [yX8_takesLetter])) (wX8_takesLetter _ (by simp)) (by decide +kernel) (by omega) (by omega)) (mm_fa0)), mm_vt_of (mm_fa0), kX8_read_ok, mm_ctok_J ctRX8_ok⟩
  unfold fX8_read at h
  split at h
  · obtain ⟨hb, h⟩ := mm_chk_e h
    cases (Nat.eq_of_beq_eq_true hb)
    exact ⟨Nat.le_of_ble_eq_true rfl, mm_Zb Z 26 0 [(12, qX8_read_12 (fun v1 M => ∃ j, bX8_read_12 j v1 M (fun r M => Q (some (.inl r)) M)))] (mm_fa1 (fun ls st M h => okX8_read_12x Z  ls st M h) mm_fa0) h⟩
  · exact h.elim
def kX8_fault : List mm_E := [(0, false, .aload_n 0, []), (1, false, .invokevirtual 138, []), (4, false, .ireturn, [])]
set_option maxRecDepth 20000 in
theorem kX8_fault_ok : mm_cok cX8_fault RX8 (mm_ctt ctRX8) kX8_fault := mm_c_of (k := false) ctRX8_ok (by decide +kernel)
set_option maxRecDepth 20000 in
theorem wX8_fault : ∀ w ∈ ([.instanceMethod yX8_fault, .selects RX8 yX8_fault yX8_fault, .initialized RX8, .code yX8_fault cX8_fault 1 (some .int)] : List Cond), w ∈ mm_tbl := mm_sub_at _ [1131, 1132, 112, 1133] (by decide +kernel) (by decide +kernel)
def vtX8_fault : List (Nat × Nat × Nat × mm_F) := [(138, 8, 1, fX8_read)]
def smX8_fault : List (Nat × Nat × Nat × mm_F) := []
def ZX8_fault (p : Program) (l : Launch) (e : Env) (s : State) (m : MethodId) (args : Array Value) (below : List Frame) (meth : Method) (c : Code) (cA : Nat → ClassId) (ad : Nat → Nat) (D : va_G) (A : Nat → Prop) : Prop := mm_Z p l e (mm_rm 4) s m args below meth c lay_m cA ad D A RX8 cX8_fault 1 1 (mm_flt flRX8) (mm_clt (vtX8_fault)) (mm_clt (smX8_fault)) (mm_ctt ctRX8) kX8_fault
theorem okX8_fault : mm_Ok lay_m yX8_fault cX8_fault 1 (some .int) 4 fX8_fault := by
  refine mm_enter (rt := 1) (by decide +kernel) rfl ?_
  intro p l e s m args below meth c cA ad D A as M Q h C0
  have Z : ZX8_fault p l e s m args below meth c cA ad D A := ⟨C0, flRX8_ok, mm_vt_of (mm_fa1 (mm_coV (n := 0) (ci := 8) C0 okX8_read rfl rfl (mm_one_at (.methodLink RX8 138 yX8_read) 1134 (by decide +kernel) rfl) (wX8_read _ (by simp)) (wX8_read _ (by simp [yX8_read])) (wX8_read _ (by simp [yX8_read])) (wX8_read _ (by simp)) (by decide +kernel) (by omega) (by omega)) (mm_fa0)), mm_vt_of (mm_fa0), kX8_fault_ok, mm_ctok_J ctRX8_ok⟩
  unfold fX8_fault at h
  split at h
  · obtain ⟨hb, h⟩ := mm_chk_e h
    cases (Nat.eq_of_beq_eq_true hb)
    exact ⟨Nat.le_of_ble_eq_true rfl, mm_Zb Z 6 0 [] mm_fa0 h⟩
  · exact h.elim
def kX8_net : List mm_E := [(0, false, .aload_n 0, []), (1, false, .invokevirtual 138, []), (4, false, .aload_n 0, []), (5, false, .getfield 109, []), (8, false, .if_icmp .lt 18, [26]), (11, false, .aload_n 0, []), (12, false, .getfield 112, []), (15, false, .iconst 1, []), (16, false, .if_icmp .ne 10, [26]), (19, false, .aload_n 0, []), (20, false, .getfield 118, []), (23, false, .ifCond .ne 6, [29]), (26, false, .bipush (-103), []), (28, false, .ireturn, []), (29, false, .aload_n 0, []), (30, false, .aload_n 0, []), (31, false, .getfield 115, []), (34, false, .putfield 142, []), (37, false, .aload_n 0, []), (38, false, .aload_n 0, []), (39, false, .getfield 118, []), (42, false, .putfield 145, []), (45, false, .iconst 0, []), (46, false, .istore_n 1, []), (47, true, .iload_n 1, []), (48, false, .aload_n 0, []), (49, false, .getfield 145, []), (52, false, .if_icmp .ge 64, [116]), (55, false, .aload_n 0, []), (56, false, .getfield 7, []), (59, false, .iload_n 1, []), (60, false, .aload_n 0, []), (61, false, .getfield 59, []), (64, false, .iload_n 1, []), (65, false, .iaload, []), (66, false, .iastore, []), (67, false, .aload_n 0, []), (68, false, .getfield 13, []), (71, false, .iload_n 1, []), (72, false, .aload_n 0, []), (73, false, .getfield 62, []), (76, false, .iload_n 1, []), (77, false, .iaload, []), (78, false, .iastore, []), (79, false, .aload_n 0, []), (80, false, .getfield 16, []), (83, false, .iload_n 1, []), (84, false, .aload_n 0, []), (85, false, .getfield 65, []), (88, false, .iload_n 1, []), (89, false, .iaload, []), (90, false, .iastore, []), (91, false, .aload_n 0, []), (92, false, .getfield 19, []), (95, false, .iload_n 1, []), (96, false, .aload_n 0, []), (97, false, .getfield 68, []), (100, false, .iload_n 1, []), (101, false, .iaload, []), (102, false, .iastore, []), (103, false, .aload_n 0, []), (104, false, .getfield 22, []), (107, false, .iload_n 1, []), (108, false, .iconst 0, []), (109, false, .iastore, []), (110, false, .iinc 1 1, []), (113, false, .goto (-66), [47]), (116, false, .aload_n 0, []), (117, false, .iconst 0, []), (118, false, .putfield 148, []), (121, false, .aload_n 0, []), (122, false, .dup, []), (123, false, .getfield 151, []), (126, false, .iconst 1, []), (127, false, .iadd, []), (128, false, .putfield 151, []), (131, false, .aload_n 0, []), (132, false, .iconst 0, []), (133, false, .putfield 109, []), (136, false, .aload_n 0, []), (137, false, .getfield 145, []), (140, false, .ireturn, [])]
set_option maxRecDepth 20000 in
theorem kX8_net_ok : mm_cok cX8_net RX8 (mm_ctt ctRX8) kX8_net := mm_c_of (k := false) ctRX8_ok (by decide +kernel)
set_option maxRecDepth 20000 in
theorem wX8_net : ∀ w ∈ ([.instanceMethod yX8_net, .selects RX8 yX8_net yX8_net, .initialized RX8, .code yX8_net cX8_net 2 (some .int)] : List Cond), w ∈ mm_tbl := mm_sub_at _ [1159, 1160, 112, 1161] (by decide +kernel) (by decide +kernel)
def vtX8_net : List (Nat × Nat × Nat × mm_F) := [(138, 8, 1, fX8_read)]
def smX8_net : List (Nat × Nat × Nat × mm_F) := []
def ZX8_net (p : Program) (l : Launch) (e : Env) (s : State) (m : MethodId) (args : Array Value) (below : List Frame) (meth : Method) (c : Code) (cA : Nat → ClassId) (ad : Nat → Nat) (D : va_G) (A : Nat → Prop) : Prop := mm_Z p l e (mm_rm 4) s m args below meth c lay_m cA ad D A RX8 cX8_net 2 1 (mm_flt flRX8) (mm_clt (vtX8_net)) (mm_clt (smX8_net)) (mm_ctt ctRX8) kX8_net
def qX8_net_47 (P : Int → mm_M → Prop) : mm_K := fun ls st M => match ls, st with
  | [some (.inr (.inr c0)), some (.inl v1)], [] => mm_chk (Nat.beq c0 0) (P v1 M)
  | _, _ => False
set_option maxRecDepth 100000 in
theorem okX8_net_47 {p : Program} {l : Launch} {e : Env} {s : State} {m : MethodId} {args : Array Value} {below : List Frame} {meth : Method} {c : Code} {cA : Nat → ClassId} {ad : Nat → Nat} {D : va_G} {A : Nat → Prop} {Q : Option mm_V → mm_M → Prop} (Z : ZX8_net p l e s m args below meth c cA ad D A) : ∀ (n : Nat) ls st M, qX8_net_47 (fun v1 M => bX8_net_47 n v1 M (fun r M => Q (some (.inl r)) M)) ls st M → mm_G p l e (mm_rm 4) s m args below meth c lay_m cA ad D A 2 Q 47 ls st M
  | 0, ls, st, M, h => by
    unfold qX8_net_47 at h
    split at h
    · obtain ⟨hb, h⟩ := mm_chk_e h
      cases (Nat.eq_of_beq_eq_true hb)
      exact h.elim
    · exact h.elim
  | n + 1, ls, st, M, h => by
    have ih := okX8_net_47 (Q := Q) Z  n
    unfold qX8_net_47 at h
    split at h
    · obtain ⟨hb, h⟩ := mm_chk_e h
      cases (Nat.eq_of_beq_eq_true hb)
      exact mm_Zb Z 85 47 [(47, qX8_net_47 (fun v1 M => bX8_net_47 n v1 M (fun r M => Q (some (.inl r)) M)))] (mm_fa1 ih mm_fa0) h
    · exact h.elim
set_option maxRecDepth 100000 in
theorem okX8_net_47x {p : Program} {l : Launch} {e : Env} {s : State} {m : MethodId} {args : Array Value} {below : List Frame} {meth : Method} {c : Code} {cA : Nat → ClassId} {ad : Nat → Nat} {D : va_G} {A : Nat → Prop} {Q : Option mm_V → mm_M → Prop} (Z : ZX8_net p l e s m args below meth c cA ad D A) : ∀ ls st M, qX8_net_47 (fun v1 M => ∃ j, bX8_net_47 j v1 M (fun r M => Q (some (.inl r)) M)) ls st M → mm_G p l e (mm_rm 4) s m args below meth c lay_m cA ad D A 2 Q 47 ls st M := by
  intro ls st M h
  have hex : ∃ n, qX8_net_47 (fun v1 M => bX8_net_47 n v1 M (fun r M => Q (some (.inl r)) M)) ls st M := by
    unfold qX8_net_47 at h
    split at h
    · obtain ⟨hb, h⟩ := mm_chk_e h
      cases (Nat.eq_of_beq_eq_true hb)
      obtain ⟨n, h⟩ := h
      exact ⟨n, h⟩
    · exact h.elim
  obtain ⟨n, hex⟩ := hex
  exact okX8_net_47 Z  n ls st M hex
set_option maxRecDepth 100000 in
theorem okX8_net : mm_Ok lay_m yX8_net cX8_net 2 (some .int) 4 fX8_net := by
  refine mm_enter (rt := 1) (by decide +kernel) rfl ?_
  intro p l e s m args below meth c cA ad D A as M Q h C0
  have Z : ZX8_net p l e s m args below meth c cA ad D A := ⟨C0, flRX8_ok, mm_vt_of (mm_fa1 (mm_coV (n := 0) (ci := 8) C0 okX8_read rfl rfl (mm_one_at (.methodLink RX8 138 yX8_read) 1134 (by decide +kernel) rfl) (wX8_read _ (by simp)) (wX8_read _ (by simp [yX8_read])) (wX8_read _ (by simp [yX8_read])) (wX8_read _ (by simp)) (by decide +kernel) (by omega) (by omega)) (mm_fa0)), mm_vt_of (mm_fa0), kX8_net_ok, mm_ctok_J ctRX8_ok⟩
  unfold fX8_net at h
  split at h
  · obtain ⟨hb, h⟩ := mm_chk_e h
    cases (Nat.eq_of_beq_eq_true hb)
    exact ⟨Nat.le_of_ble_eq_true rfl, mm_Zb Z 85 0 [(47, qX8_net_47 (fun v1 M => ∃ j, bX8_net_47 j v1 M (fun r M => Q (some (.inl r)) M)))] (mm_fa1 (fun ls st M h => okX8_net_47x Z  ls st M h) mm_fa0) h⟩
  · exact h.elim
def kX8_isNet : List mm_E := [(0, false, .aload_n 0, []), (1, false, .getfield 142, []), (4, false, .ifCond .le 7, [11]), (7, false, .iconst 1, []), (8, false, .goto 4, [12]), (11, false, .iconst 0, []), (12, false, .ireturn, [])]
set_option maxRecDepth 20000 in
theorem kX8_isNet_ok : mm_cok cX8_isNet RX8 (mm_ctt ctRX8) kX8_isNet := mm_c_of (k := false) ctRX8_ok (by decide +kernel)
set_option maxRecDepth 20000 in
theorem wX8_isNet : ∀ w ∈ ([.instanceMethod yX8_isNet, .selects RX8 yX8_isNet yX8_isNet, .initialized RX8, .code yX8_isNet cX8_isNet 1 (some .boolean)] : List Cond), w ∈ mm_tbl := mm_sub_at _ [1168, 39, 112, 1169] (by decide +kernel) (by decide +kernel)
def vtX8_isNet : List (Nat × Nat × Nat × mm_F) := []
def smX8_isNet : List (Nat × Nat × Nat × mm_F) := []
def ZX8_isNet (p : Program) (l : Launch) (e : Env) (s : State) (m : MethodId) (args : Array Value) (below : List Frame) (meth : Method) (c : Code) (cA : Nat → ClassId) (ad : Nat → Nat) (D : va_G) (A : Nat → Prop) : Prop := mm_Z p l e (mm_rm 0) s m args below meth c lay_m cA ad D A RX8 cX8_isNet 1 2 (mm_flt flRX8) (mm_clt (vtX8_isNet)) (mm_clt (smX8_isNet)) (mm_ctt ctRX8) kX8_isNet
theorem okX8_isNet : mm_Ok lay_m yX8_isNet cX8_isNet 1 (some .boolean) 0 fX8_isNet := by
  refine mm_enter (rt := 2) (by decide +kernel) rfl ?_
  intro p l e s m args below meth c cA ad D A as M Q h C0
  have Z : ZX8_isNet p l e s m args below meth c cA ad D A := ⟨C0, flRX8_ok, mm_vt_of (mm_fa0), mm_vt_of (mm_fa0), kX8_isNet_ok, mm_ctok_J ctRX8_ok⟩
  unfold fX8_isNet at h
  split at h
  · obtain ⟨hb, h⟩ := mm_chk_e h
    cases (Nat.eq_of_beq_eq_true hb)
    exact ⟨Nat.le_of_ble_eq_true rfl, mm_Zb Z 10 0 [] mm_fa0 h⟩
  · exact h.elim
def kX8_roadOf : List mm_E := [(0, false, .aload_n 0, []), (1, false, .getfield 40, []), (4, false, .iconst 5, []), (5, false, .bipush 12, []), (7, false, .iload_n 1, []), (8, false, .imul, []), (9, false, .iload_n 2, []), (10, false, .iadd, []), (11, false, .imul, []), (12, false, .iload_n 3, []), (13, false, .iadd, []), (14, false, .iaload, []), (15, false, .ireturn, [])]
set_option maxRecDepth 20000 in
theorem kX8_roadOf_ok : mm_cok cX8_roadOf RX8 (mm_ctt ctRX8) kX8_roadOf := mm_c_of (k := false) ctRX8_ok (by decide +kernel)
set_option maxRecDepth 20000 in
theorem wX8_roadOf : ∀ w ∈ ([.instanceMethod yX8_roadOf, .selects RX8 yX8_roadOf yX8_roadOf, .initialized RX8, .code yX8_roadOf cX8_roadOf 4 (some .int)] : List Cond), w ∈ mm_tbl := mm_sub_at _ [1188, 44, 112, 1189] (by decide +kernel) (by decide +kernel)
def vtX8_roadOf : List (Nat × Nat × Nat × mm_F) := []
def smX8_roadOf : List (Nat × Nat × Nat × mm_F) := []
def ZX8_roadOf (p : Program) (l : Launch) (e : Env) (s : State) (m : MethodId) (args : Array Value) (below : List Frame) (meth : Method) (c : Code) (cA : Nat → ClassId) (ad : Nat → Nat) (D : va_G) (A : Nat → Prop) : Prop := mm_Z p l e (mm_rm 0) s m args below meth c lay_m cA ad D A RX8 cX8_roadOf 4 1 (mm_flt flRX8) (mm_clt (vtX8_roadOf)) (mm_clt (smX8_roadOf)) (mm_ctt ctRX8) kX8_roadOf
theorem okX8_roadOf : mm_Ok lay_m yX8_roadOf cX8_roadOf 4 (some .int) 0 fX8_roadOf := by
  refine mm_enter (rt := 1) (by decide +kernel) rfl ?_
  intro p l e s m args below meth c cA ad D A as M Q h C0
  have Z : ZX8_roadOf p l e s m args below meth c cA ad D A := ⟨C0, flRX8_ok, mm_vt_of (mm_fa0), mm_vt_of (mm_fa0), kX8_roadOf_ok, mm_ctok_J ctRX8_ok⟩
  unfold fX8_roadOf at h
  split at h
  · obtain ⟨hb, h⟩ := mm_chk_e h
    cases (Nat.eq_of_beq_eq_true hb)
    exact ⟨Nat.le_of_ble_eq_true rfl, mm_Zb Z 16 0 [] mm_fa0 h⟩
  · exact h.elim
def kX8_addWay : List mm_E := [(0, false, .iconst 0, []), (1, false, .istore 4, []), (3, true, .iload 4, []), (5, false, .aload_n 0, []), (6, false, .getfield 37, []), (9, false, .bipush 12, []), (11, false, .iload_n 1, []), (12, false, .imul, []), (13, false, .iload_n 2, []), (14, false, .iadd, []), (15, false, .iaload, []), (16, false, .if_icmp .ge 26, [42]), (19, false, .aload_n 0, []), (20, false, .getfield 71, []), (23, false, .aload_n 0, []), (24, false, .iload_n 1, []), (25, false, .iload_n 2, []), (26, false, .iload 4, []), (28, false, .invokevirtual 158, []), (31, false, .dup2, []), (32, false, .iaload, []), (33, false, .iload_n 3, []), (34, false, .iadd, []), (35, false, .iastore, []), (36, false, .iinc 4 1, []), (39, false, .goto (-36), [3]), (42, false, .return_, [])]
set_option maxRecDepth 20000 in
theorem kX8_addWay_ok : mm_cok cX8_addWay RX8 (mm_ctt ctRX8) kX8_addWay := mm_c_of (k := false) ctRX8_ok (by decide +kernel)
set_option maxRecDepth 20000 in
theorem wX8_addWay : ∀ w ∈ ([.instanceMethod yX8_addWay, .selects RX8 yX8_addWay yX8_addWay, .initialized RX8, .code yX8_addWay cX8_addWay 5 none] : List Cond), w ∈ mm_tbl := mm_sub_at _ [1184, 43, 112, 1185] (by decide +kernel) (by decide +kernel)
def vtX8_addWay : List (Nat × Nat × Nat × mm_F) := [(158, 8, 4, fX8_roadOf)]
def smX8_addWay : List (Nat × Nat × Nat × mm_F) := []
def ZX8_addWay (p : Program) (l : Launch) (e : Env) (s : State) (m : MethodId) (args : Array Value) (below : List Frame) (meth : Method) (c : Code) (cA : Nat → ClassId) (ad : Nat → Nat) (D : va_G) (A : Nat → Prop) : Prop := mm_Z p l e (mm_rm 1) s m args below meth c lay_m cA ad D A RX8 cX8_addWay 5 0 (mm_flt flRX8) (mm_clt (vtX8_addWay)) (mm_clt (smX8_addWay)) (mm_ctt ctRX8) kX8_addWay
def qX8_addWay_3 (P : Int → Int → Int → Int → mm_M → Prop) : mm_K := fun ls st M => match ls, st with
  | [some (.inr (.inr c0)), some (.inl v1), some (.inl v2), some (.inl v3), some (.inl v4)], [] => mm_chk (Nat.beq c0 0) (P v1 v2 v3 v4 M)
  | _, _ => False
theorem okX8_addWay_3 {p : Program} {l : Launch} {e : Env} {s : State} {m : MethodId} {args : Array Value} {below : List Frame} {meth : Method} {c : Code} {cA : Nat → ClassId} {ad : Nat → Nat} {D : va_G} {A : Nat → Prop} {Q : Option mm_V → mm_M → Prop} (Z : ZX8_addWay p l e s m args below meth c cA ad D A) : ∀ (n : Nat) ls st M, qX8_addWay_3 (fun v1 v2 v3 v4 M => bX8_addWay_3 n v1 v2 v3 v4 M (fun M => Q none M)) ls st M → mm_G p l e (mm_rm 1) s m args below meth c lay_m cA ad D A 5 Q 3 ls st M
  | 0, ls, st, M, h => by
    unfold qX8_addWay_3 at h
    split at h
    · obtain ⟨hb, h⟩ := mm_chk_e h
      cases (Nat.eq_of_beq_eq_true hb)
      exact h.elim
    · exact h.elim
  | n + 1, ls, st, M, h => by
    have ih := okX8_addWay_3 (Q := Q) Z  n
    unfold qX8_addWay_3 at h
    split at h
    · obtain ⟨hb, h⟩ := mm_chk_e h
      cases (Nat.eq_of_beq_eq_true hb)
      exact mm_Zb Z 30 3 [(3, qX8_addWay_3 (fun v1 v2 v3 v4 M => bX8_addWay_3 n v1 v2 v3 v4 M (fun M => Q none M)))] (mm_fa1 ih mm_fa0) h
    · exact h.elim
theorem okX8_addWay_3x {p : Program} {l : Launch} {e : Env} {s : State} {m : MethodId} {args : Array Value} {below : List Frame} {meth : Method} {c : Code} {cA : Nat → ClassId} {ad : Nat → Nat} {D : va_G} {A : Nat → Prop} {Q : Option mm_V → mm_M → Prop} (Z : ZX8_addWay p l e s m args below meth c cA ad D A) : ∀ ls st M, qX8_addWay_3 (fun v1 v2 v3 v4 M => ∃ j, bX8_addWay_3 j v1 v2 v3 v4 M (fun M => Q none M)) ls st M → mm_G p l e (mm_rm 1) s m args below meth c lay_m cA ad D A 5 Q 3 ls st M := by
  intro ls st M h
  have hex : ∃ n, qX8_addWay_3 (fun v1 v2 v3 v4 M => bX8_addWay_3 n v1 v2 v3 v4 M (fun M => Q none M)) ls st M := by
    unfold qX8_addWay_3 at h
    split at h
    · obtain ⟨hb, h⟩ := mm_chk_e h
      cases (Nat.eq_of_beq_eq_true hb)
      obtain ⟨n, h⟩ := h
      exact ⟨n, h⟩
    · exact h.elim
  obtain ⟨n, hex⟩ := hex
  exact okX8_addWay_3 Z  n ls st M hex
theorem okX8_addWay : mm_Ok lay_m yX8_addWay cX8_addWay 5 none 1 fX8_addWay := by
  refine mm_enter (rt := 0) (by decide +kernel) rfl ?_
  intro p l e s m args below meth c cA ad D A as M Q h C0
  have Z : ZX8_addWay p l e s m args below meth c cA ad D A := ⟨C0, flRX8_ok, mm_vt_of (mm_fa1 (mm_coV (n := 3) (ci := 8) C0 okX8_roadOf rfl rfl (mm_one_at (.methodLink RX8 158 yX8_roadOf) 1186 (by decide +kernel) rfl) (wX8_roadOf _ (by simp)) (wX8_roadOf _ (by simp [yX8_roadOf])) (wX8_roadOf _ (by simp [yX8_roadOf])) (wX8_roadOf _ (by simp)) (by decide +kernel) (by omega) (by omega)) (mm_fa0)), mm_vt_of (mm_fa0), kX8_addWay_ok, mm_ctok_J ctRX8_ok⟩
  unfold fX8_addWay at h
  split at h
  · obtain ⟨hb, h⟩ := mm_chk_e h
    cases (Nat.eq_of_beq_eq_true hb)
    exact ⟨Nat.le_of_ble_eq_true rfl, mm_Zb Z 30 0 [(3, qX8_addWay_3 (fun v1 v2 v3 v4 M => ∃ j, bX8_addWay_3 j v1 v2 v3 v4 M (fun M => Q none M)))] (mm_fa1 (fun ls st M h => okX8_addWay_3x Z  ls st M h) mm_fa0) h⟩
  · exact h.elim
def kX8_layLoad : List mm_E := [(0, false, .iconst 0, []), (1, false, .istore_n 1, []), (2, true, .iload_n 1, []), (3, false, .bipush 10, []), (5, false, .if_icmp .ge 16, [21]), (8, false, .aload_n 0, []), (9, false, .getfield 71, []), (12, false, .iload_n 1, []), (13, false, .iconst 0, []), (14, false, .iastore, []), (15, false, .iinc 1 1, []), (18, false, .goto (-16), [2]), (21, false, .iconst 0, []), (22, false, .istore_n 1, []), (23, true, .iload_n 1, []), (24, false, .aload_n 0, []), (25, false, .getfield 148, []), (28, false, .if_icmp .ge 21, [49]), (31, false, .aload_n 0, []), (32, false, .iload_n 1, []), (33, false, .aload_n 0, []), (34, false, .getfield 34, []), (37, false, .iload_n 1, []), (38, false, .iaload, []), (39, false, .iconst 1, []), (40, false, .invokevirtual 154, []), (43, false, .iinc 1 1, []), (46, false, .goto (-23), [23]), (49, false, .return_, [])]
set_option maxRecDepth 20000 in
theorem kX8_layLoad_ok : mm_cok cX8_layLoad RX8 (mm_ctt ctRX8) kX8_layLoad := mm_c_of (k := false) ctRX8_ok (by decide +kernel)
set_option maxRecDepth 20000 in
theorem wX8_layLoad : ∀ w ∈ ([.instanceMethod yX8_layLoad, .selects RX8 yX8_layLoad yX8_layLoad, .initialized RX8, .code yX8_layLoad cX8_layLoad 2 none] : List Cond), w ∈ mm_tbl := mm_sub_at _ [1180, 42, 112, 1181] (by decide +kernel) (by decide +kernel)
def vtX8_layLoad : List (Nat × Nat × Nat × mm_F) := [(154, 8, 4, fX8_addWay)]
def smX8_layLoad : List (Nat × Nat × Nat × mm_F) := []
def ZX8_layLoad (p : Program) (l : Launch) (e : Env) (s : State) (m : MethodId) (args : Array Value) (below : List Frame) (meth : Method) (c : Code) (cA : Nat → ClassId) (ad : Nat → Nat) (D : va_G) (A : Nat → Prop) : Prop := mm_Z p l e (mm_rm 2) s m args below meth c lay_m cA ad D A RX8 cX8_layLoad 2 0 (mm_flt flRX8) (mm_clt (vtX8_layLoad)) (mm_clt (smX8_layLoad)) (mm_ctt ctRX8) kX8_layLoad
def qX8_layLoad_23 (P : Int → mm_M → Prop) : mm_K := fun ls st M => match ls, st with
  | [some (.inr (.inr c0)), some (.inl v1)], [] => mm_chk (Nat.beq c0 0) (P v1 M)
  | _, _ => False
def qX8_layLoad_2 (P : Int → mm_M → Prop) : mm_K := fun ls st M => match ls, st with
  | [some (.inr (.inr c0)), some (.inl v1)], [] => mm_chk (Nat.beq c0 0) (P v1 M)
  | _, _ => False
theorem okX8_layLoad_23 {p : Program} {l : Launch} {e : Env} {s : State} {m : MethodId} {args : Array Value} {below : List Frame} {meth : Method} {c : Code} {cA : Nat → ClassId} {ad : Nat → Nat} {D : va_G} {A : Nat → Prop} {Q : Option mm_V → mm_M → Prop} (Z : ZX8_layLoad p l e s m args below meth c cA ad D A) : ∀ (n : Nat) ls st M, qX8_layLoad_23 (fun v1 M => bX8_layLoad_23 n v1 M (fun M => Q none M)) ls st M → mm_G p l e (mm_rm 2) s m args below meth c lay_m cA ad D A 2 Q 23 ls st M
  | 0, ls, st, M, h => by
    unfold qX8_layLoad_23 at h
    split at h
    · obtain ⟨hb, h⟩ := mm_chk_e h
      cases (Nat.eq_of_beq_eq_true hb)
      exact h.elim
    · exact h.elim
  | n + 1, ls, st, M, h => by
    have ih := okX8_layLoad_23 (Q := Q) Z  n
    unfold qX8_layLoad_23 at h
    split at h
    · obtain ⟨hb, h⟩ := mm_chk_e h
      cases (Nat.eq_of_beq_eq_true hb)
      exact mm_Zb Z 32 23 [(23, qX8_layLoad_23 (fun v1 M => bX8_layLoad_23 n v1 M (fun M => Q none M)))] (mm_fa1 ih mm_fa0) h
    · exact h.elim
theorem okX8_layLoad_23x {p : Program} {l : Launch} {e : Env} {s : State} {m : MethodId} {args : Array Value} {below : List Frame} {meth : Method} {c : Code} {cA : Nat → ClassId} {ad : Nat → Nat} {D : va_G} {A : Nat → Prop} {Q : Option mm_V → mm_M → Prop} (Z : ZX8_layLoad p l e s m args below meth c cA ad D A) : ∀ ls st M, qX8_layLoad_23 (fun v1 M => ∃ j, bX8_layLoad_23 j v1 M (fun M => Q none M)) ls st M → mm_G p l e (mm_rm 2) s m args below meth c lay_m cA ad D A 2 Q 23 ls st M := by
  intro ls st M h
  have hex : ∃ n, qX8_layLoad_23 (fun v1 M => bX8_layLoad_23 n v1 M (fun M => Q none M)) ls st M := by
    unfold qX8_layLoad_23 at h
    split at h
    · obtain ⟨hb, h⟩ := mm_chk_e h
      cases (Nat.eq_of_beq_eq_true hb)
      obtain ⟨n, h⟩ := h
      exact ⟨n, h⟩
    · exact h.elim
  obtain ⟨n, hex⟩ := hex
  exact okX8_layLoad_23 Z  n ls st M hex
theorem okX8_layLoad_2 {p : Program} {l : Launch} {e : Env} {s : State} {m : MethodId} {args : Array Value} {below : List Frame} {meth : Method} {c : Code} {cA : Nat → ClassId} {ad : Nat → Nat} {D : va_G} {A : Nat → Prop} {Q : Option mm_V → mm_M → Prop} (Z : ZX8_layLoad p l e s m args below meth c cA ad D A) : ∀ (n : Nat) ls st M, qX8_layLoad_2 (fun v1 M => bX8_layLoad_2 n v1 M (fun M => Q none M)) ls st M → mm_G p l e (mm_rm 2) s m args below meth c lay_m cA ad D A 2 Q 2 ls st M
  | 0, ls, st, M, h => by
    unfold qX8_layLoad_2 at h
    split at h
    · obtain ⟨hb, h⟩ := mm_chk_e h
      cases (Nat.eq_of_beq_eq_true hb)
      exact h.elim
    · exact h.elim
  | n + 1, ls, st, M, h => by
    have ih := okX8_layLoad_2 (Q := Q) Z  n
    unfold qX8_layLoad_2 at h
    split at h
    · obtain ⟨hb, h⟩ := mm_chk_e h
      cases (Nat.eq_of_beq_eq_true hb)
      exact mm_Zb Z 32 2 [(2, qX8_layLoad_2 (fun v1 M => bX8_layLoad_2 n v1 M (fun M => Q none M))), (23, qX8_layLoad_23 (fun v1 M => ∃ j, bX8_layLoad_23 j v1 M (fun M => Q none M)))] (mm_fa1 ih (mm_fa1 (fun ls st M h => okX8_layLoad_23x Z  ls st M h) mm_fa0)) h
    · exact h.elim
theorem okX8_layLoad_2x {p : Program} {l : Launch} {e : Env} {s : State} {m : MethodId} {args : Array Value} {below : List Frame} {meth : Method} {c : Code} {cA : Nat → ClassId} {ad : Nat → Nat} {D : va_G} {A : Nat → Prop} {Q : Option mm_V → mm_M → Prop} (Z : ZX8_layLoad p l e s m args below meth c cA ad D A) : ∀ ls st M, qX8_layLoad_2 (fun v1 M => ∃ j, bX8_layLoad_2 j v1 M (fun M => Q none M)) ls st M → mm_G p l e (mm_rm 2) s m args below meth c lay_m cA ad D A 2 Q 2 ls st M := by
  intro ls st M h
  have hex : ∃ n, qX8_layLoad_2 (fun v1 M => bX8_layLoad_2 n v1 M (fun M => Q none M)) ls st M := by
    unfold qX8_layLoad_2 at h
    split at h
    · obtain ⟨hb, h⟩ := mm_chk_e h
      cases (Nat.eq_of_beq_eq_true hb)
      obtain ⟨n, h⟩ := h
      exact ⟨n, h⟩
    · exact h.elim
  obtain ⟨n, hex⟩ := hex
  exact okX8_layLoad_2 Z  n ls st M hex
theorem okX8_layLoad : mm_Ok lay_m yX8_layLoad cX8_layLoad 2 none 2 fX8_layLoad := by
  refine mm_enter (rt := 0) (by decide +kernel) rfl ?_
  intro p l e s m args below meth c cA ad D A as M Q h C0
  have Z : ZX8_layLoad p l e s m args below meth c cA ad D A := ⟨C0, flRX8_ok, mm_vt_of (mm_fa1 (mm_coV (n := 3) (ci := 8) C0 okX8_addWay rfl rfl (mm_one_at (.methodLink RX8 154 yX8_addWay) 1182 (by decide +kernel) rfl) (wX8_addWay _ (by simp)) (wX8_addWay _ (by simp [yX8_addWay])) (wX8_addWay _ (by simp [yX8_addWay])) (wX8_addWay _ (by simp)) (by decide +kernel) (by omega) (by omega)) (mm_fa0)), mm_vt_of (mm_fa0), kX8_layLoad_ok, mm_ctok_J ctRX8_ok⟩
  unfold fX8_layLoad at h
  split at h
  · obtain ⟨hb, h⟩ := mm_chk_e h
    cases (Nat.eq_of_beq_eq_true hb)
    exact ⟨Nat.le_of_ble_eq_true rfl, mm_Zb Z 32 0 [(2, qX8_layLoad_2 (fun v1 M => ∃ j, bX8_layLoad_2 j v1 M (fun M => Q none M)))] (mm_fa1 (fun ls st M h => okX8_layLoad_2x Z  ls st M h) mm_fa0) h⟩
  · exact h.elim
def kX8_payAt : List mm_E := [(0, false, .aload_n 0, []), (1, false, .getfield 16, []), (4, false, .iload_n 1, []), (5, false, .iaload, []), (6, false, .aload_n 0, []), (7, false, .getfield 19, []), (10, false, .iload_n 1, []), (11, false, .iaload, []), (12, false, .iload_n 2, []), (13, false, .imul, []), (14, false, .iadd, []), (15, false, .aload_n 0, []), (16, false, .getfield 162, []), (19, false, .iconst 1, []), (20, false, .if_icmp .ne 12, [32]), (23, false, .aload_n 0, []), (24, false, .getfield 22, []), (27, false, .iload_n 1, []), (28, false, .iaload, []), (29, false, .goto 25, [54]), (32, false, .aload_n 0, []), (33, false, .getfield 162, []), (36, false, .iconst 2, []), (37, false, .if_icmp .ne 16, [53]), (40, false, .aload_n 0, []), (41, false, .getfield 19, []), (44, false, .iload_n 1, []), (45, false, .iaload, []), (46, false, .iload_n 2, []), (47, false, .iconst 1, []), (48, false, .isub, []), (49, false, .imul, []), (50, false, .goto 4, [54]), (53, false, .iconst 0, []), (54, false, .iadd, []), (55, false, .ireturn, [])]
set_option maxRecDepth 20000 in
theorem kX8_payAt_ok : mm_cok cX8_payAt RX8 (mm_ctt ctRX8) kX8_payAt := mm_c_of (k := false) ctRX8_ok (by decide +kernel)
set_option maxRecDepth 20000 in
theorem wX8_payAt : ∀ w ∈ ([.instanceMethod yX8_payAt, .selects RX8 yX8_payAt yX8_payAt, .initialized RX8, .code yX8_payAt cX8_payAt 3 (some .int)] : List Cond), w ∈ mm_tbl := mm_sub_at _ [1196, 46, 112, 1197] (by decide +kernel) (by decide +kernel)
def vtX8_payAt : List (Nat × Nat × Nat × mm_F) := []
def smX8_payAt : List (Nat × Nat × Nat × mm_F) := []
def ZX8_payAt (p : Program) (l : Launch) (e : Env) (s : State) (m : MethodId) (args : Array Value) (below : List Frame) (meth : Method) (c : Code) (cA : Nat → ClassId) (ad : Nat → Nat) (D : va_G) (A : Nat → Prop) : Prop := mm_Z p l e (mm_rm 0) s m args below meth c lay_m cA ad D A RX8 cX8_payAt 3 1 (mm_flt flRX8) (mm_clt (vtX8_payAt)) (mm_clt (smX8_payAt)) (mm_ctt ctRX8) kX8_payAt
theorem okX8_payAt : mm_Ok lay_m yX8_payAt cX8_payAt 3 (some .int) 0 fX8_payAt := by
  refine mm_enter (rt := 1) (by decide +kernel) rfl ?_
  intro p l e s m args below meth c cA ad D A as M Q h C0
  have Z : ZX8_payAt p l e s m args below meth c cA ad D A := ⟨C0, flRX8_ok, mm_vt_of (mm_fa0), mm_vt_of (mm_fa0), kX8_payAt_ok, mm_ctok_J ctRX8_ok⟩
  unfold fX8_payAt at h
  split at h
  · obtain ⟨hb, h⟩ := mm_chk_e h
    cases (Nat.eq_of_beq_eq_true hb)
    exact ⟨Nat.le_of_ble_eq_true rfl, mm_Zb Z 39 0 [] mm_fa0 h⟩
  · exact h.elim
def kX8_payNow : List mm_E := [(0, false, .aload_n 0, []), (1, false, .iload_n 1, []), (2, false, .aload_n 0, []), (3, false, .getfield 34, []), (6, false, .iload_n 1, []), (7, false, .iaload, []), (8, false, .iconst (-1), []), (9, false, .invokevirtual 154, []), (12, false, .aload_n 0, []), (13, false, .iload_n 1, []), (14, false, .iload_n 2, []), (15, false, .iconst 1, []), (16, false, .invokevirtual 154, []), (19, false, .iconst 0, []), (20, false, .istore_n 3, []), (21, false, .iconst 0, []), (22, false, .istore 4, []), (24, true, .iload 4, []), (26, false, .aload_n 0, []), (27, false, .getfield 37, []), (30, false, .bipush 12, []), (32, false, .iload_n 1, []), (33, false, .imul, []), (34, false, .iload_n 2, []), (35, false, .iadd, []), (36, false, .iaload, []), (37, false, .if_icmp .ge 35, [72]), (40, false, .aload_n 0, []), (41, false, .iload_n 1, []), (42, false, .iload_n 2, []), (43, false, .iload 4, []), (45, false, .invokevirtual 158, []), (48, false, .istore 5, []), (50, false, .iload_n 3, []), (51, false, .aload_n 0, []), (52, false, .iload 5, []), (54, false, .aload_n 0, []), (55, false, .getfield 71, []), (58, false, .iload 5, []), (60, false, .iaload, []), (61, false, .invokevirtual 165, []), (64, false, .iadd, []), (65, false, .istore_n 3, []), (66, false, .iinc 4 1, []), (69, false, .goto (-45), [24]), (72, false, .aload_n 0, []), (73, false, .iload_n 1, []), (74, false, .iload_n 2, []), (75, false, .iconst (-1), []), (76, false, .invokevirtual 154, []), (79, false, .aload_n 0, []), (80, false, .iload_n 1, []), (81, false, .aload_n 0, []), (82, false, .getfield 34, []), (85, false, .iload_n 1, []), (86, false, .iaload, []), (87, false, .iconst 1, []), (88, false, .invokevirtual 154, []), (91, false, .iload_n 3, []), (92, false, .ireturn, [])]
set_option maxRecDepth 20000 in
theorem kX8_payNow_ok : mm_cok cX8_payNow RX8 (mm_ctt ctRX8) kX8_payNow := mm_c_of (k := false) ctRX8_ok (by decide +kernel)
set_option maxRecDepth 20000 in
theorem wX8_payNow : ∀ w ∈ ([.instanceMethod yX8_payNow, .selects RX8 yX8_payNow yX8_payNow, .initialized RX8, .code yX8_payNow cX8_payNow 6 (some .int)] : List Cond), w ∈ mm_tbl := mm_sub_at _ [1208, 49, 112, 1209] (by decide +kernel) (by decide +kernel)
def vtX8_payNow : List (Nat × Nat × Nat × mm_F) := [(154, 8, 4, fX8_addWay), (158, 8, 4, fX8_roadOf), (165, 8, 3, fX8_payAt)]
def smX8_payNow : List (Nat × Nat × Nat × mm_F) := []
def ZX8_payNow (p : Program) (l : Launch) (e : Env) (s : State) (m : MethodId) (args : Array Value) (below : List Frame) (meth : Method) (c : Code) (cA : Nat → ClassId) (ad : Nat → Nat) (D : va_G) (A : Nat → Prop) : Prop := mm_Z p l e (mm_rm 2) s m args below meth c lay_m cA ad D A RX8 cX8_payNow 6 1 (mm_flt flRX8) (mm_clt (vtX8_payNow)) (mm_clt (smX8_payNow)) (mm_ctt ctRX8) kX8_payNow
def qX8_payNow_24 (P : Int → Int → Int → Int → mm_M → Prop) : mm_K := fun ls st M => match ls, st with
  | [some (.inr (.inr c0)), some (.inl v1), some (.inl v2), some (.inl v3), some (.inl v4), _], [] => mm_chk (Nat.beq c0 0) (P v1 v2 v3 v4 M)
  | _, _ => False
theorem okX8_payNow_24 {p : Program} {l : Launch} {e : Env} {s : State} {m : MethodId} {args : Array Value} {below : List Frame} {meth : Method} {c : Code} {cA : Nat → ClassId} {ad : Nat → Nat} {D : va_G} {A : Nat → Prop} {Q : Option mm_V → mm_M → Prop} (Z : ZX8_payNow p l e s m args below meth c cA ad D A) : ∀ (n : Nat) ls st M, qX8_payNow_24 (fun v1 v2 v3 v4 M => bX8_payNow_24 n v1 v2 v3 v4 M (fun r M => Q (some (.inl r)) M)) ls st M → mm_G p l e (mm_rm 2) s m args below meth c lay_m cA ad D A 6 Q 24 ls st M
  | 0, ls, st, M, h => by
    unfold qX8_payNow_24 at h
    split at h
    · obtain ⟨hb, h⟩ := mm_chk_e h
      cases (Nat.eq_of_beq_eq_true hb)
      exact h.elim
    · exact h.elim
  | n + 1, ls, st, M, h => by
    have ih := okX8_payNow_24 (Q := Q) Z  n
    unfold qX8_payNow_24 at h
    split at h
    · obtain ⟨hb, h⟩ := mm_chk_e h
      cases (Nat.eq_of_beq_eq_true hb)
      exact mm_Zb Z 63 24 [(24, qX8_payNow_24 (fun v1 v2 v3 v4 M => bX8_payNow_24 n v1 v2 v3 v4 M (fun r M => Q (some (.inl r)) M)))] (mm_fa1 ih mm_fa0) h
    · exact h.elim
theorem okX8_payNow_24x {p : Program} {l : Launch} {e : Env} {s : State} {m : MethodId} {args : Array Value} {below : List Frame} {meth : Method} {c : Code} {cA : Nat → ClassId} {ad : Nat → Nat} {D : va_G} {A : Nat → Prop} {Q : Option mm_V → mm_M → Prop} (Z : ZX8_payNow p l e s m args below meth c cA ad D A) : ∀ ls st M, qX8_payNow_24 (fun v1 v2 v3 v4 M => ∃ j, bX8_payNow_24 j v1 v2 v3 v4 M (fun r M => Q (some (.inl r)) M)) ls st M → mm_G p l e (mm_rm 2) s m args below meth c lay_m cA ad D A 6 Q 24 ls st M := by
  intro ls st M h
  have hex : ∃ n, qX8_payNow_24 (fun v1 v2 v3 v4 M => bX8_payNow_24 n v1 v2 v3 v4 M (fun r M => Q (some (.inl r)) M)) ls st M := by
    unfold qX8_payNow_24 at h
    split at h
    · obtain ⟨hb, h⟩ := mm_chk_e h
      cases (Nat.eq_of_beq_eq_true hb)
      obtain ⟨n, h⟩ := h
      exact ⟨n, h⟩
    · exact h.elim
  obtain ⟨n, hex⟩ := hex
  exact okX8_payNow_24 Z  n ls st M hex
theorem okX8_payNow : mm_Ok lay_m yX8_payNow cX8_payNow 6 (some .int) 2 fX8_payNow := by
  refine mm_enter (rt := 1) (by decide +kernel) rfl ?_
  intro p l e s m args below meth c cA ad D A as M Q h C0
  have Z : ZX8_payNow p l e s m args below meth c cA ad D A := ⟨C0, flRX8_ok, mm_vt_of (mm_fa1 (mm_coV (n := 3) (ci := 8) C0 okX8_addWay rfl rfl (mm_one_at (.methodLink RX8 154 yX8_addWay) 1182 (by decide +kernel) rfl) (wX8_addWay _ (by simp)) (wX8_addWay _ (by simp [yX8_addWay])) (wX8_addWay _ (by simp [yX8_addWay])) (wX8_addWay _ (by simp)) (by decide +kernel) (by omega) (by omega)) (mm_fa1 (mm_coV (n := 3) (ci := 8) C0 okX8_roadOf rfl rfl (mm_one_at (.methodLink RX8 158 yX8_roadOf) 1186 (by decide +kernel) rfl) (wX8_roadOf _ (by simp)) (wX8_roadOf _ (by simp [yX8_roadOf])) (wX8_roadOf _ (by simp [yX8_roadOf])) (wX8_roadOf _ (by simp)) (by decide +kernel) (by omega) (by omega)) (mm_fa1 (mm_coV (n := 2) (ci := 8) C0 okX8_payAt rfl rfl (mm_one_at (.methodLink RX8 165 yX8_payAt) 1194 (by decide +kernel) rfl) (wX8_payAt _ (by simp)) (wX8_payAt _ (by simp [yX8_payAt])) (wX8_payAt _ (by simp [yX8_payAt])) (wX8_payAt _ (by simp)) (by decide +kernel) (by omega) (by omega)) (mm_fa0)))), mm_vt_of (mm_fa0), kX8_payNow_ok, mm_ctok_J ctRX8_ok⟩
  unfold fX8_payNow at h
  split at h
  · obtain ⟨hb, h⟩ := mm_chk_e h
    cases (Nat.eq_of_beq_eq_true hb)
    exact ⟨Nat.le_of_ble_eq_true rfl, mm_Zb Z 63 0 [(24, qX8_payNow_24 (fun v1 v2 v3 v4 M => ∃ j, bX8_payNow_24 j v1 v2 v3 v4 M (fun r M => Q (some (.inl r)) M)))] (mm_fa1 (fun ls st M h => okX8_payNow_24x Z  ls st M h) mm_fa0) h⟩
  · exact h.elim
def kX8_payOf : List mm_E := [(0, false, .aload_n 0, []), (1, false, .invokevirtual 169, []), (4, false, .aload_n 0, []), (5, false, .iload_n 1, []), (6, false, .iload_n 2, []), (7, false, .invokevirtual 172, []), (10, false, .ireturn, [])]
set_option maxRecDepth 20000 in
theorem kX8_payOf_ok : mm_cok cX8_payOf RX8 (mm_ctt ctRX8) kX8_payOf := mm_c_of (k := false) ctRX8_ok (by decide +kernel)
set_option maxRecDepth 20000 in
theorem wX8_payOf : ∀ w ∈ ([.instanceMethod yX8_payOf, .selects RX8 yX8_payOf yX8_payOf, .initialized RX8, .code yX8_payOf cX8_payOf 3 (some .int)] : List Cond), w ∈ mm_tbl := mm_sub_at _ [1264, 59, 112, 1265] (by decide +kernel) (by decide +kernel)
def vtX8_payOf : List (Nat × Nat × Nat × mm_F) := [(169, 8, 1, fX8_layLoad), (172, 8, 3, fX8_payNow)]
def smX8_payOf : List (Nat × Nat × Nat × mm_F) := []
def ZX8_payOf (p : Program) (l : Launch) (e : Env) (s : State) (m : MethodId) (args : Array Value) (below : List Frame) (meth : Method) (c : Code) (cA : Nat → ClassId) (ad : Nat → Nat) (D : va_G) (A : Nat → Prop) : Prop := mm_Z p l e (mm_rm 3) s m args below meth c lay_m cA ad D A RX8 cX8_payOf 3 1 (mm_flt flRX8) (mm_clt (vtX8_payOf)) (mm_clt (smX8_payOf)) (mm_ctt ctRX8) kX8_payOf
theorem okX8_payOf : mm_Ok lay_m yX8_payOf cX8_payOf 3 (some .int) 3 fX8_payOf := by
  refine mm_enter (rt := 1) (by decide +kernel) rfl ?_
  intro p l e s m args below meth c cA ad D A as M Q h C0
  have Z : ZX8_payOf p l e s m args below meth c cA ad D A := ⟨C0, flRX8_ok, mm_vt_of (mm_fa1 (mm_coV (n := 0) (ci := 8) C0 okX8_layLoad rfl rfl (mm_one_at (.methodLink RX8 169 yX8_layLoad) 1178 (by decide +kernel) rfl) (wX8_layLoad _ (by simp)) (wX8_layLoad _ (by simp [yX8_layLoad])) (wX8_layLoad _ (by simp [yX8_layLoad])) (wX8_layLoad _ (by simp)) (by decide +kernel) (by omega) (by omega)) (mm_fa1 (mm_coV (n := 2) (ci := 8) C0 okX8_payNow rfl rfl (mm_one_at (.methodLink RX8 172 yX8_payNow) 1206 (by decide +kernel) rfl) (wX8_payNow _ (by simp)) (wX8_payNow _ (by simp [yX8_payNow])) (wX8_payNow _ (by simp [yX8_payNow])) (wX8_payNow _ (by simp)) (by decide +kernel) (by omega) (by omega)) (mm_fa0))), mm_vt_of (mm_fa0), kX8_payOf_ok, mm_ctok_J ctRX8_ok⟩
  unfold fX8_payOf at h
  split at h
  · obtain ⟨hb, h⟩ := mm_chk_e h
    cases (Nat.eq_of_beq_eq_true hb)
    exact ⟨Nat.le_of_ble_eq_true rfl, mm_Zb Z 10 0 [] mm_fa0 h⟩
  · exact h.elim
def kX8_socialNow : List mm_E := [(0, false, .aload_n 0, []), (1, false, .invokevirtual 169, []), (4, false, .iconst 0, []), (5, false, .istore_n 1, []), (6, false, .iconst 0, []), (7, false, .istore_n 2, []), (8, true, .iload_n 2, []), (9, false, .aload_n 0, []), (10, false, .getfield 145, []), (13, false, .if_icmp .ge 39, [52]), (16, false, .iload_n 1, []), (17, false, .aload_n 0, []), (18, false, .getfield 71, []), (21, false, .iload_n 2, []), (22, false, .iaload, []), (23, false, .aload_n 0, []), (24, false, .getfield 16, []), (27, false, .iload_n 2, []), (28, false, .iaload, []), (29, false, .aload_n 0, []), (30, false, .getfield 19, []), (33, false, .iload_n 2, []), (34, false, .iaload, []), (35, false, .aload_n 0, []), (36, false, .getfield 71, []), (39, false, .iload_n 2, []), (40, false, .iaload, []), (41, false, .imul, []), (42, false, .iadd, []), (43, false, .imul, []), (44, false, .iadd, []), (45, false, .istore_n 1, []), (46, false, .iinc 2 1, []), (49, false, .goto (-41), [8]), (52, false, .iload_n 1, []), (53, false, .ireturn, [])]
set_option maxRecDepth 20000 in
theorem kX8_socialNow_ok : mm_cok cX8_socialNow RX8 (mm_ctt ctRX8) kX8_socialNow := mm_c_of (k := false) ctRX8_ok (by decide +kernel)
set_option maxRecDepth 20000 in
theorem wX8_socialNow : ∀ w ∈ ([.instanceMethod yX8_socialNow, .selects RX8 yX8_socialNow yX8_socialNow, .initialized RX8, .code yX8_socialNow cX8_socialNow 3 (some .int)] : List Cond), w ∈ mm_tbl := mm_sub_at _ [1176, 41, 112, 1177] (by decide +kernel) (by decide +kernel)
def vtX8_socialNow : List (Nat × Nat × Nat × mm_F) := [(169, 8, 1, fX8_layLoad)]
def smX8_socialNow : List (Nat × Nat × Nat × mm_F) := []
def ZX8_socialNow (p : Program) (l : Launch) (e : Env) (s : State) (m : MethodId) (args : Array Value) (below : List Frame) (meth : Method) (c : Code) (cA : Nat → ClassId) (ad : Nat → Nat) (D : va_G) (A : Nat → Prop) : Prop := mm_Z p l e (mm_rm 3) s m args below meth c lay_m cA ad D A RX8 cX8_socialNow 3 1 (mm_flt flRX8) (mm_clt (vtX8_socialNow)) (mm_clt (smX8_socialNow)) (mm_ctt ctRX8) kX8_socialNow
def qX8_socialNow_8 (P : Int → Int → mm_M → Prop) : mm_K := fun ls st M => match ls, st with
  | [some (.inr (.inr c0)), some (.inl v1), some (.inl v2)], [] => mm_chk (Nat.beq c0 0) (P v1 v2 M)
  | _, _ => False
theorem okX8_socialNow_8 {p : Program} {l : Launch} {e : Env} {s : State} {m : MethodId} {args : Array Value} {below : List Frame} {meth : Method} {c : Code} {cA : Nat → ClassId} {ad : Nat → Nat} {D : va_G} {A : Nat → Prop} {Q : Option mm_V → mm_M → Prop} (Z : ZX8_socialNow p l e s m args below meth c cA ad D A) : ∀ (n : Nat) ls st M, qX8_socialNow_8 (fun v1 v2 M => bX8_socialNow_8 n v1 v2 M (fun r M => Q (some (.inl r)) M)) ls st M → mm_G p l e (mm_rm 3) s m args below meth c lay_m cA ad D A 3 Q 8 ls st M
  | 0, ls, st, M, h => by
    unfold qX8_socialNow_8 at h
    split at h
    · obtain ⟨hb, h⟩ := mm_chk_e h
      cases (Nat.eq_of_beq_eq_true hb)
      exact h.elim
    · exact h.elim
  | n + 1, ls, st, M, h => by
    have ih := okX8_socialNow_8 (Q := Q) Z  n
    unfold qX8_socialNow_8 at h
    split at h
    · obtain ⟨hb, h⟩ := mm_chk_e h
      cases (Nat.eq_of_beq_eq_true hb)
      exact mm_Zb Z 39 8 [(8, qX8_socialNow_8 (fun v1 v2 M => bX8_socialNow_8 n v1 v2 M (fun r M => Q (some (.inl r)) M)))] (mm_fa1 ih mm_fa0) h
    · exact h.elim
theorem okX8_socialNow_8x {p : Program} {l : Launch} {e : Env} {s : State} {m : MethodId} {args : Array Value} {below : List Frame} {meth : Method} {c : Code} {cA : Nat → ClassId} {ad : Nat → Nat} {D : va_G} {A : Nat → Prop} {Q : Option mm_V → mm_M → Prop} (Z : ZX8_socialNow p l e s m args below meth c cA ad D A) : ∀ ls st M, qX8_socialNow_8 (fun v1 v2 M => ∃ j, bX8_socialNow_8 j v1 v2 M (fun r M => Q (some (.inl r)) M)) ls st M → mm_G p l e (mm_rm 3) s m args below meth c lay_m cA ad D A 3 Q 8 ls st M := by
  intro ls st M h
  have hex : ∃ n, qX8_socialNow_8 (fun v1 v2 M => bX8_socialNow_8 n v1 v2 M (fun r M => Q (some (.inl r)) M)) ls st M := by
    unfold qX8_socialNow_8 at h
    split at h
    · obtain ⟨hb, h⟩ := mm_chk_e h
      cases (Nat.eq_of_beq_eq_true hb)
      obtain ⟨n, h⟩ := h
      exact ⟨n, h⟩
    · exact h.elim
  obtain ⟨n, hex⟩ := hex
  exact okX8_socialNow_8 Z  n ls st M hex
theorem okX8_socialNow : mm_Ok lay_m yX8_socialNow cX8_socialNow 3 (some .int) 3 fX8_socialNow := by
  refine mm_enter (rt := 1) (by decide +kernel) rfl ?_
  intro p l e s m args below meth c cA ad D A as M Q h C0
  have Z : ZX8_socialNow p l e s m args below meth c cA ad D A := ⟨C0, flRX8_ok, mm_vt_of (mm_fa1 (mm_coV (n := 0) (ci := 8) C0 okX8_layLoad rfl rfl (mm_one_at (.methodLink RX8 169 yX8_layLoad) 1178 (by decide +kernel) rfl) (wX8_layLoad _ (by simp)) (wX8_layLoad _ (by simp [yX8_layLoad])) (wX8_layLoad _ (by simp [yX8_layLoad])) (wX8_layLoad _ (by simp)) (by decide +kernel) (by omega) (by omega)) (mm_fa0)), mm_vt_of (mm_fa0), kX8_socialNow_ok, mm_ctok_J ctRX8_ok⟩
  unfold fX8_socialNow at h
  split at h
  · obtain ⟨hb, h⟩ := mm_chk_e h
    cases (Nat.eq_of_beq_eq_true hb)
    exact ⟨Nat.le_of_ble_eq_true rfl, mm_Zb Z 39 0 [(8, qX8_socialNow_8 (fun v1 v2 M => ∃ j, bX8_socialNow_8 j v1 v2 M (fun r M => Q (some (.inl r)) M)))] (mm_fa1 (fun ls st M h => okX8_socialNow_8x Z  ls st M h) mm_fa0) h⟩
  · exact h.elim
def kX8_potentialNow : List mm_E := [(0, false, .aload_n 0, []), (1, false, .invokevirtual 169, []), (4, false, .iconst 0, []), (5, false, .istore_n 1, []), (6, false, .iconst 0, []), (7, false, .istore_n 2, []), (8, true, .iload_n 2, []), (9, false, .aload_n 0, []), (10, false, .getfield 145, []), (13, false, .if_icmp .ge 36, [49]), (16, false, .iconst 1, []), (17, false, .istore_n 3, []), (18, true, .iload_n 3, []), (19, false, .aload_n 0, []), (20, false, .getfield 71, []), (23, false, .iload_n 2, []), (24, false, .iaload, []), (25, false, .if_icmp .gt 18, [43]), (28, false, .iload_n 1, []), (29, false, .aload_n 0, []), (30, false, .iload_n 2, []), (31, false, .iload_n 3, []), (32, false, .invokevirtual 165, []), (35, false, .iadd, []), (36, false, .istore_n 1, []), (37, false, .iinc 3 1, []), (40, false, .goto (-22), [18]), (43, false, .iinc 2 1, []), (46, false, .goto (-38), [8]), (49, false, .iload_n 1, []), (50, false, .ireturn, [])]
set_option maxRecDepth 20000 in
theorem kX8_potentialNow_ok : mm_cok cX8_potentialNow RX8 (mm_ctt ctRX8) kX8_potentialNow := mm_c_of (k := false) ctRX8_ok (by decide +kernel)
set_option maxRecDepth 20000 in
theorem wX8_potentialNow : ∀ w ∈ ([.instanceMethod yX8_potentialNow, .selects RX8 yX8_potentialNow yX8_potentialNow, .initialized RX8, .code yX8_potentialNow cX8_potentialNow 4 (some .int)] : List Cond), w ∈ mm_tbl := mm_sub_at _ [1192, 45, 112, 1193] (by decide +kernel) (by decide +kernel)
def vtX8_potentialNow : List (Nat × Nat × Nat × mm_F) := [(169, 8, 1, fX8_layLoad), (165, 8, 3, fX8_payAt)]
def smX8_potentialNow : List (Nat × Nat × Nat × mm_F) := []
def ZX8_potentialNow (p : Program) (l : Launch) (e : Env) (s : State) (m : MethodId) (args : Array Value) (below : List Frame) (meth : Method) (c : Code) (cA : Nat → ClassId) (ad : Nat → Nat) (D : va_G) (A : Nat → Prop) : Prop := mm_Z p l e (mm_rm 3) s m args below meth c lay_m cA ad D A RX8 cX8_potentialNow 4 1 (mm_flt flRX8) (mm_clt (vtX8_potentialNow)) (mm_clt (smX8_potentialNow)) (mm_ctt ctRX8) kX8_potentialNow
def qX8_potentialNow_18 (P : Int → Int → Int → mm_M → Prop) : mm_K := fun ls st M => match ls, st with
  | [some (.inr (.inr c0)), some (.inl v1), some (.inl v2), some (.inl v3)], [] => mm_chk (Nat.beq c0 0) (P v1 v2 v3 M)
  | _, _ => False
def qX8_potentialNow_8 (P : Int → Int → mm_M → Prop) : mm_K := fun ls st M => match ls, st with
  | [some (.inr (.inr c0)), some (.inl v1), some (.inl v2), _], [] => mm_chk (Nat.beq c0 0) (P v1 v2 M)
  | _, _ => False
theorem okX8_potentialNow_18 {p : Program} {l : Launch} {e : Env} {s : State} {m : MethodId} {args : Array Value} {below : List Frame} {meth : Method} {c : Code} {cA : Nat → ClassId} {ad : Nat → Nat} {D : va_G} {A : Nat → Prop} {Q : Option mm_V → mm_M → Prop} (Z : ZX8_potentialNow p l e s m args below meth c cA ad D A) {K8 : Int → Int → mm_M → Prop} (hk8 : ∀ ls st M, qX8_potentialNow_8 K8 ls st M → mm_G p l e (mm_rm 3) s m args below meth c lay_m cA ad D A 4 Q 8 ls st M) : ∀ (n : Nat) ls st M, qX8_potentialNow_18 (fun v1 v2 v3 M => bX8_potentialNow_18 K8 n v1 v2 v3 M (fun r M => Q (some (.inl r)) M)) ls st M → mm_G p l e (mm_rm 3) s m args below meth c lay_m cA ad D A 4 Q 18 ls st M
  | 0, ls, st, M, h => by
    unfold qX8_potentialNow_18 at h
    split at h
    · obtain ⟨hb, h⟩ := mm_chk_e h
      cases (Nat.eq_of_beq_eq_true hb)
      exact h.elim
    · exact h.elim
  | n + 1, ls, st, M, h => by
    have ih := okX8_potentialNow_18 (Q := Q) Z hk8 n
    unfold qX8_potentialNow_18 at h
    split at h
    · obtain ⟨hb, h⟩ := mm_chk_e h
      cases (Nat.eq_of_beq_eq_true hb)
      exact mm_Zb Z 34 18 [(8, qX8_potentialNow_8 (K8)), (18, qX8_potentialNow_18 (fun v1 v2 v3 M => bX8_potentialNow_18 K8 n v1 v2 v3 M (fun r M => Q (some (.inl r)) M)))] (mm_fa1 hk8 (mm_fa1 ih mm_fa0)) h
    · exact h.elim
theorem okX8_potentialNow_18x {p : Program} {l : Launch} {e : Env} {s : State} {m : MethodId} {args : Array Value} {below : List Frame} {meth : Method} {c : Code} {cA : Nat → ClassId} {ad : Nat → Nat} {D : va_G} {A : Nat → Prop} {Q : Option mm_V → mm_M → Prop} (Z : ZX8_potentialNow p l e s m args below meth c cA ad D A) {K8 : Int → Int → mm_M → Prop} (hk8 : ∀ ls st M, qX8_potentialNow_8 K8 ls st M → mm_G p l e (mm_rm 3) s m args below meth c lay_m cA ad D A 4 Q 8 ls st M) : ∀ ls st M, qX8_potentialNow_18 (fun v1 v2 v3 M => ∃ j, bX8_potentialNow_18 K8 j v1 v2 v3 M (fun r M => Q (some (.inl r)) M)) ls st M → mm_G p l e (mm_rm 3) s m args below meth c lay_m cA ad D A 4 Q 18 ls st M := by
  intro ls st M h
  have hex : ∃ n, qX8_potentialNow_18 (fun v1 v2 v3 M => bX8_potentialNow_18 K8 n v1 v2 v3 M (fun r M => Q (some (.inl r)) M)) ls st M := by
    unfold qX8_potentialNow_18 at h
    split at h
    · obtain ⟨hb, h⟩ := mm_chk_e h
      cases (Nat.eq_of_beq_eq_true hb)
      obtain ⟨n, h⟩ := h
      exact ⟨n, h⟩
    · exact h.elim
  obtain ⟨n, hex⟩ := hex
  exact okX8_potentialNow_18 Z hk8 n ls st M hex
theorem okX8_potentialNow_8 {p : Program} {l : Launch} {e : Env} {s : State} {m : MethodId} {args : Array Value} {below : List Frame} {meth : Method} {c : Code} {cA : Nat → ClassId} {ad : Nat → Nat} {D : va_G} {A : Nat → Prop} {Q : Option mm_V → mm_M → Prop} (Z : ZX8_potentialNow p l e s m args below meth c cA ad D A) : ∀ (n : Nat) ls st M, qX8_potentialNow_8 (fun v1 v2 M => bX8_potentialNow_8 n v1 v2 M (fun r M => Q (some (.inl r)) M)) ls st M → mm_G p l e (mm_rm 3) s m args below meth c lay_m cA ad D A 4 Q 8 ls st M
  | 0, ls, st, M, h => by
    unfold qX8_potentialNow_8 at h
    split at h
    · obtain ⟨hb, h⟩ := mm_chk_e h
      cases (Nat.eq_of_beq_eq_true hb)
      exact h.elim
    · exact h.elim
  | n + 1, ls, st, M, h => by
    have ih := okX8_potentialNow_8 (Q := Q) Z  n
    unfold qX8_potentialNow_8 at h
    split at h
    · obtain ⟨hb, h⟩ := mm_chk_e h
      cases (Nat.eq_of_beq_eq_true hb)
      exact mm_Zb Z 34 8 [(18, qX8_potentialNow_18 (fun v1 v2 v3 M => ∃ j, bX8_potentialNow_18 (fun v1 v2 M => bX8_potentialNow_8 n v1 v2 M (fun r M => Q (some (.inl r)) M)) j v1 v2 v3 M (fun r M => Q (some (.inl r)) M)))] (mm_fa1 (fun ls st M h => okX8_potentialNow_18x Z (ih) ls st M h) mm_fa0) h
    · exact h.elim
theorem okX8_potentialNow_8x {p : Program} {l : Launch} {e : Env} {s : State} {m : MethodId} {args : Array Value} {below : List Frame} {meth : Method} {c : Code} {cA : Nat → ClassId} {ad : Nat → Nat} {D : va_G} {A : Nat → Prop} {Q : Option mm_V → mm_M → Prop} (Z : ZX8_potentialNow p l e s m args below meth c cA ad D A) : ∀ ls st M, qX8_potentialNow_8 (fun v1 v2 M => ∃ j, bX8_potentialNow_8 j v1 v2 M (fun r M => Q (some (.inl r)) M)) ls st M → mm_G p l e (mm_rm 3) s m args below meth c lay_m cA ad D A 4 Q 8 ls st M := by
  intro ls st M h
  have hex : ∃ n, qX8_potentialNow_8 (fun v1 v2 M => bX8_potentialNow_8 n v1 v2 M (fun r M => Q (some (.inl r)) M)) ls st M := by
    unfold qX8_potentialNow_8 at h
    split at h
    · obtain ⟨hb, h⟩ := mm_chk_e h
      cases (Nat.eq_of_beq_eq_true hb)
      obtain ⟨n, h⟩ := h
      exact ⟨n, h⟩
    · exact h.elim
  obtain ⟨n, hex⟩ := hex
  exact okX8_potentialNow_8 Z  n ls st M hex
theorem okX8_potentialNow : mm_Ok lay_m yX8_potentialNow cX8_potentialNow 4 (some .int) 3 fX8_potentialNow := by
  refine mm_enter (rt := 1) (by decide +kernel) rfl ?_
  intro p l e s m args below meth c cA ad D A as M Q h C0
  have Z : ZX8_potentialNow p l e s m args below meth c cA ad D A := ⟨C0, flRX8_ok, mm_vt_of (mm_fa1 (mm_coV (n := 0) (ci := 8) C0 okX8_layLoad rfl rfl (mm_one_at (.methodLink RX8 169 yX8_layLoad) 1178 (by decide +kernel) rfl) (wX8_layLoad _ (by simp)) (wX8_layLoad _ (by simp [yX8_layLoad])) (wX8_layLoad _ (by simp [yX8_layLoad])) (wX8_layLoad _ (by simp)) (by decide +kernel) (by omega) (by omega)) (mm_fa1 (mm_coV (n := 2) (ci := 8) C0 okX8_payAt rfl rfl (mm_one_at (.methodLink RX8 165 yX8_payAt) 1194 (by decide +kernel) rfl) (wX8_payAt _ (by simp)) (wX8_payAt _ (by simp [yX8_payAt])) (wX8_payAt _ (by simp [yX8_payAt])) (wX8_payAt _ (by simp)) (by decide +kernel) (by omega) (by omega)) (mm_fa0))), mm_vt_of (mm_fa0), kX8_potentialNow_ok, mm_ctok_J ctRX8_ok⟩
  unfold fX8_potentialNow at h
  split at h
  · obtain ⟨hb, h⟩ := mm_chk_e h
    cases (Nat.eq_of_beq_eq_true hb)
    exact ⟨Nat.le_of_ble_eq_true rfl, mm_Zb Z 34 0 [(8, qX8_potentialNow_8 (fun v1 v2 M => ∃ j, bX8_potentialNow_8 j v1 v2 M (fun r M => Q (some (.inl r)) M)))] (mm_fa1 (fun ls st M h => okX8_potentialNow_8x Z  ls st M h) mm_fa0) h⟩
  · exact h.elim
