def kX7_turn : List mm_E := [(0, false, .aload_n 0, []), (1, false, .invokevirtual 86, []), (4, false, .ifCond .ne 6, [10]), (7, false, .bipush (-103), []), (9, false, .ireturn, []), (10, false, .aload_n 0, []), (11, false, .getfield 19, []), (14, false, .iconst (-1), []), (15, false, .invokevirtual 186, []), (18, false, .istore_n 1, []), (19, false, .iload_n 1, []), (20, false, .iconst (-1), []), (21, false, .if_icmp .eq 13, [34]), (24, false, .aload_n 0, []), (25, false, .dup, []), (26, false, .getfield 44, []), (29, false, .iconst 1, []), (30, false, .iadd, []), (31, false, .putfield 44, []), (34, false, .iload_n 1, []), (35, false, .ireturn, [])]
set_option maxRecDepth 20000 in
theorem kX7_turn_ok : mm_cok cX7_turn RX7 (mm_ctt ctRX7) kX7_turn := mm_c_of (k := false) ctRX7_ok (by decide +kernel)
set_option maxRecDepth 20000 in
theorem wX7_turn : ∀ w ∈ ([.instanceMethod yX7_turn, .selects RX7 yX7_turn yX7_turn, .initialized RX7, .code yX7_turn cX7_turn 2 (some .int)] : List Cond), w ∈ mm_tbl := mm_sub_at _ [658, 659, 104, 660] (by decide +kernel) (by decide +kernel)
def vtX7_turn : List (Nat × Nat × Nat × mm_F) := [(86, 7, 1, fX7_hasNet), (186, 6, 2, fX6_moveFirst)]
def smX7_turn : List (Nat × Nat × Nat × mm_F) := []
def ZX7_turn (p : Program) (l : Launch) (e : Env) (s : State) (m : MethodId) (args : Array Value) (below : List Frame) (meth : Method) (c : Code) (cA : Nat → ClassId) (ad : Nat → Nat) (D : va_G) (A : Nat → Prop) : Prop := mm_Z p l e (mm_rm 3) s m args below meth c lay_c cA ad D A RX7 cX7_turn 2 1 (mm_flt flRX7) (mm_clt (vtX7_turn)) (mm_clt (smX7_turn)) (mm_ctt ctRX7) kX7_turn
theorem okX7_turn : mm_Ok lay_c yX7_turn cX7_turn 2 (some .int) 3 fX7_turn := by
  refine mm_enter (rt := 1) (by decide +kernel) rfl ?_
  intro p l e s m args below meth c cA ad D A as M Q h C0
  have Z : ZX7_turn p l e s m args below meth c cA ad D A := ⟨C0, flRX7_ok, mm_vt_of (mm_fa1 (mm_coV (n := 0) (ci := 7) C0 okX7_hasNet rfl rfl (mm_one_at (.methodLink RX7 86 yX7_hasNet) 543 (by decide +kernel) rfl) (wX7_hasNet _ (by simp)) (wX7_hasNet _ (by simp [yX7_hasNet])) (wX7_hasNet _ (by simp [yX7_hasNet])) (wX7_hasNet _ (by simp)) (by decide +kernel) (by omega) (by omega)) (mm_fa1 (mm_coV (n := 1) (ci := 6) C0 okX6_moveFirst rfl rfl (mm_one_at (.methodLink RX7 186 yX6_moveFirst) 661 (by decide +kernel) rfl) (wX6_moveFirst _ (by simp)) (wX6_moveFirst _ (by simp [yX6_moveFirst])) (wX6_moveFirst _ (by simp [yX6_moveFirst])) (wX6_moveFirst _ (by simp)) (by decide +kernel) (by omega) (by omega)) (mm_fa0))), mm_vt_of (mm_fa0), kX7_turn_ok, mm_ctok_J ctRX7_ok⟩
  unfold fX7_turn at h
  split at h
  · obtain ⟨hb, h⟩ := mm_chk_e h
    cases (Nat.eq_of_beq_eq_true hb)
    exact ⟨Nat.le_of_ble_eq_true rfl, mm_Zb Z 24 0 [] mm_fa0 h⟩
  · exact h.elim
def kX7_run : List mm_E := [(0, false, .iload_n 1, []), (1, false, .iconst 1, []), (2, false, .bipush 60, []), (4, false, .invokestatic 47, []), (7, false, .ifCond .ne 6, [13]), (10, false, .bipush (-102), []), (12, false, .ireturn, []), (13, false, .aload_n 0, []), (14, false, .invokevirtual 86, []), (17, false, .ifCond .ne 6, [23]), (20, false, .bipush (-103), []), (22, false, .ireturn, []), (23, false, .iconst 0, []), (24, false, .istore_n 2, []), (25, true, .iload_n 2, []), (26, false, .iload_n 1, []), (27, false, .if_icmp .ge 21, [48]), (30, false, .aload_n 0, []), (31, false, .getfield 19, []), (34, false, .iconst (-1), []), (35, false, .invokevirtual 186, []), (38, false, .iconst (-1), []), (39, false, .if_icmp .eq 9, [48]), (42, false, .iinc 2 1, []), (45, false, .goto (-20), [25]), (48, false, .aload_n 0, []), (49, false, .dup, []), (50, false, .getfield 44, []), (53, false, .iload_n 2, []), (54, false, .iadd, []), (55, false, .putfield 44, []), (58, false, .iload_n 2, []), (59, false, .ireturn, [])]
set_option maxRecDepth 20000 in
theorem kX7_run_ok : mm_cok cX7_run RX7 (mm_ctt ctRX7) kX7_run := mm_c_of (k := false) ctRX7_ok (by decide +kernel)
set_option maxRecDepth 20000 in
theorem wX7_run : ∀ w ∈ ([.instanceMethod yX7_run, .selects RX7 yX7_run yX7_run, .initialized RX7, .code yX7_run cX7_run 3 (some .int)] : List Cond), w ∈ mm_tbl := mm_sub_at _ [666, 667, 104, 668] (by decide +kernel) (by decide +kernel)
def vtX7_run : List (Nat × Nat × Nat × mm_F) := [(86, 7, 1, fX7_hasNet), (186, 6, 2, fX6_moveFirst)]
def smX7_run : List (Nat × Nat × Nat × mm_F) := [(47, 0, 3, fX7_within)]
def ZX7_run (p : Program) (l : Launch) (e : Env) (s : State) (m : MethodId) (args : Array Value) (below : List Frame) (meth : Method) (c : Code) (cA : Nat → ClassId) (ad : Nat → Nat) (D : va_G) (A : Nat → Prop) : Prop := mm_Z p l e (mm_rm 3) s m args below meth c lay_c cA ad D A RX7 cX7_run 3 1 (mm_flt flRX7) (mm_clt (vtX7_run)) (mm_clt (smX7_run)) (mm_ctt ctRX7) kX7_run
def qX7_run_25 (P : Int → Int → mm_M → Prop) : mm_K := fun ls st M => match ls, st with
  | [some (.inr (.inr c0)), some (.inl v1), some (.inl v2)], [] => mm_chk (Nat.beq c0 0) (P v1 v2 M)
  | _, _ => False
theorem okX7_run_25 {p : Program} {l : Launch} {e : Env} {s : State} {m : MethodId} {args : Array Value} {below : List Frame} {meth : Method} {c : Code} {cA : Nat → ClassId} {ad : Nat → Nat} {D : va_G} {A : Nat → Prop} {Q : Option mm_V → mm_M → Prop} (Z : ZX7_run p l e s m args below meth c cA ad D A) : ∀ (n : Nat) ls st M, qX7_run_25 (fun v1 v2 M => bX7_run_25 n v1 v2 M (fun r M => Q (some (.inl r)) M)) ls st M → mm_G p l e (mm_rm 3) s m args below meth c lay_c cA ad D A 3 Q 25 ls st M
  | 0, ls, st, M, h => by
    unfold qX7_run_25 at h
    split at h
    · obtain ⟨hb, h⟩ := mm_chk_e h
      cases (Nat.eq_of_beq_eq_true hb)
      exact h.elim
    · exact h.elim
  | n + 1, ls, st, M, h => by
    have ih := okX7_run_25 (Q := Q) Z  n
    unfold qX7_run_25 at h
    split at h
    · obtain ⟨hb, h⟩ := mm_chk_e h
      cases (Nat.eq_of_beq_eq_true hb)
      exact mm_Zb Z 36 25 [(25, qX7_run_25 (fun v1 v2 M => bX7_run_25 n v1 v2 M (fun r M => Q (some (.inl r)) M)))] (mm_fa1 ih mm_fa0) h
    · exact h.elim
theorem okX7_run_25x {p : Program} {l : Launch} {e : Env} {s : State} {m : MethodId} {args : Array Value} {below : List Frame} {meth : Method} {c : Code} {cA : Nat → ClassId} {ad : Nat → Nat} {D : va_G} {A : Nat → Prop} {Q : Option mm_V → mm_M → Prop} (Z : ZX7_run p l e s m args below meth c cA ad D A) : ∀ ls st M, qX7_run_25 (fun v1 v2 M => ∃ j, bX7_run_25 j v1 v2 M (fun r M => Q (some (.inl r)) M)) ls st M → mm_G p l e (mm_rm 3) s m args below meth c lay_c cA ad D A 3 Q 25 ls st M := by
  intro ls st M h
  have hex : ∃ n, qX7_run_25 (fun v1 v2 M => bX7_run_25 n v1 v2 M (fun r M => Q (some (.inl r)) M)) ls st M := by
    unfold qX7_run_25 at h
    split at h
    · obtain ⟨hb, h⟩ := mm_chk_e h
      cases (Nat.eq_of_beq_eq_true hb)
      obtain ⟨n, h⟩ := h
      exact ⟨n, h⟩
    · exact h.elim
  obtain ⟨n, hex⟩ := hex
  exact okX7_run_25 Z  n ls st M hex
theorem okX7_run : mm_Ok lay_c yX7_run cX7_run 3 (some .int) 3 fX7_run := by
  refine mm_enter (rt := 1) (by decide +kernel) rfl ?_
  intro p l e s m args below meth c cA ad D A as M Q h C0
  have Z : ZX7_run p l e s m args below meth c cA ad D A := ⟨C0, flRX7_ok, mm_vt_of (mm_fa1 (mm_coV (n := 0) (ci := 7) C0 okX7_hasNet rfl rfl (mm_one_at (.methodLink RX7 86 yX7_hasNet) 543 (by decide +kernel) rfl) (wX7_hasNet _ (by simp)) (wX7_hasNet _ (by simp [yX7_hasNet])) (wX7_hasNet _ (by simp [yX7_hasNet])) (wX7_hasNet _ (by simp)) (by decide +kernel) (by omega) (by omega)) (mm_fa1 (mm_coV (n := 1) (ci := 6) C0 okX6_moveFirst rfl rfl (mm_one_at (.methodLink RX7 186 yX6_moveFirst) 661 (by decide +kernel) rfl) (wX6_moveFirst _ (by simp)) (wX6_moveFirst _ (by simp [yX6_moveFirst])) (wX6_moveFirst _ (by simp [yX6_moveFirst])) (wX6_moveFirst _ (by simp)) (by decide +kernel) (by omega) (by omega)) (mm_fa0))), mm_vt_of (mm_fa1 (mm_coS (n := 3) C0 okX7_within (mm_one_at (.methodLink RX7 47 yX7_within) 475 (by decide +kernel) rfl) (wX7_within _ (by simp)) (wX7_within _ (by simp [yX7_within])) (wX7_within _ (by simp)) (by decide +kernel) (by omega) (by omega)) (mm_fa0)), kX7_run_ok, mm_ctok_J ctRX7_ok⟩
  unfold fX7_run at h
  split at h
  · obtain ⟨hb, h⟩ := mm_chk_e h
    cases (Nat.eq_of_beq_eq_true hb)
    exact ⟨Nat.le_of_ble_eq_true rfl, mm_Zb Z 36 0 [(25, qX7_run_25 (fun v1 v2 M => ∃ j, bX7_run_25 j v1 v2 M (fun r M => Q (some (.inl r)) M)))] (mm_fa1 (fun ls st M h => okX7_run_25x Z  ls st M h) mm_fa0) h⟩
  · exact h.elim
def kX7_surveyed : List mm_E := [(0, false, .aload_n 0, []), (1, false, .getfield 19, []), (4, false, .getfield 139, []), (7, false, .ifCond .eq 16, [23]), (10, false, .aload_n 0, []), (11, false, .getfield 19, []), (14, false, .invokevirtual 104, []), (17, false, .sipush 500, []), (20, false, .if_icmp .le 5, [25]), (23, false, .iconst 0, []), (24, false, .ireturn, []), (25, false, .aload_n 0, []), (26, false, .getfield 26, []), (29, false, .getfield 74, []), (32, false, .ifCond .ne 14, [46]), (35, false, .aload_n 0, []), (36, false, .getfield 26, []), (39, false, .aload_n 0, []), (40, false, .getfield 19, []), (43, false, .invokevirtual 346, []), (46, false, .iconst 1, []), (47, false, .ireturn, [])]
set_option maxRecDepth 20000 in
theorem kX7_surveyed_ok : mm_cok cX7_surveyed RX7 (mm_ctt ctRX7) kX7_surveyed := mm_c_of (k := false) ctRX7_ok (by decide +kernel)
set_option maxRecDepth 20000 in
theorem wX7_surveyed : ∀ w ∈ ([.instanceMethod yX7_surveyed, .selects RX7 yX7_surveyed yX7_surveyed, .initialized RX7, .code yX7_surveyed cX7_surveyed 1 (some .boolean)] : List Cond), w ∈ mm_tbl := mm_sub_at _ [675, 13, 104, 676] (by decide +kernel) (by decide +kernel)
def vtX7_surveyed : List (Nat × Nat × Nat × mm_F) := [(104, 6, 1, fX6_setsInAll), (346, 0, 2, fX0_survey)]
def smX7_surveyed : List (Nat × Nat × Nat × mm_F) := []
def ZX7_surveyed (p : Program) (l : Launch) (e : Env) (s : State) (m : MethodId) (args : Array Value) (below : List Frame) (meth : Method) (c : Code) (cA : Nat → ClassId) (ad : Nat → Nat) (D : va_G) (A : Nat → Prop) : Prop := mm_Z p l e (mm_rm 4) s m args below meth c lay_c cA ad D A RX7 cX7_surveyed 1 2 (mm_flt flRX7) (mm_clt (vtX7_surveyed)) (mm_clt (smX7_surveyed)) (mm_ctt ctRX7) kX7_surveyed
theorem okX7_surveyed : mm_Ok lay_c yX7_surveyed cX7_surveyed 1 (some .boolean) 4 fX7_surveyed := by
  refine mm_enter (rt := 2) (by decide +kernel) rfl ?_
  intro p l e s m args below meth c cA ad D A as M Q h C0
  have Z : ZX7_surveyed p l e s m args below meth c cA ad D A := ⟨C0, flRX7_ok, mm_vt_of (mm_fa1 (mm_coV (n := 0) (ci := 6) C0 okX6_setsInAll rfl rfl (mm_one_at (.methodLink RX7 104 yX6_setsInAll) 567 (by decide +kernel) rfl) (wX6_setsInAll _ (by simp)) (wX6_setsInAll _ (by simp [yX6_setsInAll])) (wX6_setsInAll _ (by simp [yX6_setsInAll])) (wX6_setsInAll _ (by simp)) (by decide +kernel) (by omega) (by omega)) (mm_fa1 (mm_coV (n := 1) (ci := 0) C0 okX0_survey rfl rfl (mm_one_at (.methodLink RX7 346 yX0_survey) 677 (by decide +kernel) rfl) (wX0_survey _ (by simp)) (wX0_survey _ (by simp [yX0_survey])) (wX0_survey _ (by simp [yX0_survey])) (wX0_survey _ (by simp)) (by decide +kernel) (by omega) (by omega)) (mm_fa0))), mm_vt_of (mm_fa0), kX7_surveyed_ok, mm_ctok_J ctRX7_ok⟩
  unfold fX7_surveyed at h
  split at h
  · obtain ⟨hb, h⟩ := mm_chk_e h
    cases (Nat.eq_of_beq_eq_true hb)
    exact ⟨Nat.le_of_ble_eq_true rfl, mm_Zb Z 25 0 [] mm_fa0 h⟩
  · exact h.elim
def kX7_rests : List mm_E := [(0, false, .iload_n 1, []), (1, false, .iconst 0, []), (2, false, .iconst 5, []), (3, false, .invokestatic 47, []), (6, false, .ifCond .ne 6, [12]), (9, false, .bipush (-102), []), (11, false, .ireturn, []), (12, false, .aload_n 0, []), (13, false, .invokevirtual 190, []), (16, false, .ifCond .ne 6, [22]), (19, false, .bipush (-103), []), (21, false, .ireturn, []), (22, false, .iload_n 1, []), (23, false, .tableswitch 73 0 4 #[33, 41, 49, 57, 65], [96, 56, 64, 72, 80, 88]), (56, false, .aload_n 0, []), (57, false, .getfield 26, []), (60, false, .getfield 193, []), (63, false, .ireturn, []), (64, false, .aload_n 0, []), (65, false, .getfield 26, []), (68, false, .getfield 196, []), (71, false, .ireturn, []), (72, false, .aload_n 0, []), (73, false, .getfield 26, []), (76, false, .getfield 199, []), (79, false, .ireturn, []), (80, false, .aload_n 0, []), (81, false, .getfield 26, []), (84, false, .getfield 202, []), (87, false, .ireturn, []), (88, false, .aload_n 0, []), (89, false, .getfield 26, []), (92, false, .getfield 205, []), (95, false, .ireturn, []), (96, false, .aload_n 0, []), (97, false, .getfield 26, []), (100, false, .getfield 208, []), (103, false, .ireturn, [])]
set_option maxRecDepth 20000 in
theorem kX7_rests_ok : mm_cok cX7_rests RX7 (mm_ctt ctRX7) kX7_rests := mm_c_of (k := false) ctRX7_ok (by decide +kernel)
set_option maxRecDepth 20000 in
theorem wX7_rests : ∀ w ∈ ([.instanceMethod yX7_rests, .selects RX7 yX7_rests yX7_rests, .initialized RX7, .code yX7_rests cX7_rests 2 (some .int)] : List Cond), w ∈ mm_tbl := mm_sub_at _ [670, 671, 104, 672] (by decide +kernel) (by decide +kernel)
def vtX7_rests : List (Nat × Nat × Nat × mm_F) := [(190, 7, 1, fX7_surveyed)]
def smX7_rests : List (Nat × Nat × Nat × mm_F) := [(47, 0, 3, fX7_within)]
def ZX7_rests (p : Program) (l : Launch) (e : Env) (s : State) (m : MethodId) (args : Array Value) (below : List Frame) (meth : Method) (c : Code) (cA : Nat → ClassId) (ad : Nat → Nat) (D : va_G) (A : Nat → Prop) : Prop := mm_Z p l e (mm_rm 5) s m args below meth c lay_c cA ad D A RX7 cX7_rests 2 1 (mm_flt flRX7) (mm_clt (vtX7_rests)) (mm_clt (smX7_rests)) (mm_ctt ctRX7) kX7_rests
theorem okX7_rests : mm_Ok lay_c yX7_rests cX7_rests 2 (some .int) 5 fX7_rests := by
  refine mm_enter (rt := 1) (by decide +kernel) rfl ?_
  intro p l e s m args below meth c cA ad D A as M Q h C0
  have Z : ZX7_rests p l e s m args below meth c cA ad D A := ⟨C0, flRX7_ok, mm_vt_of (mm_fa1 (mm_coV (n := 0) (ci := 7) C0 okX7_surveyed rfl rfl (mm_one_at (.methodLink RX7 190 yX7_surveyed) 673 (by decide +kernel) rfl) (wX7_surveyed _ (by simp)) (wX7_surveyed _ (by simp [yX7_surveyed])) (wX7_surveyed _ (by simp [yX7_surveyed])) (wX7_surveyed _ (by simp)) (by decide +kernel) (by omega) (by omega)) (mm_fa0)), mm_vt_of (mm_fa1 (mm_coS (n := 3) C0 okX7_within (mm_one_at (.methodLink RX7 47 yX7_within) 475 (by decide +kernel) rfl) (wX7_within _ (by simp)) (wX7_within _ (by simp [yX7_within])) (wX7_within _ (by simp)) (by decide +kernel) (by omega) (by omega)) (mm_fa0)), kX7_rests_ok, mm_ctok_J ctRX7_ok⟩
  unfold fX7_rests at h
  split at h
  · obtain ⟨hb, h⟩ := mm_chk_e h
    cases (Nat.eq_of_beq_eq_true hb)
    exact ⟨Nat.le_of_ble_eq_true rfl, mm_Zb Z 41 0 [] mm_fa0 h⟩
  · exact h.elim
def kX7_rest : List mm_E := [(0, false, .aload_n 0, []), (1, false, .invokevirtual 190, []), (4, false, .ifCond .ne 6, [10]), (7, false, .bipush (-103), []), (9, false, .ireturn, []), (10, false, .iload_n 1, []), (11, false, .iconst 0, []), (12, false, .aload_n 0, []), (13, false, .getfield 26, []), (16, false, .getfield 193, []), (19, false, .iconst 1, []), (20, false, .isub, []), (21, false, .invokestatic 47, []), (24, false, .ifCond .eq 11, [35]), (27, false, .aload_n 0, []), (28, false, .iload_n 2, []), (29, false, .invokevirtual 147, []), (32, false, .ifCond .ne 6, [38]), (35, false, .bipush (-101), []), (37, false, .ireturn, []), (38, false, .aload_n 0, []), (39, false, .getfield 26, []), (42, false, .aload_n 0, []), (43, false, .getfield 26, []), (46, false, .getfield 211, []), (49, false, .iload_n 1, []), (50, false, .iaload, []), (51, false, .iload_n 2, []), (52, false, .invokevirtual 214, []), (55, false, .ireturn, [])]
set_option maxRecDepth 20000 in
theorem kX7_rest_ok : mm_cok cX7_rest RX7 (mm_ctt ctRX7) kX7_rest := mm_c_of (k := false) ctRX7_ok (by decide +kernel)
set_option maxRecDepth 20000 in
theorem wX7_rest : ∀ w ∈ ([.instanceMethod yX7_rest, .selects RX7 yX7_rest yX7_rest, .initialized RX7, .code yX7_rest cX7_rest 3 (some .int)] : List Cond), w ∈ mm_tbl := mm_sub_at _ [717, 718, 104, 719] (by decide +kernel) (by decide +kernel)
def vtX7_rest : List (Nat × Nat × Nat × mm_F) := [(190, 7, 1, fX7_surveyed), (147, 7, 2, fX7_isPlayer), (214, 0, 3, fX0_wayIn)]
def smX7_rest : List (Nat × Nat × Nat × mm_F) := [(47, 0, 3, fX7_within)]
def ZX7_rest (p : Program) (l : Launch) (e : Env) (s : State) (m : MethodId) (args : Array Value) (below : List Frame) (meth : Method) (c : Code) (cA : Nat → ClassId) (ad : Nat → Nat) (D : va_G) (A : Nat → Prop) : Prop := mm_Z p l e (mm_rm 5) s m args below meth c lay_c cA ad D A RX7 cX7_rest 3 1 (mm_flt flRX7) (mm_clt (vtX7_rest)) (mm_clt (smX7_rest)) (mm_ctt ctRX7) kX7_rest
theorem okX7_rest : mm_Ok lay_c yX7_rest cX7_rest 3 (some .int) 5 fX7_rest := by
  refine mm_enter (rt := 1) (by decide +kernel) rfl ?_
  intro p l e s m args below meth c cA ad D A as M Q h C0
  have Z : ZX7_rest p l e s m args below meth c cA ad D A := ⟨C0, flRX7_ok, mm_vt_of (mm_fa1 (mm_coV (n := 0) (ci := 7) C0 okX7_surveyed rfl rfl (mm_one_at (.methodLink RX7 190 yX7_surveyed) 673 (by decide +kernel) rfl) (wX7_surveyed _ (by simp)) (wX7_surveyed _ (by simp [yX7_surveyed])) (wX7_surveyed _ (by simp [yX7_surveyed])) (wX7_surveyed _ (by simp)) (by decide +kernel) (by omega) (by omega)) (mm_fa1 (mm_coV (n := 1) (ci := 7) C0 okX7_isPlayer rfl rfl (mm_one_at (.methodLink RX7 147 yX7_isPlayer) 634 (by decide +kernel) rfl) (wX7_isPlayer _ (by simp)) (wX7_isPlayer _ (by simp [yX7_isPlayer])) (wX7_isPlayer _ (by simp [yX7_isPlayer])) (wX7_isPlayer _ (by simp)) (by decide +kernel) (by omega) (by omega)) (mm_fa1 (mm_coV (n := 2) (ci := 0) C0 okX0_wayIn rfl rfl (mm_one_at (.methodLink RX7 214 yX0_wayIn) 720 (by decide +kernel) rfl) (wX0_wayIn _ (by simp)) (wX0_wayIn _ (by simp [yX0_wayIn])) (wX0_wayIn _ (by simp [yX0_wayIn])) (wX0_wayIn _ (by simp)) (by decide +kernel) (by omega) (by omega)) (mm_fa0)))), mm_vt_of (mm_fa1 (mm_coS (n := 3) C0 okX7_within (mm_one_at (.methodLink RX7 47 yX7_within) 475 (by decide +kernel) rfl) (wX7_within _ (by simp)) (wX7_within _ (by simp [yX7_within])) (wX7_within _ (by simp)) (by decide +kernel) (by omega) (by omega)) (mm_fa0)), kX7_rest_ok, mm_ctok_J ctRX7_ok⟩
  unfold fX7_rest at h
  split at h
  · obtain ⟨hb, h⟩ := mm_chk_e h
    cases (Nat.eq_of_beq_eq_true hb)
    exact ⟨Nat.le_of_ble_eq_true rfl, mm_Zb Z 33 0 [] mm_fa0 h⟩
  · exact h.elim
def kX7_go : List mm_E := [(0, false, .aload_n 0, []), (1, false, .invokevirtual 190, []), (4, false, .ifCond .ne 6, [10]), (7, false, .bipush (-103), []), (9, false, .ireturn, []), (10, false, .iload_n 1, []), (11, false, .iconst 0, []), (12, false, .aload_n 0, []), (13, false, .getfield 26, []), (16, false, .getfield 193, []), (19, false, .iconst 1, []), (20, false, .isub, []), (21, false, .invokestatic 47, []), (24, false, .ifCond .ne 6, [30]), (27, false, .bipush (-101), []), (29, false, .ireturn, []), (30, false, .aload_n 0, []), (31, false, .getfield 19, []), (34, false, .aload_n 0, []), (35, false, .getfield 26, []), (38, false, .getfield 211, []), (41, false, .iload_n 1, []), (42, false, .iaload, []), (43, false, .invokevirtual 218, []), (46, false, .aload_n 0, []), (47, false, .getfield 19, []), (50, false, .invokevirtual 95, []), (53, false, .ireturn, [])]
set_option maxRecDepth 20000 in
theorem kX7_go_ok : mm_cok cX7_go RX7 (mm_ctt ctRX7) kX7_go := mm_c_of (k := false) ctRX7_ok (by decide +kernel)
set_option maxRecDepth 20000 in
theorem wX7_go : ∀ w ∈ ([.instanceMethod yX7_go, .selects RX7 yX7_go yX7_go, .initialized RX7, .code yX7_go cX7_go 2 (some .int)] : List Cond), w ∈ mm_tbl := mm_sub_at _ [722, 723, 104, 724] (by decide +kernel) (by decide +kernel)
def vtX7_go : List (Nat × Nat × Nat × mm_F) := [(190, 7, 1, fX7_surveyed), (218, 6, 2, fX6_takeSet), (95, 6, 1, fX6_socialNow)]
def smX7_go : List (Nat × Nat × Nat × mm_F) := [(47, 0, 3, fX7_within)]
def ZX7_go (p : Program) (l : Launch) (e : Env) (s : State) (m : MethodId) (args : Array Value) (below : List Frame) (meth : Method) (c : Code) (cA : Nat → ClassId) (ad : Nat → Nat) (D : va_G) (A : Nat → Prop) : Prop := mm_Z p l e (mm_rm 5) s m args below meth c lay_c cA ad D A RX7 cX7_go 2 1 (mm_flt flRX7) (mm_clt (vtX7_go)) (mm_clt (smX7_go)) (mm_ctt ctRX7) kX7_go
theorem okX7_go : mm_Ok lay_c yX7_go cX7_go 2 (some .int) 5 fX7_go := by
  refine mm_enter (rt := 1) (by decide +kernel) rfl ?_
  intro p l e s m args below meth c cA ad D A as M Q h C0
  have Z : ZX7_go p l e s m args below meth c cA ad D A := ⟨C0, flRX7_ok, mm_vt_of (mm_fa1 (mm_coV (n := 0) (ci := 7) C0 okX7_surveyed rfl rfl (mm_one_at (.methodLink RX7 190 yX7_surveyed) 673 (by decide +kernel) rfl) (wX7_surveyed _ (by simp)) (wX7_surveyed _ (by simp [yX7_surveyed])) (wX7_surveyed _ (by simp [yX7_surveyed])) (wX7_surveyed _ (by simp)) (by decide +kernel) (by omega) (by omega)) (mm_fa1 (mm_coV (n := 1) (ci := 6) C0 okX6_takeSet rfl rfl (mm_one_at (.methodLink RX7 218 yX6_takeSet) 725 (by decide +kernel) rfl) (wX6_takeSet _ (by simp)) (wX6_takeSet _ (by simp [yX6_takeSet])) (wX6_takeSet _ (by simp [yX6_takeSet])) (wX6_takeSet _ (by simp)) (by decide +kernel) (by omega) (by omega)) (mm_fa1 (mm_coV (n := 0) (ci := 6) C0 okX6_socialNow rfl rfl (mm_one_at (.methodLink RX7 95 yX6_socialNow) 547 (by decide +kernel) rfl) (wX6_socialNow _ (by simp)) (wX6_socialNow _ (by simp [yX6_socialNow])) (wX6_socialNow _ (by simp [yX6_socialNow])) (wX6_socialNow _ (by simp)) (by decide +kernel) (by omega) (by omega)) (mm_fa0)))), mm_vt_of (mm_fa1 (mm_coS (n := 3) C0 okX7_within (mm_one_at (.methodLink RX7 47 yX7_within) 475 (by decide +kernel) rfl) (wX7_within _ (by simp)) (wX7_within _ (by simp [yX7_within])) (wX7_within _ (by simp)) (by decide +kernel) (by omega) (by omega)) (mm_fa0)), kX7_go_ok, mm_ctok_J ctRX7_ok⟩
  unfold fX7_go at h
  split at h
  · obtain ⟨hb, h⟩ := mm_chk_e h
    cases (Nat.eq_of_beq_eq_true hb)
    exact ⟨Nat.le_of_ble_eq_true rfl, mm_Zb Z 31 0 [] mm_fa0 h⟩
  · exact h.elim
def kX7_best : List mm_E := [(0, false, .aload_n 0, []), (1, false, .invokevirtual 190, []), (4, false, .ifCond .ne 6, [10]), (7, false, .bipush (-103), []), (9, false, .ireturn, []), (10, false, .aload_n 0, []), (11, false, .getfield 19, []), (14, false, .aload_n 0, []), (15, false, .getfield 26, []), (18, false, .getfield 222, []), (21, false, .invokevirtual 218, []), (24, false, .aload_n 0, []), (25, false, .getfield 19, []), (28, false, .invokevirtual 95, []), (31, false, .ireturn, [])]
set_option maxRecDepth 20000 in
theorem kX7_best_ok : mm_cok cX7_best RX7 (mm_ctt ctRX7) kX7_best := mm_c_of (k := false) ctRX7_ok (by decide +kernel)
set_option maxRecDepth 20000 in
theorem wX7_best : ∀ w ∈ ([.instanceMethod yX7_best, .selects RX7 yX7_best yX7_best, .initialized RX7, .code yX7_best cX7_best 1 (some .int)] : List Cond), w ∈ mm_tbl := mm_sub_at _ [727, 728, 104, 729] (by decide +kernel) (by decide +kernel)
def vtX7_best : List (Nat × Nat × Nat × mm_F) := [(190, 7, 1, fX7_surveyed), (218, 6, 2, fX6_takeSet), (95, 6, 1, fX6_socialNow)]
def smX7_best : List (Nat × Nat × Nat × mm_F) := []
def ZX7_best (p : Program) (l : Launch) (e : Env) (s : State) (m : MethodId) (args : Array Value) (below : List Frame) (meth : Method) (c : Code) (cA : Nat → ClassId) (ad : Nat → Nat) (D : va_G) (A : Nat → Prop) : Prop := mm_Z p l e (mm_rm 5) s m args below meth c lay_c cA ad D A RX7 cX7_best 1 1 (mm_flt flRX7) (mm_clt (vtX7_best)) (mm_clt (smX7_best)) (mm_ctt ctRX7) kX7_best
theorem okX7_best : mm_Ok lay_c yX7_best cX7_best 1 (some .int) 5 fX7_best := by
  refine mm_enter (rt := 1) (by decide +kernel) rfl ?_
  intro p l e s m args below meth c cA ad D A as M Q h C0
  have Z : ZX7_best p l e s m args below meth c cA ad D A := ⟨C0, flRX7_ok, mm_vt_of (mm_fa1 (mm_coV (n := 0) (ci := 7) C0 okX7_surveyed rfl rfl (mm_one_at (.methodLink RX7 190 yX7_surveyed) 673 (by decide +kernel) rfl) (wX7_surveyed _ (by simp)) (wX7_surveyed _ (by simp [yX7_surveyed])) (wX7_surveyed _ (by simp [yX7_surveyed])) (wX7_surveyed _ (by simp)) (by decide +kernel) (by omega) (by omega)) (mm_fa1 (mm_coV (n := 1) (ci := 6) C0 okX6_takeSet rfl rfl (mm_one_at (.methodLink RX7 218 yX6_takeSet) 725 (by decide +kernel) rfl) (wX6_takeSet _ (by simp)) (wX6_takeSet _ (by simp [yX6_takeSet])) (wX6_takeSet _ (by simp [yX6_takeSet])) (wX6_takeSet _ (by simp)) (by decide +kernel) (by omega) (by omega)) (mm_fa1 (mm_coV (n := 0) (ci := 6) C0 okX6_socialNow rfl rfl (mm_one_at (.methodLink RX7 95 yX6_socialNow) 547 (by decide +kernel) rfl) (wX6_socialNow _ (by simp)) (wX6_socialNow _ (by simp [yX6_socialNow])) (wX6_socialNow _ (by simp [yX6_socialNow])) (wX6_socialNow _ (by simp)) (by decide +kernel) (by omega) (by omega)) (mm_fa0)))), mm_vt_of (mm_fa0), kX7_best_ok, mm_ctok_J ctRX7_ok⟩
  unfold fX7_best at h
  split at h
  · obtain ⟨hb, h⟩ := mm_chk_e h
    cases (Nat.eq_of_beq_eq_true hb)
    exact ⟨Nat.le_of_ble_eq_true rfl, mm_Zb Z 18 0 [] mm_fa0 h⟩
  · exact h.elim
def kX7_greatestDivisor : List mm_E := [(0, false, .lload_n 0, []), (1, false, .lstore 4, []), (3, false, .lload_n 2, []), (4, false, .lstore 6, []), (6, false, .iconst 0, []), (7, false, .istore 8, []), (9, true, .iload 8, []), (11, false, .sipush 200, []), (14, false, .if_icmp .ge 31, [45]), (17, false, .lload 6, []), (19, false, .lconst 0, []), (20, false, .lcmp, []), (21, false, .ifCond .eq 24, [45]), (24, false, .lload 4, []), (26, false, .lload 6, []), (28, false, .lrem, []), (29, false, .lstore 9, []), (31, false, .lload 6, []), (33, false, .lstore 4, []), (35, false, .lload 9, []), (37, false, .lstore 6, []), (39, false, .iinc 8 1, []), (42, false, .goto (-33), [9]), (45, false, .lload 4, []), (47, false, .lreturn, [])]
set_option maxRecDepth 20000 in
theorem kX7_greatestDivisor_ok : mm_cok cX7_greatestDivisor RX7 (mm_ctt ctRX7) kX7_greatestDivisor := mm_c_of (k := false) ctRX7_ok (by decide +kernel)
set_option maxRecDepth 20000 in
theorem wX7_greatestDivisor : ∀ w ∈ ([.static yX7_greatestDivisor, .initialized RX7, .code yX7_greatestDivisor cX7_greatestDivisor 11 (some .long)] : List Cond), w ∈ mm_tbl := mm_sub_at _ [738, 104, 739] (by decide +kernel) (by decide +kernel)
def vtX7_greatestDivisor : List (Nat × Nat × Nat × mm_F) := []
def smX7_greatestDivisor : List (Nat × Nat × Nat × mm_F) := []
def ZX7_greatestDivisor (p : Program) (l : Launch) (e : Env) (s : State) (m : MethodId) (args : Array Value) (below : List Frame) (meth : Method) (c : Code) (cA : Nat → ClassId) (ad : Nat → Nat) (D : va_G) (A : Nat → Prop) : Prop := mm_Z p l e (mm_rm 0) s m args below meth c lay_c cA ad D A RX7 cX7_greatestDivisor 11 3 (mm_flt flRX7) (mm_clt (vtX7_greatestDivisor)) (mm_clt (smX7_greatestDivisor)) (mm_ctt ctRX7) kX7_greatestDivisor
def qX7_greatestDivisor_9 (P : Int → Int → Int → mm_M → Prop) : mm_K := fun ls st M => match ls, st with
  | [_, none, _, none, some (.inr (.inl v4)), none, some (.inr (.inl v6)), none, some (.inl v8), _, none], [] => P v4 v6 v8 M
  | _, _ => False
theorem okX7_greatestDivisor_9 {p : Program} {l : Launch} {e : Env} {s : State} {m : MethodId} {args : Array Value} {below : List Frame} {meth : Method} {c : Code} {cA : Nat → ClassId} {ad : Nat → Nat} {D : va_G} {A : Nat → Prop} {Q : Option mm_V → mm_M → Prop} (Z : ZX7_greatestDivisor p l e s m args below meth c cA ad D A) : ∀ (n : Nat) ls st M, qX7_greatestDivisor_9 (fun v4 v6 v8 M => bX7_greatestDivisor_9 n v4 v6 v8 M (fun r M => Q (some (.inr (.inl r))) M)) ls st M → mm_G p l e (mm_rm 0) s m args below meth c lay_c cA ad D A 11 Q 9 ls st M
  | 0, ls, st, M, h => by
    unfold qX7_greatestDivisor_9 at h
    split at h
    · skip
      exact h.elim
    · exact h.elim
  | n + 1, ls, st, M, h => by
    have ih := okX7_greatestDivisor_9 (Q := Q) Z  n
    unfold qX7_greatestDivisor_9 at h
    split at h
    · skip
      exact mm_Zb Z 28 9 [(9, qX7_greatestDivisor_9 (fun v4 v6 v8 M => bX7_greatestDivisor_9 n v4 v6 v8 M (fun r M => Q (some (.inr (.inl r))) M)))] (mm_fa1 ih mm_fa0) h
    · exact h.elim
theorem okX7_greatestDivisor_9x {p : Program} {l : Launch} {e : Env} {s : State} {m : MethodId} {args : Array Value} {below : List Frame} {meth : Method} {c : Code} {cA : Nat → ClassId} {ad : Nat → Nat} {D : va_G} {A : Nat → Prop} {Q : Option mm_V → mm_M → Prop} (Z : ZX7_greatestDivisor p l e s m args below meth c cA ad D A) : ∀ ls st M, qX7_greatestDivisor_9 (fun v4 v6 v8 M => ∃ j, bX7_greatestDivisor_9 j v4 v6 v8 M (fun r M => Q (some (.inr (.inl r))) M)) ls st M → mm_G p l e (mm_rm 0) s m args below meth c lay_c cA ad D A 11 Q 9 ls st M := by
  intro ls st M h
  have hex : ∃ n, qX7_greatestDivisor_9 (fun v4 v6 v8 M => bX7_greatestDivisor_9 n v4 v6 v8 M (fun r M => Q (some (.inr (.inl r))) M)) ls st M := by
    unfold qX7_greatestDivisor_9 at h
    split at h
    · skip
      obtain ⟨n, h⟩ := h
      exact ⟨n, h⟩
    · exact h.elim
  obtain ⟨n, hex⟩ := hex
  exact okX7_greatestDivisor_9 Z  n ls st M hex
theorem okX7_greatestDivisor : mm_Ok lay_c yX7_greatestDivisor cX7_greatestDivisor 11 (some .long) 0 fX7_greatestDivisor := by
  refine mm_enter (rt := 3) (by decide +kernel) rfl ?_
  intro p l e s m args below meth c cA ad D A as M Q h C0
  have Z : ZX7_greatestDivisor p l e s m args below meth c cA ad D A := ⟨C0, flRX7_ok, mm_vt_of (mm_fa0), mm_vt_of (mm_fa0), kX7_greatestDivisor_ok, mm_ctok_J ctRX7_ok⟩
  unfold fX7_greatestDivisor at h
  split at h
  · skip
    exact ⟨Nat.le_of_ble_eq_true rfl, mm_Zb Z 28 0 [(9, qX7_greatestDivisor_9 (fun v4 v6 v8 M => ∃ j, bX7_greatestDivisor_9 j v4 v6 v8 M (fun r M => Q (some (.inr (.inl r))) M)))] (mm_fa1 (fun ls st M h => okX7_greatestDivisor_9x Z  ls st M h) mm_fa0) h⟩
  · exact h.elim
def kX7_lowestBelow : List mm_E := [(0, false, .lload_n 0, []), (1, false, .lload_n 2, []), (2, false, .invokestatic 350, []), (5, false, .lstore 4, []), (7, false, .lload 4, []), (9, false, .lconst 0, []), (10, false, .lcmp, []), (11, false, .ifCond .ne 7, [18]), (14, false, .iconst 1, []), (15, false, .goto 8, [23]), (18, false, .lload_n 2, []), (19, false, .lload 4, []), (21, false, .ldiv, []), (22, false, .l2i, []), (23, false, .ireturn, [])]
set_option maxRecDepth 20000 in
theorem kX7_lowestBelow_ok : mm_cok cX7_lowestBelow RX7 (mm_ctt ctRX7) kX7_lowestBelow := mm_c_of (k := false) ctRX7_ok (by decide +kernel)
set_option maxRecDepth 20000 in
theorem wX7_lowestBelow : ∀ w ∈ ([.static yX7_lowestBelow, .initialized RX7, .code yX7_lowestBelow cX7_lowestBelow 6 (some .int)] : List Cond), w ∈ mm_tbl := mm_sub_at _ [741, 104, 742] (by decide +kernel) (by decide +kernel)
def vtX7_lowestBelow : List (Nat × Nat × Nat × mm_F) := []
def smX7_lowestBelow : List (Nat × Nat × Nat × mm_F) := [(350, 0, 2, fX7_greatestDivisor)]
def ZX7_lowestBelow (p : Program) (l : Launch) (e : Env) (s : State) (m : MethodId) (args : Array Value) (below : List Frame) (meth : Method) (c : Code) (cA : Nat → ClassId) (ad : Nat → Nat) (D : va_G) (A : Nat → Prop) : Prop := mm_Z p l e (mm_rm 1) s m args below meth c lay_c cA ad D A RX7 cX7_lowestBelow 6 1 (mm_flt flRX7) (mm_clt (vtX7_lowestBelow)) (mm_clt (smX7_lowestBelow)) (mm_ctt ctRX7) kX7_lowestBelow
theorem okX7_lowestBelow : mm_Ok lay_c yX7_lowestBelow cX7_lowestBelow 6 (some .int) 1 fX7_lowestBelow := by
  refine mm_enter (rt := 1) (by decide +kernel) rfl ?_
  intro p l e s m args below meth c cA ad D A as M Q h C0
  have Z : ZX7_lowestBelow p l e s m args below meth c cA ad D A := ⟨C0, flRX7_ok, mm_vt_of (mm_fa0), mm_vt_of (mm_fa1 (mm_coS (n := 2) C0 okX7_greatestDivisor (mm_one_at (.methodLink RX7 350 yX7_greatestDivisor) 737 (by decide +kernel) rfl) (wX7_greatestDivisor _ (by simp)) (wX7_greatestDivisor _ (by simp [yX7_greatestDivisor])) (wX7_greatestDivisor _ (by simp)) (by decide +kernel) (by omega) (by omega)) (mm_fa0)), kX7_lowestBelow_ok, mm_ctok_J ctRX7_ok⟩
  unfold fX7_lowestBelow at h
  split at h
  · skip
    exact ⟨Nat.le_of_ble_eq_true rfl, mm_Zb Z 18 0 [] mm_fa0 h⟩
  · exact h.elim
def kX7_lowestAbove : List mm_E := [(0, false, .lload_n 0, []), (1, false, .lload_n 2, []), (2, false, .invokestatic 350, []), (5, false, .lstore 4, []), (7, false, .lload 4, []), (9, false, .lconst 0, []), (10, false, .lcmp, []), (11, false, .ifCond .ne 7, [18]), (14, false, .iconst 0, []), (15, false, .goto 8, [23]), (18, false, .lload_n 0, []), (19, false, .lload 4, []), (21, false, .ldiv, []), (22, false, .l2i, []), (23, false, .ireturn, [])]
set_option maxRecDepth 20000 in
theorem kX7_lowestAbove_ok : mm_cok cX7_lowestAbove RX7 (mm_ctt ctRX7) kX7_lowestAbove := mm_c_of (k := false) ctRX7_ok (by decide +kernel)
set_option maxRecDepth 20000 in
theorem wX7_lowestAbove : ∀ w ∈ ([.static yX7_lowestAbove, .initialized RX7, .code yX7_lowestAbove cX7_lowestAbove 6 (some .int)] : List Cond), w ∈ mm_tbl := mm_sub_at _ [735, 104, 736] (by decide +kernel) (by decide +kernel)
def vtX7_lowestAbove : List (Nat × Nat × Nat × mm_F) := []
def smX7_lowestAbove : List (Nat × Nat × Nat × mm_F) := [(350, 0, 2, fX7_greatestDivisor)]
def ZX7_lowestAbove (p : Program) (l : Launch) (e : Env) (s : State) (m : MethodId) (args : Array Value) (below : List Frame) (meth : Method) (c : Code) (cA : Nat → ClassId) (ad : Nat → Nat) (D : va_G) (A : Nat → Prop) : Prop := mm_Z p l e (mm_rm 1) s m args below meth c lay_c cA ad D A RX7 cX7_lowestAbove 6 1 (mm_flt flRX7) (mm_clt (vtX7_lowestAbove)) (mm_clt (smX7_lowestAbove)) (mm_ctt ctRX7) kX7_lowestAbove
theorem okX7_lowestAbove : mm_Ok lay_c yX7_lowestAbove cX7_lowestAbove 6 (some .int) 1 fX7_lowestAbove := by
  refine mm_enter (rt := 1) (by decide +kernel) rfl ?_
  intro p l e s m args below meth c cA ad D A as M Q h C0
  have Z : ZX7_lowestAbove p l e s m args below meth c cA ad D A := ⟨C0, flRX7_ok, mm_vt_of (mm_fa0), mm_vt_of (mm_fa1 (mm_coS (n := 2) C0 okX7_greatestDivisor (mm_one_at (.methodLink RX7 350 yX7_greatestDivisor) 737 (by decide +kernel) rfl) (wX7_greatestDivisor _ (by simp)) (wX7_greatestDivisor _ (by simp [yX7_greatestDivisor])) (wX7_greatestDivisor _ (by simp)) (by decide +kernel) (by omega) (by omega)) (mm_fa0)), kX7_lowestAbove_ok, mm_ctok_J ctRX7_ok⟩
  unfold fX7_lowestAbove at h
  split at h
  · skip
    exact ⟨Nat.le_of_ble_eq_true rfl, mm_Zb Z 18 0 [] mm_fa0 h⟩
  · exact h.elim
def kX7_price : List mm_E := [(0, false, .iload_n 1, []), (1, false, .iconst 0, []), (2, false, .iconst 3, []), (3, false, .invokestatic 47, []), (6, false, .ifCond .ne 6, [12]), (9, false, .bipush (-102), []), (11, false, .ireturn, []), (12, false, .aload_n 0, []), (13, false, .invokevirtual 190, []), (16, false, .ifCond .ne 6, [22]), (19, false, .bipush (-103), []), (21, false, .ireturn, []), (22, false, .iload_n 1, []), (23, false, .iconst 2, []), (24, false, .if_icmp .ge 13, [37]), (27, false, .aload_n 0, []), (28, false, .getfield 26, []), (31, false, .getfield 199, []), (34, false, .goto 10, [44]), (37, false, .aload_n 0, []), (38, false, .getfield 26, []), (41, false, .getfield 196, []), (44, true, .istore_n 2, []), (45, false, .aload_n 0, []), (46, false, .getfield 26, []), (49, false, .getfield 202, []), (52, false, .istore_n 3, []), (53, false, .iload_n 3, []), (54, false, .ifCond .ne 19, [73]), (57, false, .iload_n 1, []), (58, false, .iconst 2, []), (59, false, .irem, []), (60, false, .ifCond .eq 7, [67]), (63, false, .iload_n 2, []), (64, false, .ifCond .ne 7, [71]), (67, false, .iconst 1, []), (68, false, .goto 4, [72]), (71, false, .iconst 0, []), (72, false, .ireturn, []), (73, false, .iload_n 1, []), (74, false, .iconst 2, []), (75, false, .irem, []), (76, false, .ifCond .ne 13, [89]), (79, false, .iload_n 2, []), (80, false, .i2l, []), (81, false, .iload_n 3, []), (82, false, .i2l, []), (83, false, .invokestatic 225, []), (86, false, .goto 10, [96]), (89, false, .iload_n 2, []), (90, false, .i2l, []), (91, false, .iload_n 3, []), (92, false, .i2l, []), (93, false, .invokestatic 229, []), (96, false, .ireturn, [])]
set_option maxRecDepth 20000 in
theorem kX7_price_ok : mm_cok cX7_price RX7 (mm_ctt ctRX7) kX7_price := mm_c_of (k := false) ctRX7_ok (by decide +kernel)
set_option maxRecDepth 20000 in
theorem wX7_price : ∀ w ∈ ([.instanceMethod yX7_price, .selects RX7 yX7_price yX7_price, .initialized RX7, .code yX7_price cX7_price 4 (some .int)] : List Cond), w ∈ mm_tbl := mm_sub_at _ [731, 732, 104, 733] (by decide +kernel) (by decide +kernel)
def vtX7_price : List (Nat × Nat × Nat × mm_F) := [(190, 7, 1, fX7_surveyed)]
def smX7_price : List (Nat × Nat × Nat × mm_F) := [(47, 0, 3, fX7_within), (229, 0, 2, fX7_lowestBelow), (225, 0, 2, fX7_lowestAbove)]
def ZX7_price (p : Program) (l : Launch) (e : Env) (s : State) (m : MethodId) (args : Array Value) (below : List Frame) (meth : Method) (c : Code) (cA : Nat → ClassId) (ad : Nat → Nat) (D : va_G) (A : Nat → Prop) : Prop := mm_Z p l e (mm_rm 5) s m args below meth c lay_c cA ad D A RX7 cX7_price 4 1 (mm_flt flRX7) (mm_clt (vtX7_price)) (mm_clt (smX7_price)) (mm_ctt ctRX7) kX7_price
def qX7_price_44 (P : Int → Int → mm_M → Prop) : mm_K := fun ls st M => match ls, st with
  | [some (.inr (.inr c0)), some (.inl v1), none, none], [.inl w0] => mm_chk (Nat.beq c0 0) (P v1 w0 M)
  | _, _ => False
theorem okX7_price_44 {p : Program} {l : Launch} {e : Env} {s : State} {m : MethodId} {args : Array Value} {below : List Frame} {meth : Method} {c : Code} {cA : Nat → ClassId} {ad : Nat → Nat} {D : va_G} {A : Nat → Prop} {Q : Option mm_V → mm_M → Prop} (Z : ZX7_price p l e s m args below meth c cA ad D A) : ∀ ls st M, qX7_price_44 (fun v1 w0 M => bX7_price_44 v1 w0 M (fun r M => Q (some (.inl r)) M)) ls st M → mm_G p l e (mm_rm 5) s m args below meth c lay_c cA ad D A 4 Q 44 ls st M := by
  intro ls st M h
  unfold qX7_price_44 at h
  split at h
  · obtain ⟨hb, h⟩ := mm_chk_e h
    cases (Nat.eq_of_beq_eq_true hb)
    exact mm_Zb Z 58 44 [] mm_fa0 h
  · exact h.elim
theorem okX7_price : mm_Ok lay_c yX7_price cX7_price 4 (some .int) 5 fX7_price := by
  refine mm_enter (rt := 1) (by decide +kernel) rfl ?_
  intro p l e s m args below meth c cA ad D A as M Q h C0
  have Z : ZX7_price p l e s m args below meth c cA ad D A := ⟨C0, flRX7_ok, mm_vt_of (mm_fa1 (mm_coV (n := 0) (ci := 7) C0 okX7_surveyed rfl rfl (mm_one_at (.methodLink RX7 190 yX7_surveyed) 673 (by decide +kernel) rfl) (wX7_surveyed _ (by simp)) (wX7_surveyed _ (by simp [yX7_surveyed])) (wX7_surveyed _ (by simp [yX7_surveyed])) (wX7_surveyed _ (by simp)) (by decide +kernel) (by omega) (by omega)) (mm_fa0)), mm_vt_of (mm_fa1 (mm_coS (n := 3) C0 okX7_within (mm_one_at (.methodLink RX7 47 yX7_within) 475 (by decide +kernel) rfl) (wX7_within _ (by simp)) (wX7_within _ (by simp [yX7_within])) (wX7_within _ (by simp)) (by decide +kernel) (by omega) (by omega)) (mm_fa1 (mm_coS (n := 2) C0 okX7_lowestBelow (mm_one_at (.methodLink RX7 229 yX7_lowestBelow) 740 (by decide +kernel) rfl) (wX7_lowestBelow _ (by simp)) (wX7_lowestBelow _ (by simp [yX7_lowestBelow])) (wX7_lowestBelow _ (by simp)) (by decide +kernel) (by omega) (by omega)) (mm_fa1 (mm_coS (n := 2) C0 okX7_lowestAbove (mm_one_at (.methodLink RX7 225 yX7_lowestAbove) 734 (by decide +kernel) rfl) (wX7_lowestAbove _ (by simp)) (wX7_lowestAbove _ (by simp [yX7_lowestAbove])) (wX7_lowestAbove _ (by simp)) (by decide +kernel) (by omega) (by omega)) (mm_fa0)))), kX7_price_ok, mm_ctok_J ctRX7_ok⟩
  unfold fX7_price at h
  split at h
  · obtain ⟨hb, h⟩ := mm_chk_e h
    cases (Nat.eq_of_beq_eq_true hb)
    exact ⟨Nat.le_of_ble_eq_true rfl, mm_Zb Z 58 0 [(44, qX7_price_44 (fun v1 w0 M => bX7_price_44 v1 w0 M (fun r M => Q (some (.inl r)) M)))] (mm_fa1 (fun ls st M h => okX7_price_44 Z  ls st M h) mm_fa0) h⟩
  · exact h.elim
def kX7_reach : List mm_E := [(0, false, .iload_n 1, []), (1, false, .iconst 0, []), (2, false, .iconst 2, []), (3, false, .invokestatic 47, []), (6, false, .ifCond .ne 6, [12]), (9, false, .bipush (-102), []), (11, false, .ireturn, []), (12, false, .aload_n 0, []), (13, false, .invokevirtual 190, []), (16, false, .ifCond .ne 6, [22]), (19, false, .bipush (-103), []), (21, false, .ireturn, []), (22, false, .aload_n 0, []), (23, false, .getfield 26, []), (26, false, .aload_n 0, []), (27, false, .getfield 19, []), (30, false, .invokevirtual 232, []), (33, false, .invokevirtual 235, []), (36, false, .iload_n 1, []), (37, false, .lookupswitch 43 #[(0, 27), (1, 35)], [80, 64, 72]), (64, false, .aload_n 0, []), (65, false, .getfield 26, []), (68, false, .getfield 238, []), (71, false, .ireturn, []), (72, false, .aload_n 0, []), (73, false, .getfield 26, []), (76, false, .getfield 241, []), (79, false, .ireturn, []), (80, false, .aload_n 0, []), (81, false, .getfield 26, []), (84, false, .getfield 244, []), (87, false, .ireturn, [])]
set_option maxRecDepth 20000 in
theorem kX7_reach_ok : mm_cok cX7_reach RX7 (mm_ctt ctRX7) kX7_reach := mm_c_of (k := false) ctRX7_ok (by decide +kernel)
set_option maxRecDepth 20000 in
theorem wX7_reach : ∀ w ∈ ([.instanceMethod yX7_reach, .selects RX7 yX7_reach yX7_reach, .initialized RX7, .code yX7_reach cX7_reach 2 (some .int)] : List Cond), w ∈ mm_tbl := mm_sub_at _ [744, 745, 104, 746] (by decide +kernel) (by decide +kernel)
def vtX7_reach : List (Nat × Nat × Nat × mm_F) := [(190, 7, 1, fX7_surveyed), (232, 6, 1, fX6_numberOfSet), (235, 0, 2, fX0_spreadFrom)]
def smX7_reach : List (Nat × Nat × Nat × mm_F) := [(47, 0, 3, fX7_within)]
def ZX7_reach (p : Program) (l : Launch) (e : Env) (s : State) (m : MethodId) (args : Array Value) (below : List Frame) (meth : Method) (c : Code) (cA : Nat → ClassId) (ad : Nat → Nat) (D : va_G) (A : Nat → Prop) : Prop := mm_Z p l e (mm_rm 5) s m args below meth c lay_c cA ad D A RX7 cX7_reach 2 1 (mm_flt flRX7) (mm_clt (vtX7_reach)) (mm_clt (smX7_reach)) (mm_ctt ctRX7) kX7_reach
theorem okX7_reach : mm_Ok lay_c yX7_reach cX7_reach 2 (some .int) 5 fX7_reach := by
  refine mm_enter (rt := 1) (by decide +kernel) rfl ?_
  intro p l e s m args below meth c cA ad D A as M Q h C0
  have Z : ZX7_reach p l e s m args below meth c cA ad D A := ⟨C0, flRX7_ok, mm_vt_of (mm_fa1 (mm_coV (n := 0) (ci := 7) C0 okX7_surveyed rfl rfl (mm_one_at (.methodLink RX7 190 yX7_surveyed) 673 (by decide +kernel) rfl) (wX7_surveyed _ (by simp)) (wX7_surveyed _ (by simp [yX7_surveyed])) (wX7_surveyed _ (by simp [yX7_surveyed])) (wX7_surveyed _ (by simp)) (by decide +kernel) (by omega) (by omega)) (mm_fa1 (mm_coV (n := 0) (ci := 6) C0 okX6_numberOfSet rfl rfl (mm_one_at (.methodLink RX7 232 yX6_numberOfSet) 747 (by decide +kernel) rfl) (wX6_numberOfSet _ (by simp)) (wX6_numberOfSet _ (by simp [yX6_numberOfSet])) (wX6_numberOfSet _ (by simp [yX6_numberOfSet])) (wX6_numberOfSet _ (by simp)) (by decide +kernel) (by omega) (by omega)) (mm_fa1 (mm_coV (n := 1) (ci := 0) C0 okX0_spreadFrom rfl rfl (mm_one_at (.methodLink RX7 235 yX0_spreadFrom) 751 (by decide +kernel) rfl) (wX0_spreadFrom _ (by simp)) (wX0_spreadFrom _ (by simp [yX0_spreadFrom])) (wX0_spreadFrom _ (by simp [yX0_spreadFrom])) (wX0_spreadFrom _ (by simp)) (by decide +kernel) (by omega) (by omega)) (mm_fa0)))), mm_vt_of (mm_fa1 (mm_coS (n := 3) C0 okX7_within (mm_one_at (.methodLink RX7 47 yX7_within) 475 (by decide +kernel) rfl) (wX7_within _ (by simp)) (wX7_within _ (by simp [yX7_within])) (wX7_within _ (by simp)) (by decide +kernel) (by omega) (by omega)) (mm_fa0)), kX7_reach_ok, mm_ctok_J ctRX7_ok⟩
  unfold fX7_reach at h
  split at h
  · obtain ⟨hb, h⟩ := mm_chk_e h
    cases (Nat.eq_of_beq_eq_true hb)
    exact ⟨Nat.le_of_ble_eq_true rfl, mm_Zb Z 35 0 [] mm_fa0 h⟩
  · exact h.elim
def kX7_lead : List mm_E := [(0, false, .aload_n 0, []), (1, false, .iload_n 1, []), (2, false, .iload_n 2, []), (3, false, .invokevirtual 174, []), (6, false, .ifCond .ne 6, [12]), (9, false, .bipush (-101), []), (11, false, .ireturn, []), (12, false, .aload_n 0, []), (13, false, .getfield 19, []), (16, false, .iload_n 1, []), (17, false, .iload_n 2, []), (18, false, .invokevirtual 247, []), (21, false, .ireturn, [])]
set_option maxRecDepth 20000 in
theorem kX7_lead_ok : mm_cok cX7_lead RX7 (mm_ctt ctRX7) kX7_lead := mm_c_of (k := false) ctRX7_ok (by decide +kernel)
set_option maxRecDepth 20000 in
theorem wX7_lead : ∀ w ∈ ([.instanceMethod yX7_lead, .selects RX7 yX7_lead yX7_lead, .initialized RX7, .code yX7_lead cX7_lead 3 (some .int)] : List Cond), w ∈ mm_tbl := mm_sub_at _ [780, 781, 104, 782] (by decide +kernel) (by decide +kernel)
def vtX7_lead : List (Nat × Nat × Nat × mm_F) := [(174, 7, 3, fX7_isWay), (247, 6, 3, fX6_payIfLeading)]
def smX7_lead : List (Nat × Nat × Nat × mm_F) := []
def ZX7_lead (p : Program) (l : Launch) (e : Env) (s : State) (m : MethodId) (args : Array Value) (below : List Frame) (meth : Method) (c : Code) (cA : Nat → ClassId) (ad : Nat → Nat) (D : va_G) (A : Nat → Prop) : Prop := mm_Z p l e (mm_rm 5) s m args below meth c lay_c cA ad D A RX7 cX7_lead 3 1 (mm_flt flRX7) (mm_clt (vtX7_lead)) (mm_clt (smX7_lead)) (mm_ctt ctRX7) kX7_lead
theorem okX7_lead : mm_Ok lay_c yX7_lead cX7_lead 3 (some .int) 5 fX7_lead := by
  refine mm_enter (rt := 1) (by decide +kernel) rfl ?_
  intro p l e s m args below meth c cA ad D A as M Q h C0
  have Z : ZX7_lead p l e s m args below meth c cA ad D A := ⟨C0, flRX7_ok, mm_vt_of (mm_fa1 (mm_coV (n := 2) (ci := 7) C0 okX7_isWay rfl rfl (mm_one_at (.methodLink RX7 174 yX7_isWay) 644 (by decide +kernel) rfl) (wX7_isWay _ (by simp)) (wX7_isWay _ (by simp [yX7_isWay])) (wX7_isWay _ (by simp [yX7_isWay])) (wX7_isWay _ (by simp)) (by decide +kernel) (by omega) (by omega)) (mm_fa1 (mm_coV (n := 2) (ci := 6) C0 okX6_payIfLeading rfl rfl (mm_one_at (.methodLink RX7 247 yX6_payIfLeading) 783 (by decide +kernel) rfl) (wX6_payIfLeading _ (by simp)) (wX6_payIfLeading _ (by simp [yX6_payIfLeading])) (wX6_payIfLeading _ (by simp [yX6_payIfLeading])) (wX6_payIfLeading _ (by simp)) (by decide +kernel) (by omega) (by omega)) (mm_fa0))), mm_vt_of (mm_fa0), kX7_lead_ok, mm_ctok_J ctRX7_ok⟩
  unfold fX7_lead at h
  split at h
  · obtain ⟨hb, h⟩ := mm_chk_e h
    cases (Nat.eq_of_beq_eq_true hb)
    exact ⟨Nat.le_of_ble_eq_true rfl, mm_Zb Z 16 0 [] mm_fa0 h⟩
  · exact h.elim
def kX7_leads : List mm_E := [(0, false, .aload_n 0, []), (1, false, .iload_n 1, []), (2, false, .invokevirtual 147, []), (5, false, .ifCond .ne 6, [11]), (8, false, .bipush (-101), []), (10, false, .ireturn, []), (11, false, .aload_n 0, []), (12, false, .getfield 19, []), (15, false, .iload_n 1, []), (16, false, .invokevirtual 250, []), (19, false, .ireturn, [])]
set_option maxRecDepth 20000 in
theorem kX7_leads_ok : mm_cok cX7_leads RX7 (mm_ctt ctRX7) kX7_leads := mm_c_of (k := false) ctRX7_ok (by decide +kernel)
set_option maxRecDepth 20000 in
theorem wX7_leads : ∀ w ∈ ([.instanceMethod yX7_leads, .selects RX7 yX7_leads yX7_leads, .initialized RX7, .code yX7_leads cX7_leads 2 (some .int)] : List Cond), w ∈ mm_tbl := mm_sub_at _ [796, 797, 104, 798] (by decide +kernel) (by decide +kernel)
def vtX7_leads : List (Nat × Nat × Nat × mm_F) := [(147, 7, 2, fX7_isPlayer), (250, 6, 2, fX6_bestLeadOf)]
def smX7_leads : List (Nat × Nat × Nat × mm_F) := []
def ZX7_leads (p : Program) (l : Launch) (e : Env) (s : State) (m : MethodId) (args : Array Value) (below : List Frame) (meth : Method) (c : Code) (cA : Nat → ClassId) (ad : Nat → Nat) (D : va_G) (A : Nat → Prop) : Prop := mm_Z p l e (mm_rm 6) s m args below meth c lay_c cA ad D A RX7 cX7_leads 2 1 (mm_flt flRX7) (mm_clt (vtX7_leads)) (mm_clt (smX7_leads)) (mm_ctt ctRX7) kX7_leads
theorem okX7_leads : mm_Ok lay_c yX7_leads cX7_leads 2 (some .int) 6 fX7_leads := by
  refine mm_enter (rt := 1) (by decide +kernel) rfl ?_
  intro p l e s m args below meth c cA ad D A as M Q h C0
  have Z : ZX7_leads p l e s m args below meth c cA ad D A := ⟨C0, flRX7_ok, mm_vt_of (mm_fa1 (mm_coV (n := 1) (ci := 7) C0 okX7_isPlayer rfl rfl (mm_one_at (.methodLink RX7 147 yX7_isPlayer) 634 (by decide +kernel) rfl) (wX7_isPlayer _ (by simp)) (wX7_isPlayer _ (by simp [yX7_isPlayer])) (wX7_isPlayer _ (by simp [yX7_isPlayer])) (wX7_isPlayer _ (by simp)) (by decide +kernel) (by omega) (by omega)) (mm_fa1 (mm_coV (n := 1) (ci := 6) C0 okX6_bestLeadOf rfl rfl (mm_one_at (.methodLink RX7 250 yX6_bestLeadOf) 799 (by decide +kernel) rfl) (wX6_bestLeadOf _ (by simp)) (wX6_bestLeadOf _ (by simp [yX6_bestLeadOf])) (wX6_bestLeadOf _ (by simp [yX6_bestLeadOf])) (wX6_bestLeadOf _ (by simp)) (by decide +kernel) (by omega) (by omega)) (mm_fa0))), mm_vt_of (mm_fa0), kX7_leads_ok, mm_ctok_J ctRX7_ok⟩
  unfold fX7_leads at h
  split at h
  · obtain ⟨hb, h⟩ := mm_chk_e h
    cases (Nat.eq_of_beq_eq_true hb)
    exact ⟨Nat.le_of_ble_eq_true rfl, mm_Zb Z 14 0 [] mm_fa0 h⟩
  · exact h.elim
def kX7_follow : List mm_E := [(0, false, .aload_n 0, []), (1, false, .iload_n 1, []), (2, false, .invokevirtual 147, []), (5, false, .ifCond .ne 6, [11]), (8, false, .bipush (-101), []), (10, false, .ireturn, []), (11, false, .aload_n 0, []), (12, false, .getfield 19, []), (15, false, .iload_n 1, []), (16, false, .aload_n 0, []), (17, false, .getfield 19, []), (20, false, .iload_n 1, []), (21, false, .invokevirtual 250, []), (24, false, .invokevirtual 253, []), (27, false, .ireturn, [])]
set_option maxRecDepth 20000 in
theorem kX7_follow_ok : mm_cok cX7_follow RX7 (mm_ctt ctRX7) kX7_follow := mm_c_of (k := false) ctRX7_ok (by decide +kernel)
set_option maxRecDepth 20000 in
theorem wX7_follow : ∀ w ∈ ([.instanceMethod yX7_follow, .selects RX7 yX7_follow yX7_follow, .initialized RX7, .code yX7_follow cX7_follow 2 (some .int)] : List Cond), w ∈ mm_tbl := mm_sub_at _ [805, 806, 104, 807] (by decide +kernel) (by decide +kernel)
def vtX7_follow : List (Nat × Nat × Nat × mm_F) := [(147, 7, 2, fX7_isPlayer), (250, 6, 2, fX6_bestLeadOf), (253, 6, 3, fX6_settleBehind)]
def smX7_follow : List (Nat × Nat × Nat × mm_F) := []
def ZX7_follow (p : Program) (l : Launch) (e : Env) (s : State) (m : MethodId) (args : Array Value) (below : List Frame) (meth : Method) (c : Code) (cA : Nat → ClassId) (ad : Nat → Nat) (D : va_G) (A : Nat → Prop) : Prop := mm_Z p l e (mm_rm 6) s m args below meth c lay_c cA ad D A RX7 cX7_follow 2 1 (mm_flt flRX7) (mm_clt (vtX7_follow)) (mm_clt (smX7_follow)) (mm_ctt ctRX7) kX7_follow
theorem okX7_follow : mm_Ok lay_c yX7_follow cX7_follow 2 (some .int) 6 fX7_follow := by
  refine mm_enter (rt := 1) (by decide +kernel) rfl ?_
  intro p l e s m args below meth c cA ad D A as M Q h C0
  have Z : ZX7_follow p l e s m args below meth c cA ad D A := ⟨C0, flRX7_ok, mm_vt_of (mm_fa1 (mm_coV (n := 1) (ci := 7) C0 okX7_isPlayer rfl rfl (mm_one_at (.methodLink RX7 147 yX7_isPlayer) 634 (by decide +kernel) rfl) (wX7_isPlayer _ (by simp)) (wX7_isPlayer _ (by simp [yX7_isPlayer])) (wX7_isPlayer _ (by simp [yX7_isPlayer])) (wX7_isPlayer _ (by simp)) (by decide +kernel) (by omega) (by omega)) (mm_fa1 (mm_coV (n := 1) (ci := 6) C0 okX6_bestLeadOf rfl rfl (mm_one_at (.methodLink RX7 250 yX6_bestLeadOf) 799 (by decide +kernel) rfl) (wX6_bestLeadOf _ (by simp)) (wX6_bestLeadOf _ (by simp [yX6_bestLeadOf])) (wX6_bestLeadOf _ (by simp [yX6_bestLeadOf])) (wX6_bestLeadOf _ (by simp)) (by decide +kernel) (by omega) (by omega)) (mm_fa1 (mm_coV (n := 2) (ci := 6) C0 okX6_settleBehind rfl rfl (mm_one_at (.methodLink RX7 253 yX6_settleBehind) 808 (by decide +kernel) rfl) (wX6_settleBehind _ (by simp)) (wX6_settleBehind _ (by simp [yX6_settleBehind])) (wX6_settleBehind _ (by simp [yX6_settleBehind])) (wX6_settleBehind _ (by simp)) (by decide +kernel) (by omega) (by omega)) (mm_fa0)))), mm_vt_of (mm_fa0), kX7_follow_ok, mm_ctok_J ctRX7_ok⟩
  unfold fX7_follow at h
  split at h
  · obtain ⟨hb, h⟩ := mm_chk_e h
    cases (Nat.eq_of_beq_eq_true hb)
    exact ⟨Nat.le_of_ble_eq_true rfl, mm_Zb Z 18 0 [] mm_fa0 h⟩
  · exact h.elim
def kX7_lane : List mm_E := [(0, false, .iload_n 1, []), (1, false, .iconst 0, []), (2, false, .bipush 20, []), (4, false, .invokestatic 47, []), (7, false, .ifCond .eq 18, [25]), (10, false, .iload_n 2, []), (11, false, .iconst 1, []), (12, false, .if_icmp .eq 16, [28]), (15, false, .iload_n 2, []), (16, false, .iconst 2, []), (17, false, .if_icmp .eq 11, [28]), (20, false, .iload_n 2, []), (21, false, .iconst 4, []), (22, false, .if_icmp .eq 6, [28]), (25, false, .bipush (-102), []), (27, false, .ireturn, []), (28, true, .aload_n 0, []), (29, false, .getfield 33, []), (32, false, .getfield 256, []), (35, false, .iconst 5, []), (36, false, .if_icmp .lt 6, [42]), (39, false, .bipush (-104), []), (41, false, .ireturn, []), (42, false, .aload_n 0, []), (43, false, .getfield 33, []), (46, false, .iload_n 1, []), (47, false, .iload_n 2, []), (48, false, .invokevirtual 257, []), (51, false, .aload_n 0, []), (52, false, .getfield 33, []), (55, false, .getfield 256, []), (58, false, .iconst 1, []), (59, false, .isub, []), (60, false, .ireturn, [])]
set_option maxRecDepth 20000 in
theorem kX7_lane_ok : mm_cok cX7_lane RX7 (mm_ctt ctRX7) kX7_lane := mm_c_of (k := false) ctRX7_ok (by decide +kernel)
set_option maxRecDepth 20000 in
theorem wX7_lane : ∀ w ∈ ([.instanceMethod yX7_lane, .selects RX7 yX7_lane yX7_lane, .initialized RX7, .code yX7_lane cX7_lane 3 (some .int)] : List Cond), w ∈ mm_tbl := mm_sub_at _ [810, 811, 104, 812] (by decide +kernel) (by decide +kernel)
def vtX7_lane : List (Nat × Nat × Nat × mm_F) := [(257, 1, 3, fX1_add)]
def smX7_lane : List (Nat × Nat × Nat × mm_F) := [(47, 0, 3, fX7_within)]
def ZX7_lane (p : Program) (l : Launch) (e : Env) (s : State) (m : MethodId) (args : Array Value) (below : List Frame) (meth : Method) (c : Code) (cA : Nat → ClassId) (ad : Nat → Nat) (D : va_G) (A : Nat → Prop) : Prop := mm_Z p l e (mm_rm 1) s m args below meth c lay_c cA ad D A RX7 cX7_lane 3 1 (mm_flt flRX7) (mm_clt (vtX7_lane)) (mm_clt (smX7_lane)) (mm_ctt ctRX7) kX7_lane
def qX7_lane_28 (P : Int → Int → mm_M → Prop) : mm_K := fun ls st M => match ls, st with
  | [some (.inr (.inr c0)), some (.inl v1), some (.inl v2)], [] => mm_chk (Nat.beq c0 0) (P v1 v2 M)
  | _, _ => False
theorem okX7_lane_28 {p : Program} {l : Launch} {e : Env} {s : State} {m : MethodId} {args : Array Value} {below : List Frame} {meth : Method} {c : Code} {cA : Nat → ClassId} {ad : Nat → Nat} {D : va_G} {A : Nat → Prop} {Q : Option mm_V → mm_M → Prop} (Z : ZX7_lane p l e s m args below meth c cA ad D A) : ∀ ls st M, qX7_lane_28 (fun v1 v2 M => bX7_lane_28 v1 v2 M (fun r M => Q (some (.inl r)) M)) ls st M → mm_G p l e (mm_rm 1) s m args below meth c lay_c cA ad D A 3 Q 28 ls st M := by
  intro ls st M h
  unfold qX7_lane_28 at h
  split at h
  · obtain ⟨hb, h⟩ := mm_chk_e h
    cases (Nat.eq_of_beq_eq_true hb)
    exact mm_Zb Z 37 28 [] mm_fa0 h
  · exact h.elim
theorem okX7_lane : mm_Ok lay_c yX7_lane cX7_lane 3 (some .int) 1 fX7_lane := by
  refine mm_enter (rt := 1) (by decide +kernel) rfl ?_
  intro p l e s m args below meth c cA ad D A as M Q h C0
  have Z : ZX7_lane p l e s m args below meth c cA ad D A := ⟨C0, flRX7_ok, mm_vt_of (mm_fa1 (mm_coV (n := 2) (ci := 1) C0 okX1_add rfl rfl (mm_one_at (.methodLink RX7 257 yX1_add) 813 (by decide +kernel) rfl) (wX1_add _ (by simp)) (wX1_add _ (by simp [yX1_add])) (wX1_add _ (by simp [yX1_add])) (wX1_add _ (by simp)) (by decide +kernel) (by omega) (by omega)) (mm_fa0)), mm_vt_of (mm_fa1 (mm_coS (n := 3) C0 okX7_within (mm_one_at (.methodLink RX7 47 yX7_within) 475 (by decide +kernel) rfl) (wX7_within _ (by simp)) (wX7_within _ (by simp [yX7_within])) (wX7_within _ (by simp)) (by decide +kernel) (by omega) (by omega)) (mm_fa0)), kX7_lane_ok, mm_ctok_J ctRX7_ok⟩
  unfold fX7_lane at h
  split at h
  · obtain ⟨hb, h⟩ := mm_chk_e h
    cases (Nat.eq_of_beq_eq_true hb)
    exact ⟨Nat.le_of_ble_eq_true rfl, mm_Zb Z 37 0 [(28, qX7_lane_28 (fun v1 v2 M => bX7_lane_28 v1 v2 M (fun r M => Q (some (.inl r)) M)))] (mm_fa1 (fun ls st M h => okX7_lane_28 Z  ls st M h) mm_fa0) h⟩
  · exact h.elim
def kX7_clear : List mm_E := [(0, false, .aload_n 0, []), (1, false, .getfield 33, []), (4, false, .getfield 256, []), (7, false, .istore_n 1, []), (8, false, .aload_n 0, []), (9, false, .getfield 33, []), (12, false, .iconst 0, []), (13, false, .putfield 256, []), (16, false, .aload_n 0, []), (17, false, .getfield 33, []), (20, false, .iconst 0, []), (21, false, .putfield 261, []), (24, false, .iload_n 1, []), (25, false, .ireturn, [])]
set_option maxRecDepth 20000 in
theorem kX7_clear_ok : mm_cok cX7_clear RX7 (mm_ctt ctRX7) kX7_clear := mm_c_of (k := false) ctRX7_ok (by decide +kernel)
set_option maxRecDepth 20000 in
theorem wX7_clear : ∀ w ∈ ([.instanceMethod yX7_clear, .selects RX7 yX7_clear yX7_clear, .initialized RX7, .code yX7_clear cX7_clear 2 (some .int)] : List Cond), w ∈ mm_tbl := mm_sub_at _ [818, 819, 104, 820] (by decide +kernel) (by decide +kernel)
def vtX7_clear : List (Nat × Nat × Nat × mm_F) := []
def smX7_clear : List (Nat × Nat × Nat × mm_F) := []
def ZX7_clear (p : Program) (l : Launch) (e : Env) (s : State) (m : MethodId) (args : Array Value) (below : List Frame) (meth : Method) (c : Code) (cA : Nat → ClassId) (ad : Nat → Nat) (D : va_G) (A : Nat → Prop) : Prop := mm_Z p l e (mm_rm 0) s m args below meth c lay_c cA ad D A RX7 cX7_clear 2 1 (mm_flt flRX7) (mm_clt (vtX7_clear)) (mm_clt (smX7_clear)) (mm_ctt ctRX7) kX7_clear
theorem okX7_clear : mm_Ok lay_c yX7_clear cX7_clear 2 (some .int) 0 fX7_clear := by
  refine mm_enter (rt := 1) (by decide +kernel) rfl ?_
  intro p l e s m args below meth c cA ad D A as M Q h C0
  have Z : ZX7_clear p l e s m args below meth c cA ad D A := ⟨C0, flRX7_ok, mm_vt_of (mm_fa0), mm_vt_of (mm_fa0), kX7_clear_ok, mm_ctok_J ctRX7_ok⟩
  unfold fX7_clear at h
  split at h
  · obtain ⟨hb, h⟩ := mm_chk_e h
    cases (Nat.eq_of_beq_eq_true hb)
    exact ⟨Nat.le_of_ble_eq_true rfl, mm_Zb Z 17 0 [] mm_fa0 h⟩
  · exact h.elim
def kX7_stream : List mm_E := [(0, false, .iload_n 1, []), (1, false, .iconst 1, []), (2, false, .bipush 40, []), (4, false, .invokestatic 47, []), (7, false, .ifCond .ne 6, [13]), (10, false, .bipush (-102), []), (12, false, .ireturn, []), (13, false, .aload_n 0, []), (14, false, .getfield 33, []), (17, false, .getfield 262, []), (20, false, .istore_n 2, []), (21, false, .aload_n 0, []), (22, false, .getfield 33, []), (25, false, .iload_n 1, []), (26, false, .putfield 262, []), (29, false, .aload_n 0, []), (30, false, .getfield 33, []), (33, false, .iconst 0, []), (34, false, .putfield 261, []), (37, false, .iload_n 2, []), (38, false, .ireturn, [])]
set_option maxRecDepth 20000 in
theorem kX7_stream_ok : mm_cok cX7_stream RX7 (mm_ctt ctRX7) kX7_stream := mm_c_of (k := false) ctRX7_ok (by decide +kernel)
set_option maxRecDepth 20000 in
theorem wX7_stream : ∀ w ∈ ([.instanceMethod yX7_stream, .selects RX7 yX7_stream yX7_stream, .initialized RX7, .code yX7_stream cX7_stream 3 (some .int)] : List Cond), w ∈ mm_tbl := mm_sub_at _ [822, 823, 104, 824] (by decide +kernel) (by decide +kernel)
def vtX7_stream : List (Nat × Nat × Nat × mm_F) := []
def smX7_stream : List (Nat × Nat × Nat × mm_F) := [(47, 0, 3, fX7_within)]
def ZX7_stream (p : Program) (l : Launch) (e : Env) (s : State) (m : MethodId) (args : Array Value) (below : List Frame) (meth : Method) (c : Code) (cA : Nat → ClassId) (ad : Nat → Nat) (D : va_G) (A : Nat → Prop) : Prop := mm_Z p l e (mm_rm 1) s m args below meth c lay_c cA ad D A RX7 cX7_stream 3 1 (mm_flt flRX7) (mm_clt (vtX7_stream)) (mm_clt (smX7_stream)) (mm_ctt ctRX7) kX7_stream
theorem okX7_stream : mm_Ok lay_c yX7_stream cX7_stream 3 (some .int) 1 fX7_stream := by
  refine mm_enter (rt := 1) (by decide +kernel) rfl ?_
  intro p l e s m args below meth c cA ad D A as M Q h C0
  have Z : ZX7_stream p l e s m args below meth c cA ad D A := ⟨C0, flRX7_ok, mm_vt_of (mm_fa0), mm_vt_of (mm_fa1 (mm_coS (n := 3) C0 okX7_within (mm_one_at (.methodLink RX7 47 yX7_within) 475 (by decide +kernel) rfl) (wX7_within _ (by simp)) (wX7_within _ (by simp [yX7_within])) (wX7_within _ (by simp)) (by decide +kernel) (by omega) (by omega)) (mm_fa0)), kX7_stream_ok, mm_ctok_J ctRX7_ok⟩
  unfold fX7_stream at h
  split at h
  · obtain ⟨hb, h⟩ := mm_chk_e h
    cases (Nat.eq_of_beq_eq_true hb)
    exact ⟨Nat.le_of_ble_eq_true rfl, mm_Zb Z 24 0 [] mm_fa0 h⟩
  · exact h.elim
def kX7_share : List mm_E := [(0, false, .iload_n 1, []), (1, false, .iconst 0, []), (2, false, .bipush 10, []), (4, false, .invokestatic 47, []), (7, false, .ifCond .ne 6, [13]), (10, false, .bipush (-102), []), (12, false, .ireturn, []), (13, false, .aload_n 0, []), (14, false, .getfield 33, []), (17, false, .getfield 265, []), (20, false, .istore_n 2, []), (21, false, .aload_n 0, []), (22, false, .getfield 33, []), (25, false, .iload_n 1, []), (26, false, .putfield 265, []), (29, false, .aload_n 0, []), (30, false, .getfield 33, []), (33, false, .iconst 0, []), (34, false, .putfield 261, []), (37, false, .iload_n 2, []), (38, false, .ireturn, [])]
set_option maxRecDepth 20000 in
theorem kX7_share_ok : mm_cok cX7_share RX7 (mm_ctt ctRX7) kX7_share := mm_c_of (k := false) ctRX7_ok (by decide +kernel)
set_option maxRecDepth 20000 in
theorem wX7_share : ∀ w ∈ ([.instanceMethod yX7_share, .selects RX7 yX7_share yX7_share, .initialized RX7, .code yX7_share cX7_share 3 (some .int)] : List Cond), w ∈ mm_tbl := mm_sub_at _ [826, 827, 104, 828] (by decide +kernel) (by decide +kernel)
def vtX7_share : List (Nat × Nat × Nat × mm_F) := []
def smX7_share : List (Nat × Nat × Nat × mm_F) := [(47, 0, 3, fX7_within)]
def ZX7_share (p : Program) (l : Launch) (e : Env) (s : State) (m : MethodId) (args : Array Value) (below : List Frame) (meth : Method) (c : Code) (cA : Nat → ClassId) (ad : Nat → Nat) (D : va_G) (A : Nat → Prop) : Prop := mm_Z p l e (mm_rm 1) s m args below meth c lay_c cA ad D A RX7 cX7_share 3 1 (mm_flt flRX7) (mm_clt (vtX7_share)) (mm_clt (smX7_share)) (mm_ctt ctRX7) kX7_share
theorem okX7_share : mm_Ok lay_c yX7_share cX7_share 3 (some .int) 1 fX7_share := by
  refine mm_enter (rt := 1) (by decide +kernel) rfl ?_
  intro p l e s m args below meth c cA ad D A as M Q h C0
  have Z : ZX7_share p l e s m args below meth c cA ad D A := ⟨C0, flRX7_ok, mm_vt_of (mm_fa0), mm_vt_of (mm_fa1 (mm_coS (n := 3) C0 okX7_within (mm_one_at (.methodLink RX7 47 yX7_within) 475 (by decide +kernel) rfl) (wX7_within _ (by simp)) (wX7_within _ (by simp [yX7_within])) (wX7_within _ (by simp)) (by decide +kernel) (by omega) (by omega)) (mm_fa0)), kX7_share_ok, mm_ctok_J ctRX7_ok⟩
  unfold fX7_share at h
  split at h
  · obtain ⟨hb, h⟩ := mm_chk_e h
    cases (Nat.eq_of_beq_eq_true hb)
    exact ⟨Nat.le_of_ble_eq_true rfl, mm_Zb Z 24 0 [] mm_fa0 h⟩
  · exact h.elim
def kX7_flow : List mm_E := [(0, false, .iload_n 2, []), (1, false, .iconst 0, []), (2, false, .aload_n 0, []), (3, false, .getfield 33, []), (6, false, .getfield 256, []), (9, false, .iconst 1, []), (10, false, .isub, []), (11, false, .invokestatic 47, []), (14, false, .ifCond .ne 6, [20]), (17, false, .bipush (-101), []), (19, false, .ireturn, []), (20, false, .iload_n 1, []), (21, false, .iconst 0, []), (22, false, .iconst 3, []), (23, false, .invokestatic 47, []), (26, false, .ifCond .eq 12, [38]), (29, false, .iload_n 3, []), (30, false, .iconst 0, []), (31, false, .iconst 1, []), (32, false, .invokestatic 47, []), (35, false, .ifCond .ne 6, [41]), (38, false, .bipush (-102), []), (40, false, .ireturn, []), (41, false, .aload_n 0, []), (42, false, .getfield 33, []), (45, false, .invokevirtual 268, []), (48, false, .aload_n 0, []), (49, false, .getfield 33, []), (52, false, .getfield 271, []), (55, false, .iload_n 1, []), (56, false, .aaload, []), (57, false, .iload_n 2, []), (58, false, .laload, []), (59, false, .lstore 4, []), (61, false, .aload_n 0, []), (62, false, .getfield 33, []), (65, false, .getfield 275, []), (68, false, .iload_n 1, []), (69, false, .laload, []), (70, false, .lstore 6, []), (72, false, .iload_n 3, []), (73, false, .ifCond .ne 13, [86]), (76, false, .lload 4, []), (78, false, .lload 6, []), (80, false, .invokestatic 225, []), (83, false, .goto 10, [93]), (86, false, .lload 4, []), (88, false, .lload 6, []), (90, false, .invokestatic 229, []), (93, false, .ireturn, [])]
set_option maxRecDepth 20000 in
theorem kX7_flow_ok : mm_cok cX7_flow RX7 (mm_ctt ctRX7) kX7_flow := mm_c_of (k := false) ctRX7_ok (by decide +kernel)
set_option maxRecDepth 20000 in
theorem wX7_flow : ∀ w ∈ ([.instanceMethod yX7_flow, .selects RX7 yX7_flow yX7_flow, .initialized RX7, .code yX7_flow cX7_flow 8 (some .int)] : List Cond), w ∈ mm_tbl := mm_sub_at _ [830, 831, 104, 832] (by decide +kernel) (by decide +kernel)
def vtX7_flow : List (Nat × Nat × Nat × mm_F) := [(268, 1, 1, fX1_partAll)]
def smX7_flow : List (Nat × Nat × Nat × mm_F) := [(47, 0, 3, fX7_within), (229, 0, 2, fX7_lowestBelow), (225, 0, 2, fX7_lowestAbove)]
def ZX7_flow (p : Program) (l : Launch) (e : Env) (s : State) (m : MethodId) (args : Array Value) (below : List Frame) (meth : Method) (c : Code) (cA : Nat → ClassId) (ad : Nat → Nat) (D : va_G) (A : Nat → Prop) : Prop := mm_Z p l e (mm_rm 4) s m args below meth c lay_c cA ad D A RX7 cX7_flow 8 1 (mm_flt flRX7) (mm_clt (vtX7_flow)) (mm_clt (smX7_flow)) (mm_ctt ctRX7) kX7_flow
theorem okX7_flow : mm_Ok lay_c yX7_flow cX7_flow 8 (some .int) 4 fX7_flow := by
  refine mm_enter (rt := 1) (by decide +kernel) rfl ?_
  intro p l e s m args below meth c cA ad D A as M Q h C0
  have Z : ZX7_flow p l e s m args below meth c cA ad D A := ⟨C0, flRX7_ok, mm_vt_of (mm_fa1 (mm_coV (n := 0) (ci := 1) C0 okX1_partAll rfl rfl (mm_one_at (.methodLink RX7 268 yX1_partAll) 833 (by decide +kernel) rfl) (wX1_partAll _ (by simp)) (wX1_partAll _ (by simp [yX1_partAll])) (wX1_partAll _ (by simp [yX1_partAll])) (wX1_partAll _ (by simp)) (by decide +kernel) (by omega) (by omega)) (mm_fa0)), mm_vt_of (mm_fa1 (mm_coS (n := 3) C0 okX7_within (mm_one_at (.methodLink RX7 47 yX7_within) 475 (by decide +kernel) rfl) (wX7_within _ (by simp)) (wX7_within _ (by simp [yX7_within])) (wX7_within _ (by simp)) (by decide +kernel) (by omega) (by omega)) (mm_fa1 (mm_coS (n := 2) C0 okX7_lowestBelow (mm_one_at (.methodLink RX7 229 yX7_lowestBelow) 740 (by decide +kernel) rfl) (wX7_lowestBelow _ (by simp)) (wX7_lowestBelow _ (by simp [yX7_lowestBelow])) (wX7_lowestBelow _ (by simp)) (by decide +kernel) (by omega) (by omega)) (mm_fa1 (mm_coS (n := 2) C0 okX7_lowestAbove (mm_one_at (.methodLink RX7 225 yX7_lowestAbove) 734 (by decide +kernel) rfl) (wX7_lowestAbove _ (by simp)) (wX7_lowestAbove _ (by simp [yX7_lowestAbove])) (wX7_lowestAbove _ (by simp)) (by decide +kernel) (by omega) (by omega)) (mm_fa0)))), kX7_flow_ok, mm_ctok_J ctRX7_ok⟩
  unfold fX7_flow at h
  split at h
  · obtain ⟨hb, h⟩ := mm_chk_e h
    cases (Nat.eq_of_beq_eq_true hb)
    exact ⟨Nat.le_of_ble_eq_true rfl, mm_Zb Z 53 0 [] mm_fa0 h⟩
  · exact h.elim
