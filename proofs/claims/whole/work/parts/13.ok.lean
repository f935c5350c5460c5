def kX6_numberOfSet : List mm_E := [(0, false, .iconst 0, []), (1, false, .istore_n 1, []), (2, false, .iconst 0, []), (3, false, .istore_n 2, []), (4, true, .iload_n 2, []), (5, false, .aload_n 0, []), (6, false, .getfield 41, []), (9, false, .if_icmp .ge 31, [40]), (12, false, .iload_n 1, []), (13, false, .aload_n 0, []), (14, false, .getfield 20, []), (17, false, .iload_n 2, []), (18, false, .aaload, []), (19, false, .getfield 72, []), (22, false, .imul, []), (23, false, .aload_n 0, []), (24, false, .getfield 20, []), (27, false, .iload_n 2, []), (28, false, .aaload, []), (29, false, .getfield 89, []), (32, false, .iadd, []), (33, false, .istore_n 1, []), (34, false, .iinc 2 1, []), (37, false, .goto (-33), [4]), (40, false, .iload_n 1, []), (41, false, .ireturn, [])]
set_option maxRecDepth 20000 in
theorem kX6_numberOfSet_ok : mm_cok cX6_numberOfSet RX6 (mm_ctt ctRX6) kX6_numberOfSet := mm_c_of (k := true) ctRX6_ok (by decide +kernel)
set_option maxRecDepth 20000 in
theorem wX6_numberOfSet : ∀ w ∈ ([.instanceMethod yX6_numberOfSet, .selects RX6 yX6_numberOfSet yX6_numberOfSet, .initialized RX6, .code yX6_numberOfSet cX6_numberOfSet 3 (some .int)] : List Cond), w ∈ mm_tbl := mm_sub_at _ [748, 749, 107, 750] (by decide +kernel) (by decide +kernel)
def vtX6_numberOfSet : List (Nat × Nat × Nat × mm_F) := []
def smX6_numberOfSet : List (Nat × Nat × Nat × mm_F) := []
def ZX6_numberOfSet (p : Program) (l : Launch) (e : Env) (s : State) (m : MethodId) (args : Array Value) (below : List Frame) (meth : Method) (c : Code) (cA : Nat → ClassId) (ad : Nat → Nat) (D : va_G) (A : Nat → Prop) : Prop := mm_Z p l e (mm_rm 0) s m args below meth c lay_c cA ad D A RX6 cX6_numberOfSet 3 1 (mm_flt flRX6) (mm_clt (vtX6_numberOfSet)) (mm_clt (smX6_numberOfSet)) (mm_ctt ctRX6) kX6_numberOfSet
def qX6_numberOfSet_4 (P : Int → Int → mm_M → Prop) : mm_K := fun ls st M => match ls, st with
  | [some (.inr (.inr c0)), some (.inl v1), some (.inl v2)], [] => mm_chk (Nat.beq c0 9) (P v1 v2 M)
  | _, _ => False
theorem okX6_numberOfSet_4 {p : Program} {l : Launch} {e : Env} {s : State} {m : MethodId} {args : Array Value} {below : List Frame} {meth : Method} {c : Code} {cA : Nat → ClassId} {ad : Nat → Nat} {D : va_G} {A : Nat → Prop} {Q : Option mm_V → mm_M → Prop} (Z : ZX6_numberOfSet p l e s m args below meth c cA ad D A) : ∀ (n : Nat) ls st M, qX6_numberOfSet_4 (fun v1 v2 M => bX6_numberOfSet_4 n v1 v2 M (fun r M => Q (some (.inl r)) M)) ls st M → mm_G p l e (mm_rm 0) s m args below meth c lay_c cA ad D A 3 Q 4 ls st M
  | 0, ls, st, M, h => by
    unfold qX6_numberOfSet_4 at h
    split at h
    · obtain ⟨hb, h⟩ := mm_chk_e h
      cases (Nat.eq_of_beq_eq_true hb)
      exact h.elim
    · exact h.elim
  | n + 1, ls, st, M, h => by
    have ih := okX6_numberOfSet_4 (Q := Q) Z  n
    unfold qX6_numberOfSet_4 at h
    split at h
    · obtain ⟨hb, h⟩ := mm_chk_e h
      cases (Nat.eq_of_beq_eq_true hb)
      exact mm_Zb Z 29 4 [(4, qX6_numberOfSet_4 (fun v1 v2 M => bX6_numberOfSet_4 n v1 v2 M (fun r M => Q (some (.inl r)) M)))] (mm_fa1 ih mm_fa0) h
    · exact h.elim
theorem okX6_numberOfSet_4x {p : Program} {l : Launch} {e : Env} {s : State} {m : MethodId} {args : Array Value} {below : List Frame} {meth : Method} {c : Code} {cA : Nat → ClassId} {ad : Nat → Nat} {D : va_G} {A : Nat → Prop} {Q : Option mm_V → mm_M → Prop} (Z : ZX6_numberOfSet p l e s m args below meth c cA ad D A) : ∀ ls st M, qX6_numberOfSet_4 (fun v1 v2 M => ∃ j, bX6_numberOfSet_4 j v1 v2 M (fun r M => Q (some (.inl r)) M)) ls st M → mm_G p l e (mm_rm 0) s m args below meth c lay_c cA ad D A 3 Q 4 ls st M := by
  intro ls st M h
  have hex : ∃ n, qX6_numberOfSet_4 (fun v1 v2 M => bX6_numberOfSet_4 n v1 v2 M (fun r M => Q (some (.inl r)) M)) ls st M := by
    unfold qX6_numberOfSet_4 at h
    split at h
    · obtain ⟨hb, h⟩ := mm_chk_e h
      cases (Nat.eq_of_beq_eq_true hb)
      obtain ⟨n, h⟩ := h
      exact ⟨n, h⟩
    · exact h.elim
  obtain ⟨n, hex⟩ := hex
  exact okX6_numberOfSet_4 Z  n ls st M hex
theorem okX6_numberOfSet : mm_Ok lay_c yX6_numberOfSet cX6_numberOfSet 3 (some .int) 0 fX6_numberOfSet := by
  refine mm_enter (rt := 1) (by decide +kernel) rfl ?_
  intro p l e s m args below meth c cA ad D A as M Q h C0
  have Z : ZX6_numberOfSet p l e s m args below meth c cA ad D A := ⟨C0, flRX6_ok, mm_vt_of (mm_fa0), mm_vt_of (mm_fa0), kX6_numberOfSet_ok, mm_ctok_I ctRX6_ok⟩
  unfold fX6_numberOfSet at h
  split at h
  · obtain ⟨hb, h⟩ := mm_chk_e h
    cases (Nat.eq_of_beq_eq_true hb)
    exact ⟨Nat.le_of_ble_eq_true rfl, mm_Zb Z 29 0 [(4, qX6_numberOfSet_4 (fun v1 v2 M => ∃ j, bX6_numberOfSet_4 j v1 v2 M (fun r M => Q (some (.inl r)) M)))] (mm_fa1 (fun ls st M h => okX6_numberOfSet_4x Z  ls st M h) mm_fa0) h⟩
  · exact h.elim
def kX6_greatestLoad : List mm_E := [(0, false, .iconst 0, []), (1, false, .istore_n 1, []), (2, false, .iconst 0, []), (3, false, .istore_n 2, []), (4, true, .iload_n 2, []), (5, false, .aload_n 0, []), (6, false, .getfield 12, []), (9, false, .getfield 48, []), (12, false, .if_icmp .ge 20, [32]), (15, false, .iload_n 1, []), (16, false, .aload_n 0, []), (17, false, .getfield 24, []), (20, false, .iload_n 2, []), (21, false, .iaload, []), (22, false, .invokestatic 119, []), (25, false, .istore_n 1, []), (26, false, .iinc 2 1, []), (29, false, .goto (-25), [4]), (32, false, .iload_n 1, []), (33, false, .ireturn, [])]
set_option maxRecDepth 20000 in
theorem kX6_greatestLoad_ok : mm_cok cX6_greatestLoad RX6 (mm_ctt ctRX6) kX6_greatestLoad := mm_c_of (k := true) ctRX6_ok (by decide +kernel)
set_option maxRecDepth 20000 in
theorem wX6_greatestLoad : ∀ w ∈ ([.instanceMethod yX6_greatestLoad, .selects RX6 yX6_greatestLoad yX6_greatestLoad, .initialized RX6, .code yX6_greatestLoad cX6_greatestLoad 3 (some .int)] : List Cond), w ∈ mm_tbl := mm_sub_at _ [572, 573, 107, 574] (by decide +kernel) (by decide +kernel)
def vtX6_greatestLoad : List (Nat × Nat × Nat × mm_F) := []
def smX6_greatestLoad : List (Nat × Nat × Nat × mm_F) := [(119, 0, 2, fJ9_max_7cf53)]
def ZX6_greatestLoad (p : Program) (l : Launch) (e : Env) (s : State) (m : MethodId) (args : Array Value) (below : List Frame) (meth : Method) (c : Code) (cA : Nat → ClassId) (ad : Nat → Nat) (D : va_G) (A : Nat → Prop) : Prop := mm_Z p l e (mm_rm 1) s m args below meth c lay_c cA ad D A RX6 cX6_greatestLoad 3 1 (mm_flt flRX6) (mm_clt (vtX6_greatestLoad)) (mm_clt (smX6_greatestLoad)) (mm_ctt ctRX6) kX6_greatestLoad
def qX6_greatestLoad_4 (P : Int → Int → mm_M → Prop) : mm_K := fun ls st M => match ls, st with
  | [some (.inr (.inr c0)), some (.inl v1), some (.inl v2)], [] => mm_chk (Nat.beq c0 9) (P v1 v2 M)
  | _, _ => False
theorem okX6_greatestLoad_4 {p : Program} {l : Launch} {e : Env} {s : State} {m : MethodId} {args : Array Value} {below : List Frame} {meth : Method} {c : Code} {cA : Nat → ClassId} {ad : Nat → Nat} {D : va_G} {A : Nat → Prop} {Q : Option mm_V → mm_M → Prop} (Z : ZX6_greatestLoad p l e s m args below meth c cA ad D A) : ∀ (n : Nat) ls st M, qX6_greatestLoad_4 (fun v1 v2 M => bX6_greatestLoad_4 n v1 v2 M (fun r M => Q (some (.inl r)) M)) ls st M → mm_G p l e (mm_rm 1) s m args below meth c lay_c cA ad D A 3 Q 4 ls st M
  | 0, ls, st, M, h => by
    unfold qX6_greatestLoad_4 at h
    split at h
    · obtain ⟨hb, h⟩ := mm_chk_e h
      cases (Nat.eq_of_beq_eq_true hb)
      exact h.elim
    · exact h.elim
  | n + 1, ls, st, M, h => by
    have ih := okX6_greatestLoad_4 (Q := Q) Z  n
    unfold qX6_greatestLoad_4 at h
    split at h
    · obtain ⟨hb, h⟩ := mm_chk_e h
      cases (Nat.eq_of_beq_eq_true hb)
      exact mm_Zb Z 23 4 [(4, qX6_greatestLoad_4 (fun v1 v2 M => bX6_greatestLoad_4 n v1 v2 M (fun r M => Q (some (.inl r)) M)))] (mm_fa1 ih mm_fa0) h
    · exact h.elim
theorem okX6_greatestLoad_4x {p : Program} {l : Launch} {e : Env} {s : State} {m : MethodId} {args : Array Value} {below : List Frame} {meth : Method} {c : Code} {cA : Nat → ClassId} {ad : Nat → Nat} {D : va_G} {A : Nat → Prop} {Q : Option mm_V → mm_M → Prop} (Z : ZX6_greatestLoad p l e s m args below meth c cA ad D A) : ∀ ls st M, qX6_greatestLoad_4 (fun v1 v2 M => ∃ j, bX6_greatestLoad_4 j v1 v2 M (fun r M => Q (some (.inl r)) M)) ls st M → mm_G p l e (mm_rm 1) s m args below meth c lay_c cA ad D A 3 Q 4 ls st M := by
  intro ls st M h
  have hex : ∃ n, qX6_greatestLoad_4 (fun v1 v2 M => bX6_greatestLoad_4 n v1 v2 M (fun r M => Q (some (.inl r)) M)) ls st M := by
    unfold qX6_greatestLoad_4 at h
    split at h
    · obtain ⟨hb, h⟩ := mm_chk_e h
      cases (Nat.eq_of_beq_eq_true hb)
      obtain ⟨n, h⟩ := h
      exact ⟨n, h⟩
    · exact h.elim
  obtain ⟨n, hex⟩ := hex
  exact okX6_greatestLoad_4 Z  n ls st M hex
theorem okX6_greatestLoad : mm_Ok lay_c yX6_greatestLoad cX6_greatestLoad 3 (some .int) 1 fX6_greatestLoad := by
  refine mm_enter (rt := 1) (by decide +kernel) rfl ?_
  intro p l e s m args below meth c cA ad D A as M Q h C0
  have Z : ZX6_greatestLoad p l e s m args below meth c cA ad D A := ⟨C0, flRX6_ok, mm_vt_of (mm_fa0), mm_vt_of (mm_fa1 (mm_coS (n := 2) C0 okJ9_max_7cf53 (mm_one_at (.methodLink RX6 119 yJ9_max_7cf53) 575 (by decide +kernel) rfl) (wJ9_max_7cf53 _ (by simp)) (wJ9_max_7cf53 _ (by simp [yJ9_max_7cf53])) (wJ9_max_7cf53 _ (by simp)) (by decide +kernel) (by omega) (by omega)) (mm_fa0)), kX6_greatestLoad_ok, mm_ctok_I ctRX6_ok⟩
  unfold fX6_greatestLoad at h
  split at h
  · obtain ⟨hb, h⟩ := mm_chk_e h
    cases (Nat.eq_of_beq_eq_true hb)
    exact ⟨Nat.le_of_ble_eq_true rfl, mm_Zb Z 23 0 [(4, qX6_greatestLoad_4 (fun v1 v2 M => ∃ j, bX6_greatestLoad_4 j v1 v2 M (fun r M => Q (some (.inl r)) M)))] (mm_fa1 (fun ls st M h => okX6_greatestLoad_4x Z  ls st M h) mm_fa0) h⟩
  · exact h.elim
def kX7_letter : List mm_E := [(0, false, .iload_n 1, []), (1, false, .bipush 32, []), (3, false, .bipush 126, []), (5, false, .invokestatic 47, []), (8, false, .ifCond .ne 6, [14]), (11, false, .bipush (-102), []), (13, false, .ireturn, []), (14, false, .aload_n 0, []), (15, false, .getfield 12, []), (18, false, .getfield 51, []), (21, false, .bipush 92, []), (23, false, .if_icmp .lt 6, [29]), (26, false, .bipush (-104), []), (28, false, .ireturn, []), (29, false, .aload_n 0, []), (30, false, .getfield 12, []), (33, false, .getfield 54, []), (36, false, .aload_n 0, []), (37, false, .getfield 12, []), (40, false, .getfield 51, []), (43, false, .iload_n 1, []), (44, false, .iastore, []), (45, false, .aload_n 0, []), (46, false, .getfield 12, []), (49, false, .dup, []), (50, false, .getfield 51, []), (53, false, .iconst 1, []), (54, false, .iadd, []), (55, false, .putfield 51, []), (58, false, .aload_n 0, []), (59, false, .getfield 12, []), (62, false, .getfield 51, []), (65, false, .ireturn, [])]
set_option maxRecDepth 20000 in
theorem kX7_letter_ok : mm_cok cX7_letter RX7 (mm_ctt ctRX7) kX7_letter := mm_c_of (k := false) ctRX7_ok (by decide +kernel)
set_option maxRecDepth 20000 in
theorem wX7_letter : ∀ w ∈ ([.instanceMethod yX7_letter, .selects RX7 yX7_letter yX7_letter, .initialized RX7, .code yX7_letter cX7_letter 2 (some .int)] : List Cond), w ∈ mm_tbl := mm_sub_at _ [472, 473, 104, 474] (by decide +kernel) (by decide +kernel)
def vtX7_letter : List (Nat × Nat × Nat × mm_F) := []
def smX7_letter : List (Nat × Nat × Nat × mm_F) := [(47, 0, 3, fX7_within)]
def ZX7_letter (p : Program) (l : Launch) (e : Env) (s : State) (m : MethodId) (args : Array Value) (below : List Frame) (meth : Method) (c : Code) (cA : Nat → ClassId) (ad : Nat → Nat) (D : va_G) (A : Nat → Prop) : Prop := mm_Z p l e (mm_rm 1) s m args below meth c lay_c cA ad D A RX7 cX7_letter 2 1 (mm_flt flRX7) (mm_clt (vtX7_letter)) (mm_clt (smX7_letter)) (mm_ctt ctRX7) kX7_letter
theorem okX7_letter : mm_Ok lay_c yX7_letter cX7_letter 2 (some .int) 1 fX7_letter := by
  refine mm_enter (rt := 1) (by decide +kernel) rfl ?_
  intro p l e s m args below meth c cA ad D A as M Q h C0
  have Z : ZX7_letter p l e s m args below meth c cA ad D A := ⟨C0, flRX7_ok, mm_vt_of (mm_fa0), mm_vt_of (mm_fa1 (mm_coS (n := 3) C0 okX7_within (mm_one_at (.methodLink RX7 47 yX7_within) 475 (by decide +kernel) rfl) (wX7_within _ (by simp)) (wX7_within _ (by simp [yX7_within])) (wX7_within _ (by simp)) (by decide +kernel) (by omega) (by omega)) (mm_fa0)), kX7_letter_ok, mm_ctok_J ctRX7_ok⟩
  unfold fX7_letter at h
  split at h
  · obtain ⟨hb, h⟩ := mm_chk_e h
    cases (Nat.eq_of_beq_eq_true hb)
    exact ⟨Nat.le_of_ble_eq_true rfl, mm_Zb Z 36 0 [] mm_fa0 h⟩
  · exact h.elim
def kX7_blank : List mm_E := [(0, false, .aload_n 0, []), (1, false, .getfield 12, []), (4, false, .getfield 51, []), (7, false, .istore_n 1, []), (8, false, .aload_n 0, []), (9, false, .getfield 12, []), (12, false, .iconst 0, []), (13, false, .putfield 51, []), (16, false, .iload_n 1, []), (17, false, .ireturn, [])]
set_option maxRecDepth 20000 in
theorem kX7_blank_ok : mm_cok cX7_blank RX7 (mm_ctt ctRX7) kX7_blank := mm_c_of (k := false) ctRX7_ok (by decide +kernel)
set_option maxRecDepth 20000 in
theorem wX7_blank : ∀ w ∈ ([.instanceMethod yX7_blank, .selects RX7 yX7_blank yX7_blank, .initialized RX7, .code yX7_blank cX7_blank 2 (some .int)] : List Cond), w ∈ mm_tbl := mm_sub_at _ [479, 480, 104, 481] (by decide +kernel) (by decide +kernel)
def vtX7_blank : List (Nat × Nat × Nat × mm_F) := []
def smX7_blank : List (Nat × Nat × Nat × mm_F) := []
def ZX7_blank (p : Program) (l : Launch) (e : Env) (s : State) (m : MethodId) (args : Array Value) (below : List Frame) (meth : Method) (c : Code) (cA : Nat → ClassId) (ad : Nat → Nat) (D : va_G) (A : Nat → Prop) : Prop := mm_Z p l e (mm_rm 0) s m args below meth c lay_c cA ad D A RX7 cX7_blank 2 1 (mm_flt flRX7) (mm_clt (vtX7_blank)) (mm_clt (smX7_blank)) (mm_ctt ctRX7) kX7_blank
theorem okX7_blank : mm_Ok lay_c yX7_blank cX7_blank 2 (some .int) 0 fX7_blank := by
  refine mm_enter (rt := 1) (by decide +kernel) rfl ?_
  intro p l e s m args below meth c cA ad D A as M Q h C0
  have Z : ZX7_blank p l e s m args below meth c cA ad D A := ⟨C0, flRX7_ok, mm_vt_of (mm_fa0), mm_vt_of (mm_fa0), kX7_blank_ok, mm_ctok_J ctRX7_ok⟩
  unfold fX7_blank at h
  split at h
  · obtain ⟨hb, h⟩ := mm_chk_e h
    cases (Nat.eq_of_beq_eq_true hb)
    exact ⟨Nat.le_of_ble_eq_true rfl, mm_Zb Z 13 0 [] mm_fa0 h⟩
  · exact h.elim
def kX7_fault : List mm_E := [(0, false, .aload_n 0, []), (1, false, .getfield 12, []), (4, false, .invokevirtual 58, []), (7, false, .ireturn, [])]
set_option maxRecDepth 20000 in
theorem kX7_fault_ok : mm_cok cX7_fault RX7 (mm_ctt ctRX7) kX7_fault := mm_c_of (k := false) ctRX7_ok (by decide +kernel)
set_option maxRecDepth 20000 in
theorem wX7_fault : ∀ w ∈ ([.instanceMethod yX7_fault, .selects RX7 yX7_fault yX7_fault, .initialized RX7, .code yX7_fault cX7_fault 1 (some .int)] : List Cond), w ∈ mm_tbl := mm_sub_at _ [483, 484, 104, 485] (by decide +kernel) (by decide +kernel)
def vtX7_fault : List (Nat × Nat × Nat × mm_F) := [(58, 3, 1, fX3_readIntoDraft)]
def smX7_fault : List (Nat × Nat × Nat × mm_F) := []
def ZX7_fault (p : Program) (l : Launch) (e : Env) (s : State) (m : MethodId) (args : Array Value) (below : List Frame) (meth : Method) (c : Code) (cA : Nat → ClassId) (ad : Nat → Nat) (D : va_G) (A : Nat → Prop) : Prop := mm_Z p l e (mm_rm 4) s m args below meth c lay_c cA ad D A RX7 cX7_fault 1 1 (mm_flt flRX7) (mm_clt (vtX7_fault)) (mm_clt (smX7_fault)) (mm_ctt ctRX7) kX7_fault
theorem okX7_fault : mm_Ok lay_c yX7_fault cX7_fault 1 (some .int) 4 fX7_fault := by
  refine mm_enter (rt := 1) (by decide +kernel) rfl ?_
  intro p l e s m args below meth c cA ad D A as M Q h C0
  have Z : ZX7_fault p l e s m args below meth c cA ad D A := ⟨C0, flRX7_ok, mm_vt_of (mm_fa1 (mm_coV (n := 0) (ci := 3) C0 okX3_readIntoDraft rfl rfl (mm_one_at (.methodLink RX7 58 yX3_readIntoDraft) 486 (by decide +kernel) rfl) (wX3_readIntoDraft _ (by simp)) (wX3_readIntoDraft _ (by simp [yX3_readIntoDraft])) (wX3_readIntoDraft _ (by simp [yX3_readIntoDraft])) (wX3_readIntoDraft _ (by simp)) (by decide +kernel) (by omega) (by omega)) (mm_fa0)), mm_vt_of (mm_fa0), kX7_fault_ok, mm_ctok_J ctRX7_ok⟩
  unfold fX7_fault at h
  split at h
  · obtain ⟨hb, h⟩ := mm_chk_e h
    cases (Nat.eq_of_beq_eq_true hb)
    exact ⟨Nat.le_of_ble_eq_true rfl, mm_Zb Z 7 0 [] mm_fa0 h⟩
  · exact h.elim
def kX7_net : List mm_E := [(0, false, .aload_n 0, []), (1, false, .getfield 12, []), (4, false, .invokevirtual 58, []), (7, false, .istore_n 1, []), (8, false, .iload_n 1, []), (9, false, .aload_n 0, []), (10, false, .getfield 12, []), (13, false, .getfield 51, []), (16, false, .if_icmp .lt 13, [29]), (19, false, .aload_n 0, []), (20, false, .getfield 12, []), (23, false, .invokevirtual 62, []), (26, false, .ifCond .ne 6, [32]), (29, false, .bipush (-103), []), (31, false, .ireturn, []), (32, false, .aload_n 0, []), (33, false, .getfield 19, []), (36, false, .aload_n 0, []), (37, false, .getfield 12, []), (40, false, .getfield 66, []), (43, false, .invokevirtual 70, []), (46, false, .aload_n 0, []), (47, false, .getfield 26, []), (50, false, .iconst 0, []), (51, false, .putfield 74, []), (54, false, .aload_n 0, []), (55, false, .getfield 12, []), (58, false, .iconst 0, []), (59, false, .putfield 51, []), (62, false, .aload_n 0, []), (63, false, .dup, []), (64, false, .getfield 37, []), (67, false, .iconst 1, []), (68, false, .iadd, []), (69, false, .putfield 37, []), (72, false, .aload_n 0, []), (73, false, .getfield 19, []), (76, false, .getfield 78, []), (79, false, .getfield 81, []), (82, false, .ireturn, [])]
set_option maxRecDepth 20000 in
theorem kX7_net_ok : mm_cok cX7_net RX7 (mm_ctt ctRX7) kX7_net := mm_c_of (k := false) ctRX7_ok (by decide +kernel)
set_option maxRecDepth 20000 in
theorem wX7_net : ∀ w ∈ ([.instanceMethod yX7_net, .selects RX7 yX7_net yX7_net, .initialized RX7, .code yX7_net cX7_net 2 (some .int)] : List Cond), w ∈ mm_tbl := mm_sub_at _ [520, 521, 104, 522] (by decide +kernel) (by decide +kernel)
def vtX7_net : List (Nat × Nat × Nat × mm_F) := [(58, 3, 1, fX3_readIntoDraft), (62, 3, 1, fX3_isWhole), (70, 6, 2, fX6_beginOn)]
def smX7_net : List (Nat × Nat × Nat × mm_F) := []
def ZX7_net (p : Program) (l : Launch) (e : Env) (s : State) (m : MethodId) (args : Array Value) (below : List Frame) (meth : Method) (c : Code) (cA : Nat → ClassId) (ad : Nat → Nat) (D : va_G) (A : Nat → Prop) : Prop := mm_Z p l e (mm_rm 4) s m args below meth c lay_c cA ad D A RX7 cX7_net 2 1 (mm_flt flRX7) (mm_clt (vtX7_net)) (mm_clt (smX7_net)) (mm_ctt ctRX7) kX7_net
theorem okX7_net : mm_Ok lay_c yX7_net cX7_net 2 (some .int) 4 fX7_net := by
  refine mm_enter (rt := 1) (by decide +kernel) rfl ?_
  intro p l e s m args below meth c cA ad D A as M Q h C0
  have Z : ZX7_net p l e s m args below meth c cA ad D A := ⟨C0, flRX7_ok, mm_vt_of (mm_fa1 (mm_coV (n := 0) (ci := 3) C0 okX3_readIntoDraft rfl rfl (mm_one_at (.methodLink RX7 58 yX3_readIntoDraft) 486 (by decide +kernel) rfl) (wX3_readIntoDraft _ (by simp)) (wX3_readIntoDraft _ (by simp [yX3_readIntoDraft])) (wX3_readIntoDraft _ (by simp [yX3_readIntoDraft])) (wX3_readIntoDraft _ (by simp)) (by decide +kernel) (by omega) (by omega)) (mm_fa1 (mm_coV (n := 0) (ci := 3) C0 okX3_isWhole rfl rfl (mm_one_at (.methodLink RX7 62 yX3_isWhole) 523 (by decide +kernel) rfl) (wX3_isWhole _ (by simp)) (wX3_isWhole _ (by simp [yX3_isWhole])) (wX3_isWhole _ (by simp [yX3_isWhole])) (wX3_isWhole _ (by simp)) (by decide +kernel) (by omega) (by omega)) (mm_fa1 (mm_coV (n := 1) (ci := 6) C0 okX6_beginOn rfl rfl (mm_one_at (.methodLink RX7 70 yX6_beginOn) 527 (by decide +kernel) rfl) (wX6_beginOn _ (by simp)) (wX6_beginOn _ (by simp [yX6_beginOn])) (wX6_beginOn _ (by simp [yX6_beginOn])) (wX6_beginOn _ (by simp)) (by decide +kernel) (by omega) (by omega)) (mm_fa0)))), mm_vt_of (mm_fa0), kX7_net_ok, mm_ctok_J ctRX7_ok⟩
  unfold fX7_net at h
  split at h
  · obtain ⟨hb, h⟩ := mm_chk_e h
    cases (Nat.eq_of_beq_eq_true hb)
    exact ⟨Nat.le_of_ble_eq_true rfl, mm_Zb Z 43 0 [] mm_fa0 h⟩
  · exact h.elim
def kX7_hasNet : List mm_E := [(0, false, .aload_n 0, []), (1, false, .getfield 19, []), (4, false, .getfield 78, []), (7, false, .getfield 81, []), (10, false, .ifCond .le 7, [17]), (13, false, .iconst 1, []), (14, false, .goto 4, [18]), (17, false, .iconst 0, []), (18, false, .ireturn, [])]
set_option maxRecDepth 20000 in
theorem kX7_hasNet_ok : mm_cok cX7_hasNet RX7 (mm_ctt ctRX7) kX7_hasNet := mm_c_of (k := false) ctRX7_ok (by decide +kernel)
set_option maxRecDepth 20000 in
theorem wX7_hasNet : ∀ w ∈ ([.instanceMethod yX7_hasNet, .selects RX7 yX7_hasNet yX7_hasNet, .initialized RX7, .code yX7_hasNet cX7_hasNet 1 (some .boolean)] : List Cond), w ∈ mm_tbl := mm_sub_at _ [545, 7, 104, 546] (by decide +kernel) (by decide +kernel)
def vtX7_hasNet : List (Nat × Nat × Nat × mm_F) := []
def smX7_hasNet : List (Nat × Nat × Nat × mm_F) := []
def ZX7_hasNet (p : Program) (l : Launch) (e : Env) (s : State) (m : MethodId) (args : Array Value) (below : List Frame) (meth : Method) (c : Code) (cA : Nat → ClassId) (ad : Nat → Nat) (D : va_G) (A : Nat → Prop) : Prop := mm_Z p l e (mm_rm 0) s m args below meth c lay_c cA ad D A RX7 cX7_hasNet 1 2 (mm_flt flRX7) (mm_clt (vtX7_hasNet)) (mm_clt (smX7_hasNet)) (mm_ctt ctRX7) kX7_hasNet
theorem okX7_hasNet : mm_Ok lay_c yX7_hasNet cX7_hasNet 1 (some .boolean) 0 fX7_hasNet := by
  refine mm_enter (rt := 2) (by decide +kernel) rfl ?_
  intro p l e s m args below meth c cA ad D A as M Q h C0
  have Z : ZX7_hasNet p l e s m args below meth c cA ad D A := ⟨C0, flRX7_ok, mm_vt_of (mm_fa0), mm_vt_of (mm_fa0), kX7_hasNet_ok, mm_ctok_J ctRX7_ok⟩
  unfold fX7_hasNet at h
  split at h
  · obtain ⟨hb, h⟩ := mm_chk_e h
    cases (Nat.eq_of_beq_eq_true hb)
    exact ⟨Nat.le_of_ble_eq_true rfl, mm_Zb Z 12 0 [] mm_fa0 h⟩
  · exact h.elim
def kX7_about : List mm_E := [(0, false, .iload_n 1, []), (1, false, .iconst 0, []), (2, false, .bipush 7, []), (4, false, .invokestatic 47, []), (7, false, .ifCond .ne 6, [13]), (10, false, .bipush (-102), []), (12, false, .ireturn, []), (13, false, .aload_n 0, []), (14, false, .invokevirtual 86, []), (17, false, .ifCond .ne 6, [23]), (20, false, .bipush (-103), []), (22, false, .ireturn, []), (23, false, .iload_n 1, []), (24, false, .tableswitch 114 0 6 #[44, 55, 66, 74, 82, 90, 106], [138, 68, 79, 90, 98, 106, 114, 130]), (68, false, .aload_n 0, []), (69, false, .getfield 19, []), (72, false, .getfield 78, []), (75, false, .getfield 89, []), (78, false, .ireturn, []), (79, false, .aload_n 0, []), (80, false, .getfield 19, []), (83, false, .getfield 78, []), (86, false, .getfield 81, []), (89, false, .ireturn, []), (90, false, .aload_n 0, []), (91, false, .getfield 19, []), (94, false, .getfield 92, []), (97, false, .ireturn, []), (98, false, .aload_n 0, []), (99, false, .getfield 19, []), (102, false, .invokevirtual 95, []), (105, false, .ireturn, []), (106, false, .aload_n 0, []), (107, false, .getfield 19, []), (110, false, .invokevirtual 98, []), (113, false, .ireturn, []), (114, false, .aload_n 0, []), (115, false, .getfield 19, []), (118, false, .invokevirtual 101, []), (121, false, .ifCond .eq 7, [128]), (124, false, .iconst 1, []), (125, false, .goto 4, [129]), (128, false, .iconst 0, []), (129, false, .ireturn, []), (130, false, .aload_n 0, []), (131, false, .getfield 19, []), (134, false, .invokevirtual 104, []), (137, false, .ireturn, []), (138, false, .aload_n 0, []), (139, false, .getfield 19, []), (142, false, .invokevirtual 107, []), (145, false, .ireturn, [])]
set_option maxRecDepth 20000 in
theorem kX7_about_ok : mm_cok cX7_about RX7 (mm_ctt ctRX7) kX7_about := mm_c_of (k := false) ctRX7_ok (by decide +kernel)
set_option maxRecDepth 20000 in
theorem wX7_about : ∀ w ∈ ([.instanceMethod yX7_about, .selects RX7 yX7_about yX7_about, .initialized RX7, .code yX7_about cX7_about 2 (some .int)] : List Cond), w ∈ mm_tbl := mm_sub_at _ [540, 541, 104, 542] (by decide +kernel) (by decide +kernel)
def vtX7_about : List (Nat × Nat × Nat × mm_F) := [(86, 7, 1, fX7_hasNet), (107, 6, 1, fX6_greatestLoad), (95, 6, 1, fX6_socialNow), (98, 6, 1, fX6_potentialNow), (101, 6, 1, fX6_restsNow), (104, 6, 1, fX6_setsInAll)]
def smX7_about : List (Nat × Nat × Nat × mm_F) := [(47, 0, 3, fX7_within)]
def ZX7_about (p : Program) (l : Launch) (e : Env) (s : State) (m : MethodId) (args : Array Value) (below : List Frame) (meth : Method) (c : Code) (cA : Nat → ClassId) (ad : Nat → Nat) (D : va_G) (A : Nat → Prop) : Prop := mm_Z p l e (mm_rm 3) s m args below meth c lay_c cA ad D A RX7 cX7_about 2 1 (mm_flt flRX7) (mm_clt (vtX7_about)) (mm_clt (smX7_about)) (mm_ctt ctRX7) kX7_about
theorem okX7_about : mm_Ok lay_c yX7_about cX7_about 2 (some .int) 3 fX7_about := by
  refine mm_enter (rt := 1) (by decide +kernel) rfl ?_
  intro p l e s m args below meth c cA ad D A as M Q h C0
  have Z : ZX7_about p l e s m args below meth c cA ad D A := ⟨C0, flRX7_ok, mm_vt_of (mm_fa1 (mm_coV (n := 0) (ci := 7) C0 okX7_hasNet rfl rfl (mm_one_at (.methodLink RX7 86 yX7_hasNet) 543 (by decide +kernel) rfl) (wX7_hasNet _ (by simp)) (wX7_hasNet _ (by simp [yX7_hasNet])) (wX7_hasNet _ (by simp [yX7_hasNet])) (wX7_hasNet _ (by simp)) (by decide +kernel) (by omega) (by omega)) (mm_fa1 (mm_coV (n := 0) (ci := 6) C0 okX6_greatestLoad rfl rfl (mm_one_at (.methodLink RX7 107 yX6_greatestLoad) 571 (by decide +kernel) rfl) (wX6_greatestLoad _ (by simp)) (wX6_greatestLoad _ (by simp [yX6_greatestLoad])) (wX6_greatestLoad _ (by simp [yX6_greatestLoad])) (wX6_greatestLoad _ (by simp)) (by decide +kernel) (by omega) (by omega)) (mm_fa1 (mm_coV (n := 0) (ci := 6) C0 okX6_socialNow rfl rfl (mm_one_at (.methodLink RX7 95 yX6_socialNow) 547 (by decide +kernel) rfl) (wX6_socialNow _ (by simp)) (wX6_socialNow _ (by simp [yX6_socialNow])) (wX6_socialNow _ (by simp [yX6_socialNow])) (wX6_socialNow _ (by simp)) (by decide +kernel) (by omega) (by omega)) (mm_fa1 (mm_coV (n := 0) (ci := 6) C0 okX6_potentialNow rfl rfl (mm_one_at (.methodLink RX7 98 yX6_potentialNow) 551 (by decide +kernel) rfl) (wX6_potentialNow _ (by simp)) (wX6_potentialNow _ (by simp [yX6_potentialNow])) (wX6_potentialNow _ (by simp [yX6_potentialNow])) (wX6_potentialNow _ (by simp)) (by decide +kernel) (by omega) (by omega)) (mm_fa1 (mm_coV (n := 0) (ci := 6) C0 okX6_restsNow rfl rfl (mm_one_at (.methodLink RX7 101 yX6_restsNow) 555 (by decide +kernel) rfl) (wX6_restsNow _ (by simp)) (wX6_restsNow _ (by simp [yX6_restsNow])) (wX6_restsNow _ (by simp [yX6_restsNow])) (wX6_restsNow _ (by simp)) (by decide +kernel) (by omega) (by omega)) (mm_fa1 (mm_coV (n := 0) (ci := 6) C0 okX6_setsInAll rfl rfl (mm_one_at (.methodLink RX7 104 yX6_setsInAll) 567 (by decide +kernel) rfl) (wX6_setsInAll _ (by simp)) (wX6_setsInAll _ (by simp [yX6_setsInAll])) (wX6_setsInAll _ (by simp [yX6_setsInAll])) (wX6_setsInAll _ (by simp)) (by decide +kernel) (by omega) (by omega)) (mm_fa0))))))), mm_vt_of (mm_fa1 (mm_coS (n := 3) C0 okX7_within (mm_one_at (.methodLink RX7 47 yX7_within) 475 (by decide +kernel) rfl) (wX7_within _ (by simp)) (wX7_within _ (by simp [yX7_within])) (wX7_within _ (by simp)) (by decide +kernel) (by omega) (by omega)) (mm_fa0)), kX7_about_ok, mm_ctok_J ctRX7_ok⟩
  unfold fX7_about at h
  split at h
  · obtain ⟨hb, h⟩ := mm_chk_e h
    cases (Nat.eq_of_beq_eq_true hb)
    exact ⟨Nat.le_of_ble_eq_true rfl, mm_Zb Z 55 0 [] mm_fa0 h⟩
  · exact h.elim
def kX7_isRoad : List mm_E := [(0, false, .iload_n 1, []), (1, false, .iconst 0, []), (2, false, .aload_n 0, []), (3, false, .getfield 19, []), (6, false, .getfield 78, []), (9, false, .getfield 81, []), (12, false, .iconst 1, []), (13, false, .isub, []), (14, false, .invokestatic 47, []), (17, false, .ireturn, [])]
set_option maxRecDepth 20000 in
theorem kX7_isRoad_ok : mm_cok cX7_isRoad RX7 (mm_ctt ctRX7) kX7_isRoad := mm_c_of (k := false) ctRX7_ok (by decide +kernel)
set_option maxRecDepth 20000 in
theorem wX7_isRoad : ∀ w ∈ ([.instanceMethod yX7_isRoad, .selects RX7 yX7_isRoad yX7_isRoad, .initialized RX7, .code yX7_isRoad cX7_isRoad 2 (some .boolean)] : List Cond), w ∈ mm_tbl := mm_sub_at _ [584, 8, 104, 585] (by decide +kernel) (by decide +kernel)
def vtX7_isRoad : List (Nat × Nat × Nat × mm_F) := []
def smX7_isRoad : List (Nat × Nat × Nat × mm_F) := [(47, 0, 3, fX7_within)]
def ZX7_isRoad (p : Program) (l : Launch) (e : Env) (s : State) (m : MethodId) (args : Array Value) (below : List Frame) (meth : Method) (c : Code) (cA : Nat → ClassId) (ad : Nat → Nat) (D : va_G) (A : Nat → Prop) : Prop := mm_Z p l e (mm_rm 1) s m args below meth c lay_c cA ad D A RX7 cX7_isRoad 2 2 (mm_flt flRX7) (mm_clt (vtX7_isRoad)) (mm_clt (smX7_isRoad)) (mm_ctt ctRX7) kX7_isRoad
theorem okX7_isRoad : mm_Ok lay_c yX7_isRoad cX7_isRoad 2 (some .boolean) 1 fX7_isRoad := by
  refine mm_enter (rt := 2) (by decide +kernel) rfl ?_
  intro p l e s m args below meth c cA ad D A as M Q h C0
  have Z : ZX7_isRoad p l e s m args below meth c cA ad D A := ⟨C0, flRX7_ok, mm_vt_of (mm_fa0), mm_vt_of (mm_fa1 (mm_coS (n := 3) C0 okX7_within (mm_one_at (.methodLink RX7 47 yX7_within) 475 (by decide +kernel) rfl) (wX7_within _ (by simp)) (wX7_within _ (by simp [yX7_within])) (wX7_within _ (by simp)) (by decide +kernel) (by omega) (by omega)) (mm_fa0)), kX7_isRoad_ok, mm_ctok_J ctRX7_ok⟩
  unfold fX7_isRoad at h
  split at h
  · obtain ⟨hb, h⟩ := mm_chk_e h
    cases (Nat.eq_of_beq_eq_true hb)
    exact ⟨Nat.le_of_ble_eq_true rfl, mm_Zb Z 13 0 [] mm_fa0 h⟩
  · exact h.elim
def kX7_road : List mm_E := [(0, false, .aload_n 0, []), (1, false, .iload_n 1, []), (2, false, .invokevirtual 110, []), (5, false, .ifCond .ne 6, [11]), (8, false, .bipush (-101), []), (10, false, .ireturn, []), (11, false, .iload_n 2, []), (12, false, .iconst 0, []), (13, false, .bipush 7, []), (15, false, .invokestatic 47, []), (18, false, .ifCond .ne 6, [24]), (21, false, .bipush (-102), []), (23, false, .ireturn, []), (24, false, .aload_n 0, []), (25, false, .getfield 19, []), (28, false, .getfield 78, []), (31, false, .astore_n 3, []), (32, false, .aload_n 0, []), (33, false, .getfield 19, []), (36, false, .getfield 114, []), (39, false, .iload_n 1, []), (40, false, .iaload, []), (41, false, .istore 4, []), (43, false, .iload_n 2, []), (44, false, .tableswitch 104 0 6 #[44, 51, 58, 65, 72, 79, 82], [148, 88, 95, 102, 109, 116, 123, 126]), (88, false, .aload_n 3, []), (89, false, .getfield 117, []), (92, false, .iload_n 1, []), (93, false, .iaload, []), (94, false, .ireturn, []), (95, false, .aload_n 3, []), (96, false, .getfield 120, []), (99, false, .iload_n 1, []), (100, false, .iaload, []), (101, false, .ireturn, []), (102, false, .aload_n 3, []), (103, false, .getfield 123, []), (106, false, .iload_n 1, []), (107, false, .iaload, []), (108, false, .ireturn, []), (109, false, .aload_n 3, []), (110, false, .getfield 126, []), (113, false, .iload_n 1, []), (114, false, .iaload, []), (115, false, .ireturn, []), (116, false, .aload_n 3, []), (117, false, .getfield 129, []), (120, false, .iload_n 1, []), (121, false, .iaload, []), (122, false, .ireturn, []), (123, false, .iload 4, []), (125, false, .ireturn, []), (126, false, .iload 4, []), (128, false, .ifCond .ne 7, [135]), (131, false, .iconst (-1), []), (132, false, .goto 15, [147]), (135, false, .aload_n 0, []), (136, false, .getfield 19, []), (139, false, .getfield 132, []), (142, false, .iload_n 1, []), (143, false, .aaload, []), (144, false, .iload 4, []), (146, false, .iaload, []), (147, false, .ireturn, []), (148, false, .aload_n 0, []), (149, false, .getfield 19, []), (152, false, .getfield 132, []), (155, false, .iload_n 1, []), (156, false, .aaload, []), (157, false, .iload 4, []), (159, false, .iconst 1, []), (160, false, .iadd, []), (161, false, .iaload, []), (162, false, .ireturn, [])]
set_option maxRecDepth 20000 in
theorem kX7_road_ok : mm_cok cX7_road RX7 (mm_ctt ctRX7) kX7_road := mm_c_of (k := false) ctRX7_ok (by decide +kernel)
set_option maxRecDepth 20000 in
theorem wX7_road : ∀ w ∈ ([.instanceMethod yX7_road, .selects RX7 yX7_road yX7_road, .initialized RX7, .code yX7_road cX7_road 5 (some .int)] : List Cond), w ∈ mm_tbl := mm_sub_at _ [579, 580, 104, 581] (by decide +kernel) (by decide +kernel)
def vtX7_road : List (Nat × Nat × Nat × mm_F) := [(110, 7, 2, fX7_isRoad)]
def smX7_road : List (Nat × Nat × Nat × mm_F) := [(47, 0, 3, fX7_within)]
def ZX7_road (p : Program) (l : Launch) (e : Env) (s : State) (m : MethodId) (args : Array Value) (below : List Frame) (meth : Method) (c : Code) (cA : Nat → ClassId) (ad : Nat → Nat) (D : va_G) (A : Nat → Prop) : Prop := mm_Z p l e (mm_rm 2) s m args below meth c lay_c cA ad D A RX7 cX7_road 5 1 (mm_flt flRX7) (mm_clt (vtX7_road)) (mm_clt (smX7_road)) (mm_ctt ctRX7) kX7_road
theorem okX7_road : mm_Ok lay_c yX7_road cX7_road 5 (some .int) 2 fX7_road := by
  refine mm_enter (rt := 1) (by decide +kernel) rfl ?_
  intro p l e s m args below meth c cA ad D A as M Q h C0
  have Z : ZX7_road p l e s m args below meth c cA ad D A := ⟨C0, flRX7_ok, mm_vt_of (mm_fa1 (mm_coV (n := 1) (ci := 7) C0 okX7_isRoad rfl rfl (mm_one_at (.methodLink RX7 110 yX7_isRoad) 582 (by decide +kernel) rfl) (wX7_isRoad _ (by simp)) (wX7_isRoad _ (by simp [yX7_isRoad])) (wX7_isRoad _ (by simp [yX7_isRoad])) (wX7_isRoad _ (by simp)) (by decide +kernel) (by omega) (by omega)) (mm_fa0)), mm_vt_of (mm_fa1 (mm_coS (n := 3) C0 okX7_within (mm_one_at (.methodLink RX7 47 yX7_within) 475 (by decide +kernel) rfl) (wX7_within _ (by simp)) (wX7_within _ (by simp [yX7_within])) (wX7_within _ (by simp)) (by decide +kernel) (by omega) (by omega)) (mm_fa0)), kX7_road_ok, mm_ctok_J ctRX7_ok⟩
  unfold fX7_road at h
  split at h
  · obtain ⟨hb, h⟩ := mm_chk_e h
    cases (Nat.eq_of_beq_eq_true hb)
    exact ⟨Nat.le_of_ble_eq_true rfl, mm_Zb Z 77 0 [] mm_fa0 h⟩
  · exact h.elim
def kX7_put : List mm_E := [(0, false, .aload_n 0, []), (1, false, .iload_n 1, []), (2, false, .invokevirtual 110, []), (5, false, .ifCond .ne 6, [11]), (8, false, .bipush (-101), []), (10, false, .ireturn, []), (11, false, .iload_n 2, []), (12, false, .iconst 0, []), (13, false, .iconst 2, []), (14, false, .invokestatic 47, []), (17, false, .ifCond .ne 6, [23]), (20, false, .bipush (-102), []), (22, false, .ireturn, []), (23, false, .aload_n 0, []), (24, false, .getfield 19, []), (27, false, .getfield 78, []), (30, false, .astore 4, []), (32, false, .iload_n 2, []), (33, false, .ifCond .ne 8, [41]), (36, false, .bipush 20, []), (38, false, .goto 15, [53]), (41, false, .iload_n 2, []), (42, false, .iconst 1, []), (43, false, .if_icmp .ne 8, [51]), (46, false, .bipush 9, []), (48, false, .goto 5, [53]), (51, false, .bipush 40, []), (53, true, .istore 5, []), (55, false, .iload_n 3, []), (56, false, .iconst 0, []), (57, false, .iload 5, []), (59, false, .invokestatic 47, []), (62, false, .ifCond .ne 6, [68]), (65, false, .bipush (-102), []), (67, false, .ireturn, []), (68, false, .iload_n 2, []), (69, false, .ifCond .ne 11, [80]), (72, false, .aload 4, []), (74, false, .getfield 123, []), (77, false, .goto 21, [98]), (80, false, .iload_n 2, []), (81, false, .iconst 1, []), (82, false, .if_icmp .ne 11, [93]), (85, false, .aload 4, []), (87, false, .getfield 126, []), (90, false, .goto 8, [98]), (93, false, .aload 4, []), (95, false, .getfield 129, []), (98, true, .astore 6, []), (100, false, .aload 6, []), (102, false, .iload_n 1, []), (103, false, .iaload, []), (104, false, .istore 7, []), (106, false, .aload 6, []), (108, false, .iload_n 1, []), (109, false, .iload_n 3, []), (110, false, .iastore, []), (111, false, .aload_n 0, []), (112, false, .getfield 19, []), (115, false, .invokevirtual 136, []), (118, false, .aload_n 0, []), (119, false, .getfield 26, []), (122, false, .iconst 0, []), (123, false, .putfield 74, []), (126, false, .iload 7, []), (128, false, .ireturn, [])]
set_option maxRecDepth 20000 in
theorem kX7_put_ok : mm_cok cX7_put RX7 (mm_ctt ctRX7) kX7_put := mm_c_of (k := false) ctRX7_ok (by decide +kernel)
set_option maxRecDepth 20000 in
theorem wX7_put : ∀ w ∈ ([.instanceMethod yX7_put, .selects RX7 yX7_put yX7_put, .initialized RX7, .code yX7_put cX7_put 8 (some .int)] : List Cond), w ∈ mm_tbl := mm_sub_at _ [587, 588, 104, 589] (by decide +kernel) (by decide +kernel)
def vtX7_put : List (Nat × Nat × Nat × mm_F) := [(110, 7, 2, fX7_isRoad), (136, 6, 1, fX6_priceRoads)]
def smX7_put : List (Nat × Nat × Nat × mm_F) := [(47, 0, 3, fX7_within)]
def ZX7_put (p : Program) (l : Launch) (e : Env) (s : State) (m : MethodId) (args : Array Value) (below : List Frame) (meth : Method) (c : Code) (cA : Nat → ClassId) (ad : Nat → Nat) (D : va_G) (A : Nat → Prop) : Prop := mm_Z p l e (mm_rm 2) s m args below meth c lay_c cA ad D A RX7 cX7_put 8 1 (mm_flt flRX7) (mm_clt (vtX7_put)) (mm_clt (smX7_put)) (mm_ctt ctRX7) kX7_put
def qX7_put_98 (P : Int → Int → Int → Nat → mm_M → Prop) : mm_K := fun ls st M => match ls, st with
  | [some (.inr (.inr c0)), some (.inl v1), _, some (.inl v3), some (.inr (.inr c4)), some (.inl v5), none, none], [.inr (.inr w0)] => mm_chk (Nat.beq c0 0 && Nat.beq c4 10) (P v1 v3 v5 w0 M)
  | _, _ => False
def qX7_put_53 (P : Int → Int → Int → Int → mm_M → Prop) : mm_K := fun ls st M => match ls, st with
  | [some (.inr (.inr c0)), some (.inl v1), some (.inl v2), some (.inl v3), some (.inr (.inr c4)), none, none, none], [.inl w0] => mm_chk (Nat.beq c0 0 && Nat.beq c4 10) (P v1 v2 v3 w0 M)
  | _, _ => False
theorem okX7_put_98 {p : Program} {l : Launch} {e : Env} {s : State} {m : MethodId} {args : Array Value} {below : List Frame} {meth : Method} {c : Code} {cA : Nat → ClassId} {ad : Nat → Nat} {D : va_G} {A : Nat → Prop} {Q : Option mm_V → mm_M → Prop} (Z : ZX7_put p l e s m args below meth c cA ad D A) : ∀ ls st M, qX7_put_98 (fun v1 v3 v5 w0 M => bX7_put_98 v1 v3 v5 w0 M (fun r M => Q (some (.inl r)) M)) ls st M → mm_G p l e (mm_rm 2) s m args below meth c lay_c cA ad D A 8 Q 98 ls st M := by
  intro ls st M h
  unfold qX7_put_98 at h
  split at h
  · obtain ⟨hb, h⟩ := mm_chk_e h
    simp only [Bool.and_eq_true] at hb
    obtain ⟨x0, x1⟩ := hb
    cases (Nat.eq_of_beq_eq_true x0)
    cases (Nat.eq_of_beq_eq_true x1)
    exact mm_Zb Z 69 98 [] mm_fa0 h
  · exact h.elim
theorem okX7_put_53 {p : Program} {l : Launch} {e : Env} {s : State} {m : MethodId} {args : Array Value} {below : List Frame} {meth : Method} {c : Code} {cA : Nat → ClassId} {ad : Nat → Nat} {D : va_G} {A : Nat → Prop} {Q : Option mm_V → mm_M → Prop} (Z : ZX7_put p l e s m args below meth c cA ad D A) : ∀ ls st M, qX7_put_53 (fun v1 v2 v3 w0 M => bX7_put_53 v1 v2 v3 w0 M (fun r M => Q (some (.inl r)) M)) ls st M → mm_G p l e (mm_rm 2) s m args below meth c lay_c cA ad D A 8 Q 53 ls st M := by
  intro ls st M h
  unfold qX7_put_53 at h
  split at h
  · obtain ⟨hb, h⟩ := mm_chk_e h
    simp only [Bool.and_eq_true] at hb
    obtain ⟨x0, x1⟩ := hb
    cases (Nat.eq_of_beq_eq_true x0)
    cases (Nat.eq_of_beq_eq_true x1)
    exact mm_Zb Z 69 53 [(98, qX7_put_98 (fun v1 v3 v5 w0 M => bX7_put_98 v1 v3 v5 w0 M (fun r M => Q (some (.inl r)) M)))] (mm_fa1 (fun ls st M h => okX7_put_98 Z  ls st M h) mm_fa0) h
  · exact h.elim
theorem okX7_put : mm_Ok lay_c yX7_put cX7_put 8 (some .int) 2 fX7_put := by
  refine mm_enter (rt := 1) (by decide +kernel) rfl ?_
  intro p l e s m args below meth c cA ad D A as M Q h C0
  have Z : ZX7_put p l e s m args below meth c cA ad D A := ⟨C0, flRX7_ok, mm_vt_of (mm_fa1 (mm_coV (n := 1) (ci := 7) C0 okX7_isRoad rfl rfl (mm_one_at (.methodLink RX7 110 yX7_isRoad) 582 (by decide +kernel) rfl) (wX7_isRoad _ (by simp)) (wX7_isRoad _ (by simp [yX7_isRoad])) (wX7_isRoad _ (by simp [yX7_isRoad])) (wX7_isRoad _ (by simp)) (by decide +kernel) (by omega) (by omega)) (mm_fa1 (mm_coV (n := 0) (ci := 6) C0 okX6_priceRoads rfl rfl (mm_one_at (.methodLink RX7 136 yX6_priceRoads) 590 (by decide +kernel) rfl) (wX6_priceRoads _ (by simp)) (wX6_priceRoads _ (by simp [yX6_priceRoads])) (wX6_priceRoads _ (by simp [yX6_priceRoads])) (wX6_priceRoads _ (by simp)) (by decide +kernel) (by omega) (by omega)) (mm_fa0))), mm_vt_of (mm_fa1 (mm_coS (n := 3) C0 okX7_within (mm_one_at (.methodLink RX7 47 yX7_within) 475 (by decide +kernel) rfl) (wX7_within _ (by simp)) (wX7_within _ (by simp [yX7_within])) (wX7_within _ (by simp)) (by decide +kernel) (by omega) (by omega)) (mm_fa0)), kX7_put_ok, mm_ctok_J ctRX7_ok⟩
  unfold fX7_put at h
  split at h
  · obtain ⟨hb, h⟩ := mm_chk_e h
    cases (Nat.eq_of_beq_eq_true hb)
    exact ⟨Nat.le_of_ble_eq_true rfl, mm_Zb Z 69 0 [(53, qX7_put_53 (fun v1 v2 v3 w0 M => bX7_put_53 v1 v2 v3 w0 M (fun r M => Q (some (.inl r)) M)))] (mm_fa1 (fun ls st M h => okX7_put_53 Z  ls st M h) mm_fa0) h⟩
  · exact h.elim
def kX7_mode : List mm_E := [(0, false, .iload_n 1, []), (1, false, .iconst 0, []), (2, false, .iconst 2, []), (3, false, .invokestatic 47, []), (6, false, .ifCond .ne 6, [12]), (9, false, .bipush (-102), []), (11, false, .ireturn, []), (12, false, .aload_n 0, []), (13, false, .getfield 19, []), (16, false, .getfield 92, []), (19, false, .istore_n 2, []), (20, false, .aload_n 0, []), (21, false, .getfield 19, []), (24, false, .iload_n 1, []), (25, false, .putfield 92, []), (28, false, .aload_n 0, []), (29, false, .getfield 19, []), (32, false, .invokevirtual 136, []), (35, false, .aload_n 0, []), (36, false, .getfield 26, []), (39, false, .iconst 0, []), (40, false, .putfield 74, []), (43, false, .iload_n 2, []), (44, false, .ireturn, [])]
set_option maxRecDepth 20000 in
theorem kX7_mode_ok : mm_cok cX7_mode RX7 (mm_ctt ctRX7) kX7_mode := mm_c_of (k := false) ctRX7_ok (by decide +kernel)
set_option maxRecDepth 20000 in
theorem wX7_mode : ∀ w ∈ ([.instanceMethod yX7_mode, .selects RX7 yX7_mode yX7_mode, .initialized RX7, .code yX7_mode cX7_mode 3 (some .int)] : List Cond), w ∈ mm_tbl := mm_sub_at _ [592, 593, 104, 594] (by decide +kernel) (by decide +kernel)
def vtX7_mode : List (Nat × Nat × Nat × mm_F) := [(136, 6, 1, fX6_priceRoads)]
def smX7_mode : List (Nat × Nat × Nat × mm_F) := [(47, 0, 3, fX7_within)]
def ZX7_mode (p : Program) (l : Launch) (e : Env) (s : State) (m : MethodId) (args : Array Value) (below : List Frame) (meth : Method) (c : Code) (cA : Nat → ClassId) (ad : Nat → Nat) (D : va_G) (A : Nat → Prop) : Prop := mm_Z p l e (mm_rm 1) s m args below meth c lay_c cA ad D A RX7 cX7_mode 3 1 (mm_flt flRX7) (mm_clt (vtX7_mode)) (mm_clt (smX7_mode)) (mm_ctt ctRX7) kX7_mode
theorem okX7_mode : mm_Ok lay_c yX7_mode cX7_mode 3 (some .int) 1 fX7_mode := by
  refine mm_enter (rt := 1) (by decide +kernel) rfl ?_
  intro p l e s m args below meth c cA ad D A as M Q h C0
  have Z : ZX7_mode p l e s m args below meth c cA ad D A := ⟨C0, flRX7_ok, mm_vt_of (mm_fa1 (mm_coV (n := 0) (ci := 6) C0 okX6_priceRoads rfl rfl (mm_one_at (.methodLink RX7 136 yX6_priceRoads) 590 (by decide +kernel) rfl) (wX6_priceRoads _ (by simp)) (wX6_priceRoads _ (by simp [yX6_priceRoads])) (wX6_priceRoads _ (by simp [yX6_priceRoads])) (wX6_priceRoads _ (by simp)) (by decide +kernel) (by omega) (by omega)) (mm_fa0)), mm_vt_of (mm_fa1 (mm_coS (n := 3) C0 okX7_within (mm_one_at (.methodLink RX7 47 yX7_within) 475 (by decide +kernel) rfl) (wX7_within _ (by simp)) (wX7_within _ (by simp [yX7_within])) (wX7_within _ (by simp)) (by decide +kernel) (by omega) (by omega)) (mm_fa0)), kX7_mode_ok, mm_ctok_J ctRX7_ok⟩
  unfold fX7_mode at h
  split at h
  · obtain ⟨hb, h⟩ := mm_chk_e h
    cases (Nat.eq_of_beq_eq_true hb)
    exact ⟨Nat.le_of_ble_eq_true rfl, mm_Zb Z 27 0 [] mm_fa0 h⟩
  · exact h.elim
def kX7_player : List mm_E := [(0, false, .aload_n 0, []), (1, false, .invokevirtual 86, []), (4, false, .ifCond .ne 6, [10]), (7, false, .bipush (-103), []), (9, false, .ireturn, []), (10, false, .aload_n 0, []), (11, false, .getfield 19, []), (14, false, .getfield 78, []), (17, false, .getfield 89, []), (20, false, .iconst 1, []), (21, false, .isub, []), (22, false, .istore_n 3, []), (23, false, .iload_n 1, []), (24, false, .iconst 0, []), (25, false, .iload_n 3, []), (26, false, .invokestatic 47, []), (29, false, .ifCond .eq 17, [46]), (32, false, .iload_n 2, []), (33, false, .iconst 0, []), (34, false, .iload_n 3, []), (35, false, .invokestatic 47, []), (38, false, .ifCond .eq 8, [46]), (41, false, .iload_n 1, []), (42, false, .iload_n 2, []), (43, false, .if_icmp .ne 6, [49]), (46, false, .bipush (-101), []), (48, false, .ireturn, []), (49, false, .aload_n 0, []), (50, false, .getfield 19, []), (53, false, .getfield 139, []), (56, false, .iconst 5, []), (57, false, .if_icmp .lt 6, [63]), (60, false, .bipush (-104), []), (62, false, .ireturn, []), (63, false, .aload_n 0, []), (64, false, .getfield 19, []), (67, false, .iload_n 1, []), (68, false, .iload_n 2, []), (69, false, .invokevirtual 140, []), (72, false, .ifCond .ne 6, [78]), (75, false, .bipush (-103), []), (77, false, .ireturn, []), (78, false, .aload_n 0, []), (79, false, .getfield 26, []), (82, false, .iconst 0, []), (83, false, .putfield 74, []), (86, false, .aload_n 0, []), (87, false, .dup, []), (88, false, .getfield 41, []), (91, false, .iconst 1, []), (92, false, .iadd, []), (93, false, .putfield 41, []), (96, false, .aload_n 0, []), (97, false, .getfield 19, []), (100, false, .getfield 139, []), (103, false, .iconst 1, []), (104, false, .isub, []), (105, false, .ireturn, [])]
set_option maxRecDepth 20000 in
theorem kX7_player_ok : mm_cok cX7_player RX7 (mm_ctt ctRX7) kX7_player := mm_c_of (k := false) ctRX7_ok (by decide +kernel)
set_option maxRecDepth 20000 in
theorem wX7_player : ∀ w ∈ ([.instanceMethod yX7_player, .selects RX7 yX7_player yX7_player, .initialized RX7, .code yX7_player cX7_player 4 (some .int)] : List Cond), w ∈ mm_tbl := mm_sub_at _ [596, 597, 104, 598] (by decide +kernel) (by decide +kernel)
def vtX7_player : List (Nat × Nat × Nat × mm_F) := [(86, 7, 1, fX7_hasNet), (140, 6, 3, fX6_admit)]
def smX7_player : List (Nat × Nat × Nat × mm_F) := [(47, 0, 3, fX7_within)]
def ZX7_player (p : Program) (l : Launch) (e : Env) (s : State) (m : MethodId) (args : Array Value) (below : List Frame) (meth : Method) (c : Code) (cA : Nat → ClassId) (ad : Nat → Nat) (D : va_G) (A : Nat → Prop) : Prop := mm_Z p l e (mm_rm 13) s m args below meth c lay_c cA ad D A RX7 cX7_player 4 1 (mm_flt flRX7) (mm_clt (vtX7_player)) (mm_clt (smX7_player)) (mm_ctt ctRX7) kX7_player
theorem okX7_player : mm_Ok lay_c yX7_player cX7_player 4 (some .int) 13 fX7_player := by
  refine mm_enter (rt := 1) (by decide +kernel) rfl ?_
  intro p l e s m args below meth c cA ad D A as M Q h C0
  have Z : ZX7_player p l e s m args below meth c cA ad D A := ⟨C0, flRX7_ok, mm_vt_of (mm_fa1 (mm_coV (n := 0) (ci := 7) C0 okX7_hasNet rfl rfl (mm_one_at (.methodLink RX7 86 yX7_hasNet) 543 (by decide +kernel) rfl) (wX7_hasNet _ (by simp)) (wX7_hasNet _ (by simp [yX7_hasNet])) (wX7_hasNet _ (by simp [yX7_hasNet])) (wX7_hasNet _ (by simp)) (by decide +kernel) (by omega) (by omega)) (mm_fa1 (mm_coV (n := 2) (ci := 6) C0 okX6_admit rfl rfl (mm_one_at (.methodLink RX7 140 yX6_admit) 599 (by decide +kernel) rfl) (wX6_admit _ (by simp)) (wX6_admit _ (by simp [yX6_admit])) (wX6_admit _ (by simp [yX6_admit])) (wX6_admit _ (by simp)) (by decide +kernel) (by omega) (by omega)) (mm_fa0))), mm_vt_of (mm_fa1 (mm_coS (n := 3) C0 okX7_within (mm_one_at (.methodLink RX7 47 yX7_within) 475 (by decide +kernel) rfl) (wX7_within _ (by simp)) (wX7_within _ (by simp [yX7_within])) (wX7_within _ (by simp)) (by decide +kernel) (by omega) (by omega)) (mm_fa0)), kX7_player_ok, mm_ctok_J ctRX7_ok⟩
  unfold fX7_player at h
  split at h
  · obtain ⟨hb, h⟩ := mm_chk_e h
    cases (Nat.eq_of_beq_eq_true hb)
    exact ⟨Nat.le_of_ble_eq_true rfl, mm_Zb Z 61 0 [] mm_fa0 h⟩
  · exact h.elim
def kX7_drop : List mm_E := [(0, false, .aload_n 0, []), (1, false, .getfield 19, []), (4, false, .getfield 139, []), (7, false, .ifCond .ne 6, [13]), (10, false, .bipush (-103), []), (12, false, .ireturn, []), (13, false, .aload_n 0, []), (14, false, .getfield 19, []), (17, false, .invokevirtual 144, []), (20, false, .aload_n 0, []), (21, false, .getfield 26, []), (24, false, .iconst 0, []), (25, false, .putfield 74, []), (28, false, .aload_n 0, []), (29, false, .getfield 19, []), (32, false, .getfield 139, []), (35, false, .ireturn, [])]
set_option maxRecDepth 20000 in
theorem kX7_drop_ok : mm_cok cX7_drop RX7 (mm_ctt ctRX7) kX7_drop := mm_c_of (k := false) ctRX7_ok (by decide +kernel)
set_option maxRecDepth 20000 in
theorem wX7_drop : ∀ w ∈ ([.instanceMethod yX7_drop, .selects RX7 yX7_drop yX7_drop, .initialized RX7, .code yX7_drop cX7_drop 1 (some .int)] : List Cond), w ∈ mm_tbl := mm_sub_at _ [623, 624, 104, 625] (by decide +kernel) (by decide +kernel)
def vtX7_drop : List (Nat × Nat × Nat × mm_F) := [(144, 6, 1, fX6_dismissLast)]
def smX7_drop : List (Nat × Nat × Nat × mm_F) := []
def ZX7_drop (p : Program) (l : Launch) (e : Env) (s : State) (m : MethodId) (args : Array Value) (below : List Frame) (meth : Method) (c : Code) (cA : Nat → ClassId) (ad : Nat → Nat) (D : va_G) (A : Nat → Prop) : Prop := mm_Z p l e (mm_rm 2) s m args below meth c lay_c cA ad D A RX7 cX7_drop 1 1 (mm_flt flRX7) (mm_clt (vtX7_drop)) (mm_clt (smX7_drop)) (mm_ctt ctRX7) kX7_drop
theorem okX7_drop : mm_Ok lay_c yX7_drop cX7_drop 1 (some .int) 2 fX7_drop := by
  refine mm_enter (rt := 1) (by decide +kernel) rfl ?_
  intro p l e s m args below meth c cA ad D A as M Q h C0
  have Z : ZX7_drop p l e s m args below meth c cA ad D A := ⟨C0, flRX7_ok, mm_vt_of (mm_fa1 (mm_coV (n := 0) (ci := 6) C0 okX6_dismissLast rfl rfl (mm_one_at (.methodLink RX7 144 yX6_dismissLast) 626 (by decide +kernel) rfl) (wX6_dismissLast _ (by simp)) (wX6_dismissLast _ (by simp [yX6_dismissLast])) (wX6_dismissLast _ (by simp [yX6_dismissLast])) (wX6_dismissLast _ (by simp)) (by decide +kernel) (by omega) (by omega)) (mm_fa0)), mm_vt_of (mm_fa0), kX7_drop_ok, mm_ctok_J ctRX7_ok⟩
  unfold fX7_drop at h
  split at h
  · obtain ⟨hb, h⟩ := mm_chk_e h
    cases (Nat.eq_of_beq_eq_true hb)
    exact ⟨Nat.le_of_ble_eq_true rfl, mm_Zb Z 20 0 [] mm_fa0 h⟩
  · exact h.elim
def kX7_isPlayer : List mm_E := [(0, false, .iload_n 1, []), (1, false, .iconst 0, []), (2, false, .aload_n 0, []), (3, false, .getfield 19, []), (6, false, .getfield 139, []), (9, false, .iconst 1, []), (10, false, .isub, []), (11, false, .invokestatic 47, []), (14, false, .ireturn, [])]
set_option maxRecDepth 20000 in
theorem kX7_isPlayer_ok : mm_cok cX7_isPlayer RX7 (mm_ctt ctRX7) kX7_isPlayer := mm_c_of (k := false) ctRX7_ok (by decide +kernel)
set_option maxRecDepth 20000 in
theorem wX7_isPlayer : ∀ w ∈ ([.instanceMethod yX7_isPlayer, .selects RX7 yX7_isPlayer yX7_isPlayer, .initialized RX7, .code yX7_isPlayer cX7_isPlayer 2 (some .boolean)] : List Cond), w ∈ mm_tbl := mm_sub_at _ [636, 11, 104, 637] (by decide +kernel) (by decide +kernel)
def vtX7_isPlayer : List (Nat × Nat × Nat × mm_F) := []
def smX7_isPlayer : List (Nat × Nat × Nat × mm_F) := [(47, 0, 3, fX7_within)]
def ZX7_isPlayer (p : Program) (l : Launch) (e : Env) (s : State) (m : MethodId) (args : Array Value) (below : List Frame) (meth : Method) (c : Code) (cA : Nat → ClassId) (ad : Nat → Nat) (D : va_G) (A : Nat → Prop) : Prop := mm_Z p l e (mm_rm 1) s m args below meth c lay_c cA ad D A RX7 cX7_isPlayer 2 2 (mm_flt flRX7) (mm_clt (vtX7_isPlayer)) (mm_clt (smX7_isPlayer)) (mm_ctt ctRX7) kX7_isPlayer
theorem okX7_isPlayer : mm_Ok lay_c yX7_isPlayer cX7_isPlayer 2 (some .boolean) 1 fX7_isPlayer := by
  refine mm_enter (rt := 2) (by decide +kernel) rfl ?_
  intro p l e s m args below meth c cA ad D A as M Q h C0
  have Z : ZX7_isPlayer p l e s m args below meth c cA ad D A := ⟨C0, flRX7_ok, mm_vt_of (mm_fa0), mm_vt_of (mm_fa1 (mm_coS (n := 3) C0 okX7_within (mm_one_at (.methodLink RX7 47 yX7_within) 475 (by decide +kernel) rfl) (wX7_within _ (by simp)) (wX7_within _ (by simp [yX7_within])) (wX7_within _ (by simp)) (by decide +kernel) (by omega) (by omega)) (mm_fa0)), kX7_isPlayer_ok, mm_ctok_J ctRX7_ok⟩
  unfold fX7_isPlayer at h
  split at h
  · obtain ⟨hb, h⟩ := mm_chk_e h
    cases (Nat.eq_of_beq_eq_true hb)
    exact ⟨Nat.le_of_ble_eq_true rfl, mm_Zb Z 12 0 [] mm_fa0 h⟩
  · exact h.elim
def kX7_who : List mm_E := [(0, false, .aload_n 0, []), (1, false, .iload_n 1, []), (2, false, .invokevirtual 147, []), (5, false, .ifCond .ne 6, [11]), (8, false, .bipush (-101), []), (10, false, .ireturn, []), (11, false, .iload_n 2, []), (12, false, .iconst 0, []), (13, false, .bipush 6, []), (15, false, .invokestatic 47, []), (18, false, .ifCond .ne 6, [24]), (21, false, .bipush (-102), []), (23, false, .ireturn, []), (24, false, .aload_n 0, []), (25, false, .getfield 19, []), (28, false, .getfield 150, []), (31, false, .iload_n 1, []), (32, false, .aaload, []), (33, false, .astore_n 3, []), (34, false, .iload_n 2, []), (35, false, .tableswitch 79 0 5 #[37, 42, 47, 52, 57, 70], [114, 72, 77, 82, 87, 92, 105]), (72, false, .aload_n 3, []), (73, false, .getfield 154, []), (76, false, .ireturn, []), (77, false, .aload_n 3, []), (78, false, .getfield 158, []), (81, false, .ireturn, []), (82, false, .aload_n 3, []), (83, false, .getfield 160, []), (86, false, .ireturn, []), (87, false, .aload_n 3, []), (88, false, .getfield 163, []), (91, false, .ireturn, []), (92, false, .aload_n 0, []), (93, false, .getfield 19, []), (96, false, .aload_n 3, []), (97, false, .aload_n 3, []), (98, false, .getfield 163, []), (101, false, .invokevirtual 166, []), (104, false, .ireturn, []), (105, false, .aload_n 0, []), (106, false, .getfield 19, []), (109, false, .aload_n 3, []), (110, false, .invokevirtual 170, []), (113, false, .ireturn, []), (114, false, .aload_n 0, []), (115, false, .getfield 19, []), (118, false, .aload_n 3, []), (119, false, .aload_n 0, []), (120, false, .getfield 19, []), (123, false, .aload_n 3, []), (124, false, .invokevirtual 170, []), (127, false, .invokevirtual 166, []), (130, false, .ireturn, [])]
set_option maxRecDepth 20000 in
theorem kX7_who_ok : mm_cok cX7_who RX7 (mm_ctt ctRX7) kX7_who := mm_c_of (k := false) ctRX7_ok (by decide +kernel)
set_option maxRecDepth 20000 in
theorem wX7_who : ∀ w ∈ ([.instanceMethod yX7_who, .selects RX7 yX7_who yX7_who, .initialized RX7, .code yX7_who cX7_who 4 (some .int)] : List Cond), w ∈ mm_tbl := mm_sub_at _ [631, 632, 104, 633] (by decide +kernel) (by decide +kernel)
def vtX7_who : List (Nat × Nat × Nat × mm_F) := [(147, 7, 2, fX7_isPlayer), (170, 6, 2, fX6_bestWayOf), (166, 6, 3, fX6_payBy)]
def smX7_who : List (Nat × Nat × Nat × mm_F) := [(47, 0, 3, fX7_within)]
def ZX7_who (p : Program) (l : Launch) (e : Env) (s : State) (m : MethodId) (args : Array Value) (below : List Frame) (meth : Method) (c : Code) (cA : Nat → ClassId) (ad : Nat → Nat) (D : va_G) (A : Nat → Prop) : Prop := mm_Z p l e (mm_rm 2) s m args below meth c lay_c cA ad D A RX7 cX7_who 4 1 (mm_flt flRX7) (mm_clt (vtX7_who)) (mm_clt (smX7_who)) (mm_ctt ctRX7) kX7_who
theorem okX7_who : mm_Ok lay_c yX7_who cX7_who 4 (some .int) 2 fX7_who := by
  refine mm_enter (rt := 1) (by decide +kernel) rfl ?_
  intro p l e s m args below meth c cA ad D A as M Q h C0
  have Z : ZX7_who p l e s m args below meth c cA ad D A := ⟨C0, flRX7_ok, mm_vt_of (mm_fa1 (mm_coV (n := 1) (ci := 7) C0 okX7_isPlayer rfl rfl (mm_one_at (.methodLink RX7 147 yX7_isPlayer) 634 (by decide +kernel) rfl) (wX7_isPlayer _ (by simp)) (wX7_isPlayer _ (by simp [yX7_isPlayer])) (wX7_isPlayer _ (by simp [yX7_isPlayer])) (wX7_isPlayer _ (by simp)) (by decide +kernel) (by omega) (by omega)) (mm_fa1 (mm_coV (n := 1) (ci := 6) C0 okX6_bestWayOf rfl rfl (mm_one_at (.methodLink RX7 170 yX6_bestWayOf) 639 (by decide +kernel) rfl) (wX6_bestWayOf _ (by simp)) (wX6_bestWayOf _ (by simp [yX6_bestWayOf])) (wX6_bestWayOf _ (by simp [yX6_bestWayOf])) (wX6_bestWayOf _ (by simp)) (by decide +kernel) (by omega) (by omega)) (mm_fa1 (mm_coV (n := 2) (ci := 6) C0 okX6_payBy rfl rfl (mm_one_at (.methodLink RX7 166 yX6_payBy) 638 (by decide +kernel) rfl) (wX6_payBy _ (by simp)) (wX6_payBy _ (by simp [yX6_payBy])) (wX6_payBy _ (by simp [yX6_payBy])) (wX6_payBy _ (by simp)) (by decide +kernel) (by omega) (by omega)) (mm_fa0)))), mm_vt_of (mm_fa1 (mm_coS (n := 3) C0 okX7_within (mm_one_at (.methodLink RX7 47 yX7_within) 475 (by decide +kernel) rfl) (wX7_within _ (by simp)) (wX7_within _ (by simp [yX7_within])) (wX7_within _ (by simp)) (by decide +kernel) (by omega) (by omega)) (mm_fa0)), kX7_who_ok, mm_ctok_J ctRX7_ok⟩
  unfold fX7_who at h
  split at h
  · obtain ⟨hb, h⟩ := mm_chk_e h
    cases (Nat.eq_of_beq_eq_true hb)
    exact ⟨Nat.le_of_ble_eq_true rfl, mm_Zb Z 57 0 [] mm_fa0 h⟩
  · exact h.elim
def kX7_isWay : List mm_E := [(0, false, .aload_n 0, []), (1, false, .iload_n 1, []), (2, false, .invokevirtual 147, []), (5, false, .ifCond .eq 29, [34]), (8, false, .iload_n 2, []), (9, false, .iconst 0, []), (10, false, .aload_n 0, []), (11, false, .getfield 19, []), (14, false, .getfield 150, []), (17, false, .iload_n 1, []), (18, false, .aaload, []), (19, false, .getfield 160, []), (22, false, .iconst 1, []), (23, false, .isub, []), (24, false, .invokestatic 47, []), (27, false, .ifCond .eq 7, [34]), (30, false, .iconst 1, []), (31, false, .goto 4, [35]), (34, false, .iconst 0, []), (35, false, .ireturn, [])]
set_option maxRecDepth 20000 in
theorem kX7_isWay_ok : mm_cok cX7_isWay RX7 (mm_ctt ctRX7) kX7_isWay := mm_c_of (k := false) ctRX7_ok (by decide +kernel)
set_option maxRecDepth 20000 in
theorem wX7_isWay : ∀ w ∈ ([.instanceMethod yX7_isWay, .selects RX7 yX7_isWay yX7_isWay, .initialized RX7, .code yX7_isWay cX7_isWay 3 (some .boolean)] : List Cond), w ∈ mm_tbl := mm_sub_at _ [646, 12, 104, 647] (by decide +kernel) (by decide +kernel)
def vtX7_isWay : List (Nat × Nat × Nat × mm_F) := [(147, 7, 2, fX7_isPlayer)]
def smX7_isWay : List (Nat × Nat × Nat × mm_F) := [(47, 0, 3, fX7_within)]
def ZX7_isWay (p : Program) (l : Launch) (e : Env) (s : State) (m : MethodId) (args : Array Value) (below : List Frame) (meth : Method) (c : Code) (cA : Nat → ClassId) (ad : Nat → Nat) (D : va_G) (A : Nat → Prop) : Prop := mm_Z p l e (mm_rm 2) s m args below meth c lay_c cA ad D A RX7 cX7_isWay 3 2 (mm_flt flRX7) (mm_clt (vtX7_isWay)) (mm_clt (smX7_isWay)) (mm_ctt ctRX7) kX7_isWay
theorem okX7_isWay : mm_Ok lay_c yX7_isWay cX7_isWay 3 (some .boolean) 2 fX7_isWay := by
  refine mm_enter (rt := 2) (by decide +kernel) rfl ?_
  intro p l e s m args below meth c cA ad D A as M Q h C0
  have Z : ZX7_isWay p l e s m args below meth c cA ad D A := ⟨C0, flRX7_ok, mm_vt_of (mm_fa1 (mm_coV (n := 1) (ci := 7) C0 okX7_isPlayer rfl rfl (mm_one_at (.methodLink RX7 147 yX7_isPlayer) 634 (by decide +kernel) rfl) (wX7_isPlayer _ (by simp)) (wX7_isPlayer _ (by simp [yX7_isPlayer])) (wX7_isPlayer _ (by simp [yX7_isPlayer])) (wX7_isPlayer _ (by simp)) (by decide +kernel) (by omega) (by omega)) (mm_fa0)), mm_vt_of (mm_fa1 (mm_coS (n := 3) C0 okX7_within (mm_one_at (.methodLink RX7 47 yX7_within) 475 (by decide +kernel) rfl) (wX7_within _ (by simp)) (wX7_within _ (by simp [yX7_within])) (wX7_within _ (by simp)) (by decide +kernel) (by omega) (by omega)) (mm_fa0)), kX7_isWay_ok, mm_ctok_J ctRX7_ok⟩
  unfold fX7_isWay at h
  split at h
  · obtain ⟨hb, h⟩ := mm_chk_e h
    cases (Nat.eq_of_beq_eq_true hb)
    exact ⟨Nat.le_of_ble_eq_true rfl, mm_Zb Z 23 0 [] mm_fa0 h⟩
  · exact h.elim
def kX7_way : List mm_E := [(0, false, .aload_n 0, []), (1, false, .iload_n 1, []), (2, false, .iload_n 2, []), (3, false, .invokevirtual 174, []), (6, false, .ifCond .ne 6, [12]), (9, false, .bipush (-101), []), (11, false, .ireturn, []), (12, false, .aload_n 0, []), (13, false, .getfield 19, []), (16, false, .getfield 150, []), (19, false, .iload_n 1, []), (20, false, .aaload, []), (21, false, .astore 4, []), (23, false, .iload_n 3, []), (24, false, .iconst 0, []), (25, false, .aload 4, []), (27, false, .getfield 177, []), (30, false, .iload_n 2, []), (31, false, .iaload, []), (32, false, .iconst 1, []), (33, false, .isub, []), (34, false, .invokestatic 47, []), (37, false, .ifCond .ne 6, [43]), (40, false, .bipush (-101), []), (42, false, .ireturn, []), (43, false, .aload 4, []), (45, false, .getfield 180, []), (48, false, .iload_n 2, []), (49, false, .aaload, []), (50, false, .iload_n 3, []), (51, false, .iaload, []), (52, false, .ireturn, [])]
set_option maxRecDepth 20000 in
theorem kX7_way_ok : mm_cok cX7_way RX7 (mm_ctt ctRX7) kX7_way := mm_c_of (k := false) ctRX7_ok (by decide +kernel)
set_option maxRecDepth 20000 in
theorem wX7_way : ∀ w ∈ ([.instanceMethod yX7_way, .selects RX7 yX7_way yX7_way, .initialized RX7, .code yX7_way cX7_way 5 (some .int)] : List Cond), w ∈ mm_tbl := mm_sub_at _ [641, 642, 104, 643] (by decide +kernel) (by decide +kernel)
def vtX7_way : List (Nat × Nat × Nat × mm_F) := [(174, 7, 3, fX7_isWay)]
def smX7_way : List (Nat × Nat × Nat × mm_F) := [(47, 0, 3, fX7_within)]
def ZX7_way (p : Program) (l : Launch) (e : Env) (s : State) (m : MethodId) (args : Array Value) (below : List Frame) (meth : Method) (c : Code) (cA : Nat → ClassId) (ad : Nat → Nat) (D : va_G) (A : Nat → Prop) : Prop := mm_Z p l e (mm_rm 3) s m args below meth c lay_c cA ad D A RX7 cX7_way 5 1 (mm_flt flRX7) (mm_clt (vtX7_way)) (mm_clt (smX7_way)) (mm_ctt ctRX7) kX7_way
theorem okX7_way : mm_Ok lay_c yX7_way cX7_way 5 (some .int) 3 fX7_way := by
  refine mm_enter (rt := 1) (by decide +kernel) rfl ?_
  intro p l e s m args below meth c cA ad D A as M Q h C0
  have Z : ZX7_way p l e s m args below meth c cA ad D A := ⟨C0, flRX7_ok, mm_vt_of (mm_fa1 (mm_coV (n := 2) (ci := 7) C0 okX7_isWay rfl rfl (mm_one_at (.methodLink RX7 174 yX7_isWay) 644 (by decide +kernel) rfl) (wX7_isWay _ (by simp)) (wX7_isWay _ (by simp [yX7_isWay])) (wX7_isWay _ (by simp [yX7_isWay])) (wX7_isWay _ (by simp)) (by decide +kernel) (by omega) (by omega)) (mm_fa0)), mm_vt_of (mm_fa1 (mm_coS (n := 3) C0 okX7_within (mm_one_at (.methodLink RX7 47 yX7_within) 475 (by decide +kernel) rfl) (wX7_within _ (by simp)) (wX7_within _ (by simp [yX7_within])) (wX7_within _ (by simp)) (by decide +kernel) (by omega) (by omega)) (mm_fa0)), kX7_way_ok, mm_ctok_J ctRX7_ok⟩
  unfold fX7_way at h
  split at h
  · obtain ⟨hb, h⟩ := mm_chk_e h
    cases (Nat.eq_of_beq_eq_true hb)
    exact ⟨Nat.le_of_ble_eq_true rfl, mm_Zb Z 35 0 [] mm_fa0 h⟩
  · exact h.elim
def kX7_pay : List mm_E := [(0, false, .aload_n 0, []), (1, false, .iload_n 1, []), (2, false, .iload_n 2, []), (3, false, .invokevirtual 174, []), (6, false, .ifCond .ne 6, [12]), (9, false, .bipush (-101), []), (11, false, .ireturn, []), (12, false, .aload_n 0, []), (13, false, .getfield 19, []), (16, false, .aload_n 0, []), (17, false, .getfield 19, []), (20, false, .getfield 150, []), (23, false, .iload_n 1, []), (24, false, .aaload, []), (25, false, .iload_n 2, []), (26, false, .invokevirtual 166, []), (29, false, .ireturn, [])]
set_option maxRecDepth 20000 in
theorem kX7_pay_ok : mm_cok cX7_pay RX7 (mm_ctt ctRX7) kX7_pay := mm_c_of (k := false) ctRX7_ok (by decide +kernel)
set_option maxRecDepth 20000 in
theorem wX7_pay : ∀ w ∈ ([.instanceMethod yX7_pay, .selects RX7 yX7_pay yX7_pay, .initialized RX7, .code yX7_pay cX7_pay 3 (some .int)] : List Cond), w ∈ mm_tbl := mm_sub_at _ [649, 650, 104, 651] (by decide +kernel) (by decide +kernel)
def vtX7_pay : List (Nat × Nat × Nat × mm_F) := [(174, 7, 3, fX7_isWay), (166, 6, 3, fX6_payBy)]
def smX7_pay : List (Nat × Nat × Nat × mm_F) := []
def ZX7_pay (p : Program) (l : Launch) (e : Env) (s : State) (m : MethodId) (args : Array Value) (below : List Frame) (meth : Method) (c : Code) (cA : Nat → ClassId) (ad : Nat → Nat) (D : va_G) (A : Nat → Prop) : Prop := mm_Z p l e (mm_rm 3) s m args below meth c lay_c cA ad D A RX7 cX7_pay 3 1 (mm_flt flRX7) (mm_clt (vtX7_pay)) (mm_clt (smX7_pay)) (mm_ctt ctRX7) kX7_pay
theorem okX7_pay : mm_Ok lay_c yX7_pay cX7_pay 3 (some .int) 3 fX7_pay := by
  refine mm_enter (rt := 1) (by decide +kernel) rfl ?_
  intro p l e s m args below meth c cA ad D A as M Q h C0
  have Z : ZX7_pay p l e s m args below meth c cA ad D A := ⟨C0, flRX7_ok, mm_vt_of (mm_fa1 (mm_coV (n := 2) (ci := 7) C0 okX7_isWay rfl rfl (mm_one_at (.methodLink RX7 174 yX7_isWay) 644 (by decide +kernel) rfl) (wX7_isWay _ (by simp)) (wX7_isWay _ (by simp [yX7_isWay])) (wX7_isWay _ (by simp [yX7_isWay])) (wX7_isWay _ (by simp)) (by decide +kernel) (by omega) (by omega)) (mm_fa1 (mm_coV (n := 2) (ci := 6) C0 okX6_payBy rfl rfl (mm_one_at (.methodLink RX7 166 yX6_payBy) 638 (by decide +kernel) rfl) (wX6_payBy _ (by simp)) (wX6_payBy _ (by simp [yX6_payBy])) (wX6_payBy _ (by simp [yX6_payBy])) (wX6_payBy _ (by simp)) (by decide +kernel) (by omega) (by omega)) (mm_fa0))), mm_vt_of (mm_fa0), kX7_pay_ok, mm_ctok_J ctRX7_ok⟩
  unfold fX7_pay at h
  split at h
  · obtain ⟨hb, h⟩ := mm_chk_e h
    cases (Nat.eq_of_beq_eq_true hb)
    exact ⟨Nat.le_of_ble_eq_true rfl, mm_Zb Z 20 0 [] mm_fa0 h⟩
  · exact h.elim
def kX7_set : List mm_E := [(0, false, .aload_n 0, []), (1, false, .iload_n 1, []), (2, false, .iload_n 2, []), (3, false, .invokevirtual 174, []), (6, false, .ifCond .ne 6, [12]), (9, false, .bipush (-101), []), (11, false, .ireturn, []), (12, false, .aload_n 0, []), (13, false, .getfield 19, []), (16, false, .getfield 150, []), (19, false, .iload_n 1, []), (20, false, .aaload, []), (21, false, .astore_n 3, []), (22, false, .aload_n 3, []), (23, false, .getfield 163, []), (26, false, .istore 4, []), (28, false, .aload_n 0, []), (29, false, .getfield 19, []), (32, false, .aload_n 3, []), (33, false, .iload_n 2, []), (34, false, .invokevirtual 182, []), (37, false, .iload 4, []), (39, false, .ireturn, [])]
set_option maxRecDepth 20000 in
theorem kX7_set_ok : mm_cok cX7_set RX7 (mm_ctt ctRX7) kX7_set := mm_c_of (k := false) ctRX7_ok (by decide +kernel)
set_option maxRecDepth 20000 in
theorem wX7_set : ∀ w ∈ ([.instanceMethod yX7_set, .selects RX7 yX7_set yX7_set, .initialized RX7, .code yX7_set cX7_set 5 (some .int)] : List Cond), w ∈ mm_tbl := mm_sub_at _ [653, 654, 104, 655] (by decide +kernel) (by decide +kernel)
def vtX7_set : List (Nat × Nat × Nat × mm_F) := [(174, 7, 3, fX7_isWay), (182, 6, 3, fX6_moveTo)]
def smX7_set : List (Nat × Nat × Nat × mm_F) := []
def ZX7_set (p : Program) (l : Launch) (e : Env) (s : State) (m : MethodId) (args : Array Value) (below : List Frame) (meth : Method) (c : Code) (cA : Nat → ClassId) (ad : Nat → Nat) (D : va_G) (A : Nat → Prop) : Prop := mm_Z p l e (mm_rm 3) s m args below meth c lay_c cA ad D A RX7 cX7_set 5 1 (mm_flt flRX7) (mm_clt (vtX7_set)) (mm_clt (smX7_set)) (mm_ctt ctRX7) kX7_set
theorem okX7_set : mm_Ok lay_c yX7_set cX7_set 5 (some .int) 3 fX7_set := by
  refine mm_enter (rt := 1) (by decide +kernel) rfl ?_
  intro p l e s m args below meth c cA ad D A as M Q h C0
  have Z : ZX7_set p l e s m args below meth c cA ad D A := ⟨C0, flRX7_ok, mm_vt_of (mm_fa1 (mm_coV (n := 2) (ci := 7) C0 okX7_isWay rfl rfl (mm_one_at (.methodLink RX7 174 yX7_isWay) 644 (by decide +kernel) rfl) (wX7_isWay _ (by simp)) (wX7_isWay _ (by simp [yX7_isWay])) (wX7_isWay _ (by simp [yX7_isWay])) (wX7_isWay _ (by simp)) (by decide +kernel) (by omega) (by omega)) (mm_fa1 (mm_coV (n := 2) (ci := 6) C0 okX6_moveTo rfl rfl (mm_one_at (.methodLink RX7 182 yX6_moveTo) 656 (by decide +kernel) rfl) (wX6_moveTo _ (by simp)) (wX6_moveTo _ (by simp [yX6_moveTo])) (wX6_moveTo _ (by simp [yX6_moveTo])) (wX6_moveTo _ (by simp)) (by decide +kernel) (by omega) (by omega)) (mm_fa0))), mm_vt_of (mm_fa0), kX7_set_ok, mm_ctok_J ctRX7_ok⟩
  unfold fX7_set at h
  split at h
  · obtain ⟨hb, h⟩ := mm_chk_e h
    cases (Nat.eq_of_beq_eq_true hb)
    exact ⟨Nat.le_of_ble_eq_true rfl, mm_Zb Z 26 0 [] mm_fa0 h⟩
  · exact h.elim
