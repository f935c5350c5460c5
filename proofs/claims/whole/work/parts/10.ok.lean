def kX6_setsInAll : List mm_E := [(0, false, .iconst 1, []), (1, false, .istore_n 1, []), (2, false, .iconst 0, []), (3, false, .istore_n 2, []), (4, true, .iload_n 2, []), (5, false, .aload_n 0, []), (6, false, .getfield 41, []), (9, false, .if_icmp .ge 21, [30]), (12, false, .iload_n 1, []), (13, false, .aload_n 0, []), (14, false, .getfield 20, []), (17, false, .iload_n 2, []), (18, false, .aaload, []), (19, false, .getfield 72, []), (22, false, .imul, []), (23, false, .istore_n 1, []), (24, false, .iinc 2 1, []), (27, false, .goto (-23), [4]), (30, false, .iload_n 1, []), (31, false, .ireturn, [])]
set_option maxRecDepth 20000 in
theorem kX6_setsInAll_ok : mm_cok cX6_setsInAll RX6 (mm_ctt ctRX6) kX6_setsInAll := mm_c_of (k := true) ctRX6_ok (by decide +kernel)
set_option maxRecDepth 20000 in
theorem wX6_setsInAll : ∀ w ∈ ([.instanceMethod yX6_setsInAll, .selects RX6 yX6_setsInAll yX6_setsInAll, .initialized RX6, .code yX6_setsInAll cX6_setsInAll 3 (some .int)] : List Cond), w ∈ mm_tbl := mm_sub_at _ [568, 569, 107, 570] (by decide +kernel) (by decide +kernel)
def vtX6_setsInAll : List (Nat × Nat × Nat × mm_F) := []
def smX6_setsInAll : List (Nat × Nat × Nat × mm_F) := []
def ZX6_setsInAll (p : Program) (l : Launch) (e : Env) (s : State) (m : MethodId) (args : Array Value) (below : List Frame) (meth : Method) (c : Code) (cA : Nat → ClassId) (ad : Nat → Nat) (D : va_G) (A : Nat → Prop) : Prop := mm_Z p l e (mm_rm 0) s m args below meth c lay_c cA ad D A RX6 cX6_setsInAll 3 1 (mm_flt flRX6) (mm_clt (vtX6_setsInAll)) (mm_clt (smX6_setsInAll)) (mm_ctt ctRX6) kX6_setsInAll
def qX6_setsInAll_4 (P : Int → Int → mm_M → Prop) : mm_K := fun ls st M => match ls, st with
  | [some (.inr (.inr c0)), some (.inl v1), some (.inl v2)], [] => mm_chk (Nat.beq c0 9) (P v1 v2 M)
  | _, _ => False
theorem okX6_setsInAll_4 {p : Program} {l : Launch} {e : Env} {s : State} {m : MethodId} {args : Array Value} {below : List Frame} {meth : Method} {c : Code} {cA : Nat → ClassId} {ad : Nat → Nat} {D : va_G} {A : Nat → Prop} {Q : Option mm_V → mm_M → Prop} (Z : ZX6_setsInAll p l e s m args below meth c cA ad D A) : ∀ (n : Nat) ls st M, qX6_setsInAll_4 (fun v1 v2 M => bX6_setsInAll_4 n v1 v2 M (fun r M => Q (some (.inl r)) M)) ls st M → mm_G p l e (mm_rm 0) s m args below meth c lay_c cA ad D A 3 Q 4 ls st M
  | 0, ls, st, M, h => by
    unfold qX6_setsInAll_4 at h
    split at h
    · obtain ⟨hb, h⟩ := mm_chk_e h
      cases (Nat.eq_of_beq_eq_true hb)
      exact h.elim
    · exact h.elim
  | n + 1, ls, st, M, h => by
    have ih := okX6_setsInAll_4 (Q := Q) Z  n
    unfold qX6_setsInAll_4 at h
    split at h
    · obtain ⟨hb, h⟩ := mm_chk_e h
      cases (Nat.eq_of_beq_eq_true hb)
      exact mm_Zb Z 23 4 [(4, qX6_setsInAll_4 (fun v1 v2 M => bX6_setsInAll_4 n v1 v2 M (fun r M => Q (some (.inl r)) M)))] (mm_fa1 ih mm_fa0) h
    · exact h.elim
theorem okX6_setsInAll_4x {p : Program} {l : Launch} {e : Env} {s : State} {m : MethodId} {args : Array Value} {below : List Frame} {meth : Method} {c : Code} {cA : Nat → ClassId} {ad : Nat → Nat} {D : va_G} {A : Nat → Prop} {Q : Option mm_V → mm_M → Prop} (Z : ZX6_setsInAll p l e s m args below meth c cA ad D A) : ∀ ls st M, qX6_setsInAll_4 (fun v1 v2 M => ∃ j, bX6_setsInAll_4 j v1 v2 M (fun r M => Q (some (.inl r)) M)) ls st M → mm_G p l e (mm_rm 0) s m args below meth c lay_c cA ad D A 3 Q 4 ls st M := by
  intro ls st M h
  have hex : ∃ n, qX6_setsInAll_4 (fun v1 v2 M => bX6_setsInAll_4 n v1 v2 M (fun r M => Q (some (.inl r)) M)) ls st M := by
    unfold qX6_setsInAll_4 at h
    split at h
    · obtain ⟨hb, h⟩ := mm_chk_e h
      cases (Nat.eq_of_beq_eq_true hb)
      obtain ⟨n, h⟩ := h
      exact ⟨n, h⟩
    · exact h.elim
  obtain ⟨n, hex⟩ := hex
  exact okX6_setsInAll_4 Z  n ls st M hex
theorem okX6_setsInAll : mm_Ok lay_c yX6_setsInAll cX6_setsInAll 3 (some .int) 0 fX6_setsInAll := by
  refine mm_enter (rt := 1) (by decide +kernel) rfl ?_
  intro p l e s m args below meth c cA ad D A as M Q h C0
  have Z : ZX6_setsInAll p l e s m args below meth c cA ad D A := ⟨C0, flRX6_ok, mm_vt_of (mm_fa0), mm_vt_of (mm_fa0), kX6_setsInAll_ok, mm_ctok_I ctRX6_ok⟩
  unfold fX6_setsInAll at h
  split at h
  · obtain ⟨hb, h⟩ := mm_chk_e h
    cases (Nat.eq_of_beq_eq_true hb)
    exact ⟨Nat.le_of_ble_eq_true rfl, mm_Zb Z 23 0 [(4, qX6_setsInAll_4 (fun v1 v2 M => ∃ j, bX6_setsInAll_4 j v1 v2 M (fun r M => Q (some (.inl r)) M)))] (mm_fa1 (fun ls st M h => okX6_setsInAll_4x Z  ls st M h) mm_fa0) h⟩
  · exact h.elim
def kJ9_min_7cf53 : List mm_E := [(0, false, .iload_n 0, []), (1, false, .iload_n 1, []), (2, false, .if_icmp .gt 7, [9]), (5, false, .iload_n 0, []), (6, false, .goto 4, [10]), (9, false, .iload_n 1, []), (10, false, .ireturn, [])]
set_option maxRecDepth 20000 in
theorem kJ9_min_7cf53_ok : mm_cok cJ9_min_7cf53 RJ9 (mm_ctt ctRJ9) kJ9_min_7cf53 := mm_c_of (k := false) ctRJ9_ok (by decide +kernel)
set_option maxRecDepth 20000 in
theorem wJ9_min_7cf53 : ∀ w ∈ ([.static yJ9_min_7cf53, .initialized RJ9, .code yJ9_min_7cf53 cJ9_min_7cf53 2 (some .int)] : List Cond), w ∈ mm_tbl := mm_sub_at _ [683, 113, 684] (by decide +kernel) (by decide +kernel)
def vtJ9_min_7cf53 : List (Nat × Nat × Nat × mm_F) := []
def smJ9_min_7cf53 : List (Nat × Nat × Nat × mm_F) := []
def ZJ9_min_7cf53 (p : Program) (l : Launch) (e : Env) (s : State) (m : MethodId) (args : Array Value) (below : List Frame) (meth : Method) (c : Code) (cA : Nat → ClassId) (ad : Nat → Nat) (D : va_G) (A : Nat → Prop) : Prop := mm_Z p l e (mm_rm 0) s m args below meth c lay_c cA ad D A RJ9 cJ9_min_7cf53 2 1 (mm_flt flRJ9) (mm_clt (vtJ9_min_7cf53)) (mm_clt (smJ9_min_7cf53)) (mm_ctt ctRJ9) kJ9_min_7cf53
theorem okJ9_min_7cf53 : mm_Ok lay_c yJ9_min_7cf53 cJ9_min_7cf53 2 (some .int) 0 fJ9_min_7cf53 := by
  refine mm_enterF (rt := 1) (by decide +kernel) rfl ?_
  intro p l e s m args below meth c cA ad D A as M Q h C0
  have Z : ZJ9_min_7cf53 p l e s m args below meth c cA ad D A := ⟨C0, flRJ9_ok, mm_vt_of (mm_fa0), mm_vt_of (mm_fa0), kJ9_min_7cf53_ok, mm_ctok_J ctRJ9_ok⟩
  unfold fJ9_min_7cf53 at h
  split at h
  · skip
    exact ⟨Nat.le_of_ble_eq_true rfl, mm_Zb Z 10 0 [] mm_fa0 h⟩
  · exact h.elim
def kX6_keepSet : List mm_E := [(0, false, .iconst 0, []), (1, false, .istore_n 1, []), (2, true, .iload_n 1, []), (3, false, .aload_n 0, []), (4, false, .getfield 41, []), (7, false, .if_icmp .ge 24, [31]), (10, false, .aload_n 0, []), (11, false, .getfield 33, []), (14, false, .iload_n 1, []), (15, false, .aload_n 0, []), (16, false, .getfield 20, []), (19, false, .iload_n 1, []), (20, false, .aaload, []), (21, false, .getfield 89, []), (24, false, .iastore, []), (25, false, .iinc 1 1, []), (28, false, .goto (-26), [2]), (31, false, .return_, [])]
set_option maxRecDepth 20000 in
theorem kX6_keepSet_ok : mm_cok cX6_keepSet RX6 (mm_ctt ctRX6) kX6_keepSet := mm_c_of (k := true) ctRX6_ok (by decide +kernel)
set_option maxRecDepth 20000 in
theorem wX6_keepSet : ∀ w ∈ ([.instanceMethod yX6_keepSet, .selects RX6 yX6_keepSet yX6_keepSet, .initialized RX6, .code yX6_keepSet cX6_keepSet 2 none] : List Cond), w ∈ mm_tbl := mm_sub_at _ [686, 687, 107, 688] (by decide +kernel) (by decide +kernel)
def vtX6_keepSet : List (Nat × Nat × Nat × mm_F) := []
def smX6_keepSet : List (Nat × Nat × Nat × mm_F) := []
def ZX6_keepSet (p : Program) (l : Launch) (e : Env) (s : State) (m : MethodId) (args : Array Value) (below : List Frame) (meth : Method) (c : Code) (cA : Nat → ClassId) (ad : Nat → Nat) (D : va_G) (A : Nat → Prop) : Prop := mm_Z p l e (mm_rm 0) s m args below meth c lay_c cA ad D A RX6 cX6_keepSet 2 0 (mm_flt flRX6) (mm_clt (vtX6_keepSet)) (mm_clt (smX6_keepSet)) (mm_ctt ctRX6) kX6_keepSet
def qX6_keepSet_2 (P : Int → mm_M → Prop) : mm_K := fun ls st M => match ls, st with
  | [some (.inr (.inr c0)), some (.inl v1)], [] => mm_chk (Nat.beq c0 9) (P v1 M)
  | _, _ => False
theorem okX6_keepSet_2 {p : Program} {l : Launch} {e : Env} {s : State} {m : MethodId} {args : Array Value} {below : List Frame} {meth : Method} {c : Code} {cA : Nat → ClassId} {ad : Nat → Nat} {D : va_G} {A : Nat → Prop} {Q : Option mm_V → mm_M → Prop} (Z : ZX6_keepSet p l e s m args below meth c cA ad D A) : ∀ (n : Nat) ls st M, qX6_keepSet_2 (fun v1 M => bX6_keepSet_2 n v1 M (fun M => Q none M)) ls st M → mm_G p l e (mm_rm 0) s m args below meth c lay_c cA ad D A 2 Q 2 ls st M
  | 0, ls, st, M, h => by
    unfold qX6_keepSet_2 at h
    split at h
    · obtain ⟨hb, h⟩ := mm_chk_e h
      cases (Nat.eq_of_beq_eq_true hb)
      exact h.elim
    · exact h.elim
  | n + 1, ls, st, M, h => by
    have ih := okX6_keepSet_2 (Q := Q) Z  n
    unfold qX6_keepSet_2 at h
    split at h
    · obtain ⟨hb, h⟩ := mm_chk_e h
      cases (Nat.eq_of_beq_eq_true hb)
      exact mm_Zb Z 21 2 [(2, qX6_keepSet_2 (fun v1 M => bX6_keepSet_2 n v1 M (fun M => Q none M)))] (mm_fa1 ih mm_fa0) h
    · exact h.elim
theorem okX6_keepSet_2x {p : Program} {l : Launch} {e : Env} {s : State} {m : MethodId} {args : Array Value} {below : List Frame} {meth : Method} {c : Code} {cA : Nat → ClassId} {ad : Nat → Nat} {D : va_G} {A : Nat → Prop} {Q : Option mm_V → mm_M → Prop} (Z : ZX6_keepSet p l e s m args below meth c cA ad D A) : ∀ ls st M, qX6_keepSet_2 (fun v1 M => ∃ j, bX6_keepSet_2 j v1 M (fun M => Q none M)) ls st M → mm_G p l e (mm_rm 0) s m args below meth c lay_c cA ad D A 2 Q 2 ls st M := by
  intro ls st M h
  have hex : ∃ n, qX6_keepSet_2 (fun v1 M => bX6_keepSet_2 n v1 M (fun M => Q none M)) ls st M := by
    unfold qX6_keepSet_2 at h
    split at h
    · obtain ⟨hb, h⟩ := mm_chk_e h
      cases (Nat.eq_of_beq_eq_true hb)
      obtain ⟨n, h⟩ := h
      exact ⟨n, h⟩
    · exact h.elim
  obtain ⟨n, hex⟩ := hex
  exact okX6_keepSet_2 Z  n ls st M hex
theorem okX6_keepSet : mm_Ok lay_c yX6_keepSet cX6_keepSet 2 none 0 fX6_keepSet := by
  refine mm_enter (rt := 0) (by decide +kernel) rfl ?_
  intro p l e s m args below meth c cA ad D A as M Q h C0
  have Z : ZX6_keepSet p l e s m args below meth c cA ad D A := ⟨C0, flRX6_ok, mm_vt_of (mm_fa0), mm_vt_of (mm_fa0), kX6_keepSet_ok, mm_ctok_I ctRX6_ok⟩
  unfold fX6_keepSet at h
  split at h
  · obtain ⟨hb, h⟩ := mm_chk_e h
    cases (Nat.eq_of_beq_eq_true hb)
    exact ⟨Nat.le_of_ble_eq_true rfl, mm_Zb Z 21 0 [(2, qX6_keepSet_2 (fun v1 M => ∃ j, bX6_keepSet_2 j v1 M (fun M => Q none M)))] (mm_fa1 (fun ls st M h => okX6_keepSet_2x Z  ls st M h) mm_fa0) h⟩
  · exact h.elim
def kX6_burden : List mm_E := [(0, false, .iconst 0, []), (1, false, .istore_n 3, []), (2, true, .iload_n 3, []), (3, false, .aload_n 1, []), (4, false, .getfield 86, []), (7, false, .aload_n 1, []), (8, false, .getfield 89, []), (11, false, .iaload, []), (12, false, .if_icmp .ge 29, [41]), (15, false, .aload_n 0, []), (16, false, .getfield 24, []), (19, false, .aload_n 1, []), (20, false, .getfield 92, []), (23, false, .aload_n 1, []), (24, false, .getfield 89, []), (27, false, .aaload, []), (28, false, .iload_n 3, []), (29, false, .iaload, []), (30, false, .dup2, []), (31, false, .iaload, []), (32, false, .iload_n 2, []), (33, false, .iadd, []), (34, false, .iastore, []), (35, false, .iinc 3 1, []), (38, false, .goto (-36), [2]), (41, false, .return_, [])]
set_option maxRecDepth 20000 in
theorem kX6_burden_ok : mm_cok cX6_burden RX6 (mm_ctt ctRX6) kX6_burden := mm_c_of (k := true) ctRX6_ok (by decide +kernel)
set_option maxRecDepth 20000 in
theorem wX6_burden : ∀ w ∈ ([.instanceMethod yX6_burden, .selects RX6 yX6_burden yX6_burden, .initialized RX6, .code yX6_burden cX6_burden 4 none] : List Cond), w ∈ mm_tbl := mm_sub_at _ [616, 10, 107, 617] (by decide +kernel) (by decide +kernel)
def vtX6_burden : List (Nat × Nat × Nat × mm_F) := []
def smX6_burden : List (Nat × Nat × Nat × mm_F) := []
def ZX6_burden (p : Program) (l : Launch) (e : Env) (s : State) (m : MethodId) (args : Array Value) (below : List Frame) (meth : Method) (c : Code) (cA : Nat → ClassId) (ad : Nat → Nat) (D : va_G) (A : Nat → Prop) : Prop := mm_Z p l e (mm_rm 0) s m args below meth c lay_c cA ad D A RX6 cX6_burden 4 0 (mm_flt flRX6) (mm_clt (vtX6_burden)) (mm_clt (smX6_burden)) (mm_ctt ctRX6) kX6_burden
def qX6_burden_2 (P : Nat → Int → Int → mm_M → Prop) : mm_K := fun ls st M => match ls, st with
  | [some (.inr (.inr c0)), some (.inr (.inr v1)), some (.inl v2), some (.inl v3)], [] => mm_chk (Nat.beq c0 9) (P v1 v2 v3 M)
  | _, _ => False
theorem okX6_burden_2 {p : Program} {l : Launch} {e : Env} {s : State} {m : MethodId} {args : Array Value} {below : List Frame} {meth : Method} {c : Code} {cA : Nat → ClassId} {ad : Nat → Nat} {D : va_G} {A : Nat → Prop} {Q : Option mm_V → mm_M → Prop} (Z : ZX6_burden p l e s m args below meth c cA ad D A) : ∀ (n : Nat) ls st M, qX6_burden_2 (fun v1 v2 v3 M => bX6_burden_2 n v1 v2 v3 M (fun M => Q none M)) ls st M → mm_G p l e (mm_rm 0) s m args below meth c lay_c cA ad D A 4 Q 2 ls st M
  | 0, ls, st, M, h => by
    unfold qX6_burden_2 at h
    split at h
    · obtain ⟨hb, h⟩ := mm_chk_e h
      cases (Nat.eq_of_beq_eq_true hb)
      exact h.elim
    · exact h.elim
  | n + 1, ls, st, M, h => by
    have ih := okX6_burden_2 (Q := Q) Z  n
    unfold qX6_burden_2 at h
    split at h
    · obtain ⟨hb, h⟩ := mm_chk_e h
      cases (Nat.eq_of_beq_eq_true hb)
      exact mm_Zb Z 29 2 [(2, qX6_burden_2 (fun v1 v2 v3 M => bX6_burden_2 n v1 v2 v3 M (fun M => Q none M)))] (mm_fa1 ih mm_fa0) h
    · exact h.elim
theorem okX6_burden_2x {p : Program} {l : Launch} {e : Env} {s : State} {m : MethodId} {args : Array Value} {below : List Frame} {meth : Method} {c : Code} {cA : Nat → ClassId} {ad : Nat → Nat} {D : va_G} {A : Nat → Prop} {Q : Option mm_V → mm_M → Prop} (Z : ZX6_burden p l e s m args below meth c cA ad D A) : ∀ ls st M, qX6_burden_2 (fun v1 v2 v3 M => ∃ j, bX6_burden_2 j v1 v2 v3 M (fun M => Q none M)) ls st M → mm_G p l e (mm_rm 0) s m args below meth c lay_c cA ad D A 4 Q 2 ls st M := by
  intro ls st M h
  have hex : ∃ n, qX6_burden_2 (fun v1 v2 v3 M => bX6_burden_2 n v1 v2 v3 M (fun M => Q none M)) ls st M := by
    unfold qX6_burden_2 at h
    split at h
    · obtain ⟨hb, h⟩ := mm_chk_e h
      cases (Nat.eq_of_beq_eq_true hb)
      obtain ⟨n, h⟩ := h
      exact ⟨n, h⟩
    · exact h.elim
  obtain ⟨n, hex⟩ := hex
  exact okX6_burden_2 Z  n ls st M hex
theorem okX6_burden : mm_Ok lay_c yX6_burden cX6_burden 4 none 0 fX6_burden := by
  refine mm_enter (rt := 0) (by decide +kernel) rfl ?_
  intro p l e s m args below meth c cA ad D A as M Q h C0
  have Z : ZX6_burden p l e s m args below meth c cA ad D A := ⟨C0, flRX6_ok, mm_vt_of (mm_fa0), mm_vt_of (mm_fa0), kX6_burden_ok, mm_ctok_I ctRX6_ok⟩
  unfold fX6_burden at h
  split at h
  · obtain ⟨hb, h⟩ := mm_chk_e h
    cases (Nat.eq_of_beq_eq_true hb)
    exact ⟨Nat.le_of_ble_eq_true rfl, mm_Zb Z 29 0 [(2, qX6_burden_2 (fun v1 v2 v3 M => ∃ j, bX6_burden_2 j v1 v2 v3 M (fun M => Q none M)))] (mm_fa1 (fun ls st M h => okX6_burden_2x Z  ls st M h) mm_fa0) h⟩
  · exact h.elim
def kX6_moveTo : List mm_E := [(0, false, .iload_n 2, []), (1, false, .aload_n 1, []), (2, false, .getfield 89, []), (5, false, .if_icmp .eq 20, [25]), (8, false, .aload_n 0, []), (9, false, .aload_n 1, []), (10, false, .iconst (-1), []), (11, false, .invokevirtual 75, []), (14, false, .aload_n 1, []), (15, false, .iload_n 2, []), (16, false, .putfield 89, []), (19, false, .aload_n 0, []), (20, false, .aload_n 1, []), (21, false, .iconst 1, []), (22, false, .invokevirtual 75, []), (25, false, .return_, [])]
set_option maxRecDepth 20000 in
theorem kX6_moveTo_ok : mm_cok cX6_moveTo RX6 (mm_ctt ctRX6) kX6_moveTo := mm_c_of (k := true) ctRX6_ok (by decide +kernel)
set_option maxRecDepth 20000 in
theorem wX6_moveTo : ∀ w ∈ ([.instanceMethod yX6_moveTo, .selects RX6 yX6_moveTo yX6_moveTo, .initialized RX6, .code yX6_moveTo cX6_moveTo 3 none] : List Cond), w ∈ mm_tbl := mm_sub_at _ [619, 620, 107, 621] (by decide +kernel) (by decide +kernel)
def vtX6_moveTo : List (Nat × Nat × Nat × mm_F) := [(75, 6, 3, fX6_burden)]
def smX6_moveTo : List (Nat × Nat × Nat × mm_F) := []
def ZX6_moveTo (p : Program) (l : Launch) (e : Env) (s : State) (m : MethodId) (args : Array Value) (below : List Frame) (meth : Method) (c : Code) (cA : Nat → ClassId) (ad : Nat → Nat) (D : va_G) (A : Nat → Prop) : Prop := mm_Z p l e (mm_rm 1) s m args below meth c lay_c cA ad D A RX6 cX6_moveTo 3 0 (mm_flt flRX6) (mm_clt (vtX6_moveTo)) (mm_clt (smX6_moveTo)) (mm_ctt ctRX6) kX6_moveTo
theorem okX6_moveTo : mm_Ok lay_c yX6_moveTo cX6_moveTo 3 none 1 fX6_moveTo := by
  refine mm_enter (rt := 0) (by decide +kernel) rfl ?_
  intro p l e s m args below meth c cA ad D A as M Q h C0
  have Z : ZX6_moveTo p l e s m args below meth c cA ad D A := ⟨C0, flRX6_ok, mm_vt_of (mm_fa1 (mm_coV (n := 2) (ci := 6) C0 okX6_burden rfl rfl (mm_one_at (.methodLink RX6 75 yX6_burden) 614 (by decide +kernel) rfl) (wX6_burden _ (by simp)) (wX6_burden _ (by simp [yX6_burden])) (wX6_burden _ (by simp [yX6_burden])) (wX6_burden _ (by simp)) (by decide +kernel) (by omega) (by omega)) (mm_fa0)), mm_vt_of (mm_fa0), kX6_moveTo_ok, mm_ctok_I ctRX6_ok⟩
  unfold fX6_moveTo at h
  split at h
  · obtain ⟨hb, h⟩ := mm_chk_e h
    cases (Nat.eq_of_beq_eq_true hb)
    exact ⟨Nat.le_of_ble_eq_true rfl, mm_Zb Z 19 0 [] mm_fa0 h⟩
  · exact h.elim
def kX6_takeKeptSet : List mm_E := [(0, false, .iconst 0, []), (1, false, .istore_n 1, []), (2, true, .iload_n 1, []), (3, false, .aload_n 0, []), (4, false, .getfield 41, []), (7, false, .if_icmp .ge 25, [32]), (10, false, .aload_n 0, []), (11, false, .aload_n 0, []), (12, false, .getfield 20, []), (15, false, .iload_n 1, []), (16, false, .aaload, []), (17, false, .aload_n 0, []), (18, false, .getfield 33, []), (21, false, .iload_n 1, []), (22, false, .iaload, []), (23, false, .invokevirtual 83, []), (26, false, .iinc 1 1, []), (29, false, .goto (-27), [2]), (32, false, .return_, [])]
set_option maxRecDepth 20000 in
theorem kX6_takeKeptSet_ok : mm_cok cX6_takeKeptSet RX6 (mm_ctt ctRX6) kX6_takeKeptSet := mm_c_of (k := true) ctRX6_ok (by decide +kernel)
set_option maxRecDepth 20000 in
theorem wX6_takeKeptSet : ∀ w ∈ ([.instanceMethod yX6_takeKeptSet, .selects RX6 yX6_takeKeptSet yX6_takeKeptSet, .initialized RX6, .code yX6_takeKeptSet cX6_takeKeptSet 2 none] : List Cond), w ∈ mm_tbl := mm_sub_at _ [696, 697, 107, 698] (by decide +kernel) (by decide +kernel)
def vtX6_takeKeptSet : List (Nat × Nat × Nat × mm_F) := [(83, 6, 3, fX6_moveTo)]
def smX6_takeKeptSet : List (Nat × Nat × Nat × mm_F) := []
def ZX6_takeKeptSet (p : Program) (l : Launch) (e : Env) (s : State) (m : MethodId) (args : Array Value) (below : List Frame) (meth : Method) (c : Code) (cA : Nat → ClassId) (ad : Nat → Nat) (D : va_G) (A : Nat → Prop) : Prop := mm_Z p l e (mm_rm 2) s m args below meth c lay_c cA ad D A RX6 cX6_takeKeptSet 2 0 (mm_flt flRX6) (mm_clt (vtX6_takeKeptSet)) (mm_clt (smX6_takeKeptSet)) (mm_ctt ctRX6) kX6_takeKeptSet
def qX6_takeKeptSet_2 (P : Int → mm_M → Prop) : mm_K := fun ls st M => match ls, st with
  | [some (.inr (.inr c0)), some (.inl v1)], [] => mm_chk (Nat.beq c0 9) (P v1 M)
  | _, _ => False
theorem okX6_takeKeptSet_2 {p : Program} {l : Launch} {e : Env} {s : State} {m : MethodId} {args : Array Value} {below : List Frame} {meth : Method} {c : Code} {cA : Nat → ClassId} {ad : Nat → Nat} {D : va_G} {A : Nat → Prop} {Q : Option mm_V → mm_M → Prop} (Z : ZX6_takeKeptSet p l e s m args below meth c cA ad D A) : ∀ (n : Nat) ls st M, qX6_takeKeptSet_2 (fun v1 M => bX6_takeKeptSet_2 n v1 M (fun M => Q none M)) ls st M → mm_G p l e (mm_rm 2) s m args below meth c lay_c cA ad D A 2 Q 2 ls st M
  | 0, ls, st, M, h => by
    unfold qX6_takeKeptSet_2 at h
    split at h
    · obtain ⟨hb, h⟩ := mm_chk_e h
      cases (Nat.eq_of_beq_eq_true hb)
      exact h.elim
    · exact h.elim
  | n + 1, ls, st, M, h => by
    have ih := okX6_takeKeptSet_2 (Q := Q) Z  n
    unfold qX6_takeKeptSet_2 at h
    split at h
    · obtain ⟨hb, h⟩ := mm_chk_e h
      cases (Nat.eq_of_beq_eq_true hb)
      exact mm_Zb Z 22 2 [(2, qX6_takeKeptSet_2 (fun v1 M => bX6_takeKeptSet_2 n v1 M (fun M => Q none M)))] (mm_fa1 ih mm_fa0) h
    · exact h.elim
theorem okX6_takeKeptSet_2x {p : Program} {l : Launch} {e : Env} {s : State} {m : MethodId} {args : Array Value} {below : List Frame} {meth : Method} {c : Code} {cA : Nat → ClassId} {ad : Nat → Nat} {D : va_G} {A : Nat → Prop} {Q : Option mm_V → mm_M → Prop} (Z : ZX6_takeKeptSet p l e s m args below meth c cA ad D A) : ∀ ls st M, qX6_takeKeptSet_2 (fun v1 M => ∃ j, bX6_takeKeptSet_2 j v1 M (fun M => Q none M)) ls st M → mm_G p l e (mm_rm 2) s m args below meth c lay_c cA ad D A 2 Q 2 ls st M := by
  intro ls st M h
  have hex : ∃ n, qX6_takeKeptSet_2 (fun v1 M => bX6_takeKeptSet_2 n v1 M (fun M => Q none M)) ls st M := by
    unfold qX6_takeKeptSet_2 at h
    split at h
    · obtain ⟨hb, h⟩ := mm_chk_e h
      cases (Nat.eq_of_beq_eq_true hb)
      obtain ⟨n, h⟩ := h
      exact ⟨n, h⟩
    · exact h.elim
  obtain ⟨n, hex⟩ := hex
  exact okX6_takeKeptSet_2 Z  n ls st M hex
theorem okX6_takeKeptSet : mm_Ok lay_c yX6_takeKeptSet cX6_takeKeptSet 2 none 2 fX6_takeKeptSet := by
  refine mm_enter (rt := 0) (by decide +kernel) rfl ?_
  intro p l e s m args below meth c cA ad D A as M Q h C0
  have Z : ZX6_takeKeptSet p l e s m args below meth c cA ad D A := ⟨C0, flRX6_ok, mm_vt_of (mm_fa1 (mm_coV (n := 2) (ci := 6) C0 okX6_moveTo rfl rfl (mm_one_at (.methodLink RX6 83 yX6_moveTo) 618 (by decide +kernel) rfl) (wX6_moveTo _ (by simp)) (wX6_moveTo _ (by simp [yX6_moveTo])) (wX6_moveTo _ (by simp [yX6_moveTo])) (wX6_moveTo _ (by simp)) (by decide +kernel) (by omega) (by omega)) (mm_fa0)), mm_vt_of (mm_fa0), kX6_takeKeptSet_ok, mm_ctok_I ctRX6_ok⟩
  unfold fX6_takeKeptSet at h
  split at h
  · obtain ⟨hb, h⟩ := mm_chk_e h
    cases (Nat.eq_of_beq_eq_true hb)
    exact ⟨Nat.le_of_ble_eq_true rfl, mm_Zb Z 22 0 [(2, qX6_takeKeptSet_2 (fun v1 M => ∃ j, bX6_takeKeptSet_2 j v1 M (fun M => Q none M)))] (mm_fa1 (fun ls st M h => okX6_takeKeptSet_2x Z  ls st M h) mm_fa0) h⟩
  · exact h.elim
def kX0_findLeast : List mm_E := [(0, false, .aload_n 0, []), (1, false, .iconst 0, []), (2, false, .putfield 90, []), (5, false, .aload_n 0, []), (6, false, .iconst 0, []), (7, false, .putfield 93, []), (10, false, .aload_n 0, []), (11, false, .aload_n 0, []), (12, false, .getfield 18, []), (15, false, .iconst 0, []), (16, false, .iaload, []), (17, false, .putfield 96, []), (20, false, .aload_n 0, []), (21, false, .aload_n 0, []), (22, false, .getfield 21, []), (25, false, .iconst 0, []), (26, false, .iaload, []), (27, false, .putfield 99, []), (30, false, .iconst 0, []), (31, false, .istore_n 1, []), (32, true, .iload_n 1, []), (33, false, .aload_n 0, []), (34, false, .getfield 46, []), (37, false, .if_icmp .ge 82, [119]), (40, false, .aload_n 0, []), (41, false, .aload_n 0, []), (42, false, .getfield 99, []), (45, false, .aload_n 0, []), (46, false, .getfield 21, []), (49, false, .iload_n 1, []), (50, false, .iaload, []), (51, false, .invokestatic 40, []), (54, false, .putfield 99, []), (57, false, .aload_n 0, []), (58, false, .getfield 18, []), (61, false, .iload_n 1, []), (62, false, .iaload, []), (63, false, .aload_n 0, []), (64, false, .getfield 96, []), (67, false, .if_icmp .ge 23, [90]), (70, false, .aload_n 0, []), (71, false, .aload_n 0, []), (72, false, .getfield 18, []), (75, false, .iload_n 1, []), (76, false, .iaload, []), (77, false, .putfield 96, []), (80, false, .aload_n 0, []), (81, false, .iload_n 1, []), (82, false, .putfield 90, []), (85, false, .aload_n 0, []), (86, false, .iconst 0, []), (87, false, .putfield 93, []), (90, true, .aload_n 0, []), (91, false, .getfield 18, []), (94, false, .iload_n 1, []), (95, false, .iaload, []), (96, false, .aload_n 0, []), (97, false, .getfield 96, []), (100, false, .if_icmp .ne 13, [113]), (103, false, .aload_n 0, []), (104, false, .dup, []), (105, false, .getfield 93, []), (108, false, .iconst 1, []), (109, false, .iadd, []), (110, false, .putfield 93, []), (113, false, .iinc 1 1, []), (116, false, .goto (-84), [32]), (119, false, .return_, [])]
set_option maxRecDepth 20000 in
theorem kX0_findLeast_ok : mm_cok cX0_findLeast RX0 (mm_ctt ctRX0) kX0_findLeast := mm_c_of (k := false) ctRX0_ok (by decide +kernel)
set_option maxRecDepth 20000 in
theorem wX0_findLeast : ∀ w ∈ ([.instanceMethod yX0_findLeast, .selects RX0 yX0_findLeast yX0_findLeast, .initialized RX0, .code yX0_findLeast cX0_findLeast 2 none] : List Cond), w ∈ mm_tbl := mm_sub_at _ [701, 14, 109, 702] (by decide +kernel) (by decide +kernel)
def vtX0_findLeast : List (Nat × Nat × Nat × mm_F) := []
def smX0_findLeast : List (Nat × Nat × Nat × mm_F) := [(40, 0, 2, fJ9_min_7cf53)]
def ZX0_findLeast (p : Program) (l : Launch) (e : Env) (s : State) (m : MethodId) (args : Array Value) (below : List Frame) (meth : Method) (c : Code) (cA : Nat → ClassId) (ad : Nat → Nat) (D : va_G) (A : Nat → Prop) : Prop := mm_Z p l e (mm_rm 1) s m args below meth c lay_c cA ad D A RX0 cX0_findLeast 2 0 (mm_flt flRX0) (mm_clt (vtX0_findLeast)) (mm_clt (smX0_findLeast)) (mm_ctt ctRX0) kX0_findLeast
def qX0_findLeast_90 (P : Int → mm_M → Prop) : mm_K := fun ls st M => match ls, st with
  | [some (.inr (.inr c0)), some (.inl v1)], [] => mm_chk (Nat.beq c0 115) (P v1 M)
  | _, _ => False
def qX0_findLeast_32 (P : Int → mm_M → Prop) : mm_K := fun ls st M => match ls, st with
  | [some (.inr (.inr c0)), some (.inl v1)], [] => mm_chk (Nat.beq c0 115) (P v1 M)
  | _, _ => False
theorem okX0_findLeast_90 {p : Program} {l : Launch} {e : Env} {s : State} {m : MethodId} {args : Array Value} {below : List Frame} {meth : Method} {c : Code} {cA : Nat → ClassId} {ad : Nat → Nat} {D : va_G} {A : Nat → Prop} {Q : Option mm_V → mm_M → Prop} (Z : ZX0_findLeast p l e s m args below meth c cA ad D A) {K32 : Int → mm_M → Prop} (hk32 : ∀ ls st M, qX0_findLeast_32 K32 ls st M → mm_G p l e (mm_rm 1) s m args below meth c lay_c cA ad D A 2 Q 32 ls st M) : ∀ ls st M, qX0_findLeast_90 (fun v1 M => bX0_findLeast_90 K32 v1 M (fun M => Q none M)) ls st M → mm_G p l e (mm_rm 1) s m args below meth c lay_c cA ad D A 2 Q 90 ls st M := by
  intro ls st M h
  unfold qX0_findLeast_90 at h
  split at h
  · obtain ⟨hb, h⟩ := mm_chk_e h
    cases (Nat.eq_of_beq_eq_true hb)
    exact mm_Zb Z 71 90 [(32, qX0_findLeast_32 (K32))] (mm_fa1 hk32 mm_fa0) h
  · exact h.elim
theorem okX0_findLeast_32 {p : Program} {l : Launch} {e : Env} {s : State} {m : MethodId} {args : Array Value} {below : List Frame} {meth : Method} {c : Code} {cA : Nat → ClassId} {ad : Nat → Nat} {D : va_G} {A : Nat → Prop} {Q : Option mm_V → mm_M → Prop} (Z : ZX0_findLeast p l e s m args below meth c cA ad D A) : ∀ (n : Nat) ls st M, qX0_findLeast_32 (fun v1 M => bX0_findLeast_32 n v1 M (fun M => Q none M)) ls st M → mm_G p l e (mm_rm 1) s m args below meth c lay_c cA ad D A 2 Q 32 ls st M
  | 0, ls, st, M, h => by
    unfold qX0_findLeast_32 at h
    split at h
    · obtain ⟨hb, h⟩ := mm_chk_e h
      cases (Nat.eq_of_beq_eq_true hb)
      exact h.elim
    · exact h.elim
  | n + 1, ls, st, M, h => by
    have ih := okX0_findLeast_32 (Q := Q) Z  n
    unfold qX0_findLeast_32 at h
    split at h
    · obtain ⟨hb, h⟩ := mm_chk_e h
      cases (Nat.eq_of_beq_eq_true hb)
      exact mm_Zb Z 71 32 [(90, qX0_findLeast_90 (fun v1 M => bX0_findLeast_90 (fun v1 M => bX0_findLeast_32 n v1 M (fun M => Q none M)) v1 M (fun M => Q none M)))] (mm_fa1 (fun ls st M h => okX0_findLeast_90 Z (ih) ls st M h) mm_fa0) h
    · exact h.elim
theorem okX0_findLeast_32x {p : Program} {l : Launch} {e : Env} {s : State} {m : MethodId} {args : Array Value} {below : List Frame} {meth : Method} {c : Code} {cA : Nat → ClassId} {ad : Nat → Nat} {D : va_G} {A : Nat → Prop} {Q : Option mm_V → mm_M → Prop} (Z : ZX0_findLeast p l e s m args below meth c cA ad D A) : ∀ ls st M, qX0_findLeast_32 (fun v1 M => ∃ j, bX0_findLeast_32 j v1 M (fun M => Q none M)) ls st M → mm_G p l e (mm_rm 1) s m args below meth c lay_c cA ad D A 2 Q 32 ls st M := by
  intro ls st M h
  have hex : ∃ n, qX0_findLeast_32 (fun v1 M => bX0_findLeast_32 n v1 M (fun M => Q none M)) ls st M := by
    unfold qX0_findLeast_32 at h
    split at h
    · obtain ⟨hb, h⟩ := mm_chk_e h
      cases (Nat.eq_of_beq_eq_true hb)
      obtain ⟨n, h⟩ := h
      exact ⟨n, h⟩
    · exact h.elim
  obtain ⟨n, hex⟩ := hex
  exact okX0_findLeast_32 Z  n ls st M hex
theorem okX0_findLeast : mm_Ok lay_c yX0_findLeast cX0_findLeast 2 none 1 fX0_findLeast := by
  refine mm_enter (rt := 0) (by decide +kernel) rfl ?_
  intro p l e s m args below meth c cA ad D A as M Q h C0
  have Z : ZX0_findLeast p l e s m args below meth c cA ad D A := ⟨C0, flRX0_ok, mm_vt_of (mm_fa0), mm_vt_of (mm_fa1 (mm_coS (n := 2) C0 okJ9_min_7cf53 (mm_one_at (.methodLink RX0 40 yJ9_min_7cf53) 682 (by decide +kernel) rfl) (wJ9_min_7cf53 _ (by simp)) (wJ9_min_7cf53 _ (by simp [yJ9_min_7cf53])) (wJ9_min_7cf53 _ (by simp)) (by decide +kernel) (by omega) (by omega)) (mm_fa0)), kX0_findLeast_ok, mm_ctok_J ctRX0_ok⟩
  unfold fX0_findLeast at h
  split at h
  · obtain ⟨hb, h⟩ := mm_chk_e h
    cases (Nat.eq_of_beq_eq_true hb)
    exact ⟨Nat.le_of_ble_eq_true rfl, mm_Zb Z 71 0 [(32, qX0_findLeast_32 (fun v1 M => ∃ j, bX0_findLeast_32 j v1 M (fun M => Q none M)))] (mm_fa1 (fun ls st M h => okX0_findLeast_32x Z  ls st M h) mm_fa0) h⟩
  · exact h.elim
def kX0_wayIn : List mm_E := [(0, false, .aload_n 0, []), (1, false, .getfield 15, []), (4, false, .iload_n 2, []), (5, false, .iaload, []), (6, false, .istore_n 3, []), (7, false, .aload_n 0, []), (8, false, .getfield 9, []), (11, false, .iload_n 2, []), (12, false, .iaload, []), (13, false, .istore 4, []), (15, false, .iload_n 3, []), (16, false, .ifCond .le 17, [33]), (19, false, .iload 4, []), (21, false, .ifCond .le 12, [33]), (24, false, .iload_n 1, []), (25, false, .iload_n 3, []), (26, false, .idiv, []), (27, false, .iload 4, []), (29, false, .irem, []), (30, false, .goto 4, [34]), (33, false, .iconst 0, []), (34, false, .ireturn, [])]
set_option maxRecDepth 20000 in
theorem kX0_wayIn_ok : mm_cok cX0_wayIn RX0 (mm_ctt ctRX0) kX0_wayIn := mm_c_of (k := false) ctRX0_ok (by decide +kernel)
set_option maxRecDepth 20000 in
theorem wX0_wayIn : ∀ w ∈ ([.instanceMethod yX0_wayIn, .selects RX0 yX0_wayIn yX0_wayIn, .initialized RX0, .code yX0_wayIn cX0_wayIn 5 (some .int)] : List Cond), w ∈ mm_tbl := mm_sub_at _ [712, 713, 109, 714] (by decide +kernel) (by decide +kernel)
def vtX0_wayIn : List (Nat × Nat × Nat × mm_F) := []
def smX0_wayIn : List (Nat × Nat × Nat × mm_F) := []
def ZX0_wayIn (p : Program) (l : Launch) (e : Env) (s : State) (m : MethodId) (args : Array Value) (below : List Frame) (meth : Method) (c : Code) (cA : Nat → ClassId) (ad : Nat → Nat) (D : va_G) (A : Nat → Prop) : Prop := mm_Z p l e (mm_rm 0) s m args below meth c lay_c cA ad D A RX0 cX0_wayIn 5 1 (mm_flt flRX0) (mm_clt (vtX0_wayIn)) (mm_clt (smX0_wayIn)) (mm_ctt ctRX0) kX0_wayIn
theorem okX0_wayIn : mm_Ok lay_c yX0_wayIn cX0_wayIn 5 (some .int) 0 fX0_wayIn := by
  refine mm_enter (rt := 1) (by decide +kernel) rfl ?_
  intro p l e s m args below meth c cA ad D A as M Q h C0
  have Z : ZX0_wayIn p l e s m args below meth c cA ad D A := ⟨C0, flRX0_ok, mm_vt_of (mm_fa0), mm_vt_of (mm_fa0), kX0_wayIn_ok, mm_ctok_J ctRX0_ok⟩
  unfold fX0_wayIn at h
  split at h
  · obtain ⟨hb, h⟩ := mm_chk_e h
    cases (Nat.eq_of_beq_eq_true hb)
    exact ⟨Nat.le_of_ble_eq_true rfl, mm_Zb Z 25 0 [] mm_fa0 h⟩
  · exact h.elim
def kX0_isRest : List mm_E := [(0, false, .iconst 0, []), (1, false, .istore_n 2, []), (2, true, .iload_n 2, []), (3, false, .aload_n 0, []), (4, false, .getfield 51, []), (7, false, .if_icmp .ge 71, [78]), (10, false, .aload_n 0, []), (11, false, .getfield 15, []), (14, false, .iload_n 2, []), (15, false, .iaload, []), (16, false, .istore_n 3, []), (17, false, .iload_n 1, []), (18, false, .aload_n 0, []), (19, false, .iload_n 1, []), (20, false, .iload_n 2, []), (21, false, .invokevirtual 118, []), (24, false, .iload_n 3, []), (25, false, .imul, []), (26, false, .isub, []), (27, false, .istore 4, []), (29, false, .iconst 0, []), (30, false, .istore 5, []), (32, true, .iload 5, []), (34, false, .aload_n 0, []), (35, false, .getfield 9, []), (38, false, .iload_n 2, []), (39, false, .iaload, []), (40, false, .if_icmp .ge 32, [72]), (43, false, .aload_n 0, []), (44, false, .getfield 21, []), (47, false, .iload 4, []), (49, false, .iload 5, []), (51, false, .iload_n 3, []), (52, false, .imul, []), (53, false, .iadd, []), (54, false, .iaload, []), (55, false, .aload_n 0, []), (56, false, .getfield 21, []), (59, false, .iload_n 1, []), (60, false, .iaload, []), (61, false, .if_icmp .ge 5, [66]), (64, false, .iconst 0, []), (65, false, .ireturn, []), (66, false, .iinc 5 1, []), (69, false, .goto (-37), [32]), (72, false, .iinc 2 1, []), (75, false, .goto (-73), [2]), (78, false, .iconst 1, []), (79, false, .ireturn, [])]
set_option maxRecDepth 20000 in
theorem kX0_isRest_ok : mm_cok cX0_isRest RX0 (mm_ctt ctRX0) kX0_isRest := mm_c_of (k := false) ctRX0_ok (by decide +kernel)
set_option maxRecDepth 20000 in
theorem wX0_isRest : ∀ w ∈ ([.instanceMethod yX0_isRest, .selects RX0 yX0_isRest yX0_isRest, .initialized RX0, .code yX0_isRest cX0_isRest 6 (some .boolean)] : List Cond), w ∈ mm_tbl := mm_sub_at _ [709, 16, 109, 710] (by decide +kernel) (by decide +kernel)
def vtX0_isRest : List (Nat × Nat × Nat × mm_F) := [(118, 0, 3, fX0_wayIn)]
def smX0_isRest : List (Nat × Nat × Nat × mm_F) := []
def ZX0_isRest (p : Program) (l : Launch) (e : Env) (s : State) (m : MethodId) (args : Array Value) (below : List Frame) (meth : Method) (c : Code) (cA : Nat → ClassId) (ad : Nat → Nat) (D : va_G) (A : Nat → Prop) : Prop := mm_Z p l e (mm_rm 1) s m args below meth c lay_c cA ad D A RX0 cX0_isRest 6 2 (mm_flt flRX0) (mm_clt (vtX0_isRest)) (mm_clt (smX0_isRest)) (mm_ctt ctRX0) kX0_isRest
def qX0_isRest_32 (P : Int → Int → Int → Int → Int → mm_M → Prop) : mm_K := fun ls st M => match ls, st with
  | [some (.inr (.inr c0)), some (.inl v1), some (.inl v2), some (.inl v3), some (.inl v4), some (.inl v5)], [] => mm_chk (Nat.beq c0 115) (P v1 v2 v3 v4 v5 M)
  | _, _ => False
def qX0_isRest_2 (P : Int → Int → mm_M → Prop) : mm_K := fun ls st M => match ls, st with
  | [some (.inr (.inr c0)), some (.inl v1), some (.inl v2), _, _, _], [] => mm_chk (Nat.beq c0 115) (P v1 v2 M)
  | _, _ => False
theorem okX0_isRest_32 {p : Program} {l : Launch} {e : Env} {s : State} {m : MethodId} {args : Array Value} {below : List Frame} {meth : Method} {c : Code} {cA : Nat → ClassId} {ad : Nat → Nat} {D : va_G} {A : Nat → Prop} {Q : Option mm_V → mm_M → Prop} (Z : ZX0_isRest p l e s m args below meth c cA ad D A) {K2 : Int → Int → mm_M → Prop} (hk2 : ∀ ls st M, qX0_isRest_2 K2 ls st M → mm_G p l e (mm_rm 1) s m args below meth c lay_c cA ad D A 6 Q 2 ls st M) : ∀ (n : Nat) ls st M, qX0_isRest_32 (fun v1 v2 v3 v4 v5 M => bX0_isRest_32 K2 n v1 v2 v3 v4 v5 M (fun r M => Q (some (.inl r)) M)) ls st M → mm_G p l e (mm_rm 1) s m args below meth c lay_c cA ad D A 6 Q 32 ls st M
  | 0, ls, st, M, h => by
    unfold qX0_isRest_32 at h
    split at h
    · obtain ⟨hb, h⟩ := mm_chk_e h
      cases (Nat.eq_of_beq_eq_true hb)
      exact h.elim
    · exact h.elim
  | n + 1, ls, st, M, h => by
    have ih := okX0_isRest_32 (Q := Q) Z hk2 n
    unfold qX0_isRest_32 at h
    split at h
    · obtain ⟨hb, h⟩ := mm_chk_e h
      cases (Nat.eq_of_beq_eq_true hb)
      exact mm_Zb Z 52 32 [(2, qX0_isRest_2 (K2)), (32, qX0_isRest_32 (fun v1 v2 v3 v4 v5 M => bX0_isRest_32 K2 n v1 v2 v3 v4 v5 M (fun r M => Q (some (.inl r)) M)))] (mm_fa1 hk2 (mm_fa1 ih mm_fa0)) h
    · exact h.elim
theorem okX0_isRest_32x {p : Program} {l : Launch} {e : Env} {s : State} {m : MethodId} {args : Array Value} {below : List Frame} {meth : Method} {c : Code} {cA : Nat → ClassId} {ad : Nat → Nat} {D : va_G} {A : Nat → Prop} {Q : Option mm_V → mm_M → Prop} (Z : ZX0_isRest p l e s m args below meth c cA ad D A) {K2 : Int → Int → mm_M → Prop} (hk2 : ∀ ls st M, qX0_isRest_2 K2 ls st M → mm_G p l e (mm_rm 1) s m args below meth c lay_c cA ad D A 6 Q 2 ls st M) : ∀ ls st M, qX0_isRest_32 (fun v1 v2 v3 v4 v5 M => ∃ j, bX0_isRest_32 K2 j v1 v2 v3 v4 v5 M (fun r M => Q (some (.inl r)) M)) ls st M → mm_G p l e (mm_rm 1) s m args below meth c lay_c cA ad D A 6 Q 32 ls st M := by
  intro ls st M h
  have hex : ∃ n, qX0_isRest_32 (fun v1 v2 v3 v4 v5 M => bX0_isRest_32 K2 n v1 v2 v3 v4 v5 M (fun r M => Q (some (.inl r)) M)) ls st M := by
    unfold qX0_isRest_32 at h
    split at h
    · obtain ⟨hb, h⟩ := mm_chk_e h
      cases (Nat.eq_of_beq_eq_true hb)
      obtain ⟨n, h⟩ := h
      exact ⟨n, h⟩
    · exact h.elim
  obtain ⟨n, hex⟩ := hex
  exact okX0_isRest_32 Z hk2 n ls st M hex
theorem okX0_isRest_2 {p : Program} {l : Launch} {e : Env} {s : State} {m : MethodId} {args : Array Value} {below : List Frame} {meth : Method} {c : Code} {cA : Nat → ClassId} {ad : Nat → Nat} {D : va_G} {A : Nat → Prop} {Q : Option mm_V → mm_M → Prop} (Z : ZX0_isRest p l e s m args below meth c cA ad D A) : ∀ (n : Nat) ls st M, qX0_isRest_2 (fun v1 v2 M => bX0_isRest_2 n v1 v2 M (fun r M => Q (some (.inl r)) M)) ls st M → mm_G p l e (mm_rm 1) s m args below meth c lay_c cA ad D A 6 Q 2 ls st M
  | 0, ls, st, M, h => by
    unfold qX0_isRest_2 at h
    split at h
    · obtain ⟨hb, h⟩ := mm_chk_e h
      cases (Nat.eq_of_beq_eq_true hb)
      exact h.elim
    · exact h.elim
  | n + 1, ls, st, M, h => by
    have ih := okX0_isRest_2 (Q := Q) Z  n
    unfold qX0_isRest_2 at h
    split at h
    · obtain ⟨hb, h⟩ := mm_chk_e h
      cases (Nat.eq_of_beq_eq_true hb)
      exact mm_Zb Z 52 2 [(32, qX0_isRest_32 (fun v1 v2 v3 v4 v5 M => ∃ j, bX0_isRest_32 (fun v1 v2 M => bX0_isRest_2 n v1 v2 M (fun r M => Q (some (.inl r)) M)) j v1 v2 v3 v4 v5 M (fun r M => Q (some (.inl r)) M)))] (mm_fa1 (fun ls st M h => okX0_isRest_32x Z (ih) ls st M h) mm_fa0) h
    · exact h.elim
theorem okX0_isRest_2x {p : Program} {l : Launch} {e : Env} {s : State} {m : MethodId} {args : Array Value} {below : List Frame} {meth : Method} {c : Code} {cA : Nat → ClassId} {ad : Nat → Nat} {D : va_G} {A : Nat → Prop} {Q : Option mm_V → mm_M → Prop} (Z : ZX0_isRest p l e s m args below meth c cA ad D A) : ∀ ls st M, qX0_isRest_2 (fun v1 v2 M => ∃ j, bX0_isRest_2 j v1 v2 M (fun r M => Q (some (.inl r)) M)) ls st M → mm_G p l e (mm_rm 1) s m args below meth c lay_c cA ad D A 6 Q 2 ls st M := by
  intro ls st M h
  have hex : ∃ n, qX0_isRest_2 (fun v1 v2 M => bX0_isRest_2 n v1 v2 M (fun r M => Q (some (.inl r)) M)) ls st M := by
    unfold qX0_isRest_2 at h
    split at h
    · obtain ⟨hb, h⟩ := mm_chk_e h
      cases (Nat.eq_of_beq_eq_true hb)
      obtain ⟨n, h⟩ := h
      exact ⟨n, h⟩
    · exact h.elim
  obtain ⟨n, hex⟩ := hex
  exact okX0_isRest_2 Z  n ls st M hex
theorem okX0_isRest : mm_Ok lay_c yX0_isRest cX0_isRest 6 (some .boolean) 1 fX0_isRest := by
  refine mm_enter (rt := 2) (by decide +kernel) rfl ?_
  intro p l e s m args below meth c cA ad D A as M Q h C0
  have Z : ZX0_isRest p l e s m args below meth c cA ad D A := ⟨C0, flRX0_ok, mm_vt_of (mm_fa1 (mm_coV (n := 2) (ci := 0) C0 okX0_wayIn rfl rfl (mm_one_at (.methodLink RX0 118 yX0_wayIn) 711 (by decide +kernel) rfl) (wX0_wayIn _ (by simp)) (wX0_wayIn _ (by simp [yX0_wayIn])) (wX0_wayIn _ (by simp [yX0_wayIn])) (wX0_wayIn _ (by simp)) (by decide +kernel) (by omega) (by omega)) (mm_fa0)), mm_vt_of (mm_fa0), kX0_isRest_ok, mm_ctok_J ctRX0_ok⟩
  unfold fX0_isRest at h
  split at h
  · obtain ⟨hb, h⟩ := mm_chk_e h
    cases (Nat.eq_of_beq_eq_true hb)
    exact ⟨Nat.le_of_ble_eq_true rfl, mm_Zb Z 52 0 [(2, qX0_isRest_2 (fun v1 v2 M => ∃ j, bX0_isRest_2 j v1 v2 M (fun r M => Q (some (.inl r)) M)))] (mm_fa1 (fun ls st M h => okX0_isRest_2x Z  ls st M h) mm_fa0) h⟩
  · exact h.elim
def kJ9_max_7cf53 : List mm_E := [(0, false, .iload_n 0, []), (1, false, .iload_n 1, []), (2, false, .if_icmp .lt 7, [9]), (5, false, .iload_n 0, []), (6, false, .goto 4, [10]), (9, false, .iload_n 1, []), (10, false, .ireturn, [])]
set_option maxRecDepth 20000 in
theorem kJ9_max_7cf53_ok : mm_cok cJ9_max_7cf53 RJ9 (mm_ctt ctRJ9) kJ9_max_7cf53 := mm_c_of (k := false) ctRJ9_ok (by decide +kernel)
set_option maxRecDepth 20000 in
theorem wJ9_max_7cf53 : ∀ w ∈ ([.static yJ9_max_7cf53, .initialized RJ9, .code yJ9_max_7cf53 cJ9_max_7cf53 2 (some .int)] : List Cond), w ∈ mm_tbl := mm_sub_at _ [576, 113, 577] (by decide +kernel) (by decide +kernel)
def vtJ9_max_7cf53 : List (Nat × Nat × Nat × mm_F) := []
def smJ9_max_7cf53 : List (Nat × Nat × Nat × mm_F) := []
def ZJ9_max_7cf53 (p : Program) (l : Launch) (e : Env) (s : State) (m : MethodId) (args : Array Value) (below : List Frame) (meth : Method) (c : Code) (cA : Nat → ClassId) (ad : Nat → Nat) (D : va_G) (A : Nat → Prop) : Prop := mm_Z p l e (mm_rm 0) s m args below meth c lay_c cA ad D A RJ9 cJ9_max_7cf53 2 1 (mm_flt flRJ9) (mm_clt (vtJ9_max_7cf53)) (mm_clt (smJ9_max_7cf53)) (mm_ctt ctRJ9) kJ9_max_7cf53
theorem okJ9_max_7cf53 : mm_Ok lay_c yJ9_max_7cf53 cJ9_max_7cf53 2 (some .int) 0 fJ9_max_7cf53 := by
  refine mm_enterF (rt := 1) (by decide +kernel) rfl ?_
  intro p l e s m args below meth c cA ad D A as M Q h C0
  have Z : ZJ9_max_7cf53 p l e s m args below meth c cA ad D A := ⟨C0, flRJ9_ok, mm_vt_of (mm_fa0), mm_vt_of (mm_fa0), kJ9_max_7cf53_ok, mm_ctok_J ctRJ9_ok⟩
  unfold fJ9_max_7cf53 at h
  split at h
  · skip
    exact ⟨Nat.le_of_ble_eq_true rfl, mm_Zb Z 10 0 [] mm_fa0 h⟩
  · exact h.elim
def kX0_findRests : List mm_E := [(0, false, .aload_n 0, []), (1, false, .iconst 0, []), (2, false, .putfield 102, []), (5, false, .iconst 0, []), (6, false, .istore_n 1, []), (7, true, .iload_n 1, []), (8, false, .aload_n 0, []), (9, false, .getfield 46, []), (12, false, .if_icmp .ge 90, [102]), (15, false, .aload_n 0, []), (16, false, .iload_n 1, []), (17, false, .invokevirtual 105, []), (20, false, .ifCond .eq 76, [96]), (23, false, .aload_n 0, []), (24, false, .getfield 18, []), (27, false, .iload_n 1, []), (28, false, .iaload, []), (29, false, .istore_n 2, []), (30, false, .aload_n 0, []), (31, false, .aload_n 0, []), (32, false, .getfield 102, []), (35, false, .ifCond .ne 7, [42]), (38, false, .iload_n 2, []), (39, false, .goto 11, [50]), (42, false, .aload_n 0, []), (43, false, .getfield 109, []), (46, false, .iload_n 2, []), (47, false, .invokestatic 40, []), (50, true, .putfield 109, []), (53, false, .aload_n 0, []), (54, false, .aload_n 0, []), (55, false, .getfield 102, []), (58, false, .ifCond .ne 7, [65]), (61, false, .iload_n 2, []), (62, false, .goto 11, [73]), (65, false, .aload_n 0, []), (66, false, .getfield 112, []), (69, false, .iload_n 2, []), (70, false, .invokestatic 115, []), (73, true, .putfield 112, []), (76, false, .aload_n 0, []), (77, false, .getfield 24, []), (80, false, .aload_n 0, []), (81, false, .getfield 102, []), (84, false, .iload_n 1, []), (85, false, .iastore, []), (86, false, .aload_n 0, []), (87, false, .dup, []), (88, false, .getfield 102, []), (91, false, .iconst 1, []), (92, false, .iadd, []), (93, false, .putfield 102, []), (96, false, .iinc 1 1, []), (99, false, .goto (-92), [7]), (102, false, .return_, [])]
set_option maxRecDepth 20000 in
theorem kX0_findRests_ok : mm_cok cX0_findRests RX0 (mm_ctt ctRX0) kX0_findRests := mm_c_of (k := false) ctRX0_ok (by decide +kernel)
set_option maxRecDepth 20000 in
theorem wX0_findRests : ∀ w ∈ ([.instanceMethod yX0_findRests, .selects RX0 yX0_findRests yX0_findRests, .initialized RX0, .code yX0_findRests cX0_findRests 3 none] : List Cond), w ∈ mm_tbl := mm_sub_at _ [705, 15, 109, 706] (by decide +kernel) (by decide +kernel)
def vtX0_findRests : List (Nat × Nat × Nat × mm_F) := [(105, 0, 2, fX0_isRest)]
def smX0_findRests : List (Nat × Nat × Nat × mm_F) := [(40, 0, 2, fJ9_min_7cf53), (115, 0, 2, fJ9_max_7cf53)]
def ZX0_findRests (p : Program) (l : Launch) (e : Env) (s : State) (m : MethodId) (args : Array Value) (below : List Frame) (meth : Method) (c : Code) (cA : Nat → ClassId) (ad : Nat → Nat) (D : va_G) (A : Nat → Prop) : Prop := mm_Z p l e (mm_rm 2) s m args below meth c lay_c cA ad D A RX0 cX0_findRests 3 0 (mm_flt flRX0) (mm_clt (vtX0_findRests)) (mm_clt (smX0_findRests)) (mm_ctt ctRX0) kX0_findRests
def qX0_findRests_73 (P : Int → Int → mm_M → Prop) : mm_K := fun ls st M => match ls, st with
  | [some (.inr (.inr c0)), some (.inl v1), _], [.inl w0, .inr (.inr d1)] => mm_chk (Nat.beq c0 115 && Nat.beq d1 115) (P v1 w0 M)
  | _, _ => False
def qX0_findRests_50 (P : Int → Int → Int → mm_M → Prop) : mm_K := fun ls st M => match ls, st with
  | [some (.inr (.inr c0)), some (.inl v1), some (.inl v2)], [.inl w0, .inr (.inr d1)] => mm_chk (Nat.beq c0 115 && Nat.beq d1 115) (P v1 v2 w0 M)
  | _, _ => False
def qX0_findRests_7 (P : Int → mm_M → Prop) : mm_K := fun ls st M => match ls, st with
  | [some (.inr (.inr c0)), some (.inl v1), _], [] => mm_chk (Nat.beq c0 115) (P v1 M)
  | _, _ => False
theorem okX0_findRests_73 {p : Program} {l : Launch} {e : Env} {s : State} {m : MethodId} {args : Array Value} {below : List Frame} {meth : Method} {c : Code} {cA : Nat → ClassId} {ad : Nat → Nat} {D : va_G} {A : Nat → Prop} {Q : Option mm_V → mm_M → Prop} (Z : ZX0_findRests p l e s m args below meth c cA ad D A) {K7 : Int → mm_M → Prop} (hk7 : ∀ ls st M, qX0_findRests_7 K7 ls st M → mm_G p l e (mm_rm 2) s m args below meth c lay_c cA ad D A 3 Q 7 ls st M) : ∀ ls st M, qX0_findRests_73 (fun v1 w0 M => bX0_findRests_73 K7 v1 w0 M (fun M => Q none M)) ls st M → mm_G p l e (mm_rm 2) s m args below meth c lay_c cA ad D A 3 Q 73 ls st M := by
  intro ls st M h
  unfold qX0_findRests_73 at h
  split at h
  · obtain ⟨hb, h⟩ := mm_chk_e h
    simp only [Bool.and_eq_true] at hb
    obtain ⟨x0, x1⟩ := hb
    cases (Nat.eq_of_beq_eq_true x0)
    cases (Nat.eq_of_beq_eq_true x1)
    exact mm_Zb Z 58 73 [(7, qX0_findRests_7 (K7))] (mm_fa1 hk7 mm_fa0) h
  · exact h.elim
theorem okX0_findRests_50 {p : Program} {l : Launch} {e : Env} {s : State} {m : MethodId} {args : Array Value} {below : List Frame} {meth : Method} {c : Code} {cA : Nat → ClassId} {ad : Nat → Nat} {D : va_G} {A : Nat → Prop} {Q : Option mm_V → mm_M → Prop} (Z : ZX0_findRests p l e s m args below meth c cA ad D A) {K7 : Int → mm_M → Prop} (hk7 : ∀ ls st M, qX0_findRests_7 K7 ls st M → mm_G p l e (mm_rm 2) s m args below meth c lay_c cA ad D A 3 Q 7 ls st M) : ∀ ls st M, qX0_findRests_50 (fun v1 v2 w0 M => bX0_findRests_50 K7 v1 v2 w0 M (fun M => Q none M)) ls st M → mm_G p l e (mm_rm 2) s m args below meth c lay_c cA ad D A 3 Q 50 ls st M := by
  intro ls st M h
  unfold qX0_findRests_50 at h
  split at h
  · obtain ⟨hb, h⟩ := mm_chk_e h
    simp only [Bool.and_eq_true] at hb
    obtain ⟨x0, x1⟩ := hb
    cases (Nat.eq_of_beq_eq_true x0)
    cases (Nat.eq_of_beq_eq_true x1)
    exact mm_Zb Z 58 50 [(73, qX0_findRests_73 (fun v1 w0 M => bX0_findRests_73 K7 v1 w0 M (fun M => Q none M)))] (mm_fa1 (fun ls st M h => okX0_findRests_73 Z hk7 ls st M h) mm_fa0) h
  · exact h.elim
theorem okX0_findRests_7 {p : Program} {l : Launch} {e : Env} {s : State} {m : MethodId} {args : Array Value} {below : List Frame} {meth : Method} {c : Code} {cA : Nat → ClassId} {ad : Nat → Nat} {D : va_G} {A : Nat → Prop} {Q : Option mm_V → mm_M → Prop} (Z : ZX0_findRests p l e s m args below meth c cA ad D A) : ∀ (n : Nat) ls st M, qX0_findRests_7 (fun v1 M => bX0_findRests_7 n v1 M (fun M => Q none M)) ls st M → mm_G p l e (mm_rm 2) s m args below meth c lay_c cA ad D A 3 Q 7 ls st M
  | 0, ls, st, M, h => by
    unfold qX0_findRests_7 at h
    split at h
    · obtain ⟨hb, h⟩ := mm_chk_e h
      cases (Nat.eq_of_beq_eq_true hb)
      exact h.elim
    · exact h.elim
  | n + 1, ls, st, M, h => by
    have ih := okX0_findRests_7 (Q := Q) Z  n
    unfold qX0_findRests_7 at h
    split at h
    · obtain ⟨hb, h⟩ := mm_chk_e h
      cases (Nat.eq_of_beq_eq_true hb)
      exact mm_Zb Z 58 7 [(7, qX0_findRests_7 (fun v1 M => bX0_findRests_7 n v1 M (fun M => Q none M))), (50, qX0_findRests_50 (fun v1 v2 w0 M => bX0_findRests_50 (fun v1 M => bX0_findRests_7 n v1 M (fun M => Q none M)) v1 v2 w0 M (fun M => Q none M)))] (mm_fa1 ih (mm_fa1 (fun ls st M h => okX0_findRests_50 Z (ih) ls st M h) mm_fa0)) h
    · exact h.elim
theorem okX0_findRests_7x {p : Program} {l : Launch} {e : Env} {s : State} {m : MethodId} {args : Array Value} {below : List Frame} {meth : Method} {c : Code} {cA : Nat → ClassId} {ad : Nat → Nat} {D : va_G} {A : Nat → Prop} {Q : Option mm_V → mm_M → Prop} (Z : ZX0_findRests p l e s m args below meth c cA ad D A) : ∀ ls st M, qX0_findRests_7 (fun v1 M => ∃ j, bX0_findRests_7 j v1 M (fun M => Q none M)) ls st M → mm_G p l e (mm_rm 2) s m args below meth c lay_c cA ad D A 3 Q 7 ls st M := by
  intro ls st M h
  have hex : ∃ n, qX0_findRests_7 (fun v1 M => bX0_findRests_7 n v1 M (fun M => Q none M)) ls st M := by
    unfold qX0_findRests_7 at h
    split at h
    · obtain ⟨hb, h⟩ := mm_chk_e h
      cases (Nat.eq_of_beq_eq_true hb)
      obtain ⟨n, h⟩ := h
      exact ⟨n, h⟩
    · exact h.elim
  obtain ⟨n, hex⟩ := hex
  exact okX0_findRests_7 Z  n ls st M hex
theorem okX0_findRests : mm_Ok lay_c yX0_findRests cX0_findRests 3 none 2 fX0_findRests := by
  refine mm_enter (rt := 0) (by decide +kernel) rfl ?_
  intro p l e s m args below meth c cA ad D A as M Q h C0
  have Z : ZX0_findRests p l e s m args below meth c cA ad D A := ⟨C0, flRX0_ok, mm_vt_of (mm_fa1 (mm_coV (n := 1) (ci := 0) C0 okX0_isRest rfl rfl (mm_one_at (.methodLink RX0 105 yX0_isRest) 707 (by decide +kernel) rfl) (wX0_isRest _ (by simp)) (wX0_isRest _ (by simp [yX0_isRest])) (wX0_isRest _ (by simp [yX0_isRest])) (wX0_isRest _ (by simp)) (by decide +kernel) (by omega) (by omega)) (mm_fa0)), mm_vt_of (mm_fa1 (mm_coS (n := 2) C0 okJ9_min_7cf53 (mm_one_at (.methodLink RX0 40 yJ9_min_7cf53) 682 (by decide +kernel) rfl) (wJ9_min_7cf53 _ (by simp)) (wJ9_min_7cf53 _ (by simp [yJ9_min_7cf53])) (wJ9_min_7cf53 _ (by simp)) (by decide +kernel) (by omega) (by omega)) (mm_fa1 (mm_coS (n := 2) C0 okJ9_max_7cf53 (mm_one_at (.methodLink RX0 115 yJ9_max_7cf53) 715 (by decide +kernel) rfl) (wJ9_max_7cf53 _ (by simp)) (wJ9_max_7cf53 _ (by simp [yJ9_max_7cf53])) (wJ9_max_7cf53 _ (by simp)) (by decide +kernel) (by omega) (by omega)) (mm_fa0))), kX0_findRests_ok, mm_ctok_J ctRX0_ok⟩
  unfold fX0_findRests at h
  split at h
  · obtain ⟨hb, h⟩ := mm_chk_e h
    cases (Nat.eq_of_beq_eq_true hb)
    exact ⟨Nat.le_of_ble_eq_true rfl, mm_Zb Z 58 0 [(7, qX0_findRests_7 (fun v1 M => ∃ j, bX0_findRests_7 j v1 M (fun M => Q none M)))] (mm_fa1 (fun ls st M h => okX0_findRests_7x Z  ls st M h) mm_fa0) h⟩
  · exact h.elim
def kX6_takeSet : List mm_E := [(0, false, .iload_n 1, []), (1, false, .istore_n 2, []), (2, false, .aload_n 0, []), (3, false, .getfield 41, []), (6, false, .iconst 1, []), (7, false, .isub, []), (8, false, .istore_n 3, []), (9, true, .iload_n 3, []), (10, false, .ifCond .lt 44, [54]), (13, false, .aload_n 0, []), (14, false, .getfield 20, []), (17, false, .iload_n 3, []), (18, false, .aaload, []), (19, false, .getfield 72, []), (22, false, .istore 4, []), (24, false, .iload 4, []), (26, false, .ifCond .le 22, [48]), (29, false, .aload_n 0, []), (30, false, .aload_n 0, []), (31, false, .getfield 20, []), (34, false, .iload_n 3, []), (35, false, .aaload, []), (36, false, .iload_n 2, []), (37, false, .iload 4, []), (39, false, .irem, []), (40, false, .invokevirtual 83, []), (43, false, .iload_n 2, []), (44, false, .iload 4, []), (46, false, .idiv, []), (47, false, .istore_n 2, []), (48, false, .iinc 3 (-1), []), (51, false, .goto (-42), [9]), (54, false, .return_, [])]
set_option maxRecDepth 20000 in
theorem kX6_takeSet_ok : mm_cok cX6_takeSet RX6 (mm_ctt ctRX6) kX6_takeSet := mm_c_of (k := true) ctRX6_ok (by decide +kernel)
set_option maxRecDepth 20000 in
theorem wX6_takeSet : ∀ w ∈ ([.instanceMethod yX6_takeSet, .selects RX6 yX6_takeSet yX6_takeSet, .initialized RX6, .code yX6_takeSet cX6_takeSet 5 none] : List Cond), w ∈ mm_tbl := mm_sub_at _ [690, 691, 107, 692] (by decide +kernel) (by decide +kernel)
def vtX6_takeSet : List (Nat × Nat × Nat × mm_F) := [(83, 6, 3, fX6_moveTo)]
def smX6_takeSet : List (Nat × Nat × Nat × mm_F) := []
def ZX6_takeSet (p : Program) (l : Launch) (e : Env) (s : State) (m : MethodId) (args : Array Value) (below : List Frame) (meth : Method) (c : Code) (cA : Nat → ClassId) (ad : Nat → Nat) (D : va_G) (A : Nat → Prop) : Prop := mm_Z p l e (mm_rm 2) s m args below meth c lay_c cA ad D A RX6 cX6_takeSet 5 0 (mm_flt flRX6) (mm_clt (vtX6_takeSet)) (mm_clt (smX6_takeSet)) (mm_ctt ctRX6) kX6_takeSet
def qX6_takeSet_9 (P : Int → Int → Int → mm_M → Prop) : mm_K := fun ls st M => match ls, st with
  | [some (.inr (.inr c0)), some (.inl v1), some (.inl v2), some (.inl v3), _], [] => mm_chk (Nat.beq c0 9) (P v1 v2 v3 M)
  | _, _ => False
theorem okX6_takeSet_9 {p : Program} {l : Launch} {e : Env} {s : State} {m : MethodId} {args : Array Value} {below : List Frame} {meth : Method} {c : Code} {cA : Nat → ClassId} {ad : Nat → Nat} {D : va_G} {A : Nat → Prop} {Q : Option mm_V → mm_M → Prop} (Z : ZX6_takeSet p l e s m args below meth c cA ad D A) : ∀ (n : Nat) ls st M, qX6_takeSet_9 (fun v1 v2 v3 M => bX6_takeSet_9 n v1 v2 v3 M (fun M => Q none M)) ls st M → mm_G p l e (mm_rm 2) s m args below meth c lay_c cA ad D A 5 Q 9 ls st M
  | 0, ls, st, M, h => by
    unfold qX6_takeSet_9 at h
    split at h
    · obtain ⟨hb, h⟩ := mm_chk_e h
      cases (Nat.eq_of_beq_eq_true hb)
      exact h.elim
    · exact h.elim
  | n + 1, ls, st, M, h => by
    have ih := okX6_takeSet_9 (Q := Q) Z  n
    unfold qX6_takeSet_9 at h
    split at h
    · obtain ⟨hb, h⟩ := mm_chk_e h
      cases (Nat.eq_of_beq_eq_true hb)
      exact mm_Zb Z 36 9 [(9, qX6_takeSet_9 (fun v1 v2 v3 M => bX6_takeSet_9 n v1 v2 v3 M (fun M => Q none M)))] (mm_fa1 ih mm_fa0) h
    · exact h.elim
theorem okX6_takeSet_9x {p : Program} {l : Launch} {e : Env} {s : State} {m : MethodId} {args : Array Value} {below : List Frame} {meth : Method} {c : Code} {cA : Nat → ClassId} {ad : Nat → Nat} {D : va_G} {A : Nat → Prop} {Q : Option mm_V → mm_M → Prop} (Z : ZX6_takeSet p l e s m args below meth c cA ad D A) : ∀ ls st M, qX6_takeSet_9 (fun v1 v2 v3 M => ∃ j, bX6_takeSet_9 j v1 v2 v3 M (fun M => Q none M)) ls st M → mm_G p l e (mm_rm 2) s m args below meth c lay_c cA ad D A 5 Q 9 ls st M := by
  intro ls st M h
  have hex : ∃ n, qX6_takeSet_9 (fun v1 v2 v3 M => bX6_takeSet_9 n v1 v2 v3 M (fun M => Q none M)) ls st M := by
    unfold qX6_takeSet_9 at h
    split at h
    · obtain ⟨hb, h⟩ := mm_chk_e h
      cases (Nat.eq_of_beq_eq_true hb)
      obtain ⟨n, h⟩ := h
      exact ⟨n, h⟩
    · exact h.elim
  obtain ⟨n, hex⟩ := hex
  exact okX6_takeSet_9 Z  n ls st M hex
theorem okX6_takeSet : mm_Ok lay_c yX6_takeSet cX6_takeSet 5 none 2 fX6_takeSet := by
  refine mm_enter (rt := 0) (by decide +kernel) rfl ?_
  intro p l e s m args below meth c cA ad D A as M Q h C0
  have Z : ZX6_takeSet p l e s m args below meth c cA ad D A := ⟨C0, flRX6_ok, mm_vt_of (mm_fa1 (mm_coV (n := 2) (ci := 6) C0 okX6_moveTo rfl rfl (mm_one_at (.methodLink RX6 83 yX6_moveTo) 618 (by decide +kernel) rfl) (wX6_moveTo _ (by simp)) (wX6_moveTo _ (by simp [yX6_moveTo])) (wX6_moveTo _ (by simp [yX6_moveTo])) (wX6_moveTo _ (by simp)) (by decide +kernel) (by omega) (by omega)) (mm_fa0)), mm_vt_of (mm_fa0), kX6_takeSet_ok, mm_ctok_I ctRX6_ok⟩
  unfold fX6_takeSet at h
  split at h
  · obtain ⟨hb, h⟩ := mm_chk_e h
    cases (Nat.eq_of_beq_eq_true hb)
    exact ⟨Nat.le_of_ble_eq_true rfl, mm_Zb Z 36 0 [(9, qX6_takeSet_9 (fun v1 v2 v3 M => ∃ j, bX6_takeSet_9 j v1 v2 v3 M (fun M => Q none M)))] (mm_fa1 (fun ls st M h => okX6_takeSet_9x Z  ls st M h) mm_fa0) h⟩
  · exact h.elim
def kX6_socialNow : List mm_E := [(0, false, .iconst 0, []), (1, false, .istore_n 1, []), (2, false, .iconst 0, []), (3, false, .istore_n 2, []), (4, true, .iload_n 2, []), (5, false, .aload_n 0, []), (6, false, .getfield 12, []), (9, false, .getfield 48, []), (12, false, .if_icmp .ge 45, [57]), (15, false, .iload_n 1, []), (16, false, .aload_n 0, []), (17, false, .getfield 24, []), (20, false, .iload_n 2, []), (21, false, .iaload, []), (22, false, .aload_n 0, []), (23, false, .getfield 12, []), (26, false, .getfield 51, []), (29, false, .iload_n 2, []), (30, false, .iaload, []), (31, false, .aload_n 0, []), (32, false, .getfield 12, []), (35, false, .getfield 60, []), (38, false, .iload_n 2, []), (39, false, .iaload, []), (40, false, .aload_n 0, []), (41, false, .getfield 24, []), (44, false, .iload_n 2, []), (45, false, .iaload, []), (46, false, .imul, []), (47, false, .iadd, []), (48, false, .imul, []), (49, false, .iadd, []), (50, false, .istore_n 1, []), (51, false, .iinc 2 1, []), (54, false, .goto (-50), [4]), (57, false, .iload_n 1, []), (58, false, .ireturn, [])]
set_option maxRecDepth 20000 in
theorem kX6_socialNow_ok : mm_cok cX6_socialNow RX6 (mm_ctt ctRX6) kX6_socialNow := mm_c_of (k := true) ctRX6_ok (by decide +kernel)
set_option maxRecDepth 20000 in
theorem wX6_socialNow : ∀ w ∈ ([.instanceMethod yX6_socialNow, .selects RX6 yX6_socialNow yX6_socialNow, .initialized RX6, .code yX6_socialNow cX6_socialNow 3 (some .int)] : List Cond), w ∈ mm_tbl := mm_sub_at _ [548, 549, 107, 550] (by decide +kernel) (by decide +kernel)
def vtX6_socialNow : List (Nat × Nat × Nat × mm_F) := []
def smX6_socialNow : List (Nat × Nat × Nat × mm_F) := []
def ZX6_socialNow (p : Program) (l : Launch) (e : Env) (s : State) (m : MethodId) (args : Array Value) (below : List Frame) (meth : Method) (c : Code) (cA : Nat → ClassId) (ad : Nat → Nat) (D : va_G) (A : Nat → Prop) : Prop := mm_Z p l e (mm_rm 0) s m args below meth c lay_c cA ad D A RX6 cX6_socialNow 3 1 (mm_flt flRX6) (mm_clt (vtX6_socialNow)) (mm_clt (smX6_socialNow)) (mm_ctt ctRX6) kX6_socialNow
def qX6_socialNow_4 (P : Int → Int → mm_M → Prop) : mm_K := fun ls st M => match ls, st with
  | [some (.inr (.inr c0)), some (.inl v1), some (.inl v2)], [] => mm_chk (Nat.beq c0 9) (P v1 v2 M)
  | _, _ => False
theorem okX6_socialNow_4 {p : Program} {l : Launch} {e : Env} {s : State} {m : MethodId} {args : Array Value} {below : List Frame} {meth : Method} {c : Code} {cA : Nat → ClassId} {ad : Nat → Nat} {D : va_G} {A : Nat → Prop} {Q : Option mm_V → mm_M → Prop} (Z : ZX6_socialNow p l e s m args below meth c cA ad D A) : ∀ (n : Nat) ls st M, qX6_socialNow_4 (fun v1 v2 M => bX6_socialNow_4 n v1 v2 M (fun r M => Q (some (.inl r)) M)) ls st M → mm_G p l e (mm_rm 0) s m args below meth c lay_c cA ad D A 3 Q 4 ls st M
  | 0, ls, st, M, h => by
    unfold qX6_socialNow_4 at h
    split at h
    · obtain ⟨hb, h⟩ := mm_chk_e h
      cases (Nat.eq_of_beq_eq_true hb)
      exact h.elim
    · exact h.elim
  | n + 1, ls, st, M, h => by
    have ih := okX6_socialNow_4 (Q := Q) Z  n
    unfold qX6_socialNow_4 at h
    split at h
    · obtain ⟨hb, h⟩ := mm_chk_e h
      cases (Nat.eq_of_beq_eq_true hb)
      exact mm_Zb Z 40 4 [(4, qX6_socialNow_4 (fun v1 v2 M => bX6_socialNow_4 n v1 v2 M (fun r M => Q (some (.inl r)) M)))] (mm_fa1 ih mm_fa0) h
    · exact h.elim
theorem okX6_socialNow_4x {p : Program} {l : Launch} {e : Env} {s : State} {m : MethodId} {args : Array Value} {below : List Frame} {meth : Method} {c : Code} {cA : Nat → ClassId} {ad : Nat → Nat} {D : va_G} {A : Nat → Prop} {Q : Option mm_V → mm_M → Prop} (Z : ZX6_socialNow p l e s m args below meth c cA ad D A) : ∀ ls st M, qX6_socialNow_4 (fun v1 v2 M => ∃ j, bX6_socialNow_4 j v1 v2 M (fun r M => Q (some (.inl r)) M)) ls st M → mm_G p l e (mm_rm 0) s m args below meth c lay_c cA ad D A 3 Q 4 ls st M := by
  intro ls st M h
  have hex : ∃ n, qX6_socialNow_4 (fun v1 v2 M => bX6_socialNow_4 n v1 v2 M (fun r M => Q (some (.inl r)) M)) ls st M := by
    unfold qX6_socialNow_4 at h
    split at h
    · obtain ⟨hb, h⟩ := mm_chk_e h
      cases (Nat.eq_of_beq_eq_true hb)
      obtain ⟨n, h⟩ := h
      exact ⟨n, h⟩
    · exact h.elim
  obtain ⟨n, hex⟩ := hex
  exact okX6_socialNow_4 Z  n ls st M hex
theorem okX6_socialNow : mm_Ok lay_c yX6_socialNow cX6_socialNow 3 (some .int) 0 fX6_socialNow := by
  refine mm_enter (rt := 1) (by decide +kernel) rfl ?_
  intro p l e s m args below meth c cA ad D A as M Q h C0
  have Z : ZX6_socialNow p l e s m args below meth c cA ad D A := ⟨C0, flRX6_ok, mm_vt_of (mm_fa0), mm_vt_of (mm_fa0), kX6_socialNow_ok, mm_ctok_I ctRX6_ok⟩
  unfold fX6_socialNow at h
  split at h
  · obtain ⟨hb, h⟩ := mm_chk_e h
    cases (Nat.eq_of_beq_eq_true hb)
    exact ⟨Nat.le_of_ble_eq_true rfl, mm_Zb Z 40 0 [(4, qX6_socialNow_4 (fun v1 v2 M => ∃ j, bX6_socialNow_4 j v1 v2 M (fun r M => Q (some (.inl r)) M)))] (mm_fa1 (fun ls st M h => okX6_socialNow_4x Z  ls st M h) mm_fa0) h⟩
  · exact h.elim
def kX6_potentialNow : List mm_E := [(0, false, .iconst 0, []), (1, false, .istore_n 1, []), (2, false, .iconst 0, []), (3, false, .istore_n 2, []), (4, true, .iload_n 2, []), (5, false, .aload_n 0, []), (6, false, .getfield 12, []), (9, false, .getfield 48, []), (12, false, .if_icmp .ge 38, [50]), (15, false, .iconst 1, []), (16, false, .istore_n 3, []), (17, true, .iload_n 3, []), (18, false, .aload_n 0, []), (19, false, .getfield 24, []), (22, false, .iload_n 2, []), (23, false, .iaload, []), (24, false, .if_icmp .gt 20, [44]), (27, false, .iload_n 1, []), (28, false, .aload_n 0, []), (29, false, .getfield 30, []), (32, false, .iload_n 2, []), (33, false, .aaload, []), (34, false, .iload_n 3, []), (35, false, .iaload, []), (36, false, .iadd, []), (37, false, .istore_n 1, []), (38, false, .iinc 3 1, []), (41, false, .goto (-24), [17]), (44, false, .iinc 2 1, []), (47, false, .goto (-43), [4]), (50, false, .iload_n 1, []), (51, false, .ireturn, [])]
set_option maxRecDepth 20000 in
theorem kX6_potentialNow_ok : mm_cok cX6_potentialNow RX6 (mm_ctt ctRX6) kX6_potentialNow := mm_c_of (k := true) ctRX6_ok (by decide +kernel)
set_option maxRecDepth 20000 in
theorem wX6_potentialNow : ∀ w ∈ ([.instanceMethod yX6_potentialNow, .selects RX6 yX6_potentialNow yX6_potentialNow, .initialized RX6, .code yX6_potentialNow cX6_potentialNow 4 (some .int)] : List Cond), w ∈ mm_tbl := mm_sub_at _ [552, 553, 107, 554] (by decide +kernel) (by decide +kernel)
def vtX6_potentialNow : List (Nat × Nat × Nat × mm_F) := []
def smX6_potentialNow : List (Nat × Nat × Nat × mm_F) := []
def ZX6_potentialNow (p : Program) (l : Launch) (e : Env) (s : State) (m : MethodId) (args : Array Value) (below : List Frame) (meth : Method) (c : Code) (cA : Nat → ClassId) (ad : Nat → Nat) (D : va_G) (A : Nat → Prop) : Prop := mm_Z p l e (mm_rm 0) s m args below meth c lay_c cA ad D A RX6 cX6_potentialNow 4 1 (mm_flt flRX6) (mm_clt (vtX6_potentialNow)) (mm_clt (smX6_potentialNow)) (mm_ctt ctRX6) kX6_potentialNow
def qX6_potentialNow_17 (P : Int → Int → Int → mm_M → Prop) : mm_K := fun ls st M => match ls, st with
  | [some (.inr (.inr c0)), some (.inl v1), some (.inl v2), some (.inl v3)], [] => mm_chk (Nat.beq c0 9) (P v1 v2 v3 M)
  | _, _ => False
def qX6_potentialNow_4 (P : Int → Int → mm_M → Prop) : mm_K := fun ls st M => match ls, st with
  | [some (.inr (.inr c0)), some (.inl v1), some (.inl v2), _], [] => mm_chk (Nat.beq c0 9) (P v1 v2 M)
  | _, _ => False
theorem okX6_potentialNow_17 {p : Program} {l : Launch} {e : Env} {s : State} {m : MethodId} {args : Array Value} {below : List Frame} {meth : Method} {c : Code} {cA : Nat → ClassId} {ad : Nat → Nat} {D : va_G} {A : Nat → Prop} {Q : Option mm_V → mm_M → Prop} (Z : ZX6_potentialNow p l e s m args below meth c cA ad D A) {K4 : Int → Int → mm_M → Prop} (hk4 : ∀ ls st M, qX6_potentialNow_4 K4 ls st M → mm_G p l e (mm_rm 0) s m args below meth c lay_c cA ad D A 4 Q 4 ls st M) : ∀ (n : Nat) ls st M, qX6_potentialNow_17 (fun v1 v2 v3 M => bX6_potentialNow_17 K4 n v1 v2 v3 M (fun r M => Q (some (.inl r)) M)) ls st M → mm_G p l e (mm_rm 0) s m args below meth c lay_c cA ad D A 4 Q 17 ls st M
  | 0, ls, st, M, h => by
    unfold qX6_potentialNow_17 at h
    split at h
    · obtain ⟨hb, h⟩ := mm_chk_e h
      cases (Nat.eq_of_beq_eq_true hb)
      exact h.elim
    · exact h.elim
  | n + 1, ls, st, M, h => by
    have ih := okX6_potentialNow_17 (Q := Q) Z hk4 n
    unfold qX6_potentialNow_17 at h
    split at h
    · obtain ⟨hb, h⟩ := mm_chk_e h
      cases (Nat.eq_of_beq_eq_true hb)
      exact mm_Zb Z 35 17 [(4, qX6_potentialNow_4 (K4)), (17, qX6_potentialNow_17 (fun v1 v2 v3 M => bX6_potentialNow_17 K4 n v1 v2 v3 M (fun r M => Q (some (.inl r)) M)))] (mm_fa1 hk4 (mm_fa1 ih mm_fa0)) h
    · exact h.elim
theorem okX6_potentialNow_17x {p : Program} {l : Launch} {e : Env} {s : State} {m : MethodId} {args : Array Value} {below : List Frame} {meth : Method} {c : Code} {cA : Nat → ClassId} {ad : Nat → Nat} {D : va_G} {A : Nat → Prop} {Q : Option mm_V → mm_M → Prop} (Z : ZX6_potentialNow p l e s m args below meth c cA ad D A) {K4 : Int → Int → mm_M → Prop} (hk4 : ∀ ls st M, qX6_potentialNow_4 K4 ls st M → mm_G p l e (mm_rm 0) s m args below meth c lay_c cA ad D A 4 Q 4 ls st M) : ∀ ls st M, qX6_potentialNow_17 (fun v1 v2 v3 M => ∃ j, bX6_potentialNow_17 K4 j v1 v2 v3 M (fun r M => Q (some (.inl r)) M)) ls st M → mm_G p l e (mm_rm 0) s m args below meth c lay_c cA ad D A 4 Q 17 ls st M := by
  intro ls st M h
  have hex : ∃ n, qX6_potentialNow_17 (fun v1 v2 v3 M => bX6_potentialNow_17 K4 n v1 v2 v3 M (fun r M => Q (some (.inl r)) M)) ls st M := by
    unfold qX6_potentialNow_17 at h
    split at h
    · obtain ⟨hb, h⟩ := mm_chk_e h
      cases (Nat.eq_of_beq_eq_true hb)
      obtain ⟨n, h⟩ := h
      exact ⟨n, h⟩
    · exact h.elim
  obtain ⟨n, hex⟩ := hex
  exact okX6_potentialNow_17 Z hk4 n ls st M hex
theorem okX6_potentialNow_4 {p : Program} {l : Launch} {e : Env} {s : State} {m : MethodId} {args : Array Value} {below : List Frame} {meth : Method} {c : Code} {cA : Nat → ClassId} {ad : Nat → Nat} {D : va_G} {A : Nat → Prop} {Q : Option mm_V → mm_M → Prop} (Z : ZX6_potentialNow p l e s m args below meth c cA ad D A) : ∀ (n : Nat) ls st M, qX6_potentialNow_4 (fun v1 v2 M => bX6_potentialNow_4 n v1 v2 M (fun r M => Q (some (.inl r)) M)) ls st M → mm_G p l e (mm_rm 0) s m args below meth c lay_c cA ad D A 4 Q 4 ls st M
  | 0, ls, st, M, h => by
    unfold qX6_potentialNow_4 at h
    split at h
    · obtain ⟨hb, h⟩ := mm_chk_e h
      cases (Nat.eq_of_beq_eq_true hb)
      exact h.elim
    · exact h.elim
  | n + 1, ls, st, M, h => by
    have ih := okX6_potentialNow_4 (Q := Q) Z  n
    unfold qX6_potentialNow_4 at h
    split at h
    · obtain ⟨hb, h⟩ := mm_chk_e h
      cases (Nat.eq_of_beq_eq_true hb)
      exact mm_Zb Z 35 4 [(17, qX6_potentialNow_17 (fun v1 v2 v3 M => ∃ j, bX6_potentialNow_17 (fun v1 v2 M => bX6_potentialNow_4 n v1 v2 M (fun r M => Q (some (.inl r)) M)) j v1 v2 v3 M (fun r M => Q (some (.inl r)) M)))] (mm_fa1 (fun ls st M h => okX6_potentialNow_17x Z (ih) ls st M h) mm_fa0) h
    · exact h.elim
theorem okX6_potentialNow_4x {p : Program} {l : Launch} {e : Env} {s : State} {m : MethodId} {args : Array Value} {below : List Frame} {meth : Method} {c : Code} {cA : Nat → ClassId} {ad : Nat → Nat} {D : va_G} {A : Nat → Prop} {Q : Option mm_V → mm_M → Prop} (Z : ZX6_potentialNow p l e s m args below meth c cA ad D A) : ∀ ls st M, qX6_potentialNow_4 (fun v1 v2 M => ∃ j, bX6_potentialNow_4 j v1 v2 M (fun r M => Q (some (.inl r)) M)) ls st M → mm_G p l e (mm_rm 0) s m args below meth c lay_c cA ad D A 4 Q 4 ls st M := by
  intro ls st M h
  have hex : ∃ n, qX6_potentialNow_4 (fun v1 v2 M => bX6_potentialNow_4 n v1 v2 M (fun r M => Q (some (.inl r)) M)) ls st M := by
    unfold qX6_potentialNow_4 at h
    split at h
    · obtain ⟨hb, h⟩ := mm_chk_e h
      cases (Nat.eq_of_beq_eq_true hb)
      obtain ⟨n, h⟩ := h
      exact ⟨n, h⟩
    · exact h.elim
  obtain ⟨n, hex⟩ := hex
  exact okX6_potentialNow_4 Z  n ls st M hex
theorem okX6_potentialNow : mm_Ok lay_c yX6_potentialNow cX6_potentialNow 4 (some .int) 0 fX6_potentialNow := by
  refine mm_enter (rt := 1) (by decide +kernel) rfl ?_
  intro p l e s m args below meth c cA ad D A as M Q h C0
  have Z : ZX6_potentialNow p l e s m args below meth c cA ad D A := ⟨C0, flRX6_ok, mm_vt_of (mm_fa0), mm_vt_of (mm_fa0), kX6_potentialNow_ok, mm_ctok_I ctRX6_ok⟩
  unfold fX6_potentialNow at h
  split at h
  · obtain ⟨hb, h⟩ := mm_chk_e h
    cases (Nat.eq_of_beq_eq_true hb)
    exact ⟨Nat.le_of_ble_eq_true rfl, mm_Zb Z 35 0 [(4, qX6_potentialNow_4 (fun v1 v2 M => ∃ j, bX6_potentialNow_4 j v1 v2 M (fun r M => Q (some (.inl r)) M)))] (mm_fa1 (fun ls st M h => okX6_potentialNow_4x Z  ls st M h) mm_fa0) h⟩
  · exact h.elim
def kX0_survey : List mm_E := [(0, false, .aload_n 0, []), (1, false, .aload_n 1, []), (2, false, .invokevirtual 34, []), (5, false, .sipush 500, []), (8, false, .invokestatic 40, []), (11, false, .putfield 46, []), (14, false, .aload_n 0, []), (15, false, .aload_n 1, []), (16, false, .getfield 50, []), (19, false, .putfield 51, []), (22, false, .iconst 1, []), (23, false, .istore_n 2, []), (24, false, .aload_n 0, []), (25, false, .getfield 51, []), (28, false, .iconst 1, []), (29, false, .isub, []), (30, false, .istore_n 3, []), (31, true, .iload_n 3, []), (32, false, .ifCond .lt 40, [72]), (35, false, .aload_n 0, []), (36, false, .getfield 9, []), (39, false, .iload_n 3, []), (40, false, .aload_n 1, []), (41, false, .getfield 54, []), (44, false, .iload_n 3, []), (45, false, .aaload, []), (46, false, .getfield 57, []), (49, false, .iastore, []), (50, false, .aload_n 0, []), (51, false, .getfield 15, []), (54, false, .iload_n 3, []), (55, false, .iload_n 2, []), (56, false, .iastore, []), (57, false, .iload_n 2, []), (58, false, .aload_n 0, []), (59, false, .getfield 9, []), (62, false, .iload_n 3, []), (63, false, .iaload, []), (64, false, .imul, []), (65, false, .istore_n 2, []), (66, false, .iinc 3 (-1), []), (69, false, .goto (-38), [31]), (72, false, .aload_n 1, []), (73, false, .invokevirtual 61, []), (76, false, .iconst 0, []), (77, false, .istore_n 3, []), (78, true, .iload_n 3, []), (79, false, .aload_n 0, []), (80, false, .getfield 46, []), (83, false, .if_icmp .ge 34, [117]), (86, false, .aload_n 1, []), (87, false, .iload_n 3, []), (88, false, .invokevirtual 64, []), (91, false, .aload_n 0, []), (92, false, .getfield 18, []), (95, false, .iload_n 3, []), (96, false, .aload_n 1, []), (97, false, .invokevirtual 68, []), (100, false, .iastore, []), (101, false, .aload_n 0, []), (102, false, .getfield 21, []), (105, false, .iload_n 3, []), (106, false, .aload_n 1, []), (107, false, .invokevirtual 71, []), (110, false, .iastore, []), (111, false, .iinc 3 1, []), (114, false, .goto (-36), [78]), (117, false, .aload_n 1, []), (118, false, .invokevirtual 74, []), (121, false, .aload_n 0, []), (122, false, .invokevirtual 77, []), (125, false, .aload_n 0, []), (126, false, .invokevirtual 80, []), (129, false, .aload_n 0, []), (130, false, .getfield 30, []), (133, false, .iconst (-1), []), (134, false, .putfield 83, []), (137, false, .aload_n 0, []), (138, false, .iconst 1, []), (139, false, .putfield 86, []), (142, false, .return_, [])]
set_option maxRecDepth 20000 in
theorem kX0_survey_ok : mm_cok cX0_survey RX0 (mm_ctt ctRX0) kX0_survey := mm_c_of (k := false) ctRX0_ok (by decide +kernel)
set_option maxRecDepth 20000 in
theorem wX0_survey : ∀ w ∈ ([.instanceMethod yX0_survey, .selects RX0 yX0_survey yX0_survey, .initialized RX0, .code yX0_survey cX0_survey 4 none] : List Cond), w ∈ mm_tbl := mm_sub_at _ [678, 679, 109, 680] (by decide +kernel) (by decide +kernel)
def vtX0_survey : List (Nat × Nat × Nat × mm_F) := [(34, 6, 1, fX6_setsInAll), (61, 6, 1, fX6_keepSet), (74, 6, 1, fX6_takeKeptSet), (77, 0, 1, fX0_findLeast), (80, 0, 1, fX0_findRests), (64, 6, 2, fX6_takeSet), (68, 6, 1, fX6_socialNow), (71, 6, 1, fX6_potentialNow)]
def smX0_survey : List (Nat × Nat × Nat × mm_F) := [(40, 0, 2, fJ9_min_7cf53)]
def ZX0_survey (p : Program) (l : Launch) (e : Env) (s : State) (m : MethodId) (args : Array Value) (below : List Frame) (meth : Method) (c : Code) (cA : Nat → ClassId) (ad : Nat → Nat) (D : va_G) (A : Nat → Prop) : Prop := mm_Z p l e (mm_rm 3) s m args below meth c lay_c cA ad D A RX0 cX0_survey 4 0 (mm_flt flRX0) (mm_clt (vtX0_survey)) (mm_clt (smX0_survey)) (mm_ctt ctRX0) kX0_survey
def qX0_survey_78 (P : Int → Int → mm_M → Prop) : mm_K := fun ls st M => match ls, st with
  | [some (.inr (.inr c0)), some (.inr (.inr c1)), some (.inl v2), some (.inl v3)], [] => mm_chk (Nat.beq c0 115 && Nat.beq c1 9) (P v2 v3 M)
  | _, _ => False
def qX0_survey_31 (P : Int → Int → mm_M → Prop) : mm_K := fun ls st M => match ls, st with
  | [some (.inr (.inr c0)), some (.inr (.inr c1)), some (.inl v2), some (.inl v3)], [] => mm_chk (Nat.beq c0 115 && Nat.beq c1 9) (P v2 v3 M)
  | _, _ => False
set_option maxRecDepth 100000 in
theorem okX0_survey_78 {p : Program} {l : Launch} {e : Env} {s : State} {m : MethodId} {args : Array Value} {below : List Frame} {meth : Method} {c : Code} {cA : Nat → ClassId} {ad : Nat → Nat} {D : va_G} {A : Nat → Prop} {Q : Option mm_V → mm_M → Prop} (Z : ZX0_survey p l e s m args below meth c cA ad D A) : ∀ (n : Nat) ls st M, qX0_survey_78 (fun v2 v3 M => bX0_survey_78 n v2 v3 M (fun M => Q none M)) ls st M → mm_G p l e (mm_rm 3) s m args below meth c lay_c cA ad D A 4 Q 78 ls st M
  | 0, ls, st, M, h => by
    unfold qX0_survey_78 at h
    split at h
    · obtain ⟨hb, h⟩ := mm_chk_e h
      simp only [Bool.and_eq_true] at hb
      obtain ⟨x0, x1⟩ := hb
      cases (Nat.eq_of_beq_eq_true x0)
      cases (Nat.eq_of_beq_eq_true x1)
      exact h.elim
    · exact h.elim
  | n + 1, ls, st, M, h => by
    have ih := okX0_survey_78 (Q := Q) Z  n
    unfold qX0_survey_78 at h
    split at h
    · obtain ⟨hb, h⟩ := mm_chk_e h
      simp only [Bool.and_eq_true] at hb
      obtain ⟨x0, x1⟩ := hb
      cases (Nat.eq_of_beq_eq_true x0)
      cases (Nat.eq_of_beq_eq_true x1)
      exact mm_Zb Z 84 78 [(78, qX0_survey_78 (fun v2 v3 M => bX0_survey_78 n v2 v3 M (fun M => Q none M)))] (mm_fa1 ih mm_fa0) h
    · exact h.elim
set_option maxRecDepth 100000 in
theorem okX0_survey_78x {p : Program} {l : Launch} {e : Env} {s : State} {m : MethodId} {args : Array Value} {below : List Frame} {meth : Method} {c : Code} {cA : Nat → ClassId} {ad : Nat → Nat} {D : va_G} {A : Nat → Prop} {Q : Option mm_V → mm_M → Prop} (Z : ZX0_survey p l e s m args below meth c cA ad D A) : ∀ ls st M, qX0_survey_78 (fun v2 v3 M => ∃ j, bX0_survey_78 j v2 v3 M (fun M => Q none M)) ls st M → mm_G p l e (mm_rm 3) s m args below meth c lay_c cA ad D A 4 Q 78 ls st M := by
  intro ls st M h
  have hex : ∃ n, qX0_survey_78 (fun v2 v3 M => bX0_survey_78 n v2 v3 M (fun M => Q none M)) ls st M := by
    unfold qX0_survey_78 at h
    split at h
    · obtain ⟨hb, h⟩ := mm_chk_e h
      simp only [Bool.and_eq_true] at hb
      obtain ⟨x0, x1⟩ := hb
      cases (Nat.eq_of_beq_eq_true x0)
      cases (Nat.eq_of_beq_eq_true x1)
      obtain ⟨n, h⟩ := h
      exact ⟨n, h⟩
    · exact h.elim
  obtain ⟨n, hex⟩ := hex
  exact okX0_survey_78 Z  n ls st M hex
set_option maxRecDepth 100000 in
theorem okX0_survey_31 {p : Program} {l : Launch} {e : Env} {s : State} {m : MethodId} {args : Array Value} {below : List Frame} {meth : Method} {c : Code} {cA : Nat → ClassId} {ad : Nat → Nat} {D : va_G} {A : Nat → Prop} {Q : Option mm_V → mm_M → Prop} (Z : ZX0_survey p l e s m args below meth c cA ad D A) : ∀ (n : Nat) ls st M, qX0_survey_31 (fun v2 v3 M => bX0_survey_31 n v2 v3 M (fun M => Q none M)) ls st M → mm_G p l e (mm_rm 3) s m args below meth c lay_c cA ad D A 4 Q 31 ls st M
  | 0, ls, st, M, h => by
    unfold qX0_survey_31 at h
    split at h
    · obtain ⟨hb, h⟩ := mm_chk_e h
      simp only [Bool.and_eq_true] at hb
      obtain ⟨x0, x1⟩ := hb
      cases (Nat.eq_of_beq_eq_true x0)
      cases (Nat.eq_of_beq_eq_true x1)
      exact h.elim
    · exact h.elim
  | n + 1, ls, st, M, h => by
    have ih := okX0_survey_31 (Q := Q) Z  n
    unfold qX0_survey_31 at h
    split at h
    · obtain ⟨hb, h⟩ := mm_chk_e h
      simp only [Bool.and_eq_true] at hb
      obtain ⟨x0, x1⟩ := hb
      cases (Nat.eq_of_beq_eq_true x0)
      cases (Nat.eq_of_beq_eq_true x1)
      exact mm_Zb Z 84 31 [(31, qX0_survey_31 (fun v2 v3 M => bX0_survey_31 n v2 v3 M (fun M => Q none M))), (78, qX0_survey_78 (fun v2 v3 M => ∃ j, bX0_survey_78 j v2 v3 M (fun M => Q none M)))] (mm_fa1 ih (mm_fa1 (fun ls st M h => okX0_survey_78x Z  ls st M h) mm_fa0)) h
    · exact h.elim
set_option maxRecDepth 100000 in
theorem okX0_survey_31x {p : Program} {l : Launch} {e : Env} {s : State} {m : MethodId} {args : Array Value} {below : List Frame} {meth : Method} {c : Code} {cA : Nat → ClassId} {ad : Nat → Nat} {D : va_G} {A : Nat → Prop} {Q : Option mm_V → mm_M → Prop} (Z : ZX0_survey p l e s m args below meth c cA ad D A) : ∀ ls st M, qX0_survey_31 (fun v2 v3 M => ∃ j, bX0_survey_31 j v2 v3 M (fun M => Q none M)) ls st M → mm_G p l e (mm_rm 3) s m args below meth c lay_c cA ad D A 4 Q 31 ls st M := by
  intro ls st M h
  have hex : ∃ n, qX0_survey_31 (fun v2 v3 M => bX0_survey_31 n v2 v3 M (fun M => Q none M)) ls st M := by
    unfold qX0_survey_31 at h
    split at h
    · obtain ⟨hb, h⟩ := mm_chk_e h
      simp only [Bool.and_eq_true] at hb
      obtain ⟨x0, x1⟩ := hb
      cases (Nat.eq_of_beq_eq_true x0)
      cases (Nat.eq_of_beq_eq_true x1)
      obtain ⟨n, h⟩ := h
      exact ⟨n, h⟩
    · exact h.elim
  obtain ⟨n, hex⟩ := hex
  exact okX0_survey_31 Z  n ls st M hex
set_option maxRecDepth 100000 in
theorem okX0_survey : mm_Ok lay_c yX0_survey cX0_survey 4 none 3 fX0_survey := by
  refine mm_enter (rt := 0) (by decide +kernel) rfl ?_
  intro p l e s m args below meth c cA ad D A as M Q h C0
  have Z : ZX0_survey p l e s m args below meth c cA ad D A := ⟨C0, flRX0_ok, mm_vt_of (mm_fa1 (mm_coV (n := 0) (ci := 6) C0 okX6_setsInAll rfl rfl (mm_one_at (.methodLink RX0 34 yX6_setsInAll) 681 (by decide +kernel) rfl) (wX6_setsInAll _ (by simp)) (wX6_setsInAll _ (by simp [yX6_setsInAll])) (wX6_setsInAll _ (by simp [yX6_setsInAll])) (wX6_setsInAll _ (by simp)) (by decide +kernel) (by omega) (by omega)) (mm_fa1 (mm_coV (n := 0) (ci := 6) C0 okX6_keepSet rfl rfl (mm_one_at (.methodLink RX0 61 yX6_keepSet) 685 (by decide +kernel) rfl) (wX6_keepSet _ (by simp)) (wX6_keepSet _ (by simp [yX6_keepSet])) (wX6_keepSet _ (by simp [yX6_keepSet])) (wX6_keepSet _ (by simp)) (by decide +kernel) (by omega) (by omega)) (mm_fa1 (mm_coV (n := 0) (ci := 6) C0 okX6_takeKeptSet rfl rfl (mm_one_at (.methodLink RX0 74 yX6_takeKeptSet) 695 (by decide +kernel) rfl) (wX6_takeKeptSet _ (by simp)) (wX6_takeKeptSet _ (by simp [yX6_takeKeptSet])) (wX6_takeKeptSet _ (by simp [yX6_takeKeptSet])) (wX6_takeKeptSet _ (by simp)) (by decide +kernel) (by omega) (by omega)) (mm_fa1 (mm_coV (n := 0) (ci := 0) C0 okX0_findLeast rfl rfl (mm_one_at (.methodLink RX0 77 yX0_findLeast) 699 (by decide +kernel) rfl) (wX0_findLeast _ (by simp)) (wX0_findLeast _ (by simp [yX0_findLeast])) (wX0_findLeast _ (by simp [yX0_findLeast])) (wX0_findLeast _ (by simp)) (by decide +kernel) (by omega) (by omega)) (mm_fa1 (mm_coV (n := 0) (ci := 0) C0 okX0_findRests rfl rfl (mm_one_at (.methodLink RX0 80 yX0_findRests) 703 (by decide +kernel) rfl) (wX0_findRests _ (by simp)) (wX0_findRests _ (by simp [yX0_findRests])) (wX0_findRests _ (by simp [yX0_findRests])) (wX0_findRests _ (by simp)) (by decide +kernel) (by omega) (by omega)) (mm_fa1 (mm_coV (n := 1) (ci := 6) C0 okX6_takeSet rfl rfl (mm_one_at (.methodLink RX0 64 yX6_takeSet) 689 (by decide +kernel) rfl) (wX6_takeSet _ (by simp)) (wX6_takeSet _ (by simp [yX6_takeSet])) (wX6_takeSet _ (by simp [yX6_takeSet])) (wX6_takeSet _ (by simp)) (by decide +kernel) (by omega) (by omega)) (mm_fa1 (mm_coV (n := 0) (ci := 6) C0 okX6_socialNow rfl rfl (mm_one_at (.methodLink RX0 68 yX6_socialNow) 693 (by decide +kernel) rfl) (wX6_socialNow _ (by simp)) (wX6_socialNow _ (by simp [yX6_socialNow])) (wX6_socialNow _ (by simp [yX6_socialNow])) (wX6_socialNow _ (by simp)) (by decide +kernel) (by omega) (by omega)) (mm_fa1 (mm_coV (n := 0) (ci := 6) C0 okX6_potentialNow rfl rfl (mm_one_at (.methodLink RX0 71 yX6_potentialNow) 694 (by decide +kernel) rfl) (wX6_potentialNow _ (by simp)) (wX6_potentialNow _ (by simp [yX6_potentialNow])) (wX6_potentialNow _ (by simp [yX6_potentialNow])) (wX6_potentialNow _ (by simp)) (by decide +kernel) (by omega) (by omega)) (mm_fa0))))))))), mm_vt_of (mm_fa1 (mm_coS (n := 2) C0 okJ9_min_7cf53 (mm_one_at (.methodLink RX0 40 yJ9_min_7cf53) 682 (by decide +kernel) rfl) (wJ9_min_7cf53 _ (by simp)) (wJ9_min_7cf53 _ (by simp [yJ9_min_7cf53])) (wJ9_min_7cf53 _ (by simp)) (by decide +kernel) (by omega) (by omega)) (mm_fa0)), kX0_survey_ok, mm_ctok_J ctRX0_ok⟩
  unfold fX0_survey at h
  split at h
  · obtain ⟨hb, h⟩ := mm_chk_e h
    simp only [Bool.and_eq_true] at hb
    obtain ⟨x0, x1⟩ := hb
    cases (Nat.eq_of_beq_eq_true x0)
    cases (Nat.eq_of_beq_eq_true x1)
    exact ⟨Nat.le_of_ble_eq_true rfl, mm_Zb Z 84 0 [(31, qX0_survey_31 (fun v2 v3 M => ∃ j, bX0_survey_31 j v2 v3 M (fun M => Q none M)))] (mm_fa1 (fun ls st M h => okX0_survey_31x Z  ls st M h) mm_fa0) h⟩
  · exact h.elim
def kX5_begin : List mm_E := [(0, false, .iconst 0, []), (1, false, .istore_n 3, []), (2, true, .iload_n 3, []), (3, false, .iload_n 2, []), (4, false, .if_icmp .ge 16, [20]), (7, false, .aload_n 0, []), (8, false, .getfield 15, []), (11, false, .iload_n 3, []), (12, false, .iconst (-1), []), (13, false, .iastore, []), (14, false, .iinc 3 1, []), (17, false, .goto (-15), [2]), (20, false, .aload_n 0, []), (21, false, .iload_n 1, []), (22, false, .putfield 9, []), (25, false, .aload_n 0, []), (26, false, .getfield 15, []), (29, false, .iload_n 1, []), (30, false, .iconst 0, []), (31, false, .iastore, []), (32, false, .aload_n 0, []), (33, false, .getfield 19, []), (36, false, .iconst 0, []), (37, false, .iload_n 1, []), (38, false, .iastore, []), (39, false, .aload_n 0, []), (40, false, .iconst 1, []), (41, false, .putfield 25, []), (44, false, .aload_n 0, []), (45, false, .iconst 0, []), (46, false, .putfield 28, []), (49, false, .return_, [])]
set_option maxRecDepth 20000 in
theorem kX5_begin_ok : mm_cok cX5_begin RX5 (mm_ctt ctRX5) kX5_begin := mm_c_of (k := false) ctRX5_ok (by decide +kernel)
set_option maxRecDepth 20000 in
theorem wX5_begin : ∀ w ∈ ([.instanceMethod yX5_begin, .selects RX5 yX5_begin yX5_begin, .initialized RX5, .code yX5_begin cX5_begin 4 none] : List Cond), w ∈ mm_tbl := mm_sub_at _ [756, 757, 110, 758] (by decide +kernel) (by decide +kernel)
def vtX5_begin : List (Nat × Nat × Nat × mm_F) := []
def smX5_begin : List (Nat × Nat × Nat × mm_F) := []
def ZX5_begin (p : Program) (l : Launch) (e : Env) (s : State) (m : MethodId) (args : Array Value) (below : List Frame) (meth : Method) (c : Code) (cA : Nat → ClassId) (ad : Nat → Nat) (D : va_G) (A : Nat → Prop) : Prop := mm_Z p l e (mm_rm 0) s m args below meth c lay_c cA ad D A RX5 cX5_begin 4 0 (mm_flt flRX5) (mm_clt (vtX5_begin)) (mm_clt (smX5_begin)) (mm_ctt ctRX5) kX5_begin
def qX5_begin_2 (P : Int → Int → Int → mm_M → Prop) : mm_K := fun ls st M => match ls, st with
  | [some (.inr (.inr c0)), some (.inl v1), some (.inl v2), some (.inl v3)], [] => mm_chk (Nat.beq c0 121) (P v1 v2 v3 M)
  | _, _ => False
theorem okX5_begin_2 {p : Program} {l : Launch} {e : Env} {s : State} {m : MethodId} {args : Array Value} {below : List Frame} {meth : Method} {c : Code} {cA : Nat → ClassId} {ad : Nat → Nat} {D : va_G} {A : Nat → Prop} {Q : Option mm_V → mm_M → Prop} (Z : ZX5_begin p l e s m args below meth c cA ad D A) : ∀ (n : Nat) ls st M, qX5_begin_2 (fun v1 v2 v3 M => bX5_begin_2 n v1 v2 v3 M (fun M => Q none M)) ls st M → mm_G p l e (mm_rm 0) s m args below meth c lay_c cA ad D A 4 Q 2 ls st M
  | 0, ls, st, M, h => by
    unfold qX5_begin_2 at h
    split at h
    · obtain ⟨hb, h⟩ := mm_chk_e h
      cases (Nat.eq_of_beq_eq_true hb)
      exact h.elim
    · exact h.elim
  | n + 1, ls, st, M, h => by
    have ih := okX5_begin_2 (Q := Q) Z  n
    unfold qX5_begin_2 at h
    split at h
    · obtain ⟨hb, h⟩ := mm_chk_e h
      cases (Nat.eq_of_beq_eq_true hb)
      exact mm_Zb Z 35 2 [(2, qX5_begin_2 (fun v1 v2 v3 M => bX5_begin_2 n v1 v2 v3 M (fun M => Q none M)))] (mm_fa1 ih mm_fa0) h
    · exact h.elim
theorem okX5_begin_2x {p : Program} {l : Launch} {e : Env} {s : State} {m : MethodId} {args : Array Value} {below : List Frame} {meth : Method} {c : Code} {cA : Nat → ClassId} {ad : Nat → Nat} {D : va_G} {A : Nat → Prop} {Q : Option mm_V → mm_M → Prop} (Z : ZX5_begin p l e s m args below meth c cA ad D A) : ∀ ls st M, qX5_begin_2 (fun v1 v2 v3 M => ∃ j, bX5_begin_2 j v1 v2 v3 M (fun M => Q none M)) ls st M → mm_G p l e (mm_rm 0) s m args below meth c lay_c cA ad D A 4 Q 2 ls st M := by
  intro ls st M h
  have hex : ∃ n, qX5_begin_2 (fun v1 v2 v3 M => bX5_begin_2 n v1 v2 v3 M (fun M => Q none M)) ls st M := by
    unfold qX5_begin_2 at h
    split at h
    · obtain ⟨hb, h⟩ := mm_chk_e h
      cases (Nat.eq_of_beq_eq_true hb)
      obtain ⟨n, h⟩ := h
      exact ⟨n, h⟩
    · exact h.elim
  obtain ⟨n, hex⟩ := hex
  exact okX5_begin_2 Z  n ls st M hex
theorem okX5_begin : mm_Ok lay_c yX5_begin cX5_begin 4 none 0 fX5_begin := by
  refine mm_enter (rt := 0) (by decide +kernel) rfl ?_
  intro p l e s m args below meth c cA ad D A as M Q h C0
  have Z : ZX5_begin p l e s m args below meth c cA ad D A := ⟨C0, flRX5_ok, mm_vt_of (mm_fa0), mm_vt_of (mm_fa0), kX5_begin_ok, mm_ctok_J ctRX5_ok⟩
  unfold fX5_begin at h
  split at h
  · obtain ⟨hb, h⟩ := mm_chk_e h
    cases (Nat.eq_of_beq_eq_true hb)
    exact ⟨Nat.le_of_ble_eq_true rfl, mm_Zb Z 35 0 [(2, qX5_begin_2 (fun v1 v2 v3 M => ∃ j, bX5_begin_2 j v1 v2 v3 M (fun M => Q none M)))] (mm_fa1 (fun ls st M h => okX5_begin_2x Z  ls st M h) mm_fa0) h⟩
  · exact h.elim
def kX5_isReached : List mm_E := [(0, false, .aload_n 0, []), (1, false, .getfield 15, []), (4, false, .iload_n 1, []), (5, false, .iaload, []), (6, false, .iconst (-1), []), (7, false, .if_icmp .eq 7, [14]), (10, false, .iconst 1, []), (11, false, .goto 4, [15]), (14, false, .iconst 0, []), (15, false, .ireturn, [])]
set_option maxRecDepth 20000 in
theorem kX5_isReached_ok : mm_cok cX5_isReached RX5 (mm_ctt ctRX5) kX5_isReached := mm_c_of (k := false) ctRX5_ok (by decide +kernel)
set_option maxRecDepth 20000 in
theorem wX5_isReached : ∀ w ∈ ([.instanceMethod yX5_isReached, .selects RX5 yX5_isReached yX5_isReached, .initialized RX5, .code yX5_isReached cX5_isReached 2 (some .boolean)] : List Cond), w ∈ mm_tbl := mm_sub_at _ [776, 777, 110, 778] (by decide +kernel) (by decide +kernel)
def vtX5_isReached : List (Nat × Nat × Nat × mm_F) := []
def smX5_isReached : List (Nat × Nat × Nat × mm_F) := []
def ZX5_isReached (p : Program) (l : Launch) (e : Env) (s : State) (m : MethodId) (args : Array Value) (below : List Frame) (meth : Method) (c : Code) (cA : Nat → ClassId) (ad : Nat → Nat) (D : va_G) (A : Nat → Prop) : Prop := mm_Z p l e (mm_rm 0) s m args below meth c lay_c cA ad D A RX5 cX5_isReached 2 2 (mm_flt flRX5) (mm_clt (vtX5_isReached)) (mm_clt (smX5_isReached)) (mm_ctt ctRX5) kX5_isReached
theorem okX5_isReached : mm_Ok lay_c yX5_isReached cX5_isReached 2 (some .boolean) 0 fX5_isReached := by
  refine mm_enter (rt := 2) (by decide +kernel) rfl ?_
  intro p l e s m args below meth c cA ad D A as M Q h C0
  have Z : ZX5_isReached p l e s m args below meth c cA ad D A := ⟨C0, flRX5_ok, mm_vt_of (mm_fa0), mm_vt_of (mm_fa0), kX5_isReached_ok, mm_ctok_J ctRX5_ok⟩
  unfold fX5_isReached at h
  split at h
  · obtain ⟨hb, h⟩ := mm_chk_e h
    cases (Nat.eq_of_beq_eq_true hb)
    exact ⟨Nat.le_of_ble_eq_true rfl, mm_Zb Z 13 0 [] mm_fa0 h⟩
  · exact h.elim
def kX0_countReached : List mm_E := [(0, false, .aload_n 0, []), (1, false, .iconst 0, []), (2, false, .putfield 146, []), (5, false, .iconst 0, []), (6, false, .istore_n 1, []), (7, true, .iload_n 1, []), (8, false, .aload_n 0, []), (9, false, .getfield 46, []), (12, false, .if_icmp .ge 34, [46]), (15, false, .aload_n 0, []), (16, false, .dup, []), (17, false, .getfield 146, []), (20, false, .aload_n 0, []), (21, false, .getfield 30, []), (24, false, .iload_n 1, []), (25, false, .invokevirtual 149, []), (28, false, .ifCond .eq 7, [35]), (31, false, .iconst 1, []), (32, false, .goto 4, [36]), (35, false, .iconst 0, []), (36, false, .iadd, []), (37, false, .putfield 146, []), (40, false, .iinc 1 1, []), (43, false, .goto (-36), [7]), (46, false, .aload_n 0, []), (47, false, .iconst 0, []), (48, false, .putfield 152, []), (51, false, .iconst 0, []), (52, false, .istore_n 1, []), (53, true, .iload_n 1, []), (54, false, .aload_n 0, []), (55, false, .getfield 102, []), (58, false, .if_icmp .ge 39, [97]), (61, false, .aload_n 0, []), (62, false, .dup, []), (63, false, .getfield 152, []), (66, false, .aload_n 0, []), (67, false, .getfield 30, []), (70, false, .aload_n 0, []), (71, false, .getfield 24, []), (74, false, .iload_n 1, []), (75, false, .iaload, []), (76, false, .invokevirtual 149, []), (79, false, .ifCond .eq 7, [86]), (82, false, .iconst 1, []), (83, false, .goto 4, [87]), (86, false, .iconst 0, []), (87, false, .iadd, []), (88, false, .putfield 152, []), (91, false, .iinc 1 1, []), (94, false, .goto (-41), [53]), (97, false, .return_, [])]
set_option maxRecDepth 20000 in
theorem kX0_countReached_ok : mm_cok cX0_countReached RX0 (mm_ctt ctRX0) kX0_countReached := mm_c_of (k := false) ctRX0_ok (by decide +kernel)
set_option maxRecDepth 20000 in
theorem wX0_countReached : ∀ w ∈ ([.instanceMethod yX0_countReached, .selects RX0 yX0_countReached yX0_countReached, .initialized RX0, .code yX0_countReached cX0_countReached 2 none] : List Cond), w ∈ mm_tbl := mm_sub_at _ [773, 18, 109, 774] (by decide +kernel) (by decide +kernel)
def vtX0_countReached : List (Nat × Nat × Nat × mm_F) := [(149, 5, 2, fX5_isReached)]
def smX0_countReached : List (Nat × Nat × Nat × mm_F) := []
def ZX0_countReached (p : Program) (l : Launch) (e : Env) (s : State) (m : MethodId) (args : Array Value) (below : List Frame) (meth : Method) (c : Code) (cA : Nat → ClassId) (ad : Nat → Nat) (D : va_G) (A : Nat → Prop) : Prop := mm_Z p l e (mm_rm 1) s m args below meth c lay_c cA ad D A RX0 cX0_countReached 2 0 (mm_flt flRX0) (mm_clt (vtX0_countReached)) (mm_clt (smX0_countReached)) (mm_ctt ctRX0) kX0_countReached
def qX0_countReached_53 (P : Int → mm_M → Prop) : mm_K := fun ls st M => match ls, st with
  | [some (.inr (.inr c0)), some (.inl v1)], [] => mm_chk (Nat.beq c0 115) (P v1 M)
  | _, _ => False
def qX0_countReached_7 (P : Int → mm_M → Prop) : mm_K := fun ls st M => match ls, st with
  | [some (.inr (.inr c0)), some (.inl v1)], [] => mm_chk (Nat.beq c0 115) (P v1 M)
  | _, _ => False
theorem okX0_countReached_53 {p : Program} {l : Launch} {e : Env} {s : State} {m : MethodId} {args : Array Value} {below : List Frame} {meth : Method} {c : Code} {cA : Nat → ClassId} {ad : Nat → Nat} {D : va_G} {A : Nat → Prop} {Q : Option mm_V → mm_M → Prop} (Z : ZX0_countReached p l e s m args below meth c cA ad D A) : ∀ (n : Nat) ls st M, qX0_countReached_53 (fun v1 M => bX0_countReached_53 n v1 M (fun M => Q none M)) ls st M → mm_G p l e (mm_rm 1) s m args below meth c lay_c cA ad D A 2 Q 53 ls st M
  | 0, ls, st, M, h => by
    unfold qX0_countReached_53 at h
    split at h
    · obtain ⟨hb, h⟩ := mm_chk_e h
      cases (Nat.eq_of_beq_eq_true hb)
      exact h.elim
    · exact h.elim
  | n + 1, ls, st, M, h => by
    have ih := okX0_countReached_53 (Q := Q) Z  n
    unfold qX0_countReached_53 at h
    split at h
    · obtain ⟨hb, h⟩ := mm_chk_e h
      cases (Nat.eq_of_beq_eq_true hb)
      exact mm_Zb Z 55 53 [(53, qX0_countReached_53 (fun v1 M => bX0_countReached_53 n v1 M (fun M => Q none M)))] (mm_fa1 ih mm_fa0) h
    · exact h.elim
theorem okX0_countReached_53x {p : Program} {l : Launch} {e : Env} {s : State} {m : MethodId} {args : Array Value} {below : List Frame} {meth : Method} {c : Code} {cA : Nat → ClassId} {ad : Nat → Nat} {D : va_G} {A : Nat → Prop} {Q : Option mm_V → mm_M → Prop} (Z : ZX0_countReached p l e s m args below meth c cA ad D A) : ∀ ls st M, qX0_countReached_53 (fun v1 M => ∃ j, bX0_countReached_53 j v1 M (fun M => Q none M)) ls st M → mm_G p l e (mm_rm 1) s m args below meth c lay_c cA ad D A 2 Q 53 ls st M := by
  intro ls st M h
  have hex : ∃ n, qX0_countReached_53 (fun v1 M => bX0_countReached_53 n v1 M (fun M => Q none M)) ls st M := by
    unfold qX0_countReached_53 at h
    split at h
    · obtain ⟨hb, h⟩ := mm_chk_e h
      cases (Nat.eq_of_beq_eq_true hb)
      obtain ⟨n, h⟩ := h
      exact ⟨n, h⟩
    · exact h.elim
  obtain ⟨n, hex⟩ := hex
  exact okX0_countReached_53 Z  n ls st M hex
theorem okX0_countReached_7 {p : Program} {l : Launch} {e : Env} {s : State} {m : MethodId} {args : Array Value} {below : List Frame} {meth : Method} {c : Code} {cA : Nat → ClassId} {ad : Nat → Nat} {D : va_G} {A : Nat → Prop} {Q : Option mm_V → mm_M → Prop} (Z : ZX0_countReached p l e s m args below meth c cA ad D A) : ∀ (n : Nat) ls st M, qX0_countReached_7 (fun v1 M => bX0_countReached_7 n v1 M (fun M => Q none M)) ls st M → mm_G p l e (mm_rm 1) s m args below meth c lay_c cA ad D A 2 Q 7 ls st M
  | 0, ls, st, M, h => by
    unfold qX0_countReached_7 at h
    split at h
    · obtain ⟨hb, h⟩ := mm_chk_e h
      cases (Nat.eq_of_beq_eq_true hb)
      exact h.elim
    · exact h.elim
  | n + 1, ls, st, M, h => by
    have ih := okX0_countReached_7 (Q := Q) Z  n
    unfold qX0_countReached_7 at h
    split at h
    · obtain ⟨hb, h⟩ := mm_chk_e h
      cases (Nat.eq_of_beq_eq_true hb)
      exact mm_Zb Z 55 7 [(7, qX0_countReached_7 (fun v1 M => bX0_countReached_7 n v1 M (fun M => Q none M))), (53, qX0_countReached_53 (fun v1 M => ∃ j, bX0_countReached_53 j v1 M (fun M => Q none M)))] (mm_fa1 ih (mm_fa1 (fun ls st M h => okX0_countReached_53x Z  ls st M h) mm_fa0)) h
    · exact h.elim
theorem okX0_countReached_7x {p : Program} {l : Launch} {e : Env} {s : State} {m : MethodId} {args : Array Value} {below : List Frame} {meth : Method} {c : Code} {cA : Nat → ClassId} {ad : Nat → Nat} {D : va_G} {A : Nat → Prop} {Q : Option mm_V → mm_M → Prop} (Z : ZX0_countReached p l e s m args below meth c cA ad D A) : ∀ ls st M, qX0_countReached_7 (fun v1 M => ∃ j, bX0_countReached_7 j v1 M (fun M => Q none M)) ls st M → mm_G p l e (mm_rm 1) s m args below meth c lay_c cA ad D A 2 Q 7 ls st M := by
  intro ls st M h
  have hex : ∃ n, qX0_countReached_7 (fun v1 M => bX0_countReached_7 n v1 M (fun M => Q none M)) ls st M := by
    unfold qX0_countReached_7 at h
    split at h
    · obtain ⟨hb, h⟩ := mm_chk_e h
      cases (Nat.eq_of_beq_eq_true hb)
      obtain ⟨n, h⟩ := h
      exact ⟨n, h⟩
    · exact h.elim
  obtain ⟨n, hex⟩ := hex
  exact okX0_countReached_7 Z  n ls st M hex
theorem okX0_countReached : mm_Ok lay_c yX0_countReached cX0_countReached 2 none 1 fX0_countReached := by
  refine mm_enter (rt := 0) (by decide +kernel) rfl ?_
  intro p l e s m args below meth c cA ad D A as M Q h C0
  have Z : ZX0_countReached p l e s m args below meth c cA ad D A := ⟨C0, flRX0_ok, mm_vt_of (mm_fa1 (mm_coV (n := 1) (ci := 5) C0 okX5_isReached rfl rfl (mm_one_at (.methodLink RX0 149 yX5_isReached) 775 (by decide +kernel) rfl) (wX5_isReached _ (by simp)) (wX5_isReached _ (by simp [yX5_isReached])) (wX5_isReached _ (by simp [yX5_isReached])) (wX5_isReached _ (by simp)) (by decide +kernel) (by omega) (by omega)) (mm_fa0)), mm_vt_of (mm_fa0), kX0_countReached_ok, mm_ctok_J ctRX0_ok⟩
  unfold fX0_countReached at h
  split at h
  · obtain ⟨hb, h⟩ := mm_chk_e h
    cases (Nat.eq_of_beq_eq_true hb)
    exact ⟨Nat.le_of_ble_eq_true rfl, mm_Zb Z 55 0 [(7, qX0_countReached_7 (fun v1 M => ∃ j, bX0_countReached_7 j v1 M (fun M => Q none M)))] (mm_fa1 (fun ls st M h => okX0_countReached_7x Z  ls st M h) mm_fa0) h⟩
  · exact h.elim
def kX5_goOn : List mm_E := [(0, false, .aload_n 0, []), (1, false, .getfield 19, []), (4, false, .astore_n 1, []), (5, false, .aload_n 0, []), (6, false, .aload_n 0, []), (7, false, .getfield 22, []), (10, false, .putfield 19, []), (13, false, .aload_n 0, []), (14, false, .aload_n 0, []), (15, false, .getfield 28, []), (18, false, .putfield 25, []), (21, false, .aload_n 0, []), (22, false, .aload_n 1, []), (23, false, .putfield 22, []), (26, false, .aload_n 0, []), (27, false, .iconst 0, []), (28, false, .putfield 28, []), (31, false, .return_, [])]
set_option maxRecDepth 20000 in
theorem kX5_goOn_ok : mm_cok cX5_goOn RX5 (mm_ctt ctRX5) kX5_goOn := mm_c_of (k := false) ctRX5_ok (by decide +kernel)
set_option maxRecDepth 20000 in
theorem wX5_goOn : ∀ w ∈ ([.instanceMethod yX5_goOn, .selects RX5 yX5_goOn yX5_goOn, .initialized RX5, .code yX5_goOn cX5_goOn 2 none] : List Cond), w ∈ mm_tbl := mm_sub_at _ [768, 769, 110, 770] (by decide +kernel) (by decide +kernel)
def vtX5_goOn : List (Nat × Nat × Nat × mm_F) := []
def smX5_goOn : List (Nat × Nat × Nat × mm_F) := []
def ZX5_goOn (p : Program) (l : Launch) (e : Env) (s : State) (m : MethodId) (args : Array Value) (below : List Frame) (meth : Method) (c : Code) (cA : Nat → ClassId) (ad : Nat → Nat) (D : va_G) (A : Nat → Prop) : Prop := mm_Z p l e (mm_rm 0) s m args below meth c lay_c cA ad D A RX5 cX5_goOn 2 0 (mm_flt flRX5) (mm_clt (vtX5_goOn)) (mm_clt (smX5_goOn)) (mm_ctt ctRX5) kX5_goOn
theorem okX5_goOn : mm_Ok lay_c yX5_goOn cX5_goOn 2 none 0 fX5_goOn := by
  refine mm_enter (rt := 0) (by decide +kernel) rfl ?_
  intro p l e s m args below meth c cA ad D A as M Q h C0
  have Z : ZX5_goOn p l e s m args below meth c cA ad D A := ⟨C0, flRX5_ok, mm_vt_of (mm_fa0), mm_vt_of (mm_fa0), kX5_goOn_ok, mm_ctok_J ctRX5_ok⟩
  unfold fX5_goOn at h
  split at h
  · obtain ⟨hb, h⟩ := mm_chk_e h
    cases (Nat.eq_of_beq_eq_true hb)
    exact ⟨Nat.le_of_ble_eq_true rfl, mm_Zb Z 21 0 [] mm_fa0 h⟩
  · exact h.elim
def kX5_offer : List mm_E := [(0, false, .aload_n 0, []), (1, false, .getfield 15, []), (4, false, .iload_n 1, []), (5, false, .iaload, []), (6, false, .iload_n 2, []), (7, false, .if_icmp .eq 30, [37]), (10, false, .aload_n 0, []), (11, false, .getfield 15, []), (14, false, .iload_n 1, []), (15, false, .iload_n 2, []), (16, false, .iastore, []), (17, false, .aload_n 0, []), (18, false, .getfield 22, []), (21, false, .aload_n 0, []), (22, false, .getfield 28, []), (25, false, .iload_n 1, []), (26, false, .iastore, []), (27, false, .aload_n 0, []), (28, false, .dup, []), (29, false, .getfield 28, []), (32, false, .iconst 1, []), (33, false, .iadd, []), (34, false, .putfield 28, []), (37, false, .return_, [])]
set_option maxRecDepth 20000 in
theorem kX5_offer_ok : mm_cok cX5_offer RX5 (mm_ctt ctRX5) kX5_offer := mm_c_of (k := false) ctRX5_ok (by decide +kernel)
set_option maxRecDepth 20000 in
theorem wX5_offer : ∀ w ∈ ([.instanceMethod yX5_offer, .selects RX5 yX5_offer yX5_offer, .initialized RX5, .code yX5_offer cX5_offer 3 none] : List Cond), w ∈ mm_tbl := mm_sub_at _ [764, 765, 110, 766] (by decide +kernel) (by decide +kernel)
def vtX5_offer : List (Nat × Nat × Nat × mm_F) := []
def smX5_offer : List (Nat × Nat × Nat × mm_F) := []
def ZX5_offer (p : Program) (l : Launch) (e : Env) (s : State) (m : MethodId) (args : Array Value) (below : List Frame) (meth : Method) (c : Code) (cA : Nat → ClassId) (ad : Nat → Nat) (D : va_G) (A : Nat → Prop) : Prop := mm_Z p l e (mm_rm 0) s m args below meth c lay_c cA ad D A RX5 cX5_offer 3 0 (mm_flt flRX5) (mm_clt (vtX5_offer)) (mm_clt (smX5_offer)) (mm_ctt ctRX5) kX5_offer
theorem okX5_offer : mm_Ok lay_c yX5_offer cX5_offer 3 none 0 fX5_offer := by
  refine mm_enter (rt := 0) (by decide +kernel) rfl ?_
  intro p l e s m args below meth c cA ad D A as M Q h C0
  have Z : ZX5_offer p l e s m args below meth c cA ad D A := ⟨C0, flRX5_ok, mm_vt_of (mm_fa0), mm_vt_of (mm_fa0), kX5_offer_ok, mm_ctok_J ctRX5_ok⟩
  unfold fX5_offer at h
  split at h
  · obtain ⟨hb, h⟩ := mm_chk_e h
    cases (Nat.eq_of_beq_eq_true hb)
    exact ⟨Nat.le_of_ble_eq_true rfl, mm_Zb Z 27 0 [] mm_fa0 h⟩
  · exact h.elim
