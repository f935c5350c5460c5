def kX8_bestWay : List mm_E := [(0, false, .aload_n 0, []), (1, false, .invokevirtual 169, []), (4, false, .aload_n 0, []), (5, false, .getfield 34, []), (8, false, .iload_n 1, []), (9, false, .iaload, []), (10, false, .istore_n 2, []), (11, false, .aload_n 0, []), (12, false, .iload_n 1, []), (13, false, .iload_n 2, []), (14, false, .invokevirtual 172, []), (17, false, .istore_n 3, []), (18, false, .iconst 0, []), (19, false, .istore 4, []), (21, true, .iload 4, []), (23, false, .aload_n 0, []), (24, false, .getfield 31, []), (27, false, .iload_n 1, []), (28, false, .iaload, []), (29, false, .if_icmp .ge 30, [59]), (32, false, .aload_n 0, []), (33, false, .iload_n 1, []), (34, false, .iload 4, []), (36, false, .invokevirtual 172, []), (39, false, .istore 5, []), (41, false, .iload 5, []), (43, false, .iload_n 3, []), (44, false, .if_icmp .ge 9, [53]), (47, false, .iload 4, []), (49, false, .istore_n 2, []), (50, false, .iload 5, []), (52, false, .istore_n 3, []), (53, false, .iinc 4 1, []), (56, false, .goto (-35), [21]), (59, false, .iload_n 2, []), (60, false, .ireturn, [])]
set_option maxRecDepth 20000 in
theorem kX8_bestWay_ok : mm_cok cX8_bestWay RX8 (mm_ctt ctRX8) kX8_bestWay := mm_c_of (k := false) ctRX8_ok (by decide +kernel)
set_option maxRecDepth 20000 in
theorem wX8_bestWay : ∀ w ∈ ([.instanceMethod yX8_bestWay, .selects RX8 yX8_bestWay yX8_bestWay, .initialized RX8, .code yX8_bestWay cX8_bestWay 6 (some .int)] : List Cond), w ∈ mm_tbl := mm_sub_at _ [1204, 48, 112, 1205] (by decide +kernel) (by decide +kernel)
def vtX8_bestWay : List (Nat × Nat × Nat × mm_F) := [(169, 8, 1, fX8_layLoad), (172, 8, 3, fX8_payNow)]
def smX8_bestWay : List (Nat × Nat × Nat × mm_F) := []
def ZX8_bestWay (p : Program) (l : Launch) (e : Env) (s : State) (m : MethodId) (args : Array Value) (below : List Frame) (meth : Method) (c : Code) (cA : Nat → ClassId) (ad : Nat → Nat) (D : va_G) (A : Nat → Prop) : Prop := mm_Z p l e (mm_rm 3) s m args below meth c lay_m cA ad D A RX8 cX8_bestWay 6 1 (mm_flt flRX8) (mm_clt (vtX8_bestWay)) (mm_clt (smX8_bestWay)) (mm_ctt ctRX8) kX8_bestWay
def qX8_bestWay_21 (P : Int → Int → Int → Int → mm_M → Prop) : mm_K := fun ls st M => match ls, st with
  | [some (.inr (.inr c0)), some (.inl v1), some (.inl v2), some (.inl v3), some (.inl v4), _], [] => mm_chk (Nat.beq c0 0) (P v1 v2 v3 v4 M)
  | _, _ => False
theorem okX8_bestWay_21 {p : Program} {l : Launch} {e : Env} {s : State} {m : MethodId} {args : Array Value} {below : List Frame} {meth : Method} {c : Code} {cA : Nat → ClassId} {ad : Nat → Nat} {D : va_G} {A : Nat → Prop} {Q : Option mm_V → mm_M → Prop} (Z : ZX8_bestWay p l e s m args below meth c cA ad D A) : ∀ (n : Nat) ls st M, qX8_bestWay_21 (fun v1 v2 v3 v4 M => bX8_bestWay_21 n v1 v2 v3 v4 M (fun r M => Q (some (.inl r)) M)) ls st M → mm_G p l e (mm_rm 3) s m args below meth c lay_m cA ad D A 6 Q 21 ls st M
  | 0, ls, st, M, h => by
    unfold qX8_bestWay_21 at h
    split at h
    · obtain ⟨hb, h⟩ := mm_chk_e h
      cases (Nat.eq_of_beq_eq_true hb)
      exact h.elim
    · exact h.elim
  | n + 1, ls, st, M, h => by
    have ih := okX8_bestWay_21 (Q := Q) Z  n
    unfold qX8_bestWay_21 at h
    split at h
    · obtain ⟨hb, h⟩ := mm_chk_e h
      cases (Nat.eq_of_beq_eq_true hb)
      exact mm_Zb Z 39 21 [(21, qX8_bestWay_21 (fun v1 v2 v3 v4 M => bX8_bestWay_21 n v1 v2 v3 v4 M (fun r M => Q (some (.inl r)) M)))] (mm_fa1 ih mm_fa0) h
    · exact h.elim
theorem okX8_bestWay_21x {p : Program} {l : Launch} {e : Env} {s : State} {m : MethodId} {args : Array Value} {below : List Frame} {meth : Method} {c : Code} {cA : Nat → ClassId} {ad : Nat → Nat} {D : va_G} {A : Nat → Prop} {Q : Option mm_V → mm_M → Prop} (Z : ZX8_bestWay p l e s m args below meth c cA ad D A) : ∀ ls st M, qX8_bestWay_21 (fun v1 v2 v3 v4 M => ∃ j, bX8_bestWay_21 j v1 v2 v3 v4 M (fun r M => Q (some (.inl r)) M)) ls st M → mm_G p l e (mm_rm 3) s m args below meth c lay_m cA ad D A 6 Q 21 ls st M := by
  intro ls st M h
  have hex : ∃ n, qX8_bestWay_21 (fun v1 v2 v3 v4 M => bX8_bestWay_21 n v1 v2 v3 v4 M (fun r M => Q (some (.inl r)) M)) ls st M := by
    unfold qX8_bestWay_21 at h
    split at h
    · obtain ⟨hb, h⟩ := mm_chk_e h
      cases (Nat.eq_of_beq_eq_true hb)
      obtain ⟨n, h⟩ := h
      exact ⟨n, h⟩
    · exact h.elim
  obtain ⟨n, hex⟩ := hex
  exact okX8_bestWay_21 Z  n ls st M hex
theorem okX8_bestWay : mm_Ok lay_m yX8_bestWay cX8_bestWay 6 (some .int) 3 fX8_bestWay := by
  refine mm_enter (rt := 1) (by decide +kernel) rfl ?_
  intro p l e s m args below meth c cA ad D A as M Q h C0
  have Z : ZX8_bestWay p l e s m args below meth c cA ad D A := ⟨C0, flRX8_ok, mm_vt_of (mm_fa1 (mm_coV (n := 0) (ci := 8) C0 okX8_layLoad rfl rfl (mm_one_at (.methodLink RX8 169 yX8_layLoad) 1178 (by decide +kernel) rfl) (wX8_layLoad _ (by simp)) (wX8_layLoad _ (by simp [yX8_layLoad])) (wX8_layLoad _ (by simp [yX8_layLoad])) (wX8_layLoad _ (by simp)) (by decide +kernel) (by omega) (by omega)) (mm_fa1 (mm_coV (n := 2) (ci := 8) C0 okX8_payNow rfl rfl (mm_one_at (.methodLink RX8 172 yX8_payNow) 1206 (by decide +kernel) rfl) (wX8_payNow _ (by simp)) (wX8_payNow _ (by simp [yX8_payNow])) (wX8_payNow _ (by simp [yX8_payNow])) (wX8_payNow _ (by simp)) (by decide +kernel) (by omega) (by omega)) (mm_fa0))), mm_vt_of (mm_fa0), kX8_bestWay_ok, mm_ctok_J ctRX8_ok⟩
  unfold fX8_bestWay at h
  split at h
  · obtain ⟨hb, h⟩ := mm_chk_e h
    cases (Nat.eq_of_beq_eq_true hb)
    exact ⟨Nat.le_of_ble_eq_true rfl, mm_Zb Z 39 0 [(21, qX8_bestWay_21 (fun v1 v2 v3 v4 M => ∃ j, bX8_bestWay_21 j v1 v2 v3 v4 M (fun r M => Q (some (.inl r)) M)))] (mm_fa1 (fun ls st M h => okX8_bestWay_21x Z  ls st M h) mm_fa0) h⟩
  · exact h.elim
def kX8_restless : List mm_E := [(0, false, .iconst 0, []), (1, false, .istore_n 2, []), (2, true, .iload_n 2, []), (3, false, .aload_n 0, []), (4, false, .getfield 148, []), (7, false, .if_icmp .ge 30, [37]), (10, false, .iload_n 2, []), (11, false, .iload_n 1, []), (12, false, .if_icmp .eq 19, [31]), (15, false, .aload_n 0, []), (16, false, .iload_n 2, []), (17, false, .invokevirtual 175, []), (20, false, .aload_n 0, []), (21, false, .getfield 34, []), (24, false, .iload_n 2, []), (25, false, .iaload, []), (26, false, .if_icmp .eq 5, [31]), (29, false, .iload_n 2, []), (30, false, .ireturn, []), (31, false, .iinc 2 1, []), (34, false, .goto (-32), [2]), (37, false, .iconst (-1), []), (38, false, .ireturn, [])]
set_option maxRecDepth 20000 in
theorem kX8_restless_ok : mm_cok cX8_restless RX8 (mm_ctt ctRX8) kX8_restless := mm_c_of (k := false) ctRX8_ok (by decide +kernel)
set_option maxRecDepth 20000 in
theorem wX8_restless : ∀ w ∈ ([.instanceMethod yX8_restless, .selects RX8 yX8_restless yX8_restless, .initialized RX8, .code yX8_restless cX8_restless 3 (some .int)] : List Cond), w ∈ mm_tbl := mm_sub_at _ [1200, 47, 112, 1201] (by decide +kernel) (by decide +kernel)
def vtX8_restless : List (Nat × Nat × Nat × mm_F) := [(175, 8, 2, fX8_bestWay)]
def smX8_restless : List (Nat × Nat × Nat × mm_F) := []
def ZX8_restless (p : Program) (l : Launch) (e : Env) (s : State) (m : MethodId) (args : Array Value) (below : List Frame) (meth : Method) (c : Code) (cA : Nat → ClassId) (ad : Nat → Nat) (D : va_G) (A : Nat → Prop) : Prop := mm_Z p l e (mm_rm 4) s m args below meth c lay_m cA ad D A RX8 cX8_restless 3 1 (mm_flt flRX8) (mm_clt (vtX8_restless)) (mm_clt (smX8_restless)) (mm_ctt ctRX8) kX8_restless
def qX8_restless_2 (P : Int → Int → mm_M → Prop) : mm_K := fun ls st M => match ls, st with
  | [some (.inr (.inr c0)), some (.inl v1), some (.inl v2)], [] => mm_chk (Nat.beq c0 0) (P v1 v2 M)
  | _, _ => False
theorem okX8_restless_2 {p : Program} {l : Launch} {e : Env} {s : State} {m : MethodId} {args : Array Value} {below : List Frame} {meth : Method} {c : Code} {cA : Nat → ClassId} {ad : Nat → Nat} {D : va_G} {A : Nat → Prop} {Q : Option mm_V → mm_M → Prop} (Z : ZX8_restless p l e s m args below meth c cA ad D A) : ∀ (n : Nat) ls st M, qX8_restless_2 (fun v1 v2 M => bX8_restless_2 n v1 v2 M (fun r M => Q (some (.inl r)) M)) ls st M → mm_G p l e (mm_rm 4) s m args below meth c lay_m cA ad D A 3 Q 2 ls st M
  | 0, ls, st, M, h => by
    unfold qX8_restless_2 at h
    split at h
    · obtain ⟨hb, h⟩ := mm_chk_e h
      cases (Nat.eq_of_beq_eq_true hb)
      exact h.elim
    · exact h.elim
  | n + 1, ls, st, M, h => by
    have ih := okX8_restless_2 (Q := Q) Z  n
    unfold qX8_restless_2 at h
    split at h
    · obtain ⟨hb, h⟩ := mm_chk_e h
      cases (Nat.eq_of_beq_eq_true hb)
      exact mm_Zb Z 26 2 [(2, qX8_restless_2 (fun v1 v2 M => bX8_restless_2 n v1 v2 M (fun r M => Q (some (.inl r)) M)))] (mm_fa1 ih mm_fa0) h
    · exact h.elim
theorem okX8_restless_2x {p : Program} {l : Launch} {e : Env} {s : State} {m : MethodId} {args : Array Value} {below : List Frame} {meth : Method} {c : Code} {cA : Nat → ClassId} {ad : Nat → Nat} {D : va_G} {A : Nat → Prop} {Q : Option mm_V → mm_M → Prop} (Z : ZX8_restless p l e s m args below meth c cA ad D A) : ∀ ls st M, qX8_restless_2 (fun v1 v2 M => ∃ j, bX8_restless_2 j v1 v2 M (fun r M => Q (some (.inl r)) M)) ls st M → mm_G p l e (mm_rm 4) s m args below meth c lay_m cA ad D A 3 Q 2 ls st M := by
  intro ls st M h
  have hex : ∃ n, qX8_restless_2 (fun v1 v2 M => bX8_restless_2 n v1 v2 M (fun r M => Q (some (.inl r)) M)) ls st M := by
    unfold qX8_restless_2 at h
    split at h
    · obtain ⟨hb, h⟩ := mm_chk_e h
      cases (Nat.eq_of_beq_eq_true hb)
      obtain ⟨n, h⟩ := h
      exact ⟨n, h⟩
    · exact h.elim
  obtain ⟨n, hex⟩ := hex
  exact okX8_restless_2 Z  n ls st M hex
theorem okX8_restless : mm_Ok lay_m yX8_restless cX8_restless 3 (some .int) 4 fX8_restless := by
  refine mm_enter (rt := 1) (by decide +kernel) rfl ?_
  intro p l e s m args below meth c cA ad D A as M Q h C0
  have Z : ZX8_restless p l e s m args below meth c cA ad D A := ⟨C0, flRX8_ok, mm_vt_of (mm_fa1 (mm_coV (n := 1) (ci := 8) C0 okX8_bestWay rfl rfl (mm_one_at (.methodLink RX8 175 yX8_bestWay) 1202 (by decide +kernel) rfl) (wX8_bestWay _ (by simp)) (wX8_bestWay _ (by simp [yX8_bestWay])) (wX8_bestWay _ (by simp [yX8_bestWay])) (wX8_bestWay _ (by simp)) (by decide +kernel) (by omega) (by omega)) (mm_fa0)), mm_vt_of (mm_fa0), kX8_restless_ok, mm_ctok_J ctRX8_ok⟩
  unfold fX8_restless at h
  split at h
  · obtain ⟨hb, h⟩ := mm_chk_e h
    cases (Nat.eq_of_beq_eq_true hb)
    exact ⟨Nat.le_of_ble_eq_true rfl, mm_Zb Z 26 0 [(2, qX8_restless_2 (fun v1 v2 M => ∃ j, bX8_restless_2 j v1 v2 M (fun r M => Q (some (.inl r)) M)))] (mm_fa1 (fun ls st M h => okX8_restless_2x Z  ls st M h) mm_fa0) h⟩
  · exact h.elim
def kX8_setsAll : List mm_E := [(0, false, .iconst 1, []), (1, false, .istore_n 1, []), (2, false, .iconst 0, []), (3, false, .istore_n 2, []), (4, true, .iload_n 2, []), (5, false, .aload_n 0, []), (6, false, .getfield 148, []), (9, false, .if_icmp .ge 18, [27]), (12, false, .iload_n 1, []), (13, false, .aload_n 0, []), (14, false, .getfield 31, []), (17, false, .iload_n 2, []), (18, false, .iaload, []), (19, false, .imul, []), (20, false, .istore_n 1, []), (21, false, .iinc 2 1, []), (24, false, .goto (-20), [4]), (27, false, .iload_n 1, []), (28, false, .ireturn, [])]
set_option maxRecDepth 20000 in
theorem kX8_setsAll_ok : mm_cok cX8_setsAll RX8 (mm_ctt ctRX8) kX8_setsAll := mm_c_of (k := false) ctRX8_ok (by decide +kernel)
set_option maxRecDepth 20000 in
theorem wX8_setsAll : ∀ w ∈ ([.instanceMethod yX8_setsAll, .selects RX8 yX8_setsAll yX8_setsAll, .initialized RX8, .code yX8_setsAll cX8_setsAll 3 (some .int)] : List Cond), w ∈ mm_tbl := mm_sub_at _ [1212, 50, 112, 1213] (by decide +kernel) (by decide +kernel)
def vtX8_setsAll : List (Nat × Nat × Nat × mm_F) := []
def smX8_setsAll : List (Nat × Nat × Nat × mm_F) := []
def ZX8_setsAll (p : Program) (l : Launch) (e : Env) (s : State) (m : MethodId) (args : Array Value) (below : List Frame) (meth : Method) (c : Code) (cA : Nat → ClassId) (ad : Nat → Nat) (D : va_G) (A : Nat → Prop) : Prop := mm_Z p l e (mm_rm 0) s m args below meth c lay_m cA ad D A RX8 cX8_setsAll 3 1 (mm_flt flRX8) (mm_clt (vtX8_setsAll)) (mm_clt (smX8_setsAll)) (mm_ctt ctRX8) kX8_setsAll
def qX8_setsAll_4 (P : Int → Int → mm_M → Prop) : mm_K := fun ls st M => match ls, st with
  | [some (.inr (.inr c0)), some (.inl v1), some (.inl v2)], [] => mm_chk (Nat.beq c0 0) (P v1 v2 M)
  | _, _ => False
theorem okX8_setsAll_4 {p : Program} {l : Launch} {e : Env} {s : State} {m : MethodId} {args : Array Value} {below : List Frame} {meth : Method} {c : Code} {cA : Nat → ClassId} {ad : Nat → Nat} {D : va_G} {A : Nat → Prop} {Q : Option mm_V → mm_M → Prop} (Z : ZX8_setsAll p l e s m args below meth c cA ad D A) : ∀ (n : Nat) ls st M, qX8_setsAll_4 (fun v1 v2 M => bX8_setsAll_4 n v1 v2 M (fun r M => Q (some (.inl r)) M)) ls st M → mm_G p l e (mm_rm 0) s m args below meth c lay_m cA ad D A 3 Q 4 ls st M
  | 0, ls, st, M, h => by
    unfold qX8_setsAll_4 at h
    split at h
    · obtain ⟨hb, h⟩ := mm_chk_e h
      cases (Nat.eq_of_beq_eq_true hb)
      exact h.elim
    · exact h.elim
  | n + 1, ls, st, M, h => by
    have ih := okX8_setsAll_4 (Q := Q) Z  n
    unfold qX8_setsAll_4 at h
    split at h
    · obtain ⟨hb, h⟩ := mm_chk_e h
      cases (Nat.eq_of_beq_eq_true hb)
      exact mm_Zb Z 22 4 [(4, qX8_setsAll_4 (fun v1 v2 M => bX8_setsAll_4 n v1 v2 M (fun r M => Q (some (.inl r)) M)))] (mm_fa1 ih mm_fa0) h
    · exact h.elim
theorem okX8_setsAll_4x {p : Program} {l : Launch} {e : Env} {s : State} {m : MethodId} {args : Array Value} {below : List Frame} {meth : Method} {c : Code} {cA : Nat → ClassId} {ad : Nat → Nat} {D : va_G} {A : Nat → Prop} {Q : Option mm_V → mm_M → Prop} (Z : ZX8_setsAll p l e s m args below meth c cA ad D A) : ∀ ls st M, qX8_setsAll_4 (fun v1 v2 M => ∃ j, bX8_setsAll_4 j v1 v2 M (fun r M => Q (some (.inl r)) M)) ls st M → mm_G p l e (mm_rm 0) s m args below meth c lay_m cA ad D A 3 Q 4 ls st M := by
  intro ls st M h
  have hex : ∃ n, qX8_setsAll_4 (fun v1 v2 M => bX8_setsAll_4 n v1 v2 M (fun r M => Q (some (.inl r)) M)) ls st M := by
    unfold qX8_setsAll_4 at h
    split at h
    · obtain ⟨hb, h⟩ := mm_chk_e h
      cases (Nat.eq_of_beq_eq_true hb)
      obtain ⟨n, h⟩ := h
      exact ⟨n, h⟩
    · exact h.elim
  obtain ⟨n, hex⟩ := hex
  exact okX8_setsAll_4 Z  n ls st M hex
theorem okX8_setsAll : mm_Ok lay_m yX8_setsAll cX8_setsAll 3 (some .int) 0 fX8_setsAll := by
  refine mm_enter (rt := 1) (by decide +kernel) rfl ?_
  intro p l e s m args below meth c cA ad D A as M Q h C0
  have Z : ZX8_setsAll p l e s m args below meth c cA ad D A := ⟨C0, flRX8_ok, mm_vt_of (mm_fa0), mm_vt_of (mm_fa0), kX8_setsAll_ok, mm_ctok_J ctRX8_ok⟩
  unfold fX8_setsAll at h
  split at h
  · obtain ⟨hb, h⟩ := mm_chk_e h
    cases (Nat.eq_of_beq_eq_true hb)
    exact ⟨Nat.le_of_ble_eq_true rfl, mm_Zb Z 22 0 [(4, qX8_setsAll_4 (fun v1 v2 M => ∃ j, bX8_setsAll_4 j v1 v2 M (fun r M => Q (some (.inl r)) M)))] (mm_fa1 (fun ls st M h => okX8_setsAll_4x Z  ls st M h) mm_fa0) h⟩
  · exact h.elim
def kX8_greatestLoad : List mm_E := [(0, false, .aload_n 0, []), (1, false, .invokevirtual 169, []), (4, false, .iconst 0, []), (5, false, .istore_n 1, []), (6, false, .iconst 0, []), (7, false, .istore_n 2, []), (8, true, .iload_n 2, []), (9, false, .aload_n 0, []), (10, false, .getfield 145, []), (13, false, .if_icmp .ge 30, [43]), (16, false, .aload_n 0, []), (17, false, .getfield 71, []), (20, false, .iload_n 2, []), (21, false, .iaload, []), (22, false, .iload_n 1, []), (23, false, .if_icmp .le 12, [35]), (26, false, .aload_n 0, []), (27, false, .getfield 71, []), (30, false, .iload_n 2, []), (31, false, .iaload, []), (32, false, .goto 4, [36]), (35, false, .iload_n 1, []), (36, false, .istore_n 1, []), (37, false, .iinc 2 1, []), (40, false, .goto (-32), [8]), (43, false, .iload_n 1, []), (44, false, .ireturn, [])]
set_option maxRecDepth 20000 in
theorem kX8_greatestLoad_ok : mm_cok cX8_greatestLoad RX8 (mm_ctt ctRX8) kX8_greatestLoad := mm_c_of (k := false) ctRX8_ok (by decide +kernel)
set_option maxRecDepth 20000 in
theorem wX8_greatestLoad : ∀ w ∈ ([.instanceMethod yX8_greatestLoad, .selects RX8 yX8_greatestLoad yX8_greatestLoad, .initialized RX8, .code yX8_greatestLoad cX8_greatestLoad 3 (some .int)] : List Cond), w ∈ mm_tbl := mm_sub_at _ [1216, 51, 112, 1217] (by decide +kernel) (by decide +kernel)
def vtX8_greatestLoad : List (Nat × Nat × Nat × mm_F) := [(169, 8, 1, fX8_layLoad)]
def smX8_greatestLoad : List (Nat × Nat × Nat × mm_F) := []
def ZX8_greatestLoad (p : Program) (l : Launch) (e : Env) (s : State) (m : MethodId) (args : Array Value) (below : List Frame) (meth : Method) (c : Code) (cA : Nat → ClassId) (ad : Nat → Nat) (D : va_G) (A : Nat → Prop) : Prop := mm_Z p l e (mm_rm 3) s m args below meth c lay_m cA ad D A RX8 cX8_greatestLoad 3 1 (mm_flt flRX8) (mm_clt (vtX8_greatestLoad)) (mm_clt (smX8_greatestLoad)) (mm_ctt ctRX8) kX8_greatestLoad
def qX8_greatestLoad_8 (P : Int → Int → mm_M → Prop) : mm_K := fun ls st M => match ls, st with
  | [some (.inr (.inr c0)), some (.inl v1), some (.inl v2)], [] => mm_chk (Nat.beq c0 0) (P v1 v2 M)
  | _, _ => False
theorem okX8_greatestLoad_8 {p : Program} {l : Launch} {e : Env} {s : State} {m : MethodId} {args : Array Value} {below : List Frame} {meth : Method} {c : Code} {cA : Nat → ClassId} {ad : Nat → Nat} {D : va_G} {A : Nat → Prop} {Q : Option mm_V → mm_M → Prop} (Z : ZX8_greatestLoad p l e s m args below meth c cA ad D A) : ∀ (n : Nat) ls st M, qX8_greatestLoad_8 (fun v1 v2 M => bX8_greatestLoad_8 n v1 v2 M (fun r M => Q (some (.inl r)) M)) ls st M → mm_G p l e (mm_rm 3) s m args below meth c lay_m cA ad D A 3 Q 8 ls st M
  | 0, ls, st, M, h => by
    unfold qX8_greatestLoad_8 at h
    split at h
    · obtain ⟨hb, h⟩ := mm_chk_e h
      cases (Nat.eq_of_beq_eq_true hb)
      exact h.elim
    · exact h.elim
  | n + 1, ls, st, M, h => by
    have ih := okX8_greatestLoad_8 (Q := Q) Z  n
    unfold qX8_greatestLoad_8 at h
    split at h
    · obtain ⟨hb, h⟩ := mm_chk_e h
      cases (Nat.eq_of_beq_eq_true hb)
      exact mm_Zb Z 30 8 [(8, qX8_greatestLoad_8 (fun v1 v2 M => bX8_greatestLoad_8 n v1 v2 M (fun r M => Q (some (.inl r)) M)))] (mm_fa1 ih mm_fa0) h
    · exact h.elim
theorem okX8_greatestLoad_8x {p : Program} {l : Launch} {e : Env} {s : State} {m : MethodId} {args : Array Value} {below : List Frame} {meth : Method} {c : Code} {cA : Nat → ClassId} {ad : Nat → Nat} {D : va_G} {A : Nat → Prop} {Q : Option mm_V → mm_M → Prop} (Z : ZX8_greatestLoad p l e s m args below meth c cA ad D A) : ∀ ls st M, qX8_greatestLoad_8 (fun v1 v2 M => ∃ j, bX8_greatestLoad_8 j v1 v2 M (fun r M => Q (some (.inl r)) M)) ls st M → mm_G p l e (mm_rm 3) s m args below meth c lay_m cA ad D A 3 Q 8 ls st M := by
  intro ls st M h
  have hex : ∃ n, qX8_greatestLoad_8 (fun v1 v2 M => bX8_greatestLoad_8 n v1 v2 M (fun r M => Q (some (.inl r)) M)) ls st M := by
    unfold qX8_greatestLoad_8 at h
    split at h
    · obtain ⟨hb, h⟩ := mm_chk_e h
      cases (Nat.eq_of_beq_eq_true hb)
      obtain ⟨n, h⟩ := h
      exact ⟨n, h⟩
    · exact h.elim
  obtain ⟨n, hex⟩ := hex
  exact okX8_greatestLoad_8 Z  n ls st M hex
theorem okX8_greatestLoad : mm_Ok lay_m yX8_greatestLoad cX8_greatestLoad 3 (some .int) 3 fX8_greatestLoad := by
  refine mm_enter (rt := 1) (by decide +kernel) rfl ?_
  intro p l e s m args below meth c cA ad D A as M Q h C0
  have Z : ZX8_greatestLoad p l e s m args below meth c cA ad D A := ⟨C0, flRX8_ok, mm_vt_of (mm_fa1 (mm_coV (n := 0) (ci := 8) C0 okX8_layLoad rfl rfl (mm_one_at (.methodLink RX8 169 yX8_layLoad) 1178 (by decide +kernel) rfl) (wX8_layLoad _ (by simp)) (wX8_layLoad _ (by simp [yX8_layLoad])) (wX8_layLoad _ (by simp [yX8_layLoad])) (wX8_layLoad _ (by simp)) (by decide +kernel) (by omega) (by omega)) (mm_fa0)), mm_vt_of (mm_fa0), kX8_greatestLoad_ok, mm_ctok_J ctRX8_ok⟩
  unfold fX8_greatestLoad at h
  split at h
  · obtain ⟨hb, h⟩ := mm_chk_e h
    cases (Nat.eq_of_beq_eq_true hb)
    exact ⟨Nat.le_of_ble_eq_true rfl, mm_Zb Z 30 0 [(8, qX8_greatestLoad_8 (fun v1 v2 M => ∃ j, bX8_greatestLoad_8 j v1 v2 M (fun r M => Q (some (.inl r)) M)))] (mm_fa1 (fun ls st M h => okX8_greatestLoad_8x Z  ls st M h) mm_fa0) h⟩
  · exact h.elim
def kX8_aboutNow : List mm_E := [(0, false, .iload_n 1, []), (1, false, .tableswitch 88 0 6 #[43, 48, 53, 58, 63, 68, 83], [89, 44, 49, 54, 59, 64, 69, 84]), (44, false, .aload_n 0, []), (45, false, .getfield 142, []), (48, false, .ireturn, []), (49, false, .aload_n 0, []), (50, false, .getfield 145, []), (53, false, .ireturn, []), (54, false, .aload_n 0, []), (55, false, .getfield 162, []), (58, false, .ireturn, []), (59, false, .aload_n 0, []), (60, false, .invokevirtual 179, []), (63, false, .ireturn, []), (64, false, .aload_n 0, []), (65, false, .invokevirtual 182, []), (68, false, .ireturn, []), (69, false, .aload_n 0, []), (70, false, .iconst (-1), []), (71, false, .invokevirtual 185, []), (74, false, .iconst (-1), []), (75, false, .if_icmp .ne 7, [82]), (78, false, .iconst 1, []), (79, false, .goto 4, [83]), (82, false, .iconst 0, []), (83, false, .ireturn, []), (84, false, .aload_n 0, []), (85, false, .invokevirtual 188, []), (88, false, .ireturn, []), (89, false, .aload_n 0, []), (90, false, .invokevirtual 191, []), (93, false, .ireturn, [])]
set_option maxRecDepth 20000 in
theorem kX8_aboutNow_ok : mm_cok cX8_aboutNow RX8 (mm_ctt ctRX8) kX8_aboutNow := mm_c_of (k := false) ctRX8_ok (by decide +kernel)
set_option maxRecDepth 20000 in
theorem wX8_aboutNow : ∀ w ∈ ([.instanceMethod yX8_aboutNow, .selects RX8 yX8_aboutNow yX8_aboutNow, .initialized RX8, .code yX8_aboutNow cX8_aboutNow 2 (some .int)] : List Cond), w ∈ mm_tbl := mm_sub_at _ [1172, 40, 112, 1173] (by decide +kernel) (by decide +kernel)
def vtX8_aboutNow : List (Nat × Nat × Nat × mm_F) := [(191, 8, 1, fX8_greatestLoad), (179, 8, 1, fX8_socialNow), (182, 8, 1, fX8_potentialNow), (185, 8, 2, fX8_restless), (188, 8, 1, fX8_setsAll)]
def smX8_aboutNow : List (Nat × Nat × Nat × mm_F) := []
def ZX8_aboutNow (p : Program) (l : Launch) (e : Env) (s : State) (m : MethodId) (args : Array Value) (below : List Frame) (meth : Method) (c : Code) (cA : Nat → ClassId) (ad : Nat → Nat) (D : va_G) (A : Nat → Prop) : Prop := mm_Z p l e (mm_rm 5) s m args below meth c lay_m cA ad D A RX8 cX8_aboutNow 2 1 (mm_flt flRX8) (mm_clt (vtX8_aboutNow)) (mm_clt (smX8_aboutNow)) (mm_ctt ctRX8) kX8_aboutNow
theorem okX8_aboutNow : mm_Ok lay_m yX8_aboutNow cX8_aboutNow 2 (some .int) 5 fX8_aboutNow := by
  refine mm_enter (rt := 1) (by decide +kernel) rfl ?_
  intro p l e s m args below meth c cA ad D A as M Q h C0
  have Z : ZX8_aboutNow p l e s m args below meth c cA ad D A := ⟨C0, flRX8_ok, mm_vt_of (mm_fa1 (mm_coV (n := 0) (ci := 8) C0 okX8_greatestLoad rfl rfl (mm_one_at (.methodLink RX8 191 yX8_greatestLoad) 1214 (by decide +kernel) rfl) (wX8_greatestLoad _ (by simp)) (wX8_greatestLoad _ (by simp [yX8_greatestLoad])) (wX8_greatestLoad _ (by simp [yX8_greatestLoad])) (wX8_greatestLoad _ (by simp)) (by decide +kernel) (by omega) (by omega)) (mm_fa1 (mm_coV (n := 0) (ci := 8) C0 okX8_socialNow rfl rfl (mm_one_at (.methodLink RX8 179 yX8_socialNow) 1174 (by decide +kernel) rfl) (wX8_socialNow _ (by simp)) (wX8_socialNow _ (by simp [yX8_socialNow])) (wX8_socialNow _ (by simp [yX8_socialNow])) (wX8_socialNow _ (by simp)) (by decide +kernel) (by omega) (by omega)) (mm_fa1 (mm_coV (n := 0) (ci := 8) C0 okX8_potentialNow rfl rfl (mm_one_at (.methodLink RX8 182 yX8_potentialNow) 1190 (by decide +kernel) rfl) (wX8_potentialNow _ (by simp)) (wX8_potentialNow _ (by simp [yX8_potentialNow])) (wX8_potentialNow _ (by simp [yX8_potentialNow])) (wX8_potentialNow _ (by simp)) (by decide +kernel) (by omega) (by omega)) (mm_fa1 (mm_coV (n := 1) (ci := 8) C0 okX8_restless rfl rfl (mm_one_at (.methodLink RX8 185 yX8_restless) 1198 (by decide +kernel) rfl) (wX8_restless _ (by simp)) (wX8_restless _ (by simp [yX8_restless])) (wX8_restless _ (by simp [yX8_restless])) (wX8_restless _ (by simp)) (by decide +kernel) (by omega) (by omega)) (mm_fa1 (mm_coV (n := 0) (ci := 8) C0 okX8_setsAll rfl rfl (mm_one_at (.methodLink RX8 188 yX8_setsAll) 1210 (by decide +kernel) rfl) (wX8_setsAll _ (by simp)) (wX8_setsAll _ (by simp [yX8_setsAll])) (wX8_setsAll _ (by simp [yX8_setsAll])) (wX8_setsAll _ (by simp)) (by decide +kernel) (by omega) (by omega)) (mm_fa0)))))), mm_vt_of (mm_fa0), kX8_aboutNow_ok, mm_ctok_J ctRX8_ok⟩
  unfold fX8_aboutNow at h
  split at h
  · obtain ⟨hb, h⟩ := mm_chk_e h
    cases (Nat.eq_of_beq_eq_true hb)
    exact ⟨Nat.le_of_ble_eq_true rfl, mm_Zb Z 35 0 [] mm_fa0 h⟩
  · exact h.elim
def kX8_about : List mm_E := [(0, false, .iload_n 1, []), (1, false, .iconst 0, []), (2, false, .bipush 7, []), (4, false, .invokestatic 105, []), (7, false, .ifCond .ne 6, [13]), (10, false, .bipush (-102), []), (12, false, .ireturn, []), (13, false, .aload_n 0, []), (14, false, .invokevirtual 194, []), (17, false, .ifCond .eq 11, [28]), (20, false, .aload_n 0, []), (21, false, .iload_n 1, []), (22, false, .invokevirtual 198, []), (25, false, .goto 5, [30]), (28, false, .bipush (-103), []), (30, false, .ireturn, [])]
set_option maxRecDepth 20000 in
theorem kX8_about_ok : mm_cok cX8_about RX8 (mm_ctt ctRX8) kX8_about := mm_c_of (k := false) ctRX8_ok (by decide +kernel)
set_option maxRecDepth 20000 in
theorem wX8_about : ∀ w ∈ ([.instanceMethod yX8_about, .selects RX8 yX8_about yX8_about, .initialized RX8, .code yX8_about cX8_about 2 (some .int)] : List Cond), w ∈ mm_tbl := mm_sub_at _ [1163, 1164, 112, 1165] (by decide +kernel) (by decide +kernel)
def vtX8_about : List (Nat × Nat × Nat × mm_F) := [(194, 8, 1, fX8_isNet), (198, 8, 2, fX8_aboutNow)]
def smX8_about : List (Nat × Nat × Nat × mm_F) := [(105, 0, 3, fX8_within)]
def ZX8_about (p : Program) (l : Launch) (e : Env) (s : State) (m : MethodId) (args : Array Value) (below : List Frame) (meth : Method) (c : Code) (cA : Nat → ClassId) (ad : Nat → Nat) (D : va_G) (A : Nat → Prop) : Prop := mm_Z p l e (mm_rm 6) s m args below meth c lay_m cA ad D A RX8 cX8_about 2 1 (mm_flt flRX8) (mm_clt (vtX8_about)) (mm_clt (smX8_about)) (mm_ctt ctRX8) kX8_about
theorem okX8_about : mm_Ok lay_m yX8_about cX8_about 2 (some .int) 6 fX8_about := by
  refine mm_enter (rt := 1) (by decide +kernel) rfl ?_
  intro p l e s m args below meth c cA ad D A as M Q h C0
  have Z : ZX8_about p l e s m args below meth c cA ad D A := ⟨C0, flRX8_ok, mm_vt_of (mm_fa1 (mm_coV (n := 0) (ci := 8) C0 okX8_isNet rfl rfl (mm_one_at (.methodLink RX8 194 yX8_isNet) 1166 (by decide +kernel) rfl) (wX8_isNet _ (by simp)) (wX8_isNet _ (by simp [yX8_isNet])) (wX8_isNet _ (by simp [yX8_isNet])) (wX8_isNet _ (by simp)) (by decide +kernel) (by omega) (by omega)) (mm_fa1 (mm_coV (n := 1) (ci := 8) C0 okX8_aboutNow rfl rfl (mm_one_at (.methodLink RX8 198 yX8_aboutNow) 1170 (by decide +kernel) rfl) (wX8_aboutNow _ (by simp)) (wX8_aboutNow _ (by simp [yX8_aboutNow])) (wX8_aboutNow _ (by simp [yX8_aboutNow])) (wX8_aboutNow _ (by simp)) (by decide +kernel) (by omega) (by omega)) (mm_fa0))), mm_vt_of (mm_fa1 (mm_coS (n := 3) C0 okX8_within (mm_one_at (.methodLink RX8 105 yX8_within) 1123 (by decide +kernel) rfl) (wX8_within _ (by simp)) (wX8_within _ (by simp [yX8_within])) (wX8_within _ (by simp)) (by decide +kernel) (by omega) (by omega)) (mm_fa0)), kX8_about_ok, mm_ctok_J ctRX8_ok⟩
  unfold fX8_about at h
  split at h
  · obtain ⟨hb, h⟩ := mm_chk_e h
    cases (Nat.eq_of_beq_eq_true hb)
    exact ⟨Nat.le_of_ble_eq_true rfl, mm_Zb Z 19 0 [] mm_fa0 h⟩
  · exact h.elim
def kX8_isRoad : List mm_E := [(0, false, .aload_n 0, []), (1, false, .invokevirtual 194, []), (4, false, .ifCond .eq 21, [25]), (7, false, .iload_n 1, []), (8, false, .iconst 0, []), (9, false, .aload_n 0, []), (10, false, .getfield 145, []), (13, false, .iconst 1, []), (14, false, .isub, []), (15, false, .invokestatic 105, []), (18, false, .ifCond .eq 7, [25]), (21, false, .iconst 1, []), (22, false, .goto 4, [26]), (25, false, .iconst 0, []), (26, false, .ireturn, [])]
set_option maxRecDepth 20000 in
theorem kX8_isRoad_ok : mm_cok cX8_isRoad RX8 (mm_ctt ctRX8) kX8_isRoad := mm_c_of (k := false) ctRX8_ok (by decide +kernel)
set_option maxRecDepth 20000 in
theorem wX8_isRoad : ∀ w ∈ ([.instanceMethod yX8_isRoad, .selects RX8 yX8_isRoad yX8_isRoad, .initialized RX8, .code yX8_isRoad cX8_isRoad 2 (some .boolean)] : List Cond), w ∈ mm_tbl := mm_sub_at _ [1224, 52, 112, 1225] (by decide +kernel) (by decide +kernel)
def vtX8_isRoad : List (Nat × Nat × Nat × mm_F) := [(194, 8, 1, fX8_isNet)]
def smX8_isRoad : List (Nat × Nat × Nat × mm_F) := [(105, 0, 3, fX8_within)]
def ZX8_isRoad (p : Program) (l : Launch) (e : Env) (s : State) (m : MethodId) (args : Array Value) (below : List Frame) (meth : Method) (c : Code) (cA : Nat → ClassId) (ad : Nat → Nat) (D : va_G) (A : Nat → Prop) : Prop := mm_Z p l e (mm_rm 1) s m args below meth c lay_m cA ad D A RX8 cX8_isRoad 2 2 (mm_flt flRX8) (mm_clt (vtX8_isRoad)) (mm_clt (smX8_isRoad)) (mm_ctt ctRX8) kX8_isRoad
theorem okX8_isRoad : mm_Ok lay_m yX8_isRoad cX8_isRoad 2 (some .boolean) 1 fX8_isRoad := by
  refine mm_enter (rt := 2) (by decide +kernel) rfl ?_
  intro p l e s m args below meth c cA ad D A as M Q h C0
  have Z : ZX8_isRoad p l e s m args below meth c cA ad D A := ⟨C0, flRX8_ok, mm_vt_of (mm_fa1 (mm_coV (n := 0) (ci := 8) C0 okX8_isNet rfl rfl (mm_one_at (.methodLink RX8 194 yX8_isNet) 1166 (by decide +kernel) rfl) (wX8_isNet _ (by simp)) (wX8_isNet _ (by simp [yX8_isNet])) (wX8_isNet _ (by simp [yX8_isNet])) (wX8_isNet _ (by simp)) (by decide +kernel) (by omega) (by omega)) (mm_fa0)), mm_vt_of (mm_fa1 (mm_coS (n := 3) C0 okX8_within (mm_one_at (.methodLink RX8 105 yX8_within) 1123 (by decide +kernel) rfl) (wX8_within _ (by simp)) (wX8_within _ (by simp [yX8_within])) (wX8_within _ (by simp)) (by decide +kernel) (by omega) (by omega)) (mm_fa0)), kX8_isRoad_ok, mm_ctok_J ctRX8_ok⟩
  unfold fX8_isRoad at h
  split at h
  · obtain ⟨hb, h⟩ := mm_chk_e h
    cases (Nat.eq_of_beq_eq_true hb)
    exact ⟨Nat.le_of_ble_eq_true rfl, mm_Zb Z 18 0 [] mm_fa0 h⟩
  · exact h.elim
def kX8_roadNow : List mm_E := [(0, false, .aload_n 0, []), (1, false, .invokevirtual 169, []), (4, false, .iload_n 2, []), (5, false, .tableswitch 110 0 6 #[43, 50, 57, 64, 71, 78, 85], [115, 48, 55, 62, 69, 76, 83, 90]), (48, false, .aload_n 0, []), (49, false, .getfield 7, []), (52, false, .iload_n 1, []), (53, false, .iaload, []), (54, false, .ireturn, []), (55, false, .aload_n 0, []), (56, false, .getfield 13, []), (59, false, .iload_n 1, []), (60, false, .iaload, []), (61, false, .ireturn, []), (62, false, .aload_n 0, []), (63, false, .getfield 16, []), (66, false, .iload_n 1, []), (67, false, .iaload, []), (68, false, .ireturn, []), (69, false, .aload_n 0, []), (70, false, .getfield 19, []), (73, false, .iload_n 1, []), (74, false, .iaload, []), (75, false, .ireturn, []), (76, false, .aload_n 0, []), (77, false, .getfield 22, []), (80, false, .iload_n 1, []), (81, false, .iaload, []), (82, false, .ireturn, []), (83, false, .aload_n 0, []), (84, false, .getfield 71, []), (87, false, .iload_n 1, []), (88, false, .iaload, []), (89, false, .ireturn, []), (90, false, .aload_n 0, []), (91, false, .getfield 71, []), (94, false, .iload_n 1, []), (95, false, .iaload, []), (96, false, .ifCond .ne 7, [103]), (99, false, .iconst (-1), []), (100, false, .goto 14, [114]), (103, false, .aload_n 0, []), (104, false, .iload_n 1, []), (105, false, .aload_n 0, []), (106, false, .getfield 71, []), (109, false, .iload_n 1, []), (110, false, .iaload, []), (111, false, .invokevirtual 165, []), (114, false, .ireturn, []), (115, false, .aload_n 0, []), (116, false, .iload_n 1, []), (117, false, .aload_n 0, []), (118, false, .getfield 71, []), (121, false, .iload_n 1, []), (122, false, .iaload, []), (123, false, .iconst 1, []), (124, false, .iadd, []), (125, false, .invokevirtual 165, []), (128, false, .ireturn, [])]
set_option maxRecDepth 20000 in
theorem kX8_roadNow_ok : mm_cok cX8_roadNow RX8 (mm_ctt ctRX8) kX8_roadNow := mm_c_of (k := false) ctRX8_ok (by decide +kernel)
set_option maxRecDepth 20000 in
theorem wX8_roadNow : ∀ w ∈ ([.instanceMethod yX8_roadNow, .selects RX8 yX8_roadNow yX8_roadNow, .initialized RX8, .code yX8_roadNow cX8_roadNow 3 (some .int)] : List Cond), w ∈ mm_tbl := mm_sub_at _ [1228, 53, 112, 1229] (by decide +kernel) (by decide +kernel)
def vtX8_roadNow : List (Nat × Nat × Nat × mm_F) := [(169, 8, 1, fX8_layLoad), (165, 8, 3, fX8_payAt)]
def smX8_roadNow : List (Nat × Nat × Nat × mm_F) := []
def ZX8_roadNow (p : Program) (l : Launch) (e : Env) (s : State) (m : MethodId) (args : Array Value) (below : List Frame) (meth : Method) (c : Code) (cA : Nat → ClassId) (ad : Nat → Nat) (D : va_G) (A : Nat → Prop) : Prop := mm_Z p l e (mm_rm 3) s m args below meth c lay_m cA ad D A RX8 cX8_roadNow 3 1 (mm_flt flRX8) (mm_clt (vtX8_roadNow)) (mm_clt (smX8_roadNow)) (mm_ctt ctRX8) kX8_roadNow
theorem okX8_roadNow : mm_Ok lay_m yX8_roadNow cX8_roadNow 3 (some .int) 3 fX8_roadNow := by
  refine mm_enter (rt := 1) (by decide +kernel) rfl ?_
  intro p l e s m args below meth c cA ad D A as M Q h C0
  have Z : ZX8_roadNow p l e s m args below meth c cA ad D A := ⟨C0, flRX8_ok, mm_vt_of (mm_fa1 (mm_coV (n := 0) (ci := 8) C0 okX8_layLoad rfl rfl (mm_one_at (.methodLink RX8 169 yX8_layLoad) 1178 (by decide +kernel) rfl) (wX8_layLoad _ (by simp)) (wX8_layLoad _ (by simp [yX8_layLoad])) (wX8_layLoad _ (by simp [yX8_layLoad])) (wX8_layLoad _ (by simp)) (by decide +kernel) (by omega) (by omega)) (mm_fa1 (mm_coV (n := 2) (ci := 8) C0 okX8_payAt rfl rfl (mm_one_at (.methodLink RX8 165 yX8_payAt) 1194 (by decide +kernel) rfl) (wX8_payAt _ (by simp)) (wX8_payAt _ (by simp [yX8_payAt])) (wX8_payAt _ (by simp [yX8_payAt])) (wX8_payAt _ (by simp)) (by decide +kernel) (by omega) (by omega)) (mm_fa0))), mm_vt_of (mm_fa0), kX8_roadNow_ok, mm_ctok_J ctRX8_ok⟩
  unfold fX8_roadNow at h
  split at h
  · obtain ⟨hb, h⟩ := mm_chk_e h
    cases (Nat.eq_of_beq_eq_true hb)
    exact ⟨Nat.le_of_ble_eq_true rfl, mm_Zb Z 62 0 [] mm_fa0 h⟩
  · exact h.elim
def kX8_road : List mm_E := [(0, false, .aload_n 0, []), (1, false, .iload_n 1, []), (2, false, .invokevirtual 201, []), (5, false, .ifCond .ne 8, [13]), (8, false, .bipush (-101), []), (10, false, .goto 24, [34]), (13, false, .iload_n 2, []), (14, false, .iconst 0, []), (15, false, .bipush 7, []), (17, false, .invokestatic 105, []), (20, false, .ifCond .eq 12, [32]), (23, false, .aload_n 0, []), (24, false, .iload_n 1, []), (25, false, .iload_n 2, []), (26, false, .invokevirtual 204, []), (29, false, .goto 5, [34]), (32, false, .bipush (-102), []), (34, false, .ireturn, [])]
set_option maxRecDepth 20000 in
theorem kX8_road_ok : mm_cok cX8_road RX8 (mm_ctt ctRX8) kX8_road := mm_c_of (k := false) ctRX8_ok (by decide +kernel)
set_option maxRecDepth 20000 in
theorem wX8_road : ∀ w ∈ ([.instanceMethod yX8_road, .selects RX8 yX8_road yX8_road, .initialized RX8, .code yX8_road cX8_road 3 (some .int)] : List Cond), w ∈ mm_tbl := mm_sub_at _ [1219, 1220, 112, 1221] (by decide +kernel) (by decide +kernel)
def vtX8_road : List (Nat × Nat × Nat × mm_F) := [(201, 8, 2, fX8_isRoad), (204, 8, 3, fX8_roadNow)]
def smX8_road : List (Nat × Nat × Nat × mm_F) := [(105, 0, 3, fX8_within)]
def ZX8_road (p : Program) (l : Launch) (e : Env) (s : State) (m : MethodId) (args : Array Value) (below : List Frame) (meth : Method) (c : Code) (cA : Nat → ClassId) (ad : Nat → Nat) (D : va_G) (A : Nat → Prop) : Prop := mm_Z p l e (mm_rm 4) s m args below meth c lay_m cA ad D A RX8 cX8_road 3 1 (mm_flt flRX8) (mm_clt (vtX8_road)) (mm_clt (smX8_road)) (mm_ctt ctRX8) kX8_road
theorem okX8_road : mm_Ok lay_m yX8_road cX8_road 3 (some .int) 4 fX8_road := by
  refine mm_enter (rt := 1) (by decide +kernel) rfl ?_
  intro p l e s m args below meth c cA ad D A as M Q h C0
  have Z : ZX8_road p l e s m args below meth c cA ad D A := ⟨C0, flRX8_ok, mm_vt_of (mm_fa1 (mm_coV (n := 1) (ci := 8) C0 okX8_isRoad rfl rfl (mm_one_at (.methodLink RX8 201 yX8_isRoad) 1222 (by decide +kernel) rfl) (wX8_isRoad _ (by simp)) (wX8_isRoad _ (by simp [yX8_isRoad])) (wX8_isRoad _ (by simp [yX8_isRoad])) (wX8_isRoad _ (by simp)) (by decide +kernel) (by omega) (by omega)) (mm_fa1 (mm_coV (n := 2) (ci := 8) C0 okX8_roadNow rfl rfl (mm_one_at (.methodLink RX8 204 yX8_roadNow) 1226 (by decide +kernel) rfl) (wX8_roadNow _ (by simp)) (wX8_roadNow _ (by simp [yX8_roadNow])) (wX8_roadNow _ (by simp [yX8_roadNow])) (wX8_roadNow _ (by simp)) (by decide +kernel) (by omega) (by omega)) (mm_fa0))), mm_vt_of (mm_fa1 (mm_coS (n := 3) C0 okX8_within (mm_one_at (.methodLink RX8 105 yX8_within) 1123 (by decide +kernel) rfl) (wX8_within _ (by simp)) (wX8_within _ (by simp [yX8_within])) (wX8_within _ (by simp)) (by decide +kernel) (by omega) (by omega)) (mm_fa0)), kX8_road_ok, mm_ctok_J ctRX8_ok⟩
  unfold fX8_road at h
  split at h
  · obtain ⟨hb, h⟩ := mm_chk_e h
    cases (Nat.eq_of_beq_eq_true hb)
    exact ⟨Nat.le_of_ble_eq_true rfl, mm_Zb Z 21 0 [] mm_fa0 h⟩
  · exact h.elim
def kX8_put : List mm_E := [(0, false, .aload_n 0, []), (1, false, .iload_n 1, []), (2, false, .invokevirtual 201, []), (5, false, .ifCond .ne 6, [11]), (8, false, .bipush (-101), []), (10, false, .ireturn, []), (11, false, .iload_n 2, []), (12, false, .ifCond .ne 8, [20]), (15, false, .bipush 20, []), (17, false, .goto 15, [32]), (20, false, .iload_n 2, []), (21, false, .iconst 1, []), (22, false, .if_icmp .ne 8, [30]), (25, false, .bipush 9, []), (27, false, .goto 5, [32]), (30, false, .bipush 40, []), (32, true, .istore 4, []), (34, false, .iload_n 2, []), (35, false, .iconst 0, []), (36, false, .iconst 2, []), (37, false, .invokestatic 105, []), (40, false, .ifCond .eq 13, [53]), (43, false, .iload_n 3, []), (44, false, .iconst 0, []), (45, false, .iload 4, []), (47, false, .invokestatic 105, []), (50, false, .ifCond .ne 6, [56]), (53, false, .bipush (-102), []), (55, false, .ireturn, []), (56, false, .iload_n 2, []), (57, false, .ifCond .ne 12, [69]), (60, false, .aload_n 0, []), (61, false, .getfield 16, []), (64, false, .iload_n 1, []), (65, false, .iaload, []), (66, false, .goto 23, [89]), (69, false, .iload_n 2, []), (70, false, .iconst 1, []), (71, false, .if_icmp .ne 12, [83]), (74, false, .aload_n 0, []), (75, false, .getfield 19, []), (78, false, .iload_n 1, []), (79, false, .iaload, []), (80, false, .goto 9, [89]), (83, false, .aload_n 0, []), (84, false, .getfield 22, []), (87, false, .iload_n 1, []), (88, false, .iaload, []), (89, false, .istore 5, []), (91, false, .aload_n 0, []), (92, false, .getfield 16, []), (95, false, .iload_n 1, []), (96, false, .iload_n 2, []), (97, false, .ifCond .ne 7, [104]), (100, false, .iload_n 3, []), (101, false, .goto 9, [110]), (104, false, .aload_n 0, []), (105, false, .getfield 16, []), (108, false, .iload_n 1, []), (109, false, .iaload, []), (110, true, .iastore, []), (111, false, .aload_n 0, []), (112, false, .getfield 19, []), (115, false, .iload_n 1, []), (116, false, .iload_n 2, []), (117, false, .iconst 1, []), (118, false, .if_icmp .ne 7, [125]), (121, false, .iload_n 3, []), (122, false, .goto 9, [131]), (125, false, .aload_n 0, []), (126, false, .getfield 19, []), (129, false, .iload_n 1, []), (130, false, .iaload, []), (131, true, .iastore, []), (132, false, .aload_n 0, []), (133, false, .getfield 22, []), (136, false, .iload_n 1, []), (137, false, .iload_n 2, []), (138, false, .iconst 2, []), (139, false, .if_icmp .ne 7, [146]), (142, false, .iload_n 3, []), (143, false, .goto 9, [152]), (146, false, .aload_n 0, []), (147, false, .getfield 22, []), (150, false, .iload_n 1, []), (151, false, .iaload, []), (152, false, .iastore, []), (153, false, .iload 5, []), (155, false, .ireturn, [])]
set_option maxRecDepth 20000 in
theorem kX8_put_ok : mm_cok cX8_put RX8 (mm_ctt ctRX8) kX8_put := mm_c_of (k := false) ctRX8_ok (by decide +kernel)
set_option maxRecDepth 20000 in
theorem wX8_put : ∀ w ∈ ([.instanceMethod yX8_put, .selects RX8 yX8_put yX8_put, .initialized RX8, .code yX8_put cX8_put 6 (some .int)] : List Cond), w ∈ mm_tbl := mm_sub_at _ [1231, 1232, 112, 1233] (by decide +kernel) (by decide +kernel)
def vtX8_put : List (Nat × Nat × Nat × mm_F) := [(201, 8, 2, fX8_isRoad)]
def smX8_put : List (Nat × Nat × Nat × mm_F) := [(105, 0, 3, fX8_within)]
def ZX8_put (p : Program) (l : Launch) (e : Env) (s : State) (m : MethodId) (args : Array Value) (below : List Frame) (meth : Method) (c : Code) (cA : Nat → ClassId) (ad : Nat → Nat) (D : va_G) (A : Nat → Prop) : Prop := mm_Z p l e (mm_rm 2) s m args below meth c lay_m cA ad D A RX8 cX8_put 6 1 (mm_flt flRX8) (mm_clt (vtX8_put)) (mm_clt (smX8_put)) (mm_ctt ctRX8) kX8_put
def qX8_put_131 (P : Int → Int → Int → Int → Int → Int → Int → mm_M → Prop) : mm_K := fun ls st M => match ls, st with
  | [some (.inr (.inr c0)), some (.inl v1), some (.inl v2), some (.inl v3), some (.inl v4), some (.inl v5)], [.inl w0, .inl w1, .inr (.inr d2)] => mm_chk (Nat.beq c0 0 && Nat.beq d2 4) (P v1 v2 v3 v4 v5 w0 w1 M)
  | _, _ => False
def qX8_put_110 (P : Int → Int → Int → Int → Int → Int → Int → mm_M → Prop) : mm_K := fun ls st M => match ls, st with
  | [some (.inr (.inr c0)), some (.inl v1), some (.inl v2), some (.inl v3), some (.inl v4), some (.inl v5)], [.inl w0, .inl w1, .inr (.inr d2)] => mm_chk (Nat.beq c0 0 && Nat.beq d2 3) (P v1 v2 v3 v4 v5 w0 w1 M)
  | _, _ => False
def qX8_put_32 (P : Int → Int → Int → Int → mm_M → Prop) : mm_K := fun ls st M => match ls, st with
  | [some (.inr (.inr c0)), some (.inl v1), some (.inl v2), some (.inl v3), none, none], [.inl w0] => mm_chk (Nat.beq c0 0) (P v1 v2 v3 w0 M)
  | _, _ => False
set_option maxRecDepth 100000 in
theorem okX8_put_131 {p : Program} {l : Launch} {e : Env} {s : State} {m : MethodId} {args : Array Value} {below : List Frame} {meth : Method} {c : Code} {cA : Nat → ClassId} {ad : Nat → Nat} {D : va_G} {A : Nat → Prop} {Q : Option mm_V → mm_M → Prop} (Z : ZX8_put p l e s m args below meth c cA ad D A) : ∀ ls st M, qX8_put_131 (fun v1 v2 v3 v4 v5 w0 w1 M => bX8_put_131 v1 v2 v3 v4 v5 w0 w1 M (fun r M => Q (some (.inl r)) M)) ls st M → mm_G p l e (mm_rm 2) s m args below meth c lay_m cA ad D A 6 Q 131 ls st M := by
  intro ls st M h
  unfold qX8_put_131 at h
  split at h
  · obtain ⟨hb, h⟩ := mm_chk_e h
    simp only [Bool.and_eq_true] at hb
    obtain ⟨x0, x1⟩ := hb
    cases (Nat.eq_of_beq_eq_true x0)
    cases (Nat.eq_of_beq_eq_true x1)
    exact mm_Zb Z 92 131 [] mm_fa0 h
  · exact h.elim
set_option maxRecDepth 100000 in
theorem okX8_put_110 {p : Program} {l : Launch} {e : Env} {s : State} {m : MethodId} {args : Array Value} {below : List Frame} {meth : Method} {c : Code} {cA : Nat → ClassId} {ad : Nat → Nat} {D : va_G} {A : Nat → Prop} {Q : Option mm_V → mm_M → Prop} (Z : ZX8_put p l e s m args below meth c cA ad D A) : ∀ ls st M, qX8_put_110 (fun v1 v2 v3 v4 v5 w0 w1 M => bX8_put_110 v1 v2 v3 v4 v5 w0 w1 M (fun r M => Q (some (.inl r)) M)) ls st M → mm_G p l e (mm_rm 2) s m args below meth c lay_m cA ad D A 6 Q 110 ls st M := by
  intro ls st M h
  unfold qX8_put_110 at h
  split at h
  · obtain ⟨hb, h⟩ := mm_chk_e h
    simp only [Bool.and_eq_true] at hb
    obtain ⟨x0, x1⟩ := hb
    cases (Nat.eq_of_beq_eq_true x0)
    cases (Nat.eq_of_beq_eq_true x1)
    exact mm_Zb Z 92 110 [(131, qX8_put_131 (fun v1 v2 v3 v4 v5 w0 w1 M => bX8_put_131 v1 v2 v3 v4 v5 w0 w1 M (fun r M => Q (some (.inl r)) M)))] (mm_fa1 (fun ls st M h => okX8_put_131 Z  ls st M h) mm_fa0) h
  · exact h.elim
set_option maxRecDepth 100000 in
theorem okX8_put_32 {p : Program} {l : Launch} {e : Env} {s : State} {m : MethodId} {args : Array Value} {below : List Frame} {meth : Method} {c : Code} {cA : Nat → ClassId} {ad : Nat → Nat} {D : va_G} {A : Nat → Prop} {Q : Option mm_V → mm_M → Prop} (Z : ZX8_put p l e s m args below meth c cA ad D A) : ∀ ls st M, qX8_put_32 (fun v1 v2 v3 w0 M => bX8_put_32 v1 v2 v3 w0 M (fun r M => Q (some (.inl r)) M)) ls st M → mm_G p l e (mm_rm 2) s m args below meth c lay_m cA ad D A 6 Q 32 ls st M := by
  intro ls st M h
  unfold qX8_put_32 at h
  split at h
  · obtain ⟨hb, h⟩ := mm_chk_e h
    cases (Nat.eq_of_beq_eq_true hb)
    exact mm_Zb Z 92 32 [(110, qX8_put_110 (fun v1 v2 v3 v4 v5 w0 w1 M => bX8_put_110 v1 v2 v3 v4 v5 w0 w1 M (fun r M => Q (some (.inl r)) M)))] (mm_fa1 (fun ls st M h => okX8_put_110 Z  ls st M h) mm_fa0) h
  · exact h.elim
set_option maxRecDepth 100000 in
theorem okX8_put : mm_Ok lay_m yX8_put cX8_put 6 (some .int) 2 fX8_put := by
  refine mm_enter (rt := 1) (by decide +kernel) rfl ?_
  intro p l e s m args below meth c cA ad D A as M Q h C0
  have Z : ZX8_put p l e s m args below meth c cA ad D A := ⟨C0, flRX8_ok, mm_vt_of (mm_fa1 (mm_coV (n := 1) (ci := 8) C0 okX8_isRoad rfl rfl (mm_one_at (.methodLink RX8 201 yX8_isRoad) 1222 (by decide +kernel) rfl) (wX8_isRoad _ (by simp)) (wX8_isRoad _ (by simp [yX8_isRoad])) (wX8_isRoad _ (by simp [yX8_isRoad])) (wX8_isRoad _ (by simp)) (by decide +kernel) (by omega) (by omega)) (mm_fa0)), mm_vt_of (mm_fa1 (mm_coS (n := 3) C0 okX8_within (mm_one_at (.methodLink RX8 105 yX8_within) 1123 (by decide +kernel) rfl) (wX8_within _ (by simp)) (wX8_within _ (by simp [yX8_within])) (wX8_within _ (by simp)) (by decide +kernel) (by omega) (by omega)) (mm_fa0)), kX8_put_ok, mm_ctok_J ctRX8_ok⟩
  unfold fX8_put at h
  split at h
  · obtain ⟨hb, h⟩ := mm_chk_e h
    cases (Nat.eq_of_beq_eq_true hb)
    exact ⟨Nat.le_of_ble_eq_true rfl, mm_Zb Z 92 0 [(32, qX8_put_32 (fun v1 v2 v3 w0 M => bX8_put_32 v1 v2 v3 w0 M (fun r M => Q (some (.inl r)) M)))] (mm_fa1 (fun ls st M h => okX8_put_32 Z  ls st M h) mm_fa0) h⟩
  · exact h.elim
def kX8_mode : List mm_E := [(0, false, .iload_n 1, []), (1, false, .iconst 0, []), (2, false, .iconst 2, []), (3, false, .invokestatic 105, []), (6, false, .ifCond .ne 6, [12]), (9, false, .bipush (-102), []), (11, false, .ireturn, []), (12, false, .aload_n 0, []), (13, false, .getfield 162, []), (16, false, .istore_n 2, []), (17, false, .aload_n 0, []), (18, false, .iload_n 1, []), (19, false, .putfield 162, []), (22, false, .iload_n 2, []), (23, false, .ireturn, [])]
set_option maxRecDepth 20000 in
theorem kX8_mode_ok : mm_cok cX8_mode RX8 (mm_ctt ctRX8) kX8_mode := mm_c_of (k := false) ctRX8_ok (by decide +kernel)
set_option maxRecDepth 20000 in
theorem wX8_mode : ∀ w ∈ ([.instanceMethod yX8_mode, .selects RX8 yX8_mode yX8_mode, .initialized RX8, .code yX8_mode cX8_mode 3 (some .int)] : List Cond), w ∈ mm_tbl := mm_sub_at _ [1235, 1236, 112, 1237] (by decide +kernel) (by decide +kernel)
def vtX8_mode : List (Nat × Nat × Nat × mm_F) := []
def smX8_mode : List (Nat × Nat × Nat × mm_F) := [(105, 0, 3, fX8_within)]
def ZX8_mode (p : Program) (l : Launch) (e : Env) (s : State) (m : MethodId) (args : Array Value) (below : List Frame) (meth : Method) (c : Code) (cA : Nat → ClassId) (ad : Nat → Nat) (D : va_G) (A : Nat → Prop) : Prop := mm_Z p l e (mm_rm 1) s m args below meth c lay_m cA ad D A RX8 cX8_mode 3 1 (mm_flt flRX8) (mm_clt (vtX8_mode)) (mm_clt (smX8_mode)) (mm_ctt ctRX8) kX8_mode
theorem okX8_mode : mm_Ok lay_m yX8_mode cX8_mode 3 (some .int) 1 fX8_mode := by
  refine mm_enter (rt := 1) (by decide +kernel) rfl ?_
  intro p l e s m args below meth c cA ad D A as M Q h C0
  have Z : ZX8_mode p l e s m args below meth c cA ad D A := ⟨C0, flRX8_ok, mm_vt_of (mm_fa0), mm_vt_of (mm_fa1 (mm_coS (n := 3) C0 okX8_within (mm_one_at (.methodLink RX8 105 yX8_within) 1123 (by decide +kernel) rfl) (wX8_within _ (by simp)) (wX8_within _ (by simp [yX8_within])) (wX8_within _ (by simp)) (by decide +kernel) (by omega) (by omega)) (mm_fa0)), kX8_mode_ok, mm_ctok_J ctRX8_ok⟩
  unfold fX8_mode at h
  split at h
  · obtain ⟨hb, h⟩ := mm_chk_e h
    cases (Nat.eq_of_beq_eq_true hb)
    exact ⟨Nat.le_of_ble_eq_true rfl, mm_Zb Z 18 0 [] mm_fa0 h⟩
  · exact h.elim
def kX8_goesOn : List mm_E := [(0, false, .iload_n 2, []), (1, false, .ifCond .ne 7, [8]), (4, false, .iload_n 1, []), (5, false, .goto 16, [21]), (8, false, .aload_n 0, []), (9, false, .getfield 13, []), (12, false, .aload_n 0, []), (13, false, .getfield 74, []), (16, false, .iload_n 2, []), (17, false, .iconst 1, []), (18, false, .isub, []), (19, false, .iaload, []), (20, false, .iaload, []), (21, true, .istore 4, []), (23, false, .aload_n 0, []), (24, false, .getfield 7, []), (27, false, .iload_n 3, []), (28, false, .iaload, []), (29, false, .iload 4, []), (31, false, .if_icmp .ne 17, [48]), (34, false, .aload_n 0, []), (35, false, .getfield 13, []), (38, false, .iload_n 3, []), (39, false, .iaload, []), (40, false, .iload_n 1, []), (41, false, .if_icmp .eq 7, [48]), (44, false, .iconst 1, []), (45, false, .goto 4, [49]), (48, false, .iconst 0, []), (49, false, .istore 5, []), (51, false, .iconst 0, []), (52, false, .istore 6, []), (54, true, .iload 6, []), (56, false, .iload_n 2, []), (57, false, .if_icmp .ge 42, [99]), (60, false, .iload 5, []), (62, false, .ifCond .eq 28, [90]), (65, false, .aload_n 0, []), (66, false, .getfield 13, []), (69, false, .aload_n 0, []), (70, false, .getfield 74, []), (73, false, .iload 6, []), (75, false, .iaload, []), (76, false, .iaload, []), (77, false, .aload_n 0, []), (78, false, .getfield 13, []), (81, false, .iload_n 3, []), (82, false, .iaload, []), (83, false, .if_icmp .eq 7, [90]), (86, false, .iconst 1, []), (87, false, .goto 4, [91]), (90, false, .iconst 0, []), (91, false, .istore 5, []), (93, false, .iinc 6 1, []), (96, false, .goto (-42), [54]), (99, false, .iload 5, []), (101, false, .ireturn, [])]
set_option maxRecDepth 20000 in
theorem kX8_goesOn_ok : mm_cok cX8_goesOn RX8 (mm_ctt ctRX8) kX8_goesOn := mm_c_of (k := false) ctRX8_ok (by decide +kernel)
set_option maxRecDepth 20000 in
theorem wX8_goesOn : ∀ w ∈ ([.instanceMethod yX8_goesOn, .selects RX8 yX8_goesOn yX8_goesOn, .initialized RX8, .code yX8_goesOn cX8_goesOn 7 (some .boolean)] : List Cond), w ∈ mm_tbl := mm_sub_at _ [1252, 56, 112, 1253] (by decide +kernel) (by decide +kernel)
def vtX8_goesOn : List (Nat × Nat × Nat × mm_F) := []
def smX8_goesOn : List (Nat × Nat × Nat × mm_F) := []
def ZX8_goesOn (p : Program) (l : Launch) (e : Env) (s : State) (m : MethodId) (args : Array Value) (below : List Frame) (meth : Method) (c : Code) (cA : Nat → ClassId) (ad : Nat → Nat) (D : va_G) (A : Nat → Prop) : Prop := mm_Z p l e (mm_rm 0) s m args below meth c lay_m cA ad D A RX8 cX8_goesOn 7 2 (mm_flt flRX8) (mm_clt (vtX8_goesOn)) (mm_clt (smX8_goesOn)) (mm_ctt ctRX8) kX8_goesOn
def qX8_goesOn_54 (P : Int → Int → Int → Int → Int → mm_M → Prop) : mm_K := fun ls st M => match ls, st with
  | [some (.inr (.inr c0)), _, some (.inl v2), some (.inl v3), some (.inl v4), some (.inl v5), some (.inl v6)], [] => mm_chk (Nat.beq c0 0) (P v2 v3 v4 v5 v6 M)
  | _, _ => False
def qX8_goesOn_21 (P : Int → Int → Int → Int → mm_M → Prop) : mm_K := fun ls st M => match ls, st with
  | [some (.inr (.inr c0)), some (.inl v1), some (.inl v2), some (.inl v3), none, none, none], [.inl w0] => mm_chk (Nat.beq c0 0) (P v1 v2 v3 w0 M)
  | _, _ => False
theorem okX8_goesOn_54 {p : Program} {l : Launch} {e : Env} {s : State} {m : MethodId} {args : Array Value} {below : List Frame} {meth : Method} {c : Code} {cA : Nat → ClassId} {ad : Nat → Nat} {D : va_G} {A : Nat → Prop} {Q : Option mm_V → mm_M → Prop} (Z : ZX8_goesOn p l e s m args below meth c cA ad D A) : ∀ (n : Nat) ls st M, qX8_goesOn_54 (fun v2 v3 v4 v5 v6 M => bX8_goesOn_54 n v2 v3 v4 v5 v6 M (fun r M => Q (some (.inl r)) M)) ls st M → mm_G p l e (mm_rm 0) s m args below meth c lay_m cA ad D A 7 Q 54 ls st M
  | 0, ls, st, M, h => by
    unfold qX8_goesOn_54 at h
    split at h
    · obtain ⟨hb, h⟩ := mm_chk_e h
      cases (Nat.eq_of_beq_eq_true hb)
      exact h.elim
    · exact h.elim
  | n + 1, ls, st, M, h => by
    have ih := okX8_goesOn_54 (Q := Q) Z  n
    unfold qX8_goesOn_54 at h
    split at h
    · obtain ⟨hb, h⟩ := mm_chk_e h
      cases (Nat.eq_of_beq_eq_true hb)
      exact mm_Zb Z 60 54 [(54, qX8_goesOn_54 (fun v2 v3 v4 v5 v6 M => bX8_goesOn_54 n v2 v3 v4 v5 v6 M (fun r M => Q (some (.inl r)) M)))] (mm_fa1 ih mm_fa0) h
    · exact h.elim
theorem okX8_goesOn_54x {p : Program} {l : Launch} {e : Env} {s : State} {m : MethodId} {args : Array Value} {below : List Frame} {meth : Method} {c : Code} {cA : Nat → ClassId} {ad : Nat → Nat} {D : va_G} {A : Nat → Prop} {Q : Option mm_V → mm_M → Prop} (Z : ZX8_goesOn p l e s m args below meth c cA ad D A) : ∀ ls st M, qX8_goesOn_54 (fun v2 v3 v4 v5 v6 M => ∃ j, bX8_goesOn_54 j v2 v3 v4 v5 v6 M (fun r M => Q (some (.inl r)) M)) ls st M → mm_G p l e (mm_rm 0) s m args below meth c lay_m cA ad D A 7 Q 54 ls st M := by
  intro ls st M h
  have hex : ∃ n, qX8_goesOn_54 (fun v2 v3 v4 v5 v6 M => bX8_goesOn_54 n v2 v3 v4 v5 v6 M (fun r M => Q (some (.inl r)) M)) ls st M := by
    unfold qX8_goesOn_54 at h
    split at h
    · obtain ⟨hb, h⟩ := mm_chk_e h
      cases (Nat.eq_of_beq_eq_true hb)
      obtain ⟨n, h⟩ := h
      exact ⟨n, h⟩
    · exact h.elim
  obtain ⟨n, hex⟩ := hex
  exact okX8_goesOn_54 Z  n ls st M hex
theorem okX8_goesOn_21 {p : Program} {l : Launch} {e : Env} {s : State} {m : MethodId} {args : Array Value} {below : List Frame} {meth : Method} {c : Code} {cA : Nat → ClassId} {ad : Nat → Nat} {D : va_G} {A : Nat → Prop} {Q : Option mm_V → mm_M → Prop} (Z : ZX8_goesOn p l e s m args below meth c cA ad D A) : ∀ ls st M, qX8_goesOn_21 (fun v1 v2 v3 w0 M => bX8_goesOn_21 v1 v2 v3 w0 M (fun r M => Q (some (.inl r)) M)) ls st M → mm_G p l e (mm_rm 0) s m args below meth c lay_m cA ad D A 7 Q 21 ls st M := by
  intro ls st M h
  unfold qX8_goesOn_21 at h
  split at h
  · obtain ⟨hb, h⟩ := mm_chk_e h
    cases (Nat.eq_of_beq_eq_true hb)
    exact mm_Zb Z 60 21 [(54, qX8_goesOn_54 (fun v2 v3 v4 v5 v6 M => ∃ j, bX8_goesOn_54 j v2 v3 v4 v5 v6 M (fun r M => Q (some (.inl r)) M)))] (mm_fa1 (fun ls st M h => okX8_goesOn_54x Z  ls st M h) mm_fa0) h
  · exact h.elim
theorem okX8_goesOn : mm_Ok lay_m yX8_goesOn cX8_goesOn 7 (some .boolean) 0 fX8_goesOn := by
  refine mm_enter (rt := 2) (by decide +kernel) rfl ?_
  intro p l e s m args below meth c cA ad D A as M Q h C0
  have Z : ZX8_goesOn p l e s m args below meth c cA ad D A := ⟨C0, flRX8_ok, mm_vt_of (mm_fa0), mm_vt_of (mm_fa0), kX8_goesOn_ok, mm_ctok_J ctRX8_ok⟩
  unfold fX8_goesOn at h
  split at h
  · obtain ⟨hb, h⟩ := mm_chk_e h
    cases (Nat.eq_of_beq_eq_true hb)
    exact ⟨Nat.le_of_ble_eq_true rfl, mm_Zb Z 60 0 [(21, qX8_goesOn_21 (fun v1 v2 v3 w0 M => bX8_goesOn_21 v1 v2 v3 w0 M (fun r M => Q (some (.inl r)) M)))] (mm_fa1 (fun ls st M h => okX8_goesOn_21 Z  ls st M h) mm_fa0) h⟩
  · exact h.elim
def kX8_keepWay : List mm_E := [(0, false, .iload_n 2, []), (1, false, .bipush 12, []), (3, false, .if_icmp .ge 53, [56]), (6, false, .aload_n 0, []), (7, false, .getfield 37, []), (10, false, .bipush 12, []), (12, false, .iload_n 1, []), (13, false, .imul, []), (14, false, .iload_n 2, []), (15, false, .iadd, []), (16, false, .iload_n 3, []), (17, false, .iastore, []), (18, false, .iconst 0, []), (19, false, .istore 4, []), (21, true, .iload 4, []), (23, false, .iload_n 3, []), (24, false, .if_icmp .ge 32, [56]), (27, false, .aload_n 0, []), (28, false, .getfield 40, []), (31, false, .iconst 5, []), (32, false, .bipush 12, []), (34, false, .iload_n 1, []), (35, false, .imul, []), (36, false, .iload_n 2, []), (37, false, .iadd, []), (38, false, .imul, []), (39, false, .iload 4, []), (41, false, .iadd, []), (42, false, .aload_n 0, []), (43, false, .getfield 74, []), (46, false, .iload 4, []), (48, false, .iaload, []), (49, false, .iastore, []), (50, false, .iinc 4 1, []), (53, false, .goto (-32), [21]), (56, false, .return_, [])]
set_option maxRecDepth 20000 in
theorem kX8_keepWay_ok : mm_cok cX8_keepWay RX8 (mm_ctt ctRX8) kX8_keepWay := mm_c_of (k := false) ctRX8_ok (by decide +kernel)
set_option maxRecDepth 20000 in
theorem wX8_keepWay : ∀ w ∈ ([.instanceMethod yX8_keepWay, .selects RX8 yX8_keepWay yX8_keepWay, .initialized RX8, .code yX8_keepWay cX8_keepWay 5 none] : List Cond), w ∈ mm_tbl := mm_sub_at _ [1256, 57, 112, 1257] (by decide +kernel) (by decide +kernel)
def vtX8_keepWay : List (Nat × Nat × Nat × mm_F) := []
def smX8_keepWay : List (Nat × Nat × Nat × mm_F) := []
def ZX8_keepWay (p : Program) (l : Launch) (e : Env) (s : State) (m : MethodId) (args : Array Value) (below : List Frame) (meth : Method) (c : Code) (cA : Nat → ClassId) (ad : Nat → Nat) (D : va_G) (A : Nat → Prop) : Prop := mm_Z p l e (mm_rm 0) s m args below meth c lay_m cA ad D A RX8 cX8_keepWay 5 0 (mm_flt flRX8) (mm_clt (vtX8_keepWay)) (mm_clt (smX8_keepWay)) (mm_ctt ctRX8) kX8_keepWay
def qX8_keepWay_21 (P : Int → Int → Int → Int → mm_M → Prop) : mm_K := fun ls st M => match ls, st with
  | [some (.inr (.inr c0)), some (.inl v1), some (.inl v2), some (.inl v3), some (.inl v4)], [] => mm_chk (Nat.beq c0 0) (P v1 v2 v3 v4 M)
  | _, _ => False
theorem okX8_keepWay_21 {p : Program} {l : Launch} {e : Env} {s : State} {m : MethodId} {args : Array Value} {below : List Frame} {meth : Method} {c : Code} {cA : Nat → ClassId} {ad : Nat → Nat} {D : va_G} {A : Nat → Prop} {Q : Option mm_V → mm_M → Prop} (Z : ZX8_keepWay p l e s m args below meth c cA ad D A) : ∀ (n : Nat) ls st M, qX8_keepWay_21 (fun v1 v2 v3 v4 M => bX8_keepWay_21 n v1 v2 v3 v4 M (fun M => Q none M)) ls st M → mm_G p l e (mm_rm 0) s m args below meth c lay_m cA ad D A 5 Q 21 ls st M
  | 0, ls, st, M, h => by
    unfold qX8_keepWay_21 at h
    split at h
    · obtain ⟨hb, h⟩ := mm_chk_e h
      cases (Nat.eq_of_beq_eq_true hb)
      exact h.elim
    · exact h.elim
  | n + 1, ls, st, M, h => by
    have ih := okX8_keepWay_21 (Q := Q) Z  n
    unfold qX8_keepWay_21 at h
    split at h
    · obtain ⟨hb, h⟩ := mm_chk_e h
      cases (Nat.eq_of_beq_eq_true hb)
      exact mm_Zb Z 39 21 [(21, qX8_keepWay_21 (fun v1 v2 v3 v4 M => bX8_keepWay_21 n v1 v2 v3 v4 M (fun M => Q none M)))] (mm_fa1 ih mm_fa0) h
    · exact h.elim
theorem okX8_keepWay_21x {p : Program} {l : Launch} {e : Env} {s : State} {m : MethodId} {args : Array Value} {below : List Frame} {meth : Method} {c : Code} {cA : Nat → ClassId} {ad : Nat → Nat} {D : va_G} {A : Nat → Prop} {Q : Option mm_V → mm_M → Prop} (Z : ZX8_keepWay p l e s m args below meth c cA ad D A) : ∀ ls st M, qX8_keepWay_21 (fun v1 v2 v3 v4 M => ∃ j, bX8_keepWay_21 j v1 v2 v3 v4 M (fun M => Q none M)) ls st M → mm_G p l e (mm_rm 0) s m args below meth c lay_m cA ad D A 5 Q 21 ls st M := by
  intro ls st M h
  have hex : ∃ n, qX8_keepWay_21 (fun v1 v2 v3 v4 M => bX8_keepWay_21 n v1 v2 v3 v4 M (fun M => Q none M)) ls st M := by
    unfold qX8_keepWay_21 at h
    split at h
    · obtain ⟨hb, h⟩ := mm_chk_e h
      cases (Nat.eq_of_beq_eq_true hb)
      obtain ⟨n, h⟩ := h
      exact ⟨n, h⟩
    · exact h.elim
  obtain ⟨n, hex⟩ := hex
  exact okX8_keepWay_21 Z  n ls st M hex
theorem okX8_keepWay : mm_Ok lay_m yX8_keepWay cX8_keepWay 5 none 0 fX8_keepWay := by
  refine mm_enter (rt := 0) (by decide +kernel) rfl ?_
  intro p l e s m args below meth c cA ad D A as M Q h C0
  have Z : ZX8_keepWay p l e s m args below meth c cA ad D A := ⟨C0, flRX8_ok, mm_vt_of (mm_fa0), mm_vt_of (mm_fa0), kX8_keepWay_ok, mm_ctok_J ctRX8_ok⟩
  unfold fX8_keepWay at h
  split at h
  · obtain ⟨hb, h⟩ := mm_chk_e h
    cases (Nat.eq_of_beq_eq_true hb)
    exact ⟨Nat.le_of_ble_eq_true rfl, mm_Zb Z 39 0 [(21, qX8_keepWay_21 (fun v1 v2 v3 v4 M => ∃ j, bX8_keepWay_21 j v1 v2 v3 v4 M (fun M => Q none M)))] (mm_fa1 (fun ls st M h => okX8_keepWay_21x Z  ls st M h) mm_fa0) h⟩
  · exact h.elim
def kX8_layWays : List mm_E := [(0, false, .iload 5, []), (2, false, .istore 6, []), (4, false, .iconst 0, []), (5, false, .istore 7, []), (7, false, .aload_n 0, []), (8, false, .getfield 74, []), (11, false, .iconst 0, []), (12, false, .iconst (-1), []), (13, false, .iastore, []), (14, true, .iload 7, []), (16, false, .ifCond .lt 112, [128]), (19, false, .iload 6, []), (21, false, .bipush 12, []), (23, false, .if_icmp .gt 105, [128]), (26, false, .aload_n 0, []), (27, false, .getfield 74, []), (30, false, .iload 7, []), (32, false, .dup2, []), (33, false, .iaload, []), (34, false, .iconst 1, []), (35, false, .iadd, []), (36, false, .iastore, []), (37, false, .aload_n 0, []), (38, false, .getfield 74, []), (41, false, .iload 7, []), (43, false, .iaload, []), (44, false, .aload_n 0, []), (45, false, .getfield 145, []), (48, false, .if_icmp .ne 9, [57]), (51, false, .iinc 7 (-1), []), (54, false, .goto (-40), [14]), (57, false, .aload_n 0, []), (58, false, .iload_n 2, []), (59, false, .iload 7, []), (61, false, .aload_n 0, []), (62, false, .getfield 74, []), (65, false, .iload 7, []), (67, false, .iaload, []), (68, false, .invokevirtual 207, []), (71, false, .ifCond .eq (-57), [14]), (74, false, .iload 7, []), (76, false, .iconst 1, []), (77, false, .iadd, []), (78, false, .iload 4, []), (80, false, .if_icmp .ge 17, [97]), (83, false, .iinc 7 1, []), (86, false, .aload_n 0, []), (87, false, .getfield 74, []), (90, false, .iload 7, []), (92, false, .iconst (-1), []), (93, false, .iastore, []), (94, false, .goto (-80), [14]), (97, false, .aload_n 0, []), (98, false, .getfield 13, []), (101, false, .aload_n 0, []), (102, false, .getfield 74, []), (105, false, .iload 7, []), (107, false, .iaload, []), (108, false, .iaload, []), (109, false, .iload_n 3, []), (110, false, .if_icmp .ne (-96), [14]), (113, false, .aload_n 0, []), (114, false, .iload_n 1, []), (115, false, .iload 6, []), (117, false, .iload 4, []), (119, false, .invokevirtual 210, []), (122, false, .iinc 6 1, []), (125, false, .goto (-111), [14]), (128, false, .iload 6, []), (130, false, .ireturn, [])]
set_option maxRecDepth 20000 in
theorem kX8_layWays_ok : mm_cok cX8_layWays RX8 (mm_ctt ctRX8) kX8_layWays := mm_c_of (k := false) ctRX8_ok (by decide +kernel)
set_option maxRecDepth 20000 in
theorem wX8_layWays : ∀ w ∈ ([.instanceMethod yX8_layWays, .selects RX8 yX8_layWays yX8_layWays, .initialized RX8, .code yX8_layWays cX8_layWays 8 (some .int)] : List Cond), w ∈ mm_tbl := mm_sub_at _ [1248, 55, 112, 1249] (by decide +kernel) (by decide +kernel)
def vtX8_layWays : List (Nat × Nat × Nat × mm_F) := [(207, 8, 4, fX8_goesOn), (210, 8, 4, fX8_keepWay)]
def smX8_layWays : List (Nat × Nat × Nat × mm_F) := []
def ZX8_layWays (p : Program) (l : Launch) (e : Env) (s : State) (m : MethodId) (args : Array Value) (below : List Frame) (meth : Method) (c : Code) (cA : Nat → ClassId) (ad : Nat → Nat) (D : va_G) (A : Nat → Prop) : Prop := mm_Z p l e (mm_rm 1) s m args below meth c lay_m cA ad D A RX8 cX8_layWays 8 1 (mm_flt flRX8) (mm_clt (vtX8_layWays)) (mm_clt (smX8_layWays)) (mm_ctt ctRX8) kX8_layWays
def qX8_layWays_14 (P : Int → Int → Int → Int → Int → Int → Int → mm_M → Prop) : mm_K := fun ls st M => match ls, st with
  | [some (.inr (.inr c0)), some (.inl v1), some (.inl v2), some (.inl v3), some (.inl v4), some (.inl v5), some (.inl v6), some (.inl v7)], [] => mm_chk (Nat.beq c0 0) (P v1 v2 v3 v4 v5 v6 v7 M)
  | _, _ => False
theorem okX8_layWays_14 {p : Program} {l : Launch} {e : Env} {s : State} {m : MethodId} {args : Array Value} {below : List Frame} {meth : Method} {c : Code} {cA : Nat → ClassId} {ad : Nat → Nat} {D : va_G} {A : Nat → Prop} {Q : Option mm_V → mm_M → Prop} (Z : ZX8_layWays p l e s m args below meth c cA ad D A) : ∀ (n : Nat) ls st M, qX8_layWays_14 (fun v1 v2 v3 v4 v5 v6 v7 M => bX8_layWays_14 n v1 v2 v3 v4 v5 v6 v7 M (fun r M => Q (some (.inl r)) M)) ls st M → mm_G p l e (mm_rm 1) s m args below meth c lay_m cA ad D A 8 Q 14 ls st M
  | 0, ls, st, M, h => by
    unfold qX8_layWays_14 at h
    split at h
    · obtain ⟨hb, h⟩ := mm_chk_e h
      cases (Nat.eq_of_beq_eq_true hb)
      exact h.elim
    · exact h.elim
  | n + 1, ls, st, M, h => by
    have ih := okX8_layWays_14 (Q := Q) Z  n
    unfold qX8_layWays_14 at h
    split at h
    · obtain ⟨hb, h⟩ := mm_chk_e h
      cases (Nat.eq_of_beq_eq_true hb)
      exact mm_Zb Z 73 14 [(14, qX8_layWays_14 (fun v1 v2 v3 v4 v5 v6 v7 M => bX8_layWays_14 n v1 v2 v3 v4 v5 v6 v7 M (fun r M => Q (some (.inl r)) M)))] (mm_fa1 ih mm_fa0) h
    · exact h.elim
theorem okX8_layWays_14x {p : Program} {l : Launch} {e : Env} {s : State} {m : MethodId} {args : Array Value} {below : List Frame} {meth : Method} {c : Code} {cA : Nat → ClassId} {ad : Nat → Nat} {D : va_G} {A : Nat → Prop} {Q : Option mm_V → mm_M → Prop} (Z : ZX8_layWays p l e s m args below meth c cA ad D A) : ∀ ls st M, qX8_layWays_14 (fun v1 v2 v3 v4 v5 v6 v7 M => ∃ j, bX8_layWays_14 j v1 v2 v3 v4 v5 v6 v7 M (fun r M => Q (some (.inl r)) M)) ls st M → mm_G p l e (mm_rm 1) s m args below meth c lay_m cA ad D A 8 Q 14 ls st M := by
  intro ls st M h
  have hex : ∃ n, qX8_layWays_14 (fun v1 v2 v3 v4 v5 v6 v7 M => bX8_layWays_14 n v1 v2 v3 v4 v5 v6 v7 M (fun r M => Q (some (.inl r)) M)) ls st M := by
    unfold qX8_layWays_14 at h
    split at h
    · obtain ⟨hb, h⟩ := mm_chk_e h
      cases (Nat.eq_of_beq_eq_true hb)
      obtain ⟨n, h⟩ := h
      exact ⟨n, h⟩
    · exact h.elim
  obtain ⟨n, hex⟩ := hex
  exact okX8_layWays_14 Z  n ls st M hex
theorem okX8_layWays : mm_Ok lay_m yX8_layWays cX8_layWays 8 (some .int) 1 fX8_layWays := by
  refine mm_enter (rt := 1) (by decide +kernel) rfl ?_
  intro p l e s m args below meth c cA ad D A as M Q h C0
  have Z : ZX8_layWays p l e s m args below meth c cA ad D A := ⟨C0, flRX8_ok, mm_vt_of (mm_fa1 (mm_coV (n := 3) (ci := 8) C0 okX8_goesOn rfl rfl (mm_one_at (.methodLink RX8 207 yX8_goesOn) 1250 (by decide +kernel) rfl) (wX8_goesOn _ (by simp)) (wX8_goesOn _ (by simp [yX8_goesOn])) (wX8_goesOn _ (by simp [yX8_goesOn])) (wX8_goesOn _ (by simp)) (by decide +kernel) (by omega) (by omega)) (mm_fa1 (mm_coV (n := 3) (ci := 8) C0 okX8_keepWay rfl rfl (mm_one_at (.methodLink RX8 210 yX8_keepWay) 1254 (by decide +kernel) rfl) (wX8_keepWay _ (by simp)) (wX8_keepWay _ (by simp [yX8_keepWay])) (wX8_keepWay _ (by simp [yX8_keepWay])) (wX8_keepWay _ (by simp)) (by decide +kernel) (by omega) (by omega)) (mm_fa0))), mm_vt_of (mm_fa0), kX8_layWays_ok, mm_ctok_J ctRX8_ok⟩
  unfold fX8_layWays at h
  split at h
  · obtain ⟨hb, h⟩ := mm_chk_e h
    cases (Nat.eq_of_beq_eq_true hb)
    exact ⟨Nat.le_of_ble_eq_true rfl, mm_Zb Z 73 0 [(14, qX8_layWays_14 (fun v1 v2 v3 v4 v5 v6 v7 M => ∃ j, bX8_layWays_14 j v1 v2 v3 v4 v5 v6 v7 M (fun r M => Q (some (.inl r)) M)))] (mm_fa1 (fun ls st M h => okX8_layWays_14x Z  ls st M h) mm_fa0) h⟩
  · exact h.elim
def kX8_leastPay : List mm_E := [(0, false, .iconst 0, []), (1, false, .istore_n 2, []), (2, false, .aload_n 0, []), (3, false, .iload_n 1, []), (4, false, .iconst 0, []), (5, false, .invokevirtual 213, []), (8, false, .istore_n 3, []), (9, false, .iconst 1, []), (10, false, .istore 4, []), (12, true, .iload 4, []), (14, false, .aload_n 0, []), (15, false, .getfield 31, []), (18, false, .iload_n 1, []), (19, false, .iaload, []), (20, false, .if_icmp .ge 44, [64]), (23, false, .aload_n 0, []), (24, false, .iload_n 1, []), (25, false, .iload 4, []), (27, false, .invokevirtual 213, []), (30, false, .istore 5, []), (32, false, .iload 5, []), (34, false, .iload_n 3, []), (35, false, .if_icmp .ge 8, [43]), (38, false, .iload 4, []), (40, false, .goto 4, [44]), (43, false, .iload_n 2, []), (44, true, .istore_n 2, []), (45, false, .iload 5, []), (47, false, .iload_n 3, []), (48, false, .if_icmp .ge 8, [56]), (51, false, .iload 5, []), (53, false, .goto 4, [57]), (56, false, .iload_n 3, []), (57, false, .istore_n 3, []), (58, false, .iinc 4 1, []), (61, false, .goto (-49), [12]), (64, false, .iload_n 2, []), (65, false, .ireturn, [])]
set_option maxRecDepth 20000 in
theorem kX8_leastPay_ok : mm_cok cX8_leastPay RX8 (mm_ctt ctRX8) kX8_leastPay := mm_c_of (k := false) ctRX8_ok (by decide +kernel)
set_option maxRecDepth 20000 in
theorem wX8_leastPay : ∀ w ∈ ([.instanceMethod yX8_leastPay, .selects RX8 yX8_leastPay yX8_leastPay, .initialized RX8, .code yX8_leastPay cX8_leastPay 6 (some .int)] : List Cond), w ∈ mm_tbl := mm_sub_at _ [1260, 58, 112, 1261] (by decide +kernel) (by decide +kernel)
def vtX8_leastPay : List (Nat × Nat × Nat × mm_F) := [(213, 8, 3, fX8_payOf)]
def smX8_leastPay : List (Nat × Nat × Nat × mm_F) := []
def ZX8_leastPay (p : Program) (l : Launch) (e : Env) (s : State) (m : MethodId) (args : Array Value) (below : List Frame) (meth : Method) (c : Code) (cA : Nat → ClassId) (ad : Nat → Nat) (D : va_G) (A : Nat → Prop) : Prop := mm_Z p l e (mm_rm 4) s m args below meth c lay_m cA ad D A RX8 cX8_leastPay 6 1 (mm_flt flRX8) (mm_clt (vtX8_leastPay)) (mm_clt (smX8_leastPay)) (mm_ctt ctRX8) kX8_leastPay
def qX8_leastPay_44 (P : Int → Int → Int → Int → Int → Int → mm_M → Prop) : mm_K := fun ls st M => match ls, st with
  | [some (.inr (.inr c0)), some (.inl v1), some (.inl v2), some (.inl v3), some (.inl v4), some (.inl v5)], [.inl w0] => mm_chk (Nat.beq c0 0) (P v1 v2 v3 v4 v5 w0 M)
  | _, _ => False
def qX8_leastPay_12 (P : Int → Int → Int → Int → mm_M → Prop) : mm_K := fun ls st M => match ls, st with
  | [some (.inr (.inr c0)), some (.inl v1), some (.inl v2), some (.inl v3), some (.inl v4), _], [] => mm_chk (Nat.beq c0 0) (P v1 v2 v3 v4 M)
  | _, _ => False
theorem okX8_leastPay_44 {p : Program} {l : Launch} {e : Env} {s : State} {m : MethodId} {args : Array Value} {below : List Frame} {meth : Method} {c : Code} {cA : Nat → ClassId} {ad : Nat → Nat} {D : va_G} {A : Nat → Prop} {Q : Option mm_V → mm_M → Prop} (Z : ZX8_leastPay p l e s m args below meth c cA ad D A) {K12 : Int → Int → Int → Int → mm_M → Prop} (hk12 : ∀ ls st M, qX8_leastPay_12 K12 ls st M → mm_G p l e (mm_rm 4) s m args below meth c lay_m cA ad D A 6 Q 12 ls st M) : ∀ ls st M, qX8_leastPay_44 (fun v1 v2 v3 v4 v5 w0 M => bX8_leastPay_44 K12 v1 v2 v3 v4 v5 w0 M (fun r M => Q (some (.inl r)) M)) ls st M → mm_G p l e (mm_rm 4) s m args below meth c lay_m cA ad D A 6 Q 44 ls st M := by
  intro ls st M h
  unfold qX8_leastPay_44 at h
  split at h
  · obtain ⟨hb, h⟩ := mm_chk_e h
    cases (Nat.eq_of_beq_eq_true hb)
    exact mm_Zb Z 41 44 [(12, qX8_leastPay_12 (K12))] (mm_fa1 hk12 mm_fa0) h
  · exact h.elim
theorem okX8_leastPay_12 {p : Program} {l : Launch} {e : Env} {s : State} {m : MethodId} {args : Array Value} {below : List Frame} {meth : Method} {c : Code} {cA : Nat → ClassId} {ad : Nat → Nat} {D : va_G} {A : Nat → Prop} {Q : Option mm_V → mm_M → Prop} (Z : ZX8_leastPay p l e s m args below meth c cA ad D A) : ∀ (n : Nat) ls st M, qX8_leastPay_12 (fun v1 v2 v3 v4 M => bX8_leastPay_12 n v1 v2 v3 v4 M (fun r M => Q (some (.inl r)) M)) ls st M → mm_G p l e (mm_rm 4) s m args below meth c lay_m cA ad D A 6 Q 12 ls st M
  | 0, ls, st, M, h => by
    unfold qX8_leastPay_12 at h
    split at h
    · obtain ⟨hb, h⟩ := mm_chk_e h
      cases (Nat.eq_of_beq_eq_true hb)
      exact h.elim
    · exact h.elim
  | n + 1, ls, st, M, h => by
    have ih := okX8_leastPay_12 (Q := Q) Z  n
    unfold qX8_leastPay_12 at h
    split at h
    · obtain ⟨hb, h⟩ := mm_chk_e h
      cases (Nat.eq_of_beq_eq_true hb)
      exact mm_Zb Z 41 12 [(44, qX8_leastPay_44 (fun v1 v2 v3 v4 v5 w0 M => bX8_leastPay_44 (fun v1 v2 v3 v4 M => bX8_leastPay_12 n v1 v2 v3 v4 M (fun r M => Q (some (.inl r)) M)) v1 v2 v3 v4 v5 w0 M (fun r M => Q (some (.inl r)) M)))] (mm_fa1 (fun ls st M h => okX8_leastPay_44 Z (ih) ls st M h) mm_fa0) h
    · exact h.elim
theorem okX8_leastPay_12x {p : Program} {l : Launch} {e : Env} {s : State} {m : MethodId} {args : Array Value} {below : List Frame} {meth : Method} {c : Code} {cA : Nat → ClassId} {ad : Nat → Nat} {D : va_G} {A : Nat → Prop} {Q : Option mm_V → mm_M → Prop} (Z : ZX8_leastPay p l e s m args below meth c cA ad D A) : ∀ ls st M, qX8_leastPay_12 (fun v1 v2 v3 v4 M => ∃ j, bX8_leastPay_12 j v1 v2 v3 v4 M (fun r M => Q (some (.inl r)) M)) ls st M → mm_G p l e (mm_rm 4) s m args below meth c lay_m cA ad D A 6 Q 12 ls st M := by
  intro ls st M h
  have hex : ∃ n, qX8_leastPay_12 (fun v1 v2 v3 v4 M => bX8_leastPay_12 n v1 v2 v3 v4 M (fun r M => Q (some (.inl r)) M)) ls st M := by
    unfold qX8_leastPay_12 at h
    split at h
    · obtain ⟨hb, h⟩ := mm_chk_e h
      cases (Nat.eq_of_beq_eq_true hb)
      obtain ⟨n, h⟩ := h
      exact ⟨n, h⟩
    · exact h.elim
  obtain ⟨n, hex⟩ := hex
  exact okX8_leastPay_12 Z  n ls st M hex
theorem okX8_leastPay : mm_Ok lay_m yX8_leastPay cX8_leastPay 6 (some .int) 4 fX8_leastPay := by
  refine mm_enter (rt := 1) (by decide +kernel) rfl ?_
  intro p l e s m args below meth c cA ad D A as M Q h C0
  have Z : ZX8_leastPay p l e s m args below meth c cA ad D A := ⟨C0, flRX8_ok, mm_vt_of (mm_fa1 (mm_coV (n := 2) (ci := 8) C0 okX8_payOf rfl rfl (mm_one_at (.methodLink RX8 213 yX8_payOf) 1262 (by decide +kernel) rfl) (wX8_payOf _ (by simp)) (wX8_payOf _ (by simp [yX8_payOf])) (wX8_payOf _ (by simp [yX8_payOf])) (wX8_payOf _ (by simp)) (by decide +kernel) (by omega) (by omega)) (mm_fa0)), mm_vt_of (mm_fa0), kX8_leastPay_ok, mm_ctok_J ctRX8_ok⟩
  unfold fX8_leastPay at h
  split at h
  · obtain ⟨hb, h⟩ := mm_chk_e h
    cases (Nat.eq_of_beq_eq_true hb)
    exact ⟨Nat.le_of_ble_eq_true rfl, mm_Zb Z 41 0 [(12, qX8_leastPay_12 (fun v1 v2 v3 v4 M => ∃ j, bX8_leastPay_12 j v1 v2 v3 v4 M (fun r M => Q (some (.inl r)) M)))] (mm_fa1 (fun ls st M h => okX8_leastPay_12x Z  ls st M h) mm_fa0) h⟩
  · exact h.elim
def kX8_isNode : List mm_E := [(0, false, .iload_n 1, []), (1, false, .iconst 0, []), (2, false, .aload_n 0, []), (3, false, .getfield 142, []), (6, false, .iconst 1, []), (7, false, .isub, []), (8, false, .invokestatic 105, []), (11, false, .ireturn, [])]
set_option maxRecDepth 20000 in
theorem kX8_isNode_ok : mm_cok cX8_isNode RX8 (mm_ctt ctRX8) kX8_isNode := mm_c_of (k := false) ctRX8_ok (by decide +kernel)
set_option maxRecDepth 20000 in
theorem wX8_isNode : ∀ w ∈ ([.instanceMethod yX8_isNode, .selects RX8 yX8_isNode yX8_isNode, .initialized RX8, .code yX8_isNode cX8_isNode 2 (some .boolean)] : List Cond), w ∈ mm_tbl := mm_sub_at _ [1244, 54, 112, 1245] (by decide +kernel) (by decide +kernel)
def vtX8_isNode : List (Nat × Nat × Nat × mm_F) := []
def smX8_isNode : List (Nat × Nat × Nat × mm_F) := [(105, 0, 3, fX8_within)]
def ZX8_isNode (p : Program) (l : Launch) (e : Env) (s : State) (m : MethodId) (args : Array Value) (below : List Frame) (meth : Method) (c : Code) (cA : Nat → ClassId) (ad : Nat → Nat) (D : va_G) (A : Nat → Prop) : Prop := mm_Z p l e (mm_rm 1) s m args below meth c lay_m cA ad D A RX8 cX8_isNode 2 2 (mm_flt flRX8) (mm_clt (vtX8_isNode)) (mm_clt (smX8_isNode)) (mm_ctt ctRX8) kX8_isNode
theorem okX8_isNode : mm_Ok lay_m yX8_isNode cX8_isNode 2 (some .boolean) 1 fX8_isNode := by
  refine mm_enter (rt := 2) (by decide +kernel) rfl ?_
  intro p l e s m args below meth c cA ad D A as M Q h C0
  have Z : ZX8_isNode p l e s m args below meth c cA ad D A := ⟨C0, flRX8_ok, mm_vt_of (mm_fa0), mm_vt_of (mm_fa1 (mm_coS (n := 3) C0 okX8_within (mm_one_at (.methodLink RX8 105 yX8_within) 1123 (by decide +kernel) rfl) (wX8_within _ (by simp)) (wX8_within _ (by simp [yX8_within])) (wX8_within _ (by simp)) (by decide +kernel) (by omega) (by omega)) (mm_fa0)), kX8_isNode_ok, mm_ctok_J ctRX8_ok⟩
  unfold fX8_isNode at h
  split at h
  · obtain ⟨hb, h⟩ := mm_chk_e h
    cases (Nat.eq_of_beq_eq_true hb)
    exact ⟨Nat.le_of_ble_eq_true rfl, mm_Zb Z 11 0 [] mm_fa0 h⟩
  · exact h.elim
def kX8_player : List mm_E := [(0, false, .aload_n 0, []), (1, false, .invokevirtual 194, []), (4, false, .ifCond .ne 6, [10]), (7, false, .bipush (-103), []), (9, false, .ireturn, []), (10, false, .aload_n 0, []), (11, false, .iload_n 1, []), (12, false, .invokevirtual 216, []), (15, false, .ifCond .eq 16, [31]), (18, false, .aload_n 0, []), (19, false, .iload_n 2, []), (20, false, .invokevirtual 216, []), (23, false, .ifCond .eq 8, [31]), (26, false, .iload_n 1, []), (27, false, .iload_n 2, []), (28, false, .if_icmp .ne 6, [34]), (31, false, .bipush (-101), []), (33, false, .ireturn, []), (34, false, .aload_n 0, []), (35, false, .getfield 148, []), (38, false, .iconst 5, []), (39, false, .if_icmp .ne 6, [45]), (42, false, .bipush (-104), []), (44, false, .ireturn, []), (45, false, .iconst 0, []), (46, false, .istore_n 3, []), (47, false, .iconst 1, []), (48, false, .istore 4, []), (50, true, .iload 4, []), (52, false, .iconst 5, []), (53, false, .if_icmp .gt 29, [82]), (56, false, .iload_n 3, []), (57, false, .bipush 12, []), (59, false, .if_icmp .gt 23, [82]), (62, false, .aload_n 0, []), (63, false, .aload_n 0, []), (64, false, .getfield 148, []), (67, false, .iload_n 1, []), (68, false, .iload_n 2, []), (69, false, .iload 4, []), (71, false, .iload_n 3, []), (72, false, .invokevirtual 219, []), (75, false, .istore_n 3, []), (76, false, .iinc 4 1, []), (79, false, .goto (-29), [50]), (82, true, .iload_n 3, []), (83, false, .ifCond .eq 9, [92]), (86, false, .iload_n 3, []), (87, false, .bipush 12, []), (89, false, .if_icmp .le 6, [95]), (92, false, .bipush (-103), []), (94, false, .ireturn, []), (95, false, .aload_n 0, []), (96, false, .getfield 25, []), (99, false, .aload_n 0, []), (100, false, .getfield 148, []), (103, false, .iload_n 1, []), (104, false, .iastore, []), (105, false, .aload_n 0, []), (106, false, .getfield 28, []), (109, false, .aload_n 0, []), (110, false, .getfield 148, []), (113, false, .iload_n 2, []), (114, false, .iastore, []), (115, false, .aload_n 0, []), (116, false, .getfield 31, []), (119, false, .aload_n 0, []), (120, false, .getfield 148, []), (123, false, .iload_n 3, []), (124, false, .iastore, []), (125, false, .aload_n 0, []), (126, false, .getfield 34, []), (129, false, .aload_n 0, []), (130, false, .getfield 148, []), (133, false, .iconst 0, []), (134, false, .iastore, []), (135, false, .aload_n 0, []), (136, false, .dup, []), (137, false, .getfield 148, []), (140, false, .iconst 1, []), (141, false, .iadd, []), (142, false, .putfield 148, []), (145, false, .aload_n 0, []), (146, false, .getfield 34, []), (149, false, .aload_n 0, []), (150, false, .getfield 148, []), (153, false, .iconst 1, []), (154, false, .isub, []), (155, false, .aload_n 0, []), (156, false, .aload_n 0, []), (157, false, .getfield 148, []), (160, false, .iconst 1, []), (161, false, .isub, []), (162, false, .invokevirtual 223, []), (165, false, .iastore, []), (166, false, .aload_n 0, []), (167, false, .dup, []), (168, false, .getfield 226, []), (171, false, .iconst 1, []), (172, false, .iadd, []), (173, false, .putfield 226, []), (176, false, .aload_n 0, []), (177, false, .getfield 148, []), (180, false, .iconst 1, []), (181, false, .isub, []), (182, false, .ireturn, [])]
set_option maxRecDepth 20000 in
theorem kX8_player_ok : mm_cok cX8_player RX8 (mm_ctt ctRX8) kX8_player := mm_c_of (k := false) ctRX8_ok (by decide +kernel)
set_option maxRecDepth 20000 in
theorem wX8_player : ∀ w ∈ ([.instanceMethod yX8_player, .selects RX8 yX8_player yX8_player, .initialized RX8, .code yX8_player cX8_player 5 (some .int)] : List Cond), w ∈ mm_tbl := mm_sub_at _ [1239, 1240, 112, 1241] (by decide +kernel) (by decide +kernel)
def vtX8_player : List (Nat × Nat × Nat × mm_F) := [(194, 8, 1, fX8_isNet), (216, 8, 2, fX8_isNode), (219, 8, 6, fX8_layWays), (223, 8, 2, fX8_leastPay)]
def smX8_player : List (Nat × Nat × Nat × mm_F) := []
def ZX8_player (p : Program) (l : Launch) (e : Env) (s : State) (m : MethodId) (args : Array Value) (below : List Frame) (meth : Method) (c : Code) (cA : Nat → ClassId) (ad : Nat → Nat) (D : va_G) (A : Nat → Prop) : Prop := mm_Z p l e (mm_rm 5) s m args below meth c lay_m cA ad D A RX8 cX8_player 5 1 (mm_flt flRX8) (mm_clt (vtX8_player)) (mm_clt (smX8_player)) (mm_ctt ctRX8) kX8_player
def qX8_player_82 (P : Int → Int → Int → mm_M → Prop) : mm_K := fun ls st M => match ls, st with
  | [some (.inr (.inr c0)), some (.inl v1), some (.inl v2), some (.inl v3), _], [] => mm_chk (Nat.beq c0 0) (P v1 v2 v3 M)
  | _, _ => False
def qX8_player_50 (P : Int → Int → Int → Int → mm_M → Prop) : mm_K := fun ls st M => match ls, st with
  | [some (.inr (.inr c0)), some (.inl v1), some (.inl v2), some (.inl v3), some (.inl v4)], [] => mm_chk (Nat.beq c0 0) (P v1 v2 v3 v4 M)
  | _, _ => False
set_option maxRecDepth 100000 in
theorem okX8_player_82 {p : Program} {l : Launch} {e : Env} {s : State} {m : MethodId} {args : Array Value} {below : List Frame} {meth : Method} {c : Code} {cA : Nat → ClassId} {ad : Nat → Nat} {D : va_G} {A : Nat → Prop} {Q : Option mm_V → mm_M → Prop} (Z : ZX8_player p l e s m args below meth c cA ad D A) : ∀ ls st M, qX8_player_82 (fun v1 v2 v3 M => bX8_player_82 v1 v2 v3 M (fun r M => Q (some (.inl r)) M)) ls st M → mm_G p l e (mm_rm 5) s m args below meth c lay_m cA ad D A 5 Q 82 ls st M := by
  intro ls st M h
  unfold qX8_player_82 at h
  split at h
  · obtain ⟨hb, h⟩ := mm_chk_e h
    cases (Nat.eq_of_beq_eq_true hb)
    exact mm_Zb Z 109 82 [] mm_fa0 h
  · exact h.elim
set_option maxRecDepth 100000 in
theorem okX8_player_50 {p : Program} {l : Launch} {e : Env} {s : State} {m : MethodId} {args : Array Value} {below : List Frame} {meth : Method} {c : Code} {cA : Nat → ClassId} {ad : Nat → Nat} {D : va_G} {A : Nat → Prop} {Q : Option mm_V → mm_M → Prop} (Z : ZX8_player p l e s m args below meth c cA ad D A) : ∀ (n : Nat) ls st M, qX8_player_50 (fun v1 v2 v3 v4 M => bX8_player_50 n v1 v2 v3 v4 M (fun r M => Q (some (.inl r)) M)) ls st M → mm_G p l e (mm_rm 5) s m args below meth c lay_m cA ad D A 5 Q 50 ls st M
  | 0, ls, st, M, h => by
    unfold qX8_player_50 at h
    split at h
    · obtain ⟨hb, h⟩ := mm_chk_e h
      cases (Nat.eq_of_beq_eq_true hb)
      exact h.elim
    · exact h.elim
  | n + 1, ls, st, M, h => by
    have ih := okX8_player_50 (Q := Q) Z  n
    unfold qX8_player_50 at h
    split at h
    · obtain ⟨hb, h⟩ := mm_chk_e h
      cases (Nat.eq_of_beq_eq_true hb)
      exact mm_Zb Z 109 50 [(50, qX8_player_50 (fun v1 v2 v3 v4 M => bX8_player_50 n v1 v2 v3 v4 M (fun r M => Q (some (.inl r)) M))), (82, qX8_player_82 (fun v1 v2 v3 M => bX8_player_82 v1 v2 v3 M (fun r M => Q (some (.inl r)) M)))] (mm_fa1 ih (mm_fa1 (fun ls st M h => okX8_player_82 Z  ls st M h) mm_fa0)) h
    · exact h.elim
set_option maxRecDepth 100000 in
theorem okX8_player_50x {p : Program} {l : Launch} {e : Env} {s : State} {m : MethodId} {args : Array Value} {below : List Frame} {meth : Method} {c : Code} {cA : Nat → ClassId} {ad : Nat → Nat} {D : va_G} {A : Nat → Prop} {Q : Option mm_V → mm_M → Prop} (Z : ZX8_player p l e s m args below meth c cA ad D A) : ∀ ls st M, qX8_player_50 (fun v1 v2 v3 v4 M => ∃ j, bX8_player_50 j v1 v2 v3 v4 M (fun r M => Q (some (.inl r)) M)) ls st M → mm_G p l e (mm_rm 5) s m args below meth c lay_m cA ad D A 5 Q 50 ls st M := by
  intro ls st M h
  have hex : ∃ n, qX8_player_50 (fun v1 v2 v3 v4 M => bX8_player_50 n v1 v2 v3 v4 M (fun r M => Q (some (.inl r)) M)) ls st M := by
    unfold qX8_player_50 at h
    split at h
    · obtain ⟨hb, h⟩ := mm_chk_e h
      cases (Nat.eq_of_beq_eq_true hb)
      obtain ⟨n, h⟩ := h
      exact ⟨n, h⟩
    · exact h.elim
  obtain ⟨n, hex⟩ := hex
  exact okX8_player_50 Z  n ls st M hex
set_option maxRecDepth 100000 in
theorem okX8_player : mm_Ok lay_m yX8_player cX8_player 5 (some .int) 5 fX8_player := by
  refine mm_enter (rt := 1) (by decide +kernel) rfl ?_
  intro p l e s m args below meth c cA ad D A as M Q h C0
  have Z : ZX8_player p l e s m args below meth c cA ad D A := ⟨C0, flRX8_ok, mm_vt_of (mm_fa1 (mm_coV (n := 0) (ci := 8) C0 okX8_isNet rfl rfl (mm_one_at (.methodLink RX8 194 yX8_isNet) 1166 (by decide +kernel) rfl) (wX8_isNet _ (by simp)) (wX8_isNet _ (by simp [yX8_isNet])) (wX8_isNet _ (by simp [yX8_isNet])) (wX8_isNet _ (by simp)) (by decide +kernel) (by omega) (by omega)) (mm_fa1 (mm_coV (n := 1) (ci := 8) C0 okX8_isNode rfl rfl (mm_one_at (.methodLink RX8 216 yX8_isNode) 1242 (by decide +kernel) rfl) (wX8_isNode _ (by simp)) (wX8_isNode _ (by simp [yX8_isNode])) (wX8_isNode _ (by simp [yX8_isNode])) (wX8_isNode _ (by simp)) (by decide +kernel) (by omega) (by omega)) (mm_fa1 (mm_coV (n := 5) (ci := 8) C0 okX8_layWays rfl rfl (mm_one_at (.methodLink RX8 219 yX8_layWays) 1246 (by decide +kernel) rfl) (wX8_layWays _ (by simp)) (wX8_layWays _ (by simp [yX8_layWays])) (wX8_layWays _ (by simp [yX8_layWays])) (wX8_layWays _ (by simp)) (by decide +kernel) (by omega) (by omega)) (mm_fa1 (mm_coV (n := 1) (ci := 8) C0 okX8_leastPay rfl rfl (mm_one_at (.methodLink RX8 223 yX8_leastPay) 1258 (by decide +kernel) rfl) (wX8_leastPay _ (by simp)) (wX8_leastPay _ (by simp [yX8_leastPay])) (wX8_leastPay _ (by simp [yX8_leastPay])) (wX8_leastPay _ (by simp)) (by decide +kernel) (by omega) (by omega)) (mm_fa0))))), mm_vt_of (mm_fa0), kX8_player_ok, mm_ctok_J ctRX8_ok⟩
  unfold fX8_player at h
  split at h
  · obtain ⟨hb, h⟩ := mm_chk_e h
    cases (Nat.eq_of_beq_eq_true hb)
    exact ⟨Nat.le_of_ble_eq_true rfl, mm_Zb Z 109 0 [(50, qX8_player_50 (fun v1 v2 v3 v4 M => ∃ j, bX8_player_50 j v1 v2 v3 v4 M (fun r M => Q (some (.inl r)) M)))] (mm_fa1 (fun ls st M h => okX8_player_50x Z  ls st M h) mm_fa0) h⟩
  · exact h.elim
def kX8_drop : List mm_E := [(0, false, .aload_n 0, []), (1, false, .getfield 148, []), (4, false, .ifCond .ne 6, [10]), (7, false, .bipush (-103), []), (9, false, .ireturn, []), (10, false, .aload_n 0, []), (11, false, .dup, []), (12, false, .getfield 148, []), (15, false, .iconst 1, []), (16, false, .isub, []), (17, false, .putfield 148, []), (20, false, .aload_n 0, []), (21, false, .getfield 148, []), (24, false, .ireturn, [])]
set_option maxRecDepth 20000 in
theorem kX8_drop_ok : mm_cok cX8_drop RX8 (mm_ctt ctRX8) kX8_drop := mm_c_of (k := false) ctRX8_ok (by decide +kernel)
set_option maxRecDepth 20000 in
theorem wX8_drop : ∀ w ∈ ([.instanceMethod yX8_drop, .selects RX8 yX8_drop yX8_drop, .initialized RX8, .code yX8_drop cX8_drop 1 (some .int)] : List Cond), w ∈ mm_tbl := mm_sub_at _ [1267, 1268, 112, 1269] (by decide +kernel) (by decide +kernel)
def vtX8_drop : List (Nat × Nat × Nat × mm_F) := []
def smX8_drop : List (Nat × Nat × Nat × mm_F) := []
def ZX8_drop (p : Program) (l : Launch) (e : Env) (s : State) (m : MethodId) (args : Array Value) (below : List Frame) (meth : Method) (c : Code) (cA : Nat → ClassId) (ad : Nat → Nat) (D : va_G) (A : Nat → Prop) : Prop := mm_Z p l e (mm_rm 0) s m args below meth c lay_m cA ad D A RX8 cX8_drop 1 1 (mm_flt flRX8) (mm_clt (vtX8_drop)) (mm_clt (smX8_drop)) (mm_ctt ctRX8) kX8_drop
theorem okX8_drop : mm_Ok lay_m yX8_drop cX8_drop 1 (some .int) 0 fX8_drop := by
  refine mm_enter (rt := 1) (by decide +kernel) rfl ?_
  intro p l e s m args below meth c cA ad D A as M Q h C0
  have Z : ZX8_drop p l e s m args below meth c cA ad D A := ⟨C0, flRX8_ok, mm_vt_of (mm_fa0), mm_vt_of (mm_fa0), kX8_drop_ok, mm_ctok_J ctRX8_ok⟩
  unfold fX8_drop at h
  split at h
  · obtain ⟨hb, h⟩ := mm_chk_e h
    cases (Nat.eq_of_beq_eq_true hb)
    exact ⟨Nat.le_of_ble_eq_true rfl, mm_Zb Z 17 0 [] mm_fa0 h⟩
  · exact h.elim
def kX8_isPlayer : List mm_E := [(0, false, .iload_n 1, []), (1, false, .iconst 0, []), (2, false, .aload_n 0, []), (3, false, .getfield 148, []), (6, false, .iconst 1, []), (7, false, .isub, []), (8, false, .invokestatic 105, []), (11, false, .ireturn, [])]
set_option maxRecDepth 20000 in
theorem kX8_isPlayer_ok : mm_cok cX8_isPlayer RX8 (mm_ctt ctRX8) kX8_isPlayer := mm_c_of (k := false) ctRX8_ok (by decide +kernel)
set_option maxRecDepth 20000 in
theorem wX8_isPlayer : ∀ w ∈ ([.instanceMethod yX8_isPlayer, .selects RX8 yX8_isPlayer yX8_isPlayer, .initialized RX8, .code yX8_isPlayer cX8_isPlayer 2 (some .boolean)] : List Cond), w ∈ mm_tbl := mm_sub_at _ [1276, 60, 112, 1277] (by decide +kernel) (by decide +kernel)
def vtX8_isPlayer : List (Nat × Nat × Nat × mm_F) := []
def smX8_isPlayer : List (Nat × Nat × Nat × mm_F) := [(105, 0, 3, fX8_within)]
def ZX8_isPlayer (p : Program) (l : Launch) (e : Env) (s : State) (m : MethodId) (args : Array Value) (below : List Frame) (meth : Method) (c : Code) (cA : Nat → ClassId) (ad : Nat → Nat) (D : va_G) (A : Nat → Prop) : Prop := mm_Z p l e (mm_rm 1) s m args below meth c lay_m cA ad D A RX8 cX8_isPlayer 2 2 (mm_flt flRX8) (mm_clt (vtX8_isPlayer)) (mm_clt (smX8_isPlayer)) (mm_ctt ctRX8) kX8_isPlayer
theorem okX8_isPlayer : mm_Ok lay_m yX8_isPlayer cX8_isPlayer 2 (some .boolean) 1 fX8_isPlayer := by
  refine mm_enter (rt := 2) (by decide +kernel) rfl ?_
  intro p l e s m args below meth c cA ad D A as M Q h C0
  have Z : ZX8_isPlayer p l e s m args below meth c cA ad D A := ⟨C0, flRX8_ok, mm_vt_of (mm_fa0), mm_vt_of (mm_fa1 (mm_coS (n := 3) C0 okX8_within (mm_one_at (.methodLink RX8 105 yX8_within) 1123 (by decide +kernel) rfl) (wX8_within _ (by simp)) (wX8_within _ (by simp [yX8_within])) (wX8_within _ (by simp)) (by decide +kernel) (by omega) (by omega)) (mm_fa0)), kX8_isPlayer_ok, mm_ctok_J ctRX8_ok⟩
  unfold fX8_isPlayer at h
  split at h
  · obtain ⟨hb, h⟩ := mm_chk_e h
    cases (Nat.eq_of_beq_eq_true hb)
    exact ⟨Nat.le_of_ble_eq_true rfl, mm_Zb Z 11 0 [] mm_fa0 h⟩
  · exact h.elim
def kX8_isWay : List mm_E := [(0, false, .aload_n 0, []), (1, false, .iload_n 1, []), (2, false, .invokevirtual 229, []), (5, false, .ifCond .eq 23, [28]), (8, false, .iload_n 2, []), (9, false, .iconst 0, []), (10, false, .aload_n 0, []), (11, false, .getfield 31, []), (14, false, .iload_n 1, []), (15, false, .iaload, []), (16, false, .iconst 1, []), (17, false, .isub, []), (18, false, .invokestatic 105, []), (21, false, .ifCond .eq 7, [28]), (24, false, .iconst 1, []), (25, false, .goto 4, [29]), (28, false, .iconst 0, []), (29, false, .ireturn, [])]
set_option maxRecDepth 20000 in
theorem kX8_isWay_ok : mm_cok cX8_isWay RX8 (mm_ctt ctRX8) kX8_isWay := mm_c_of (k := false) ctRX8_ok (by decide +kernel)
set_option maxRecDepth 20000 in
theorem wX8_isWay : ∀ w ∈ ([.instanceMethod yX8_isWay, .selects RX8 yX8_isWay yX8_isWay, .initialized RX8, .code yX8_isWay cX8_isWay 3 (some .boolean)] : List Cond), w ∈ mm_tbl := mm_sub_at _ [1288, 62, 112, 1289] (by decide +kernel) (by decide +kernel)
def vtX8_isWay : List (Nat × Nat × Nat × mm_F) := [(229, 8, 2, fX8_isPlayer)]
def smX8_isWay : List (Nat × Nat × Nat × mm_F) := [(105, 0, 3, fX8_within)]
def ZX8_isWay (p : Program) (l : Launch) (e : Env) (s : State) (m : MethodId) (args : Array Value) (below : List Frame) (meth : Method) (c : Code) (cA : Nat → ClassId) (ad : Nat → Nat) (D : va_G) (A : Nat → Prop) : Prop := mm_Z p l e (mm_rm 2) s m args below meth c lay_m cA ad D A RX8 cX8_isWay 3 2 (mm_flt flRX8) (mm_clt (vtX8_isWay)) (mm_clt (smX8_isWay)) (mm_ctt ctRX8) kX8_isWay
theorem okX8_isWay : mm_Ok lay_m yX8_isWay cX8_isWay 3 (some .boolean) 2 fX8_isWay := by
  refine mm_enter (rt := 2) (by decide +kernel) rfl ?_
  intro p l e s m args below meth c cA ad D A as M Q h C0
  have Z : ZX8_isWay p l e s m args below meth c cA ad D A := ⟨C0, flRX8_ok, mm_vt_of (mm_fa1 (mm_coV (n := 1) (ci := 8) C0 okX8_isPlayer rfl rfl (mm_one_at (.methodLink RX8 229 yX8_isPlayer) 1274 (by decide +kernel) rfl) (wX8_isPlayer _ (by simp)) (wX8_isPlayer _ (by simp [yX8_isPlayer])) (wX8_isPlayer _ (by simp [yX8_isPlayer])) (wX8_isPlayer _ (by simp)) (by decide +kernel) (by omega) (by omega)) (mm_fa0)), mm_vt_of (mm_fa1 (mm_coS (n := 3) C0 okX8_within (mm_one_at (.methodLink RX8 105 yX8_within) 1123 (by decide +kernel) rfl) (wX8_within _ (by simp)) (wX8_within _ (by simp [yX8_within])) (wX8_within _ (by simp)) (by decide +kernel) (by omega) (by omega)) (mm_fa0)), kX8_isWay_ok, mm_ctok_J ctRX8_ok⟩
  unfold fX8_isWay at h
  split at h
  · obtain ⟨hb, h⟩ := mm_chk_e h
    cases (Nat.eq_of_beq_eq_true hb)
    exact ⟨Nat.le_of_ble_eq_true rfl, mm_Zb Z 21 0 [] mm_fa0 h⟩
  · exact h.elim
