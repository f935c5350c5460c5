def kX8_best : List mm_E := [(0, false, .aload_n 0, []), (1, false, .invokevirtual 282, []), (4, false, .ifCond .ne 6, [10]), (7, false, .bipush (-103), []), (9, false, .ireturn, []), (10, false, .aload_n 0, []), (11, false, .invokevirtual 279, []), (14, false, .aload_n 0, []), (15, false, .aload_n 0, []), (16, false, .getfield 263, []), (19, false, .invokevirtual 272, []), (22, false, .aload_n 0, []), (23, false, .getfield 257, []), (26, false, .ireturn, [])]
set_option maxRecDepth 20000 in
theorem kX8_best_ok : mm_cok cX8_best RX8 (mm_ctt ctRX8) kX8_best := mm_c_of (k := false) ctRX8_ok (by decide +kernel)
set_option maxRecDepth 20000 in
theorem wX8_best : ∀ w ∈ ([.instanceMethod yX8_best, .selects RX8 yX8_best yX8_best, .initialized RX8, .code yX8_best cX8_best 1 (some .int)] : List Cond), w ∈ mm_tbl := mm_sub_at _ [1355, 1356, 112, 1357] (by decide +kernel) (by decide +kernel)
def vtX8_best : List (Nat × Nat × Nat × mm_F) := [(282, 8, 1, fX8_isCounted), (279, 8, 1, fX8_layRests), (272, 8, 2, fX8_take)]
def smX8_best : List (Nat × Nat × Nat × mm_F) := []
def ZX8_best (p : Program) (l : Launch) (e : Env) (s : State) (m : MethodId) (args : Array Value) (below : List Frame) (meth : Method) (c : Code) (cA : Nat → ClassId) (ad : Nat → Nat) (D : va_G) (A : Nat → Prop) : Prop := mm_Z p l e (mm_rm 6) s m args below meth c lay_m cA ad D A RX8 cX8_best 1 1 (mm_flt flRX8) (mm_clt (vtX8_best)) (mm_clt (smX8_best)) (mm_ctt ctRX8) kX8_best
theorem okX8_best : mm_Ok lay_m yX8_best cX8_best 1 (some .int) 6 fX8_best := by
  refine mm_enter (rt := 1) (by decide +kernel) rfl ?_
  intro p l e s m args below meth c cA ad D A as M Q h C0
  have Z : ZX8_best p l e s m args below meth c cA ad D A := ⟨C0, flRX8_ok, mm_vt_of (mm_fa1 (mm_coV (n := 0) (ci := 8) C0 okX8_isCounted rfl rfl (mm_one_at (.methodLink RX8 282 yX8_isCounted) 1314 (by decide +kernel) rfl) (wX8_isCounted _ (by simp)) (wX8_isCounted _ (by simp [yX8_isCounted])) (wX8_isCounted _ (by simp [yX8_isCounted])) (wX8_isCounted _ (by simp)) (by decide +kernel) (by omega) (by omega)) (mm_fa1 (mm_coV (n := 0) (ci := 8) C0 okX8_layRests rfl rfl (mm_one_at (.methodLink RX8 279 yX8_layRests) 1322 (by decide +kernel) rfl) (wX8_layRests _ (by simp)) (wX8_layRests _ (by simp [yX8_layRests])) (wX8_layRests _ (by simp [yX8_layRests])) (wX8_layRests _ (by simp)) (by decide +kernel) (by omega) (by omega)) (mm_fa1 (mm_coV (n := 1) (ci := 8) C0 okX8_take rfl rfl (mm_one_at (.methodLink RX8 272 yX8_take) 1334 (by decide +kernel) rfl) (wX8_take _ (by simp)) (wX8_take _ (by simp [yX8_take])) (wX8_take _ (by simp [yX8_take])) (wX8_take _ (by simp)) (by decide +kernel) (by omega) (by omega)) (mm_fa0)))), mm_vt_of (mm_fa0), kX8_best_ok, mm_ctok_J ctRX8_ok⟩
  unfold fX8_best at h
  split at h
  · obtain ⟨hb, h⟩ := mm_chk_e h
    cases (Nat.eq_of_beq_eq_true hb)
    exact ⟨Nat.le_of_ble_eq_true rfl, mm_Zb Z 17 0 [] mm_fa0 h⟩
  · exact h.elim
def kX8_common : List mm_E := [(0, false, .lload_n 0, []), (1, false, .lstore 4, []), (3, false, .lload_n 2, []), (4, false, .lstore 6, []), (6, true, .lload 6, []), (8, false, .lconst 0, []), (9, false, .lcmp, []), (10, false, .ifCond .eq 21, [31]), (13, false, .lload 4, []), (15, false, .lload 6, []), (17, false, .lrem, []), (18, false, .lstore 8, []), (20, false, .lload 6, []), (22, false, .lstore 4, []), (24, false, .lload 8, []), (26, false, .lstore 6, []), (28, false, .goto (-22), [6]), (31, false, .lload 4, []), (33, false, .lreturn, [])]
set_option maxRecDepth 20000 in
theorem kX8_common_ok : mm_cok cX8_common RX8 (mm_ctt ctRX8) kX8_common := mm_c_of (k := false) ctRX8_ok (by decide +kernel)
set_option maxRecDepth 20000 in
theorem wX8_common : ∀ w ∈ ([.static yX8_common, .initialized RX8, .code yX8_common cX8_common 10 (some .long)] : List Cond), w ∈ mm_tbl := mm_sub_at _ [1370, 112, 1371] (by decide +kernel) (by decide +kernel)
def vtX8_common : List (Nat × Nat × Nat × mm_F) := []
def smX8_common : List (Nat × Nat × Nat × mm_F) := []
def ZX8_common (p : Program) (l : Launch) (e : Env) (s : State) (m : MethodId) (args : Array Value) (below : List Frame) (meth : Method) (c : Code) (cA : Nat → ClassId) (ad : Nat → Nat) (D : va_G) (A : Nat → Prop) : Prop := mm_Z p l e (mm_rm 0) s m args below meth c lay_m cA ad D A RX8 cX8_common 10 3 (mm_flt flRX8) (mm_clt (vtX8_common)) (mm_clt (smX8_common)) (mm_ctt ctRX8) kX8_common
def qX8_common_6 (P : Int → Int → mm_M → Prop) : mm_K := fun ls st M => match ls, st with
  | [_, none, _, none, some (.inr (.inl v4)), none, some (.inr (.inl v6)), none, _, none], [] => P v4 v6 M
  | _, _ => False
theorem okX8_common_6 {p : Program} {l : Launch} {e : Env} {s : State} {m : MethodId} {args : Array Value} {below : List Frame} {meth : Method} {c : Code} {cA : Nat → ClassId} {ad : Nat → Nat} {D : va_G} {A : Nat → Prop} {Q : Option mm_V → mm_M → Prop} (Z : ZX8_common p l e s m args below meth c cA ad D A) : ∀ (n : Nat) ls st M, qX8_common_6 (fun v4 v6 M => bX8_common_6 n v4 v6 M (fun r M => Q (some (.inr (.inl r))) M)) ls st M → mm_G p l e (mm_rm 0) s m args below meth c lay_m cA ad D A 10 Q 6 ls st M
  | 0, ls, st, M, h => by
    unfold qX8_common_6 at h
    split at h
    · skip
      exact h.elim
    · exact h.elim
  | n + 1, ls, st, M, h => by
    have ih := okX8_common_6 (Q := Q) Z  n
    unfold qX8_common_6 at h
    split at h
    · skip
      exact mm_Zb Z 22 6 [(6, qX8_common_6 (fun v4 v6 M => bX8_common_6 n v4 v6 M (fun r M => Q (some (.inr (.inl r))) M)))] (mm_fa1 ih mm_fa0) h
    · exact h.elim
theorem okX8_common_6x {p : Program} {l : Launch} {e : Env} {s : State} {m : MethodId} {args : Array Value} {below : List Frame} {meth : Method} {c : Code} {cA : Nat → ClassId} {ad : Nat → Nat} {D : va_G} {A : Nat → Prop} {Q : Option mm_V → mm_M → Prop} (Z : ZX8_common p l e s m args below meth c cA ad D A) : ∀ ls st M, qX8_common_6 (fun v4 v6 M => ∃ j, bX8_common_6 j v4 v6 M (fun r M => Q (some (.inr (.inl r))) M)) ls st M → mm_G p l e (mm_rm 0) s m args below meth c lay_m cA ad D A 10 Q 6 ls st M := by
  intro ls st M h
  have hex : ∃ n, qX8_common_6 (fun v4 v6 M => bX8_common_6 n v4 v6 M (fun r M => Q (some (.inr (.inl r))) M)) ls st M := by
    unfold qX8_common_6 at h
    split at h
    · skip
      obtain ⟨n, h⟩ := h
      exact ⟨n, h⟩
    · exact h.elim
  obtain ⟨n, hex⟩ := hex
  exact okX8_common_6 Z  n ls st M hex
theorem okX8_common : mm_Ok lay_m yX8_common cX8_common 10 (some .long) 0 fX8_common := by
  refine mm_enter (rt := 3) (by decide +kernel) rfl ?_
  intro p l e s m args below meth c cA ad D A as M Q h C0
  have Z : ZX8_common p l e s m args below meth c cA ad D A := ⟨C0, flRX8_ok, mm_vt_of (mm_fa0), mm_vt_of (mm_fa0), kX8_common_ok, mm_ctok_J ctRX8_ok⟩
  unfold fX8_common at h
  split at h
  · skip
    exact ⟨Nat.le_of_ble_eq_true rfl, mm_Zb Z 22 0 [(6, qX8_common_6 (fun v4 v6 M => ∃ j, bX8_common_6 j v4 v6 M (fun r M => Q (some (.inr (.inl r))) M)))] (mm_fa1 (fun ls st M h => okX8_common_6x Z  ls st M h) mm_fa0) h⟩
  · exact h.elim
def kX8_part : List mm_E := [(0, false, .lload_n 0, []), (1, false, .lconst 0, []), (2, false, .lcmp, []), (3, false, .ifCond .ne 11, [14]), (6, false, .lload_n 2, []), (7, false, .lconst 0, []), (8, false, .lcmp, []), (9, false, .ifCond .ne 5, [14]), (12, false, .iconst 1, []), (13, false, .ireturn, []), (14, true, .lload_n 0, []), (15, false, .lload_n 2, []), (16, false, .invokestatic 291, []), (19, false, .lstore 5, []), (21, false, .iload 4, []), (23, false, .ifCond .ne 7, [30]), (26, false, .lload_n 0, []), (27, false, .goto 4, [31]), (30, false, .lload_n 2, []), (31, false, .lload 5, []), (33, false, .ldiv, []), (34, false, .l2i, []), (35, false, .ireturn, [])]
set_option maxRecDepth 20000 in
theorem kX8_part_ok : mm_cok cX8_part RX8 (mm_ctt ctRX8) kX8_part := mm_c_of (k := false) ctRX8_ok (by decide +kernel)
set_option maxRecDepth 20000 in
theorem wX8_part : ∀ w ∈ ([.static yX8_part, .initialized RX8, .code yX8_part cX8_part 7 (some .int)] : List Cond), w ∈ mm_tbl := mm_sub_at _ [1367, 112, 1368] (by decide +kernel) (by decide +kernel)
def vtX8_part : List (Nat × Nat × Nat × mm_F) := []
def smX8_part : List (Nat × Nat × Nat × mm_F) := [(291, 0, 2, fX8_common)]
def ZX8_part (p : Program) (l : Launch) (e : Env) (s : State) (m : MethodId) (args : Array Value) (below : List Frame) (meth : Method) (c : Code) (cA : Nat → ClassId) (ad : Nat → Nat) (D : va_G) (A : Nat → Prop) : Prop := mm_Z p l e (mm_rm 1) s m args below meth c lay_m cA ad D A RX8 cX8_part 7 1 (mm_flt flRX8) (mm_clt (vtX8_part)) (mm_clt (smX8_part)) (mm_ctt ctRX8) kX8_part
def qX8_part_14 (P : Int → Int → Int → mm_M → Prop) : mm_K := fun ls st M => match ls, st with
  | [some (.inr (.inl v0)), none, some (.inr (.inl v2)), none, some (.inl v4), none, none], [] => P v0 v2 v4 M
  | _, _ => False
theorem okX8_part_14 {p : Program} {l : Launch} {e : Env} {s : State} {m : MethodId} {args : Array Value} {below : List Frame} {meth : Method} {c : Code} {cA : Nat → ClassId} {ad : Nat → Nat} {D : va_G} {A : Nat → Prop} {Q : Option mm_V → mm_M → Prop} (Z : ZX8_part p l e s m args below meth c cA ad D A) : ∀ ls st M, qX8_part_14 (fun v0 v2 v4 M => bX8_part_14 v0 v2 v4 M (fun r M => Q (some (.inl r)) M)) ls st M → mm_G p l e (mm_rm 1) s m args below meth c lay_m cA ad D A 7 Q 14 ls st M := by
  intro ls st M h
  unfold qX8_part_14 at h
  split at h
  · skip
    exact mm_Zb Z 26 14 [] mm_fa0 h
  · exact h.elim
theorem okX8_part : mm_Ok lay_m yX8_part cX8_part 7 (some .int) 1 fX8_part := by
  refine mm_enter (rt := 1) (by decide +kernel) rfl ?_
  intro p l e s m args below meth c cA ad D A as M Q h C0
  have Z : ZX8_part p l e s m args below meth c cA ad D A := ⟨C0, flRX8_ok, mm_vt_of (mm_fa0), mm_vt_of (mm_fa1 (mm_coS (n := 2) C0 okX8_common (mm_one_at (.methodLink RX8 291 yX8_common) 1369 (by decide +kernel) rfl) (wX8_common _ (by simp)) (wX8_common _ (by simp [yX8_common])) (wX8_common _ (by simp)) (by decide +kernel) (by omega) (by omega)) (mm_fa0)), kX8_part_ok, mm_ctok_J ctRX8_ok⟩
  unfold fX8_part at h
  split at h
  · skip
    exact ⟨Nat.le_of_ble_eq_true rfl, mm_Zb Z 26 0 [(14, qX8_part_14 (fun v0 v2 v4 M => bX8_part_14 v0 v2 v4 M (fun r M => Q (some (.inl r)) M)))] (mm_fa1 (fun ls st M h => okX8_part_14 Z  ls st M h) mm_fa0) h⟩
  · exact h.elim
def kX8_priceNow : List mm_E := [(0, false, .aload_n 0, []), (1, false, .invokevirtual 279, []), (4, false, .iload_n 1, []), (5, false, .iconst 2, []), (6, false, .if_icmp .ge 11, [17]), (9, false, .aload_n 0, []), (10, false, .getfield 251, []), (13, false, .i2l, []), (14, false, .goto 8, [22]), (17, false, .aload_n 0, []), (18, false, .getfield 248, []), (21, false, .i2l, []), (22, false, .aload_n 0, []), (23, false, .getfield 257, []), (26, false, .i2l, []), (27, false, .iload_n 1, []), (28, false, .iconst 2, []), (29, false, .irem, []), (30, false, .invokestatic 295, []), (33, false, .ireturn, [])]
set_option maxRecDepth 20000 in
theorem kX8_priceNow_ok : mm_cok cX8_priceNow RX8 (mm_ctt ctRX8) kX8_priceNow := mm_c_of (k := false) ctRX8_ok (by decide +kernel)
set_option maxRecDepth 20000 in
theorem wX8_priceNow : ∀ w ∈ ([.instanceMethod yX8_priceNow, .selects RX8 yX8_priceNow yX8_priceNow, .initialized RX8, .code yX8_priceNow cX8_priceNow 2 (some .int)] : List Cond), w ∈ mm_tbl := mm_sub_at _ [1364, 72, 112, 1365] (by decide +kernel) (by decide +kernel)
def vtX8_priceNow : List (Nat × Nat × Nat × mm_F) := [(279, 8, 1, fX8_layRests)]
def smX8_priceNow : List (Nat × Nat × Nat × mm_F) := [(295, 0, 3, fX8_part)]
def ZX8_priceNow (p : Program) (l : Launch) (e : Env) (s : State) (m : MethodId) (args : Array Value) (below : List Frame) (meth : Method) (c : Code) (cA : Nat → ClassId) (ad : Nat → Nat) (D : va_G) (A : Nat → Prop) : Prop := mm_Z p l e (mm_rm 6) s m args below meth c lay_m cA ad D A RX8 cX8_priceNow 2 1 (mm_flt flRX8) (mm_clt (vtX8_priceNow)) (mm_clt (smX8_priceNow)) (mm_ctt ctRX8) kX8_priceNow
theorem okX8_priceNow : mm_Ok lay_m yX8_priceNow cX8_priceNow 2 (some .int) 6 fX8_priceNow := by
  refine mm_enter (rt := 1) (by decide +kernel) rfl ?_
  intro p l e s m args below meth c cA ad D A as M Q h C0
  have Z : ZX8_priceNow p l e s m args below meth c cA ad D A := ⟨C0, flRX8_ok, mm_vt_of (mm_fa1 (mm_coV (n := 0) (ci := 8) C0 okX8_layRests rfl rfl (mm_one_at (.methodLink RX8 279 yX8_layRests) 1322 (by decide +kernel) rfl) (wX8_layRests _ (by simp)) (wX8_layRests _ (by simp [yX8_layRests])) (wX8_layRests _ (by simp [yX8_layRests])) (wX8_layRests _ (by simp)) (by decide +kernel) (by omega) (by omega)) (mm_fa0)), mm_vt_of (mm_fa1 (mm_coS (n := 3) C0 okX8_part (mm_one_at (.methodLink RX8 295 yX8_part) 1366 (by decide +kernel) rfl) (wX8_part _ (by simp)) (wX8_part _ (by simp [yX8_part])) (wX8_part _ (by simp)) (by decide +kernel) (by omega) (by omega)) (mm_fa0)), kX8_priceNow_ok, mm_ctok_J ctRX8_ok⟩
  unfold fX8_priceNow at h
  split at h
  · obtain ⟨hb, h⟩ := mm_chk_e h
    cases (Nat.eq_of_beq_eq_true hb)
    exact ⟨Nat.le_of_ble_eq_true rfl, mm_Zb Z 23 0 [] mm_fa0 h⟩
  · exact h.elim
def kX8_price : List mm_E := [(0, false, .iload_n 1, []), (1, false, .iconst 0, []), (2, false, .iconst 3, []), (3, false, .invokestatic 105, []), (6, false, .ifCond .ne 6, [12]), (9, false, .bipush (-102), []), (11, false, .ireturn, []), (12, false, .aload_n 0, []), (13, false, .invokevirtual 282, []), (16, false, .ifCond .eq 11, [27]), (19, false, .aload_n 0, []), (20, false, .iload_n 1, []), (21, false, .invokevirtual 299, []), (24, false, .goto 5, [29]), (27, false, .bipush (-103), []), (29, false, .ireturn, [])]
set_option maxRecDepth 20000 in
theorem kX8_price_ok : mm_cok cX8_price RX8 (mm_ctt ctRX8) kX8_price := mm_c_of (k := false) ctRX8_ok (by decide +kernel)
set_option maxRecDepth 20000 in
theorem wX8_price : ∀ w ∈ ([.instanceMethod yX8_price, .selects RX8 yX8_price yX8_price, .initialized RX8, .code yX8_price cX8_price 2 (some .int)] : List Cond), w ∈ mm_tbl := mm_sub_at _ [1359, 1360, 112, 1361] (by decide +kernel) (by decide +kernel)
def vtX8_price : List (Nat × Nat × Nat × mm_F) := [(282, 8, 1, fX8_isCounted), (299, 8, 2, fX8_priceNow)]
def smX8_price : List (Nat × Nat × Nat × mm_F) := [(105, 0, 3, fX8_within)]
def ZX8_price (p : Program) (l : Launch) (e : Env) (s : State) (m : MethodId) (args : Array Value) (below : List Frame) (meth : Method) (c : Code) (cA : Nat → ClassId) (ad : Nat → Nat) (D : va_G) (A : Nat → Prop) : Prop := mm_Z p l e (mm_rm 7) s m args below meth c lay_m cA ad D A RX8 cX8_price 2 1 (mm_flt flRX8) (mm_clt (vtX8_price)) (mm_clt (smX8_price)) (mm_ctt ctRX8) kX8_price
theorem okX8_price : mm_Ok lay_m yX8_price cX8_price 2 (some .int) 7 fX8_price := by
  refine mm_enter (rt := 1) (by decide +kernel) rfl ?_
  intro p l e s m args below meth c cA ad D A as M Q h C0
  have Z : ZX8_price p l e s m args below meth c cA ad D A := ⟨C0, flRX8_ok, mm_vt_of (mm_fa1 (mm_coV (n := 0) (ci := 8) C0 okX8_isCounted rfl rfl (mm_one_at (.methodLink RX8 282 yX8_isCounted) 1314 (by decide +kernel) rfl) (wX8_isCounted _ (by simp)) (wX8_isCounted _ (by simp [yX8_isCounted])) (wX8_isCounted _ (by simp [yX8_isCounted])) (wX8_isCounted _ (by simp)) (by decide +kernel) (by omega) (by omega)) (mm_fa1 (mm_coV (n := 1) (ci := 8) C0 okX8_priceNow rfl rfl (mm_one_at (.methodLink RX8 299 yX8_priceNow) 1362 (by decide +kernel) rfl) (wX8_priceNow _ (by simp)) (wX8_priceNow _ (by simp [yX8_priceNow])) (wX8_priceNow _ (by simp [yX8_priceNow])) (wX8_priceNow _ (by simp)) (by decide +kernel) (by omega) (by omega)) (mm_fa0))), mm_vt_of (mm_fa1 (mm_coS (n := 3) C0 okX8_within (mm_one_at (.methodLink RX8 105 yX8_within) 1123 (by decide +kernel) rfl) (wX8_within _ (by simp)) (wX8_within _ (by simp [yX8_within])) (wX8_within _ (by simp)) (by decide +kernel) (by omega) (by omega)) (mm_fa0)), kX8_price_ok, mm_ctok_J ctRX8_ok⟩
  unfold fX8_price at h
  split at h
  · obtain ⟨hb, h⟩ := mm_chk_e h
    cases (Nat.eq_of_beq_eq_true hb)
    exact ⟨Nat.le_of_ble_eq_true rfl, mm_Zb Z 19 0 [] mm_fa0 h⟩
  · exact h.elim
def kX8_layChains : List mm_E := [(0, false, .iconst 0, []), (1, false, .istore_n 1, []), (2, true, .iload_n 1, []), (3, false, .sipush 4351, []), (6, false, .if_icmp .ge 16, [22]), (9, false, .aload_n 0, []), (10, false, .getfield 80, []), (13, false, .iload_n 1, []), (14, false, .iconst (-1), []), (15, false, .iastore, []), (16, false, .iinc 1 1, []), (19, false, .goto (-17), [2]), (22, false, .aload_n 0, []), (23, false, .invokevirtual 188, []), (26, false, .istore_n 1, []), (27, false, .iconst 0, []), (28, false, .istore_n 2, []), (29, true, .iload_n 2, []), (30, false, .iload_n 1, []), (31, false, .if_icmp .ge 45, [76]), (34, false, .aload_n 0, []), (35, false, .iload_n 2, []), (36, false, .invokevirtual 272, []), (39, false, .aload_n 0, []), (40, false, .invokevirtual 182, []), (43, false, .istore_n 3, []), (44, false, .aload_n 0, []), (45, false, .getfield 83, []), (48, false, .iload_n 2, []), (49, false, .aload_n 0, []), (50, false, .getfield 80, []), (53, false, .iload_n 3, []), (54, false, .iaload, []), (55, false, .iastore, []), (56, false, .aload_n 0, []), (57, false, .getfield 80, []), (60, false, .iload_n 3, []), (61, false, .iload_n 2, []), (62, false, .iastore, []), (63, false, .aload_n 0, []), (64, false, .getfield 86, []), (67, false, .iload_n 2, []), (68, false, .iconst (-1), []), (69, false, .iastore, []), (70, false, .iinc 2 1, []), (73, false, .goto (-44), [29]), (76, false, .return_, [])]
set_option maxRecDepth 20000 in
theorem kX8_layChains_ok : mm_cok cX8_layChains RX8 (mm_ctt ctRX8) kX8_layChains := mm_c_of (k := false) ctRX8_ok (by decide +kernel)
set_option maxRecDepth 20000 in
theorem wX8_layChains : ∀ w ∈ ([.instanceMethod yX8_layChains, .selects RX8 yX8_layChains yX8_layChains, .initialized RX8, .code yX8_layChains cX8_layChains 4 none] : List Cond), w ∈ mm_tbl := mm_sub_at _ [1386, 75, 112, 1387] (by decide +kernel) (by decide +kernel)
def vtX8_layChains : List (Nat × Nat × Nat × mm_F) := [(188, 8, 1, fX8_setsAll), (272, 8, 2, fX8_take), (182, 8, 1, fX8_potentialNow)]
def smX8_layChains : List (Nat × Nat × Nat × mm_F) := []
def ZX8_layChains (p : Program) (l : Launch) (e : Env) (s : State) (m : MethodId) (args : Array Value) (below : List Frame) (meth : Method) (c : Code) (cA : Nat → ClassId) (ad : Nat → Nat) (D : va_G) (A : Nat → Prop) : Prop := mm_Z p l e (mm_rm 4) s m args below meth c lay_m cA ad D A RX8 cX8_layChains 4 0 (mm_flt flRX8) (mm_clt (vtX8_layChains)) (mm_clt (smX8_layChains)) (mm_ctt ctRX8) kX8_layChains
def qX8_layChains_29 (P : Int → Int → mm_M → Prop) : mm_K := fun ls st M => match ls, st with
  | [some (.inr (.inr c0)), some (.inl v1), some (.inl v2), _], [] => mm_chk (Nat.beq c0 0) (P v1 v2 M)
  | _, _ => False
def qX8_layChains_2 (P : Int → mm_M → Prop) : mm_K := fun ls st M => match ls, st with
  | [some (.inr (.inr c0)), some (.inl v1), none, none], [] => mm_chk (Nat.beq c0 0) (P v1 M)
  | _, _ => False
theorem okX8_layChains_29 {p : Program} {l : Launch} {e : Env} {s : State} {m : MethodId} {args : Array Value} {below : List Frame} {meth : Method} {c : Code} {cA : Nat → ClassId} {ad : Nat → Nat} {D : va_G} {A : Nat → Prop} {Q : Option mm_V → mm_M → Prop} (Z : ZX8_layChains p l e s m args below meth c cA ad D A) : ∀ (n : Nat) ls st M, qX8_layChains_29 (fun v1 v2 M => bX8_layChains_29 n v1 v2 M (fun M => Q none M)) ls st M → mm_G p l e (mm_rm 4) s m args below meth c lay_m cA ad D A 4 Q 29 ls st M
  | 0, ls, st, M, h => by
    unfold qX8_layChains_29 at h
    split at h
    · obtain ⟨hb, h⟩ := mm_chk_e h
      cases (Nat.eq_of_beq_eq_true hb)
      exact h.elim
    · exact h.elim
  | n + 1, ls, st, M, h => by
    have ih := okX8_layChains_29 (Q := Q) Z  n
    unfold qX8_layChains_29 at h
    split at h
    · obtain ⟨hb, h⟩ := mm_chk_e h
      cases (Nat.eq_of_beq_eq_true hb)
      exact mm_Zb Z 50 29 [(29, qX8_layChains_29 (fun v1 v2 M => bX8_layChains_29 n v1 v2 M (fun M => Q none M)))] (mm_fa1 ih mm_fa0) h
    · exact h.elim
theorem okX8_layChains_29x {p : Program} {l : Launch} {e : Env} {s : State} {m : MethodId} {args : Array Value} {below : List Frame} {meth : Method} {c : Code} {cA : Nat → ClassId} {ad : Nat → Nat} {D : va_G} {A : Nat → Prop} {Q : Option mm_V → mm_M → Prop} (Z : ZX8_layChains p l e s m args below meth c cA ad D A) : ∀ ls st M, qX8_layChains_29 (fun v1 v2 M => ∃ j, bX8_layChains_29 j v1 v2 M (fun M => Q none M)) ls st M → mm_G p l e (mm_rm 4) s m args below meth c lay_m cA ad D A 4 Q 29 ls st M := by
  intro ls st M h
  have hex : ∃ n, qX8_layChains_29 (fun v1 v2 M => bX8_layChains_29 n v1 v2 M (fun M => Q none M)) ls st M := by
    unfold qX8_layChains_29 at h
    split at h
    · obtain ⟨hb, h⟩ := mm_chk_e h
      cases (Nat.eq_of_beq_eq_true hb)
      obtain ⟨n, h⟩ := h
      exact ⟨n, h⟩
    · exact h.elim
  obtain ⟨n, hex⟩ := hex
  exact okX8_layChains_29 Z  n ls st M hex
theorem okX8_layChains_2 {p : Program} {l : Launch} {e : Env} {s : State} {m : MethodId} {args : Array Value} {below : List Frame} {meth : Method} {c : Code} {cA : Nat → ClassId} {ad : Nat → Nat} {D : va_G} {A : Nat → Prop} {Q : Option mm_V → mm_M → Prop} (Z : ZX8_layChains p l e s m args below meth c cA ad D A) : ∀ (n : Nat) ls st M, qX8_layChains_2 (fun v1 M => bX8_layChains_2 n v1 M (fun M => Q none M)) ls st M → mm_G p l e (mm_rm 4) s m args below meth c lay_m cA ad D A 4 Q 2 ls st M
  | 0, ls, st, M, h => by
    unfold qX8_layChains_2 at h
    split at h
    · obtain ⟨hb, h⟩ := mm_chk_e h
      cases (Nat.eq_of_beq_eq_true hb)
      exact h.elim
    · exact h.elim
  | n + 1, ls, st, M, h => by
    have ih := okX8_layChains_2 (Q := Q) Z  n
    unfold qX8_layChains_2 at h
    split at h
    · obtain ⟨hb, h⟩ := mm_chk_e h
      cases (Nat.eq_of_beq_eq_true hb)
      exact mm_Zb Z 50 2 [(2, qX8_layChains_2 (fun v1 M => bX8_layChains_2 n v1 M (fun M => Q none M))), (29, qX8_layChains_29 (fun v1 v2 M => ∃ j, bX8_layChains_29 j v1 v2 M (fun M => Q none M)))] (mm_fa1 ih (mm_fa1 (fun ls st M h => okX8_layChains_29x Z  ls st M h) mm_fa0)) h
    · exact h.elim
theorem okX8_layChains_2x {p : Program} {l : Launch} {e : Env} {s : State} {m : MethodId} {args : Array Value} {below : List Frame} {meth : Method} {c : Code} {cA : Nat → ClassId} {ad : Nat → Nat} {D : va_G} {A : Nat → Prop} {Q : Option mm_V → mm_M → Prop} (Z : ZX8_layChains p l e s m args below meth c cA ad D A) : ∀ ls st M, qX8_layChains_2 (fun v1 M => ∃ j, bX8_layChains_2 j v1 M (fun M => Q none M)) ls st M → mm_G p l e (mm_rm 4) s m args below meth c lay_m cA ad D A 4 Q 2 ls st M := by
  intro ls st M h
  have hex : ∃ n, qX8_layChains_2 (fun v1 M => bX8_layChains_2 n v1 M (fun M => Q none M)) ls st M := by
    unfold qX8_layChains_2 at h
    split at h
    · obtain ⟨hb, h⟩ := mm_chk_e h
      cases (Nat.eq_of_beq_eq_true hb)
      obtain ⟨n, h⟩ := h
      exact ⟨n, h⟩
    · exact h.elim
  obtain ⟨n, hex⟩ := hex
  exact okX8_layChains_2 Z  n ls st M hex
theorem okX8_layChains : mm_Ok lay_m yX8_layChains cX8_layChains 4 none 4 fX8_layChains := by
  refine mm_enter (rt := 0) (by decide +kernel) rfl ?_
  intro p l e s m args below meth c cA ad D A as M Q h C0
  have Z : ZX8_layChains p l e s m args below meth c cA ad D A := ⟨C0, flRX8_ok, mm_vt_of (mm_fa1 (mm_coV (n := 0) (ci := 8) C0 okX8_setsAll rfl rfl (mm_one_at (.methodLink RX8 188 yX8_setsAll) 1210 (by decide +kernel) rfl) (wX8_setsAll _ (by simp)) (wX8_setsAll _ (by simp [yX8_setsAll])) (wX8_setsAll _ (by simp [yX8_setsAll])) (wX8_setsAll _ (by simp)) (by decide +kernel) (by omega) (by omega)) (mm_fa1 (mm_coV (n := 1) (ci := 8) C0 okX8_take rfl rfl (mm_one_at (.methodLink RX8 272 yX8_take) 1334 (by decide +kernel) rfl) (wX8_take _ (by simp)) (wX8_take _ (by simp [yX8_take])) (wX8_take _ (by simp [yX8_take])) (wX8_take _ (by simp)) (by decide +kernel) (by omega) (by omega)) (mm_fa1 (mm_coV (n := 0) (ci := 8) C0 okX8_potentialNow rfl rfl (mm_one_at (.methodLink RX8 182 yX8_potentialNow) 1190 (by decide +kernel) rfl) (wX8_potentialNow _ (by simp)) (wX8_potentialNow _ (by simp [yX8_potentialNow])) (wX8_potentialNow _ (by simp [yX8_potentialNow])) (wX8_potentialNow _ (by simp)) (by decide +kernel) (by omega) (by omega)) (mm_fa0)))), mm_vt_of (mm_fa0), kX8_layChains_ok, mm_ctok_J ctRX8_ok⟩
  unfold fX8_layChains at h
  split at h
  · obtain ⟨hb, h⟩ := mm_chk_e h
    cases (Nat.eq_of_beq_eq_true hb)
    exact ⟨Nat.le_of_ble_eq_true rfl, mm_Zb Z 50 0 [(2, qX8_layChains_2 (fun v1 M => ∃ j, bX8_layChains_2 j v1 M (fun M => Q none M)))] (mm_fa1 (fun ls st M h => okX8_layChains_2x Z  ls st M h) mm_fa0) h⟩
  · exact h.elim
def kX8_spread : List mm_E := [(0, false, .aload_n 0, []), (1, false, .iload_n 1, []), (2, false, .invokevirtual 272, []), (5, false, .aload_n 0, []), (6, false, .invokevirtual 169, []), (9, false, .iconst 1, []), (10, false, .istore_n 2, []), (11, false, .aload_n 0, []), (12, false, .getfield 148, []), (15, false, .iconst 1, []), (16, false, .isub, []), (17, false, .istore_n 3, []), (18, true, .iload_n 3, []), (19, false, .ifCond .lt 109, [128]), (22, false, .aload_n 0, []), (23, false, .iload_n 3, []), (24, false, .aload_n 0, []), (25, false, .getfield 34, []), (28, false, .iload_n 3, []), (29, false, .iaload, []), (30, false, .invokevirtual 172, []), (33, false, .istore 4, []), (35, false, .iconst 0, []), (36, false, .istore 5, []), (38, true, .iload 5, []), (40, false, .aload_n 0, []), (41, false, .getfield 31, []), (44, false, .iload_n 3, []), (45, false, .iaload, []), (46, false, .if_icmp .ge 67, [113]), (49, false, .iload_n 1, []), (50, false, .iload 5, []), (52, false, .aload_n 0, []), (53, false, .getfield 34, []), (56, false, .iload_n 3, []), (57, false, .iaload, []), (58, false, .isub, []), (59, false, .iload_n 2, []), (60, false, .imul, []), (61, false, .iadd, []), (62, false, .istore 6, []), (64, false, .aload_n 0, []), (65, false, .iload_n 3, []), (66, false, .iload 5, []), (68, false, .invokevirtual 172, []), (71, false, .iload 4, []), (73, false, .if_icmp .ge 34, [107]), (76, false, .aload_n 0, []), (77, false, .getfield 86, []), (80, false, .iload_n 1, []), (81, false, .iaload, []), (82, false, .aload_n 0, []), (83, false, .getfield 86, []), (86, false, .iload 6, []), (88, false, .iaload, []), (89, false, .if_icmp .lt 18, [107]), (92, false, .aload_n 0, []), (93, false, .getfield 86, []), (96, false, .iload 6, []), (98, false, .aload_n 0, []), (99, false, .getfield 86, []), (102, false, .iload_n 1, []), (103, false, .iaload, []), (104, false, .iconst 1, []), (105, false, .iadd, []), (106, false, .iastore, []), (107, false, .iinc 5 1, []), (110, false, .goto (-72), [38]), (113, false, .iload_n 2, []), (114, false, .aload_n 0, []), (115, false, .getfield 31, []), (118, false, .iload_n 3, []), (119, false, .iaload, []), (120, false, .imul, []), (121, false, .istore_n 2, []), (122, false, .iinc 3 (-1), []), (125, false, .goto (-107), [18]), (128, false, .return_, [])]
set_option maxRecDepth 20000 in
theorem kX8_spread_ok : mm_cok cX8_spread RX8 (mm_ctt ctRX8) kX8_spread := mm_c_of (k := false) ctRX8_ok (by decide +kernel)
set_option maxRecDepth 20000 in
theorem wX8_spread : ∀ w ∈ ([.instanceMethod yX8_spread, .selects RX8 yX8_spread yX8_spread, .initialized RX8, .code yX8_spread cX8_spread 7 none] : List Cond), w ∈ mm_tbl := mm_sub_at _ [1390, 76, 112, 1391] (by decide +kernel) (by decide +kernel)
def vtX8_spread : List (Nat × Nat × Nat × mm_F) := [(272, 8, 2, fX8_take), (169, 8, 1, fX8_layLoad), (172, 8, 3, fX8_payNow)]
def smX8_spread : List (Nat × Nat × Nat × mm_F) := []
def ZX8_spread (p : Program) (l : Launch) (e : Env) (s : State) (m : MethodId) (args : Array Value) (below : List Frame) (meth : Method) (c : Code) (cA : Nat → ClassId) (ad : Nat → Nat) (D : va_G) (A : Nat → Prop) : Prop := mm_Z p l e (mm_rm 3) s m args below meth c lay_m cA ad D A RX8 cX8_spread 7 0 (mm_flt flRX8) (mm_clt (vtX8_spread)) (mm_clt (smX8_spread)) (mm_ctt ctRX8) kX8_spread
def qX8_spread_38 (P : Int → Int → Int → Int → Int → mm_M → Prop) : mm_K := fun ls st M => match ls, st with
  | [some (.inr (.inr c0)), some (.inl v1), some (.inl v2), some (.inl v3), some (.inl v4), some (.inl v5), _], [] => mm_chk (Nat.beq c0 0) (P v1 v2 v3 v4 v5 M)
  | _, _ => False
def qX8_spread_18 (P : Int → Int → Int → mm_M → Prop) : mm_K := fun ls st M => match ls, st with
  | [some (.inr (.inr c0)), some (.inl v1), some (.inl v2), some (.inl v3), _, _, _], [] => mm_chk (Nat.beq c0 0) (P v1 v2 v3 M)
  | _, _ => False
theorem okX8_spread_38 {p : Program} {l : Launch} {e : Env} {s : State} {m : MethodId} {args : Array Value} {below : List Frame} {meth : Method} {c : Code} {cA : Nat → ClassId} {ad : Nat → Nat} {D : va_G} {A : Nat → Prop} {Q : Option mm_V → mm_M → Prop} (Z : ZX8_spread p l e s m args below meth c cA ad D A) {K18 : Int → Int → Int → mm_M → Prop} (hk18 : ∀ ls st M, qX8_spread_18 K18 ls st M → mm_G p l e (mm_rm 3) s m args below meth c lay_m cA ad D A 7 Q 18 ls st M) : ∀ (n : Nat) ls st M, qX8_spread_38 (fun v1 v2 v3 v4 v5 M => bX8_spread_38 K18 n v1 v2 v3 v4 v5 M (fun M => Q none M)) ls st M → mm_G p l e (mm_rm 3) s m args below meth c lay_m cA ad D A 7 Q 38 ls st M
  | 0, ls, st, M, h => by
    unfold qX8_spread_38 at h
    split at h
    · obtain ⟨hb, h⟩ := mm_chk_e h
      cases (Nat.eq_of_beq_eq_true hb)
      exact h.elim
    · exact h.elim
  | n + 1, ls, st, M, h => by
    have ih := okX8_spread_38 (Q := Q) Z hk18 n
    unfold qX8_spread_38 at h
    split at h
    · obtain ⟨hb, h⟩ := mm_chk_e h
      cases (Nat.eq_of_beq_eq_true hb)
      exact mm_Zb Z 81 38 [(18, qX8_spread_18 (K18)), (38, qX8_spread_38 (fun v1 v2 v3 v4 v5 M => bX8_spread_38 K18 n v1 v2 v3 v4 v5 M (fun M => Q none M)))] (mm_fa1 hk18 (mm_fa1 ih mm_fa0)) h
    · exact h.elim
theorem okX8_spread_38x {p : Program} {l : Launch} {e : Env} {s : State} {m : MethodId} {args : Array Value} {below : List Frame} {meth : Method} {c : Code} {cA : Nat → ClassId} {ad : Nat → Nat} {D : va_G} {A : Nat → Prop} {Q : Option mm_V → mm_M → Prop} (Z : ZX8_spread p l e s m args below meth c cA ad D A) {K18 : Int → Int → Int → mm_M → Prop} (hk18 : ∀ ls st M, qX8_spread_18 K18 ls st M → mm_G p l e (mm_rm 3) s m args below meth c lay_m cA ad D A 7 Q 18 ls st M) : ∀ ls st M, qX8_spread_38 (fun v1 v2 v3 v4 v5 M => ∃ j, bX8_spread_38 K18 j v1 v2 v3 v4 v5 M (fun M => Q none M)) ls st M → mm_G p l e (mm_rm 3) s m args below meth c lay_m cA ad D A 7 Q 38 ls st M := by
  intro ls st M h
  have hex : ∃ n, qX8_spread_38 (fun v1 v2 v3 v4 v5 M => bX8_spread_38 K18 n v1 v2 v3 v4 v5 M (fun M => Q none M)) ls st M := by
    unfold qX8_spread_38 at h
    split at h
    · obtain ⟨hb, h⟩ := mm_chk_e h
      cases (Nat.eq_of_beq_eq_true hb)
      obtain ⟨n, h⟩ := h
      exact ⟨n, h⟩
    · exact h.elim
  obtain ⟨n, hex⟩ := hex
  exact okX8_spread_38 Z hk18 n ls st M hex
theorem okX8_spread_18 {p : Program} {l : Launch} {e : Env} {s : State} {m : MethodId} {args : Array Value} {below : List Frame} {meth : Method} {c : Code} {cA : Nat → ClassId} {ad : Nat → Nat} {D : va_G} {A : Nat → Prop} {Q : Option mm_V → mm_M → Prop} (Z : ZX8_spread p l e s m args below meth c cA ad D A) : ∀ (n : Nat) ls st M, qX8_spread_18 (fun v1 v2 v3 M => bX8_spread_18 n v1 v2 v3 M (fun M => Q none M)) ls st M → mm_G p l e (mm_rm 3) s m args below meth c lay_m cA ad D A 7 Q 18 ls st M
  | 0, ls, st, M, h => by
    unfold qX8_spread_18 at h
    split at h
    · obtain ⟨hb, h⟩ := mm_chk_e h
      cases (Nat.eq_of_beq_eq_true hb)
      exact h.elim
    · exact h.elim
  | n + 1, ls, st, M, h => by
    have ih := okX8_spread_18 (Q := Q) Z  n
    unfold qX8_spread_18 at h
    split at h
    · obtain ⟨hb, h⟩ := mm_chk_e h
      cases (Nat.eq_of_beq_eq_true hb)
      exact mm_Zb Z 81 18 [(38, qX8_spread_38 (fun v1 v2 v3 v4 v5 M => ∃ j, bX8_spread_38 (fun v1 v2 v3 M => bX8_spread_18 n v1 v2 v3 M (fun M => Q none M)) j v1 v2 v3 v4 v5 M (fun M => Q none M)))] (mm_fa1 (fun ls st M h => okX8_spread_38x Z (ih) ls st M h) mm_fa0) h
    · exact h.elim
theorem okX8_spread_18x {p : Program} {l : Launch} {e : Env} {s : State} {m : MethodId} {args : Array Value} {below : List Frame} {meth : Method} {c : Code} {cA : Nat → ClassId} {ad : Nat → Nat} {D : va_G} {A : Nat → Prop} {Q : Option mm_V → mm_M → Prop} (Z : ZX8_spread p l e s m args below meth c cA ad D A) : ∀ ls st M, qX8_spread_18 (fun v1 v2 v3 M => ∃ j, bX8_spread_18 j v1 v2 v3 M (fun M => Q none M)) ls st M → mm_G p l e (mm_rm 3) s m args below meth c lay_m cA ad D A 7 Q 18 ls st M := by
  intro ls st M h
  have hex : ∃ n, qX8_spread_18 (fun v1 v2 v3 M => bX8_spread_18 n v1 v2 v3 M (fun M => Q none M)) ls st M := by
    unfold qX8_spread_18 at h
    split at h
    · obtain ⟨hb, h⟩ := mm_chk_e h
      cases (Nat.eq_of_beq_eq_true hb)
      obtain ⟨n, h⟩ := h
      exact ⟨n, h⟩
    · exact h.elim
  obtain ⟨n, hex⟩ := hex
  exact okX8_spread_18 Z  n ls st M hex
theorem okX8_spread : mm_Ok lay_m yX8_spread cX8_spread 7 none 3 fX8_spread := by
  refine mm_enter (rt := 0) (by decide +kernel) rfl ?_
  intro p l e s m args below meth c cA ad D A as M Q h C0
  have Z : ZX8_spread p l e s m args below meth c cA ad D A := ⟨C0, flRX8_ok, mm_vt_of (mm_fa1 (mm_coV (n := 1) (ci := 8) C0 okX8_take rfl rfl (mm_one_at (.methodLink RX8 272 yX8_take) 1334 (by decide +kernel) rfl) (wX8_take _ (by simp)) (wX8_take _ (by simp [yX8_take])) (wX8_take _ (by simp [yX8_take])) (wX8_take _ (by simp)) (by decide +kernel) (by omega) (by omega)) (mm_fa1 (mm_coV (n := 0) (ci := 8) C0 okX8_layLoad rfl rfl (mm_one_at (.methodLink RX8 169 yX8_layLoad) 1178 (by decide +kernel) rfl) (wX8_layLoad _ (by simp)) (wX8_layLoad _ (by simp [yX8_layLoad])) (wX8_layLoad _ (by simp [yX8_layLoad])) (wX8_layLoad _ (by simp)) (by decide +kernel) (by omega) (by omega)) (mm_fa1 (mm_coV (n := 2) (ci := 8) C0 okX8_payNow rfl rfl (mm_one_at (.methodLink RX8 172 yX8_payNow) 1206 (by decide +kernel) rfl) (wX8_payNow _ (by simp)) (wX8_payNow _ (by simp [yX8_payNow])) (wX8_payNow _ (by simp [yX8_payNow])) (wX8_payNow _ (by simp)) (by decide +kernel) (by omega) (by omega)) (mm_fa0)))), mm_vt_of (mm_fa0), kX8_spread_ok, mm_ctok_J ctRX8_ok⟩
  unfold fX8_spread at h
  split at h
  · obtain ⟨hb, h⟩ := mm_chk_e h
    cases (Nat.eq_of_beq_eq_true hb)
    exact ⟨Nat.le_of_ble_eq_true rfl, mm_Zb Z 81 0 [(18, qX8_spread_18 (fun v1 v2 v3 M => ∃ j, bX8_spread_18 j v1 v2 v3 M (fun M => Q none M)))] (mm_fa1 (fun ls st M h => okX8_spread_18x Z  ls st M h) mm_fa0) h⟩
  · exact h.elim
def kX8_reachNow : List mm_E := [(0, false, .aload_n 0, []), (1, false, .invokevirtual 266, []), (4, false, .aload_n 0, []), (5, false, .invokevirtual 302, []), (8, false, .istore_n 2, []), (9, false, .aload_n 0, []), (10, false, .invokevirtual 305, []), (13, false, .aload_n 0, []), (14, false, .getfield 86, []), (17, false, .iload_n 2, []), (18, false, .iconst 0, []), (19, false, .iastore, []), (20, false, .iconst 0, []), (21, false, .istore_n 3, []), (22, false, .iconst 0, []), (23, false, .istore 4, []), (25, false, .iconst 0, []), (26, false, .istore 5, []), (28, false, .sipush 4350, []), (31, false, .istore 6, []), (33, true, .iload 6, []), (35, false, .ifCond .lt 101, [136]), (38, false, .aload_n 0, []), (39, false, .getfield 80, []), (42, false, .iload 6, []), (44, false, .iaload, []), (45, false, .istore 7, []), (47, true, .iload 7, []), (49, false, .iconst (-1), []), (50, false, .if_icmp .eq 80, [130]), (53, false, .aload_n 0, []), (54, false, .getfield 86, []), (57, false, .iload 7, []), (59, false, .iaload, []), (60, false, .iconst (-1), []), (61, false, .if_icmp .eq 57, [118]), (64, false, .aload_n 0, []), (65, false, .iload 7, []), (67, false, .invokevirtual 308, []), (70, false, .iinc 3 1, []), (73, false, .iload 4, []), (75, false, .aload_n 0, []), (76, false, .iconst (-1), []), (77, false, .invokevirtual 185, []), (80, false, .iconst (-1), []), (81, false, .if_icmp .ne 7, [88]), (84, false, .iconst 1, []), (85, false, .goto 4, [89]), (88, false, .iconst 0, []), (89, true, .iadd, []), (90, false, .istore 4, []), (92, false, .aload_n 0, []), (93, false, .getfield 86, []), (96, false, .iload 7, []), (98, false, .iaload, []), (99, false, .iload 5, []), (101, false, .if_icmp .le 13, [114]), (104, false, .aload_n 0, []), (105, false, .getfield 86, []), (108, false, .iload 7, []), (110, false, .iaload, []), (111, false, .goto 5, [116]), (114, false, .iload 5, []), (116, false, .istore 5, []), (118, false, .aload_n 0, []), (119, false, .getfield 83, []), (122, false, .iload 7, []), (124, false, .iaload, []), (125, false, .istore 7, []), (127, false, .goto (-80), [47]), (130, false, .iinc 6 (-1), []), (133, false, .goto (-100), [33]), (136, false, .aload_n 0, []), (137, false, .invokevirtual 276, []), (140, false, .iload_n 1, []), (141, false, .ifCond .ne 7, [148]), (144, false, .iload_n 3, []), (145, false, .goto 15, [160]), (148, false, .iload_n 1, []), (149, false, .iconst 1, []), (150, false, .if_icmp .ne 8, [158]), (153, false, .iload 4, []), (155, false, .goto 5, [160]), (158, false, .iload 5, []), (160, false, .ireturn, [])]
set_option maxRecDepth 20000 in
theorem kX8_reachNow_ok : mm_cok cX8_reachNow RX8 (mm_ctt ctRX8) kX8_reachNow := mm_c_of (k := false) ctRX8_ok (by decide +kernel)
set_option maxRecDepth 20000 in
theorem wX8_reachNow : ∀ w ∈ ([.instanceMethod yX8_reachNow, .selects RX8 yX8_reachNow yX8_reachNow, .initialized RX8, .code yX8_reachNow cX8_reachNow 8 (some .int)] : List Cond), w ∈ mm_tbl := mm_sub_at _ [1378, 73, 112, 1379] (by decide +kernel) (by decide +kernel)
def vtX8_reachNow : List (Nat × Nat × Nat × mm_F) := [(266, 8, 1, fX8_keep), (302, 8, 1, fX8_numberNow), (305, 8, 1, fX8_layChains), (276, 8, 1, fX8_putBack), (308, 8, 2, fX8_spread), (185, 8, 2, fX8_restless)]
def smX8_reachNow : List (Nat × Nat × Nat × mm_F) := []
def ZX8_reachNow (p : Program) (l : Launch) (e : Env) (s : State) (m : MethodId) (args : Array Value) (below : List Frame) (meth : Method) (c : Code) (cA : Nat → ClassId) (ad : Nat → Nat) (D : va_G) (A : Nat → Prop) : Prop := mm_Z p l e (mm_rm 5) s m args below meth c lay_m cA ad D A RX8 cX8_reachNow 8 1 (mm_flt flRX8) (mm_clt (vtX8_reachNow)) (mm_clt (smX8_reachNow)) (mm_ctt ctRX8) kX8_reachNow
def qX8_reachNow_89 (P : Int → Int → Int → Int → Int → Int → Int → Int → Int → mm_M → Prop) : mm_K := fun ls st M => match ls, st with
  | [some (.inr (.inr c0)), some (.inl v1), some (.inl v2), some (.inl v3), some (.inl v4), some (.inl v5), some (.inl v6), some (.inl v7)], [.inl w0, .inl w1] => mm_chk (Nat.beq c0 0) (P v1 v2 v3 v4 v5 v6 v7 w0 w1 M)
  | _, _ => False
def qX8_reachNow_47 (P : Int → Int → Int → Int → Int → Int → Int → mm_M → Prop) : mm_K := fun ls st M => match ls, st with
  | [some (.inr (.inr c0)), some (.inl v1), some (.inl v2), some (.inl v3), some (.inl v4), some (.inl v5), some (.inl v6), some (.inl v7)], [] => mm_chk (Nat.beq c0 0) (P v1 v2 v3 v4 v5 v6 v7 M)
  | _, _ => False
def qX8_reachNow_33 (P : Int → Int → Int → Int → Int → Int → mm_M → Prop) : mm_K := fun ls st M => match ls, st with
  | [some (.inr (.inr c0)), some (.inl v1), some (.inl v2), some (.inl v3), some (.inl v4), some (.inl v5), some (.inl v6), _], [] => mm_chk (Nat.beq c0 0) (P v1 v2 v3 v4 v5 v6 M)
  | _, _ => False
set_option maxRecDepth 100000 in
theorem okX8_reachNow_89 {p : Program} {l : Launch} {e : Env} {s : State} {m : MethodId} {args : Array Value} {below : List Frame} {meth : Method} {c : Code} {cA : Nat → ClassId} {ad : Nat → Nat} {D : va_G} {A : Nat → Prop} {Q : Option mm_V → mm_M → Prop} (Z : ZX8_reachNow p l e s m args below meth c cA ad D A) {K33 : Int → Int → Int → Int → Int → Int → mm_M → Prop} (hk33 : ∀ ls st M, qX8_reachNow_33 K33 ls st M → mm_G p l e (mm_rm 5) s m args below meth c lay_m cA ad D A 8 Q 33 ls st M) {K47 : Int → Int → Int → Int → Int → Int → Int → mm_M → Prop} (hk47 : ∀ ls st M, qX8_reachNow_47 K47 ls st M → mm_G p l e (mm_rm 5) s m args below meth c lay_m cA ad D A 8 Q 47 ls st M) : ∀ ls st M, qX8_reachNow_89 (fun v1 v2 v3 v4 v5 v6 v7 w0 w1 M => bX8_reachNow_89 K33 K47 v1 v2 v3 v4 v5 v6 v7 w0 w1 M (fun r M => Q (some (.inl r)) M)) ls st M → mm_G p l e (mm_rm 5) s m args below meth c lay_m cA ad D A 8 Q 89 ls st M := by
  intro ls st M h
  unfold qX8_reachNow_89 at h
  split at h
  · obtain ⟨hb, h⟩ := mm_chk_e h
    cases (Nat.eq_of_beq_eq_true hb)
    exact mm_Zb Z 88 89 [(47, qX8_reachNow_47 (K47))] (mm_fa1 hk47 mm_fa0) h
  · exact h.elim
set_option maxRecDepth 100000 in
theorem okX8_reachNow_47 {p : Program} {l : Launch} {e : Env} {s : State} {m : MethodId} {args : Array Value} {below : List Frame} {meth : Method} {c : Code} {cA : Nat → ClassId} {ad : Nat → Nat} {D : va_G} {A : Nat → Prop} {Q : Option mm_V → mm_M → Prop} (Z : ZX8_reachNow p l e s m args below meth c cA ad D A) {K33 : Int → Int → Int → Int → Int → Int → mm_M → Prop} (hk33 : ∀ ls st M, qX8_reachNow_33 K33 ls st M → mm_G p l e (mm_rm 5) s m args below meth c lay_m cA ad D A 8 Q 33 ls st M) : ∀ (n : Nat) ls st M, qX8_reachNow_47 (fun v1 v2 v3 v4 v5 v6 v7 M => bX8_reachNow_47 K33 n v1 v2 v3 v4 v5 v6 v7 M (fun r M => Q (some (.inl r)) M)) ls st M → mm_G p l e (mm_rm 5) s m args below meth c lay_m cA ad D A 8 Q 47 ls st M
  | 0, ls, st, M, h => by
    unfold qX8_reachNow_47 at h
    split at h
    · obtain ⟨hb, h⟩ := mm_chk_e h
      cases (Nat.eq_of_beq_eq_true hb)
      exact h.elim
    · exact h.elim
  | n + 1, ls, st, M, h => by
    have ih := okX8_reachNow_47 (Q := Q) Z hk33 n
    unfold qX8_reachNow_47 at h
    split at h
    · obtain ⟨hb, h⟩ := mm_chk_e h
      cases (Nat.eq_of_beq_eq_true hb)
      exact mm_Zb Z 88 47 [(33, qX8_reachNow_33 (K33)), (47, qX8_reachNow_47 (fun v1 v2 v3 v4 v5 v6 v7 M => bX8_reachNow_47 K33 n v1 v2 v3 v4 v5 v6 v7 M (fun r M => Q (some (.inl r)) M))), (89, qX8_reachNow_89 (fun v1 v2 v3 v4 v5 v6 v7 w0 w1 M => bX8_reachNow_89 K33 (fun v1 v2 v3 v4 v5 v6 v7 M => bX8_reachNow_47 K33 n v1 v2 v3 v4 v5 v6 v7 M (fun r M => Q (some (.inl r)) M)) v1 v2 v3 v4 v5 v6 v7 w0 w1 M (fun r M => Q (some (.inl r)) M)))] (mm_fa1 hk33 (mm_fa1 ih (mm_fa1 (fun ls st M h => okX8_reachNow_89 Z hk33 (ih) ls st M h) mm_fa0))) h
    · exact h.elim
set_option maxRecDepth 100000 in
theorem okX8_reachNow_47x {p : Program} {l : Launch} {e : Env} {s : State} {m : MethodId} {args : Array Value} {below : List Frame} {meth : Method} {c : Code} {cA : Nat → ClassId} {ad : Nat → Nat} {D : va_G} {A : Nat → Prop} {Q : Option mm_V → mm_M → Prop} (Z : ZX8_reachNow p l e s m args below meth c cA ad D A) {K33 : Int → Int → Int → Int → Int → Int → mm_M → Prop} (hk33 : ∀ ls st M, qX8_reachNow_33 K33 ls st M → mm_G p l e (mm_rm 5) s m args below meth c lay_m cA ad D A 8 Q 33 ls st M) : ∀ ls st M, qX8_reachNow_47 (fun v1 v2 v3 v4 v5 v6 v7 M => ∃ j, bX8_reachNow_47 K33 j v1 v2 v3 v4 v5 v6 v7 M (fun r M => Q (some (.inl r)) M)) ls st M → mm_G p l e (mm_rm 5) s m args below meth c lay_m cA ad D A 8 Q 47 ls st M := by
  intro ls st M h
  have hex : ∃ n, qX8_reachNow_47 (fun v1 v2 v3 v4 v5 v6 v7 M => bX8_reachNow_47 K33 n v1 v2 v3 v4 v5 v6 v7 M (fun r M => Q (some (.inl r)) M)) ls st M := by
    unfold qX8_reachNow_47 at h
    split at h
    · obtain ⟨hb, h⟩ := mm_chk_e h
      cases (Nat.eq_of_beq_eq_true hb)
      obtain ⟨n, h⟩ := h
      exact ⟨n, h⟩
    · exact h.elim
  obtain ⟨n, hex⟩ := hex
  exact okX8_reachNow_47 Z hk33 n ls st M hex
set_option maxRecDepth 100000 in
theorem okX8_reachNow_33 {p : Program} {l : Launch} {e : Env} {s : State} {m : MethodId} {args : Array Value} {below : List Frame} {meth : Method} {c : Code} {cA : Nat → ClassId} {ad : Nat → Nat} {D : va_G} {A : Nat → Prop} {Q : Option mm_V → mm_M → Prop} (Z : ZX8_reachNow p l e s m args below meth c cA ad D A) : ∀ (n : Nat) ls st M, qX8_reachNow_33 (fun v1 v2 v3 v4 v5 v6 M => bX8_reachNow_33 n v1 v2 v3 v4 v5 v6 M (fun r M => Q (some (.inl r)) M)) ls st M → mm_G p l e (mm_rm 5) s m args below meth c lay_m cA ad D A 8 Q 33 ls st M
  | 0, ls, st, M, h => by
    unfold qX8_reachNow_33 at h
    split at h
    · obtain ⟨hb, h⟩ := mm_chk_e h
      cases (Nat.eq_of_beq_eq_true hb)
      exact h.elim
    · exact h.elim
  | n + 1, ls, st, M, h => by
    have ih := okX8_reachNow_33 (Q := Q) Z  n
    unfold qX8_reachNow_33 at h
    split at h
    · obtain ⟨hb, h⟩ := mm_chk_e h
      cases (Nat.eq_of_beq_eq_true hb)
      exact mm_Zb Z 88 33 [(47, qX8_reachNow_47 (fun v1 v2 v3 v4 v5 v6 v7 M => ∃ j, bX8_reachNow_47 (fun v1 v2 v3 v4 v5 v6 M => bX8_reachNow_33 n v1 v2 v3 v4 v5 v6 M (fun r M => Q (some (.inl r)) M)) j v1 v2 v3 v4 v5 v6 v7 M (fun r M => Q (some (.inl r)) M)))] (mm_fa1 (fun ls st M h => okX8_reachNow_47x Z (ih) ls st M h) mm_fa0) h
    · exact h.elim
set_option maxRecDepth 100000 in
theorem okX8_reachNow_33x {p : Program} {l : Launch} {e : Env} {s : State} {m : MethodId} {args : Array Value} {below : List Frame} {meth : Method} {c : Code} {cA : Nat → ClassId} {ad : Nat → Nat} {D : va_G} {A : Nat → Prop} {Q : Option mm_V → mm_M → Prop} (Z : ZX8_reachNow p l e s m args below meth c cA ad D A) : ∀ ls st M, qX8_reachNow_33 (fun v1 v2 v3 v4 v5 v6 M => ∃ j, bX8_reachNow_33 j v1 v2 v3 v4 v5 v6 M (fun r M => Q (some (.inl r)) M)) ls st M → mm_G p l e (mm_rm 5) s m args below meth c lay_m cA ad D A 8 Q 33 ls st M := by
  intro ls st M h
  have hex : ∃ n, qX8_reachNow_33 (fun v1 v2 v3 v4 v5 v6 M => bX8_reachNow_33 n v1 v2 v3 v4 v5 v6 M (fun r M => Q (some (.inl r)) M)) ls st M := by
    unfold qX8_reachNow_33 at h
    split at h
    · obtain ⟨hb, h⟩ := mm_chk_e h
      cases (Nat.eq_of_beq_eq_true hb)
      obtain ⟨n, h⟩ := h
      exact ⟨n, h⟩
    · exact h.elim
  obtain ⟨n, hex⟩ := hex
  exact okX8_reachNow_33 Z  n ls st M hex
set_option maxRecDepth 100000 in
theorem okX8_reachNow : mm_Ok lay_m yX8_reachNow cX8_reachNow 8 (some .int) 5 fX8_reachNow := by
  refine mm_enter (rt := 1) (by decide +kernel) rfl ?_
  intro p l e s m args below meth c cA ad D A as M Q h C0
  have Z : ZX8_reachNow p l e s m args below meth c cA ad D A := ⟨C0, flRX8_ok, mm_vt_of (mm_fa1 (mm_coV (n := 0) (ci := 8) C0 okX8_keep rfl rfl (mm_one_at (.methodLink RX8 266 yX8_keep) 1326 (by decide +kernel) rfl) (wX8_keep _ (by simp)) (wX8_keep _ (by simp [yX8_keep])) (wX8_keep _ (by simp [yX8_keep])) (wX8_keep _ (by simp)) (by decide +kernel) (by omega) (by omega)) (mm_fa1 (mm_coV (n := 0) (ci := 8) C0 okX8_numberNow rfl rfl (mm_one_at (.methodLink RX8 302 yX8_numberNow) 1380 (by decide +kernel) rfl) (wX8_numberNow _ (by simp)) (wX8_numberNow _ (by simp [yX8_numberNow])) (wX8_numberNow _ (by simp [yX8_numberNow])) (wX8_numberNow _ (by simp)) (by decide +kernel) (by omega) (by omega)) (mm_fa1 (mm_coV (n := 0) (ci := 8) C0 okX8_layChains rfl rfl (mm_one_at (.methodLink RX8 305 yX8_layChains) 1384 (by decide +kernel) rfl) (wX8_layChains _ (by simp)) (wX8_layChains _ (by simp [yX8_layChains])) (wX8_layChains _ (by simp [yX8_layChains])) (wX8_layChains _ (by simp)) (by decide +kernel) (by omega) (by omega)) (mm_fa1 (mm_coV (n := 0) (ci := 8) C0 okX8_putBack rfl rfl (mm_one_at (.methodLink RX8 276 yX8_putBack) 1338 (by decide +kernel) rfl) (wX8_putBack _ (by simp)) (wX8_putBack _ (by simp [yX8_putBack])) (wX8_putBack _ (by simp [yX8_putBack])) (wX8_putBack _ (by simp)) (by decide +kernel) (by omega) (by omega)) (mm_fa1 (mm_coV (n := 1) (ci := 8) C0 okX8_spread rfl rfl (mm_one_at (.methodLink RX8 308 yX8_spread) 1388 (by decide +kernel) rfl) (wX8_spread _ (by simp)) (wX8_spread _ (by simp [yX8_spread])) (wX8_spread _ (by simp [yX8_spread])) (wX8_spread _ (by simp)) (by decide +kernel) (by omega) (by omega)) (mm_fa1 (mm_coV (n := 1) (ci := 8) C0 okX8_restless rfl rfl (mm_one_at (.methodLink RX8 185 yX8_restless) 1198 (by decide +kernel) rfl) (wX8_restless _ (by simp)) (wX8_restless _ (by simp [yX8_restless])) (wX8_restless _ (by simp [yX8_restless])) (wX8_restless _ (by simp)) (by decide +kernel) (by omega) (by omega)) (mm_fa0))))))), mm_vt_of (mm_fa0), kX8_reachNow_ok, mm_ctok_J ctRX8_ok⟩
  unfold fX8_reachNow at h
  split at h
  · obtain ⟨hb, h⟩ := mm_chk_e h
    cases (Nat.eq_of_beq_eq_true hb)
    exact ⟨Nat.le_of_ble_eq_true rfl, mm_Zb Z 88 0 [(33, qX8_reachNow_33 (fun v1 v2 v3 v4 v5 v6 M => ∃ j, bX8_reachNow_33 j v1 v2 v3 v4 v5 v6 M (fun r M => Q (some (.inl r)) M)))] (mm_fa1 (fun ls st M h => okX8_reachNow_33x Z  ls st M h) mm_fa0) h⟩
  · exact h.elim
def kX8_reach : List mm_E := [(0, false, .iload_n 1, []), (1, false, .iconst 0, []), (2, false, .iconst 2, []), (3, false, .invokestatic 105, []), (6, false, .ifCond .ne 6, [12]), (9, false, .bipush (-102), []), (11, false, .ireturn, []), (12, false, .aload_n 0, []), (13, false, .invokevirtual 282, []), (16, false, .ifCond .eq 11, [27]), (19, false, .aload_n 0, []), (20, false, .iload_n 1, []), (21, false, .invokevirtual 311, []), (24, false, .goto 5, [29]), (27, false, .bipush (-103), []), (29, false, .ireturn, [])]
set_option maxRecDepth 20000 in
theorem kX8_reach_ok : mm_cok cX8_reach RX8 (mm_ctt ctRX8) kX8_reach := mm_c_of (k := false) ctRX8_ok (by decide +kernel)
set_option maxRecDepth 20000 in
theorem wX8_reach : ∀ w ∈ ([.instanceMethod yX8_reach, .selects RX8 yX8_reach yX8_reach, .initialized RX8, .code yX8_reach cX8_reach 2 (some .int)] : List Cond), w ∈ mm_tbl := mm_sub_at _ [1373, 1374, 112, 1375] (by decide +kernel) (by decide +kernel)
def vtX8_reach : List (Nat × Nat × Nat × mm_F) := [(282, 8, 1, fX8_isCounted), (311, 8, 2, fX8_reachNow)]
def smX8_reach : List (Nat × Nat × Nat × mm_F) := [(105, 0, 3, fX8_within)]
def ZX8_reach (p : Program) (l : Launch) (e : Env) (s : State) (m : MethodId) (args : Array Value) (below : List Frame) (meth : Method) (c : Code) (cA : Nat → ClassId) (ad : Nat → Nat) (D : va_G) (A : Nat → Prop) : Prop := mm_Z p l e (mm_rm 6) s m args below meth c lay_m cA ad D A RX8 cX8_reach 2 1 (mm_flt flRX8) (mm_clt (vtX8_reach)) (mm_clt (smX8_reach)) (mm_ctt ctRX8) kX8_reach
theorem okX8_reach : mm_Ok lay_m yX8_reach cX8_reach 2 (some .int) 6 fX8_reach := by
  refine mm_enter (rt := 1) (by decide +kernel) rfl ?_
  intro p l e s m args below meth c cA ad D A as M Q h C0
  have Z : ZX8_reach p l e s m args below meth c cA ad D A := ⟨C0, flRX8_ok, mm_vt_of (mm_fa1 (mm_coV (n := 0) (ci := 8) C0 okX8_isCounted rfl rfl (mm_one_at (.methodLink RX8 282 yX8_isCounted) 1314 (by decide +kernel) rfl) (wX8_isCounted _ (by simp)) (wX8_isCounted _ (by simp [yX8_isCounted])) (wX8_isCounted _ (by simp [yX8_isCounted])) (wX8_isCounted _ (by simp)) (by decide +kernel) (by omega) (by omega)) (mm_fa1 (mm_coV (n := 1) (ci := 8) C0 okX8_reachNow rfl rfl (mm_one_at (.methodLink RX8 311 yX8_reachNow) 1376 (by decide +kernel) rfl) (wX8_reachNow _ (by simp)) (wX8_reachNow _ (by simp [yX8_reachNow])) (wX8_reachNow _ (by simp [yX8_reachNow])) (wX8_reachNow _ (by simp)) (by decide +kernel) (by omega) (by omega)) (mm_fa0))), mm_vt_of (mm_fa1 (mm_coS (n := 3) C0 okX8_within (mm_one_at (.methodLink RX8 105 yX8_within) 1123 (by decide +kernel) rfl) (wX8_within _ (by simp)) (wX8_within _ (by simp [yX8_within])) (wX8_within _ (by simp)) (by decide +kernel) (by omega) (by omega)) (mm_fa0)), kX8_reach_ok, mm_ctok_J ctRX8_ok⟩
  unfold fX8_reach at h
  split at h
  · obtain ⟨hb, h⟩ := mm_chk_e h
    cases (Nat.eq_of_beq_eq_true hb)
    exact ⟨Nat.le_of_ble_eq_true rfl, mm_Zb Z 19 0 [] mm_fa0 h⟩
  · exact h.elim
def kX8_ledBy : List mm_E := [(0, false, .aload_n 0, []), (1, false, .getfield 34, []), (4, false, .iload_n 1, []), (5, false, .iload_n 2, []), (6, false, .iastore, []), (7, true, .aload_n 0, []), (8, false, .iload_n 1, []), (9, false, .invokevirtual 239, []), (12, false, .iconst (-1), []), (13, false, .if_icmp .eq 10, [23]), (16, false, .aload_n 0, []), (17, false, .invokevirtual 169, []), (20, false, .goto (-13), [7]), (23, false, .aload_n 0, []), (24, false, .iload_n 1, []), (25, false, .iload_n 2, []), (26, false, .invokevirtual 213, []), (29, false, .ireturn, [])]
set_option maxRecDepth 20000 in
theorem kX8_ledBy_ok : mm_cok cX8_ledBy RX8 (mm_ctt ctRX8) kX8_ledBy := mm_c_of (k := false) ctRX8_ok (by decide +kernel)
set_option maxRecDepth 20000 in
theorem wX8_ledBy : ∀ w ∈ ([.instanceMethod yX8_ledBy, .selects RX8 yX8_ledBy yX8_ledBy, .initialized RX8, .code yX8_ledBy cX8_ledBy 3 (some .int)] : List Cond), w ∈ mm_tbl := mm_sub_at _ [1402, 78, 112, 1403] (by decide +kernel) (by decide +kernel)
def vtX8_ledBy : List (Nat × Nat × Nat × mm_F) := [(239, 8, 2, fX8_turnOf), (213, 8, 3, fX8_payOf), (169, 8, 1, fX8_layLoad)]
def smX8_ledBy : List (Nat × Nat × Nat × mm_F) := []
def ZX8_ledBy (p : Program) (l : Launch) (e : Env) (s : State) (m : MethodId) (args : Array Value) (below : List Frame) (meth : Method) (c : Code) (cA : Nat → ClassId) (ad : Nat → Nat) (D : va_G) (A : Nat → Prop) : Prop := mm_Z p l e (mm_rm 6) s m args below meth c lay_m cA ad D A RX8 cX8_ledBy 3 1 (mm_flt flRX8) (mm_clt (vtX8_ledBy)) (mm_clt (smX8_ledBy)) (mm_ctt ctRX8) kX8_ledBy
def qX8_ledBy_7 (P : Int → Int → mm_M → Prop) : mm_K := fun ls st M => match ls, st with
  | [some (.inr (.inr c0)), some (.inl v1), some (.inl v2)], [] => mm_chk (Nat.beq c0 0) (P v1 v2 M)
  | _, _ => False
theorem okX8_ledBy_7 {p : Program} {l : Launch} {e : Env} {s : State} {m : MethodId} {args : Array Value} {below : List Frame} {meth : Method} {c : Code} {cA : Nat → ClassId} {ad : Nat → Nat} {D : va_G} {A : Nat → Prop} {Q : Option mm_V → mm_M → Prop} (Z : ZX8_ledBy p l e s m args below meth c cA ad D A) : ∀ (n : Nat) ls st M, qX8_ledBy_7 (fun v1 v2 M => bX8_ledBy_7 n v1 v2 M (fun r M => Q (some (.inl r)) M)) ls st M → mm_G p l e (mm_rm 6) s m args below meth c lay_m cA ad D A 3 Q 7 ls st M
  | 0, ls, st, M, h => by
    unfold qX8_ledBy_7 at h
    split at h
    · obtain ⟨hb, h⟩ := mm_chk_e h
      cases (Nat.eq_of_beq_eq_true hb)
      exact h.elim
    · exact h.elim
  | n + 1, ls, st, M, h => by
    have ih := okX8_ledBy_7 (Q := Q) Z  n
    unfold qX8_ledBy_7 at h
    split at h
    · obtain ⟨hb, h⟩ := mm_chk_e h
      cases (Nat.eq_of_beq_eq_true hb)
      exact mm_Zb Z 21 7 [(7, qX8_ledBy_7 (fun v1 v2 M => bX8_ledBy_7 n v1 v2 M (fun r M => Q (some (.inl r)) M)))] (mm_fa1 ih mm_fa0) h
    · exact h.elim
theorem okX8_ledBy_7x {p : Program} {l : Launch} {e : Env} {s : State} {m : MethodId} {args : Array Value} {below : List Frame} {meth : Method} {c : Code} {cA : Nat → ClassId} {ad : Nat → Nat} {D : va_G} {A : Nat → Prop} {Q : Option mm_V → mm_M → Prop} (Z : ZX8_ledBy p l e s m args below meth c cA ad D A) : ∀ ls st M, qX8_ledBy_7 (fun v1 v2 M => ∃ j, bX8_ledBy_7 j v1 v2 M (fun r M => Q (some (.inl r)) M)) ls st M → mm_G p l e (mm_rm 6) s m args below meth c lay_m cA ad D A 3 Q 7 ls st M := by
  intro ls st M h
  have hex : ∃ n, qX8_ledBy_7 (fun v1 v2 M => bX8_ledBy_7 n v1 v2 M (fun r M => Q (some (.inl r)) M)) ls st M := by
    unfold qX8_ledBy_7 at h
    split at h
    · obtain ⟨hb, h⟩ := mm_chk_e h
      cases (Nat.eq_of_beq_eq_true hb)
      obtain ⟨n, h⟩ := h
      exact ⟨n, h⟩
    · exact h.elim
  obtain ⟨n, hex⟩ := hex
  exact okX8_ledBy_7 Z  n ls st M hex
theorem okX8_ledBy : mm_Ok lay_m yX8_ledBy cX8_ledBy 3 (some .int) 6 fX8_ledBy := by
  refine mm_enter (rt := 1) (by decide +kernel) rfl ?_
  intro p l e s m args below meth c cA ad D A as M Q h C0
  have Z : ZX8_ledBy p l e s m args below meth c cA ad D A := ⟨C0, flRX8_ok, mm_vt_of (mm_fa1 (mm_coV (n := 1) (ci := 8) C0 okX8_turnOf rfl rfl (mm_one_at (.methodLink RX8 239 yX8_turnOf) 1302 (by decide +kernel) rfl) (wX8_turnOf _ (by simp)) (wX8_turnOf _ (by simp [yX8_turnOf])) (wX8_turnOf _ (by simp [yX8_turnOf])) (wX8_turnOf _ (by simp)) (by decide +kernel) (by omega) (by omega)) (mm_fa1 (mm_coV (n := 2) (ci := 8) C0 okX8_payOf rfl rfl (mm_one_at (.methodLink RX8 213 yX8_payOf) 1262 (by decide +kernel) rfl) (wX8_payOf _ (by simp)) (wX8_payOf _ (by simp [yX8_payOf])) (wX8_payOf _ (by simp [yX8_payOf])) (wX8_payOf _ (by simp)) (by decide +kernel) (by omega) (by omega)) (mm_fa1 (mm_coV (n := 0) (ci := 8) C0 okX8_layLoad rfl rfl (mm_one_at (.methodLink RX8 169 yX8_layLoad) 1178 (by decide +kernel) rfl) (wX8_layLoad _ (by simp)) (wX8_layLoad _ (by simp [yX8_layLoad])) (wX8_layLoad _ (by simp [yX8_layLoad])) (wX8_layLoad _ (by simp)) (by decide +kernel) (by omega) (by omega)) (mm_fa0)))), mm_vt_of (mm_fa0), kX8_ledBy_ok, mm_ctok_J ctRX8_ok⟩
  unfold fX8_ledBy at h
  split at h
  · obtain ⟨hb, h⟩ := mm_chk_e h
    cases (Nat.eq_of_beq_eq_true hb)
    exact ⟨Nat.le_of_ble_eq_true rfl, mm_Zb Z 21 0 [(7, qX8_ledBy_7 (fun v1 v2 M => ∃ j, bX8_ledBy_7 j v1 v2 M (fun r M => Q (some (.inl r)) M)))] (mm_fa1 (fun ls st M h => okX8_ledBy_7x Z  ls st M h) mm_fa0) h⟩
  · exact h.elim
def kX8_leadNow : List mm_E := [(0, false, .aload_n 0, []), (1, false, .invokevirtual 266, []), (4, false, .aload_n 0, []), (5, false, .iload_n 1, []), (6, false, .iload_n 2, []), (7, false, .invokevirtual 314, []), (10, false, .istore_n 3, []), (11, false, .aload_n 0, []), (12, false, .invokevirtual 276, []), (15, false, .iload_n 3, []), (16, false, .ireturn, [])]
set_option maxRecDepth 20000 in
theorem kX8_leadNow_ok : mm_cok cX8_leadNow RX8 (mm_ctt ctRX8) kX8_leadNow := mm_c_of (k := false) ctRX8_ok (by decide +kernel)
set_option maxRecDepth 20000 in
theorem wX8_leadNow : ∀ w ∈ ([.instanceMethod yX8_leadNow, .selects RX8 yX8_leadNow yX8_leadNow, .initialized RX8, .code yX8_leadNow cX8_leadNow 4 (some .int)] : List Cond), w ∈ mm_tbl := mm_sub_at _ [1398, 77, 112, 1399] (by decide +kernel) (by decide +kernel)
def vtX8_leadNow : List (Nat × Nat × Nat × mm_F) := [(266, 8, 1, fX8_keep), (314, 8, 3, fX8_ledBy), (276, 8, 1, fX8_putBack)]
def smX8_leadNow : List (Nat × Nat × Nat × mm_F) := []
def ZX8_leadNow (p : Program) (l : Launch) (e : Env) (s : State) (m : MethodId) (args : Array Value) (below : List Frame) (meth : Method) (c : Code) (cA : Nat → ClassId) (ad : Nat → Nat) (D : va_G) (A : Nat → Prop) : Prop := mm_Z p l e (mm_rm 7) s m args below meth c lay_m cA ad D A RX8 cX8_leadNow 4 1 (mm_flt flRX8) (mm_clt (vtX8_leadNow)) (mm_clt (smX8_leadNow)) (mm_ctt ctRX8) kX8_leadNow
theorem okX8_leadNow : mm_Ok lay_m yX8_leadNow cX8_leadNow 4 (some .int) 7 fX8_leadNow := by
  refine mm_enter (rt := 1) (by decide +kernel) rfl ?_
  intro p l e s m args below meth c cA ad D A as M Q h C0
  have Z : ZX8_leadNow p l e s m args below meth c cA ad D A := ⟨C0, flRX8_ok, mm_vt_of (mm_fa1 (mm_coV (n := 0) (ci := 8) C0 okX8_keep rfl rfl (mm_one_at (.methodLink RX8 266 yX8_keep) 1326 (by decide +kernel) rfl) (wX8_keep _ (by simp)) (wX8_keep _ (by simp [yX8_keep])) (wX8_keep _ (by simp [yX8_keep])) (wX8_keep _ (by simp)) (by decide +kernel) (by omega) (by omega)) (mm_fa1 (mm_coV (n := 2) (ci := 8) C0 okX8_ledBy rfl rfl (mm_one_at (.methodLink RX8 314 yX8_ledBy) 1400 (by decide +kernel) rfl) (wX8_ledBy _ (by simp)) (wX8_ledBy _ (by simp [yX8_ledBy])) (wX8_ledBy _ (by simp [yX8_ledBy])) (wX8_ledBy _ (by simp)) (by decide +kernel) (by omega) (by omega)) (mm_fa1 (mm_coV (n := 0) (ci := 8) C0 okX8_putBack rfl rfl (mm_one_at (.methodLink RX8 276 yX8_putBack) 1338 (by decide +kernel) rfl) (wX8_putBack _ (by simp)) (wX8_putBack _ (by simp [yX8_putBack])) (wX8_putBack _ (by simp [yX8_putBack])) (wX8_putBack _ (by simp)) (by decide +kernel) (by omega) (by omega)) (mm_fa0)))), mm_vt_of (mm_fa0), kX8_leadNow_ok, mm_ctok_J ctRX8_ok⟩
  unfold fX8_leadNow at h
  split at h
  · obtain ⟨hb, h⟩ := mm_chk_e h
    cases (Nat.eq_of_beq_eq_true hb)
    exact ⟨Nat.le_of_ble_eq_true rfl, mm_Zb Z 14 0 [] mm_fa0 h⟩
  · exact h.elim
def kX8_lead : List mm_E := [(0, false, .aload_n 0, []), (1, false, .iload_n 1, []), (2, false, .iload_n 2, []), (3, false, .invokevirtual 235, []), (6, false, .ifCond .eq 12, [18]), (9, false, .aload_n 0, []), (10, false, .iload_n 1, []), (11, false, .iload_n 2, []), (12, false, .invokevirtual 317, []), (15, false, .goto 5, [20]), (18, false, .bipush (-101), []), (20, false, .ireturn, [])]
set_option maxRecDepth 20000 in
theorem kX8_lead_ok : mm_cok cX8_lead RX8 (mm_ctt ctRX8) kX8_lead := mm_c_of (k := false) ctRX8_ok (by decide +kernel)
set_option maxRecDepth 20000 in
theorem wX8_lead : ∀ w ∈ ([.instanceMethod yX8_lead, .selects RX8 yX8_lead yX8_lead, .initialized RX8, .code yX8_lead cX8_lead 3 (some .int)] : List Cond), w ∈ mm_tbl := mm_sub_at _ [1393, 1394, 112, 1395] (by decide +kernel) (by decide +kernel)
def vtX8_lead : List (Nat × Nat × Nat × mm_F) := [(235, 8, 3, fX8_isWay), (317, 8, 3, fX8_leadNow)]
def smX8_lead : List (Nat × Nat × Nat × mm_F) := []
def ZX8_lead (p : Program) (l : Launch) (e : Env) (s : State) (m : MethodId) (args : Array Value) (below : List Frame) (meth : Method) (c : Code) (cA : Nat → ClassId) (ad : Nat → Nat) (D : va_G) (A : Nat → Prop) : Prop := mm_Z p l e (mm_rm 8) s m args below meth c lay_m cA ad D A RX8 cX8_lead 3 1 (mm_flt flRX8) (mm_clt (vtX8_lead)) (mm_clt (smX8_lead)) (mm_ctt ctRX8) kX8_lead
theorem okX8_lead : mm_Ok lay_m yX8_lead cX8_lead 3 (some .int) 8 fX8_lead := by
  refine mm_enter (rt := 1) (by decide +kernel) rfl ?_
  intro p l e s m args below meth c cA ad D A as M Q h C0
  have Z : ZX8_lead p l e s m args below meth c cA ad D A := ⟨C0, flRX8_ok, mm_vt_of (mm_fa1 (mm_coV (n := 2) (ci := 8) C0 okX8_isWay rfl rfl (mm_one_at (.methodLink RX8 235 yX8_isWay) 1286 (by decide +kernel) rfl) (wX8_isWay _ (by simp)) (wX8_isWay _ (by simp [yX8_isWay])) (wX8_isWay _ (by simp [yX8_isWay])) (wX8_isWay _ (by simp)) (by decide +kernel) (by omega) (by omega)) (mm_fa1 (mm_coV (n := 2) (ci := 8) C0 okX8_leadNow rfl rfl (mm_one_at (.methodLink RX8 317 yX8_leadNow) 1396 (by decide +kernel) rfl) (wX8_leadNow _ (by simp)) (wX8_leadNow _ (by simp [yX8_leadNow])) (wX8_leadNow _ (by simp [yX8_leadNow])) (wX8_leadNow _ (by simp)) (by decide +kernel) (by omega) (by omega)) (mm_fa0))), mm_vt_of (mm_fa0), kX8_lead_ok, mm_ctok_J ctRX8_ok⟩
  unfold fX8_lead at h
  split at h
  · obtain ⟨hb, h⟩ := mm_chk_e h
    cases (Nat.eq_of_beq_eq_true hb)
    exact ⟨Nat.le_of_ble_eq_true rfl, mm_Zb Z 15 0 [] mm_fa0 h⟩
  · exact h.elim
def kX8_leadsBy : List mm_E := [(0, false, .iconst 0, []), (1, false, .istore_n 2, []), (2, false, .aload_n 0, []), (3, false, .iload_n 1, []), (4, false, .iconst 0, []), (5, false, .invokevirtual 317, []), (8, false, .istore_n 3, []), (9, false, .iconst 1, []), (10, false, .istore 4, []), (12, true, .iload 4, []), (14, false, .aload_n 0, []), (15, false, .getfield 31, []), (18, false, .iload_n 1, []), (19, false, .iaload, []), (20, false, .if_icmp .ge 44, [64]), (23, false, .aload_n 0, []), (24, false, .iload_n 1, []), (25, false, .iload 4, []), (27, false, .invokevirtual 317, []), (30, false, .istore 5, []), (32, false, .iload 5, []), (34, false, .iload_n 3, []), (35, false, .if_icmp .ge 8, [43]), (38, false, .iload 4, []), (40, false, .goto 4, [44]), (43, false, .iload_n 2, []), (44, true, .istore_n 2, []), (45, false, .iload 5, []), (47, false, .iload_n 3, []), (48, false, .if_icmp .ge 8, [56]), (51, false, .iload 5, []), (53, false, .goto 4, [57]), (56, false, .iload_n 3, []), (57, false, .istore_n 3, []), (58, false, .iinc 4 1, []), (61, false, .goto (-49), [12]), (64, false, .iload_n 2, []), (65, false, .ireturn, [])]
set_option maxRecDepth 20000 in
theorem kX8_leadsBy_ok : mm_cok cX8_leadsBy RX8 (mm_ctt ctRX8) kX8_leadsBy := mm_c_of (k := false) ctRX8_ok (by decide +kernel)
set_option maxRecDepth 20000 in
theorem wX8_leadsBy : ∀ w ∈ ([.instanceMethod yX8_leadsBy, .selects RX8 yX8_leadsBy yX8_leadsBy, .initialized RX8, .code yX8_leadsBy cX8_leadsBy 6 (some .int)] : List Cond), w ∈ mm_tbl := mm_sub_at _ [1410, 79, 112, 1411] (by decide +kernel) (by decide +kernel)
def vtX8_leadsBy : List (Nat × Nat × Nat × mm_F) := [(317, 8, 3, fX8_leadNow)]
def smX8_leadsBy : List (Nat × Nat × Nat × mm_F) := []
def ZX8_leadsBy (p : Program) (l : Launch) (e : Env) (s : State) (m : MethodId) (args : Array Value) (below : List Frame) (meth : Method) (c : Code) (cA : Nat → ClassId) (ad : Nat → Nat) (D : va_G) (A : Nat → Prop) : Prop := mm_Z p l e (mm_rm 8) s m args below meth c lay_m cA ad D A RX8 cX8_leadsBy 6 1 (mm_flt flRX8) (mm_clt (vtX8_leadsBy)) (mm_clt (smX8_leadsBy)) (mm_ctt ctRX8) kX8_leadsBy
def qX8_leadsBy_44 (P : Int → Int → Int → Int → Int → Int → mm_M → Prop) : mm_K := fun ls st M => match ls, st with
  | [some (.inr (.inr c0)), some (.inl v1), some (.inl v2), some (.inl v3), some (.inl v4), some (.inl v5)], [.inl w0] => mm_chk (Nat.beq c0 0) (P v1 v2 v3 v4 v5 w0 M)
  | _, _ => False
def qX8_leadsBy_12 (P : Int → Int → Int → Int → mm_M → Prop) : mm_K := fun ls st M => match ls, st with
  | [some (.inr (.inr c0)), some (.inl v1), some (.inl v2), some (.inl v3), some (.inl v4), _], [] => mm_chk (Nat.beq c0 0) (P v1 v2 v3 v4 M)
  | _, _ => False
theorem okX8_leadsBy_44 {p : Program} {l : Launch} {e : Env} {s : State} {m : MethodId} {args : Array Value} {below : List Frame} {meth : Method} {c : Code} {cA : Nat → ClassId} {ad : Nat → Nat} {D : va_G} {A : Nat → Prop} {Q : Option mm_V → mm_M → Prop} (Z : ZX8_leadsBy p l e s m args below meth c cA ad D A) {K12 : Int → Int → Int → Int → mm_M → Prop} (hk12 : ∀ ls st M, qX8_leadsBy_12 K12 ls st M → mm_G p l e (mm_rm 8) s m args below meth c lay_m cA ad D A 6 Q 12 ls st M) : ∀ ls st M, qX8_leadsBy_44 (fun v1 v2 v3 v4 v5 w0 M => bX8_leadsBy_44 K12 v1 v2 v3 v4 v5 w0 M (fun r M => Q (some (.inl r)) M)) ls st M → mm_G p l e (mm_rm 8) s m args below meth c lay_m cA ad D A 6 Q 44 ls st M := by
  intro ls st M h
  unfold qX8_leadsBy_44 at h
  split at h
  · obtain ⟨hb, h⟩ := mm_chk_e h
    cases (Nat.eq_of_beq_eq_true hb)
    exact mm_Zb Z 41 44 [(12, qX8_leadsBy_12 (K12))] (mm_fa1 hk12 mm_fa0) h
  · exact h.elim
theorem okX8_leadsBy_12 {p : Program} {l : Launch} {e : Env} {s : State} {m : MethodId} {args : Array Value} {below : List Frame} {meth : Method} {c : Code} {cA : Nat → ClassId} {ad : Nat → Nat} {D : va_G} {A : Nat → Prop} {Q : Option mm_V → mm_M → Prop} (Z : ZX8_leadsBy p l e s m args below meth c cA ad D A) : ∀ (n : Nat) ls st M, qX8_leadsBy_12 (fun v1 v2 v3 v4 M => bX8_leadsBy_12 n v1 v2 v3 v4 M (fun r M => Q (some (.inl r)) M)) ls st M → mm_G p l e (mm_rm 8) s m args below meth c lay_m cA ad D A 6 Q 12 ls st M
  | 0, ls, st, M, h => by
    unfold qX8_leadsBy_12 at h
    split at h
    · obtain ⟨hb, h⟩ := mm_chk_e h
      cases (Nat.eq_of_beq_eq_true hb)
      exact h.elim
    · exact h.elim
  | n + 1, ls, st, M, h => by
    have ih := okX8_leadsBy_12 (Q := Q) Z  n
    unfold qX8_leadsBy_12 at h
    split at h
    · obtain ⟨hb, h⟩ := mm_chk_e h
      cases (Nat.eq_of_beq_eq_true hb)
      exact mm_Zb Z 41 12 [(44, qX8_leadsBy_44 (fun v1 v2 v3 v4 v5 w0 M => bX8_leadsBy_44 (fun v1 v2 v3 v4 M => bX8_leadsBy_12 n v1 v2 v3 v4 M (fun r M => Q (some (.inl r)) M)) v1 v2 v3 v4 v5 w0 M (fun r M => Q (some (.inl r)) M)))] (mm_fa1 (fun ls st M h => okX8_leadsBy_44 Z (ih) ls st M h) mm_fa0) h
    · exact h.elim
theorem okX8_leadsBy_12x {p : Program} {l : Launch} {e : Env} {s : State} {m : MethodId} {args : Array Value} {below : List Frame} {meth : Method} {c : Code} {cA : Nat → ClassId} {ad : Nat → Nat} {D : va_G} {A : Nat → Prop} {Q : Option mm_V → mm_M → Prop} (Z : ZX8_leadsBy p l e s m args below meth c cA ad D A) : ∀ ls st M, qX8_leadsBy_12 (fun v1 v2 v3 v4 M => ∃ j, bX8_leadsBy_12 j v1 v2 v3 v4 M (fun r M => Q (some (.inl r)) M)) ls st M → mm_G p l e (mm_rm 8) s m args below meth c lay_m cA ad D A 6 Q 12 ls st M := by
  intro ls st M h
  have hex : ∃ n, qX8_leadsBy_12 (fun v1 v2 v3 v4 M => bX8_leadsBy_12 n v1 v2 v3 v4 M (fun r M => Q (some (.inl r)) M)) ls st M := by
    unfold qX8_leadsBy_12 at h
    split at h
    · obtain ⟨hb, h⟩ := mm_chk_e h
      cases (Nat.eq_of_beq_eq_true hb)
      obtain ⟨n, h⟩ := h
      exact ⟨n, h⟩
    · exact h.elim
  obtain ⟨n, hex⟩ := hex
  exact okX8_leadsBy_12 Z  n ls st M hex
theorem okX8_leadsBy : mm_Ok lay_m yX8_leadsBy cX8_leadsBy 6 (some .int) 8 fX8_leadsBy := by
  refine mm_enter (rt := 1) (by decide +kernel) rfl ?_
  intro p l e s m args below meth c cA ad D A as M Q h C0
  have Z : ZX8_leadsBy p l e s m args below meth c cA ad D A := ⟨C0, flRX8_ok, mm_vt_of (mm_fa1 (mm_coV (n := 2) (ci := 8) C0 okX8_leadNow rfl rfl (mm_one_at (.methodLink RX8 317 yX8_leadNow) 1396 (by decide +kernel) rfl) (wX8_leadNow _ (by simp)) (wX8_leadNow _ (by simp [yX8_leadNow])) (wX8_leadNow _ (by simp [yX8_leadNow])) (wX8_leadNow _ (by simp)) (by decide +kernel) (by omega) (by omega)) (mm_fa0)), mm_vt_of (mm_fa0), kX8_leadsBy_ok, mm_ctok_J ctRX8_ok⟩
  unfold fX8_leadsBy at h
  split at h
  · obtain ⟨hb, h⟩ := mm_chk_e h
    cases (Nat.eq_of_beq_eq_true hb)
    exact ⟨Nat.le_of_ble_eq_true rfl, mm_Zb Z 41 0 [(12, qX8_leadsBy_12 (fun v1 v2 v3 v4 M => ∃ j, bX8_leadsBy_12 j v1 v2 v3 v4 M (fun r M => Q (some (.inl r)) M)))] (mm_fa1 (fun ls st M h => okX8_leadsBy_12x Z  ls st M h) mm_fa0) h⟩
  · exact h.elim
def kX8_leads : List mm_E := [(0, false, .aload_n 0, []), (1, false, .iload_n 1, []), (2, false, .invokevirtual 229, []), (5, false, .ifCond .eq 11, [16]), (8, false, .aload_n 0, []), (9, false, .iload_n 1, []), (10, false, .invokevirtual 320, []), (13, false, .goto 5, [18]), (16, false, .bipush (-101), []), (18, false, .ireturn, [])]
set_option maxRecDepth 20000 in
theorem kX8_leads_ok : mm_cok cX8_leads RX8 (mm_ctt ctRX8) kX8_leads := mm_c_of (k := false) ctRX8_ok (by decide +kernel)
set_option maxRecDepth 20000 in
theorem wX8_leads : ∀ w ∈ ([.instanceMethod yX8_leads, .selects RX8 yX8_leads yX8_leads, .initialized RX8, .code yX8_leads cX8_leads 2 (some .int)] : List Cond), w ∈ mm_tbl := mm_sub_at _ [1405, 1406, 112, 1407] (by decide +kernel) (by decide +kernel)
def vtX8_leads : List (Nat × Nat × Nat × mm_F) := [(229, 8, 2, fX8_isPlayer), (320, 8, 2, fX8_leadsBy)]
def smX8_leads : List (Nat × Nat × Nat × mm_F) := []
def ZX8_leads (p : Program) (l : Launch) (e : Env) (s : State) (m : MethodId) (args : Array Value) (below : List Frame) (meth : Method) (c : Code) (cA : Nat → ClassId) (ad : Nat → Nat) (D : va_G) (A : Nat → Prop) : Prop := mm_Z p l e (mm_rm 9) s m args below meth c lay_m cA ad D A RX8 cX8_leads 2 1 (mm_flt flRX8) (mm_clt (vtX8_leads)) (mm_clt (smX8_leads)) (mm_ctt ctRX8) kX8_leads
theorem okX8_leads : mm_Ok lay_m yX8_leads cX8_leads 2 (some .int) 9 fX8_leads := by
  refine mm_enter (rt := 1) (by decide +kernel) rfl ?_
  intro p l e s m args below meth c cA ad D A as M Q h C0
  have Z : ZX8_leads p l e s m args below meth c cA ad D A := ⟨C0, flRX8_ok, mm_vt_of (mm_fa1 (mm_coV (n := 1) (ci := 8) C0 okX8_isPlayer rfl rfl (mm_one_at (.methodLink RX8 229 yX8_isPlayer) 1274 (by decide +kernel) rfl) (wX8_isPlayer _ (by simp)) (wX8_isPlayer _ (by simp [yX8_isPlayer])) (wX8_isPlayer _ (by simp [yX8_isPlayer])) (wX8_isPlayer _ (by simp)) (by decide +kernel) (by omega) (by omega)) (mm_fa1 (mm_coV (n := 1) (ci := 8) C0 okX8_leadsBy rfl rfl (mm_one_at (.methodLink RX8 320 yX8_leadsBy) 1408 (by decide +kernel) rfl) (wX8_leadsBy _ (by simp)) (wX8_leadsBy _ (by simp [yX8_leadsBy])) (wX8_leadsBy _ (by simp [yX8_leadsBy])) (wX8_leadsBy _ (by simp)) (by decide +kernel) (by omega) (by omega)) (mm_fa0))), mm_vt_of (mm_fa0), kX8_leads_ok, mm_ctok_J ctRX8_ok⟩
  unfold fX8_leads at h
  split at h
  · obtain ⟨hb, h⟩ := mm_chk_e h
    cases (Nat.eq_of_beq_eq_true hb)
    exact ⟨Nat.le_of_ble_eq_true rfl, mm_Zb Z 13 0 [] mm_fa0 h⟩
  · exact h.elim
def kX8_follow : List mm_E := [(0, false, .aload_n 0, []), (1, false, .iload_n 1, []), (2, false, .invokevirtual 229, []), (5, false, .ifCond .eq 16, [21]), (8, false, .aload_n 0, []), (9, false, .iload_n 1, []), (10, false, .aload_n 0, []), (11, false, .iload_n 1, []), (12, false, .invokevirtual 320, []), (15, false, .invokevirtual 314, []), (18, false, .goto 5, [23]), (21, false, .bipush (-101), []), (23, false, .ireturn, [])]
set_option maxRecDepth 20000 in
theorem kX8_follow_ok : mm_cok cX8_follow RX8 (mm_ctt ctRX8) kX8_follow := mm_c_of (k := false) ctRX8_ok (by decide +kernel)
set_option maxRecDepth 20000 in
theorem wX8_follow : ∀ w ∈ ([.instanceMethod yX8_follow, .selects RX8 yX8_follow yX8_follow, .initialized RX8, .code yX8_follow cX8_follow 2 (some .int)] : List Cond), w ∈ mm_tbl := mm_sub_at _ [1413, 1414, 112, 1415] (by decide +kernel) (by decide +kernel)
def vtX8_follow : List (Nat × Nat × Nat × mm_F) := [(229, 8, 2, fX8_isPlayer), (320, 8, 2, fX8_leadsBy), (314, 8, 3, fX8_ledBy)]
def smX8_follow : List (Nat × Nat × Nat × mm_F) := []
def ZX8_follow (p : Program) (l : Launch) (e : Env) (s : State) (m : MethodId) (args : Array Value) (below : List Frame) (meth : Method) (c : Code) (cA : Nat → ClassId) (ad : Nat → Nat) (D : va_G) (A : Nat → Prop) : Prop := mm_Z p l e (mm_rm 9) s m args below meth c lay_m cA ad D A RX8 cX8_follow 2 1 (mm_flt flRX8) (mm_clt (vtX8_follow)) (mm_clt (smX8_follow)) (mm_ctt ctRX8) kX8_follow
theorem okX8_follow : mm_Ok lay_m yX8_follow cX8_follow 2 (some .int) 9 fX8_follow := by
  refine mm_enter (rt := 1) (by decide +kernel) rfl ?_
  intro p l e s m args below meth c cA ad D A as M Q h C0
  have Z : ZX8_follow p l e s m args below meth c cA ad D A := ⟨C0, flRX8_ok, mm_vt_of (mm_fa1 (mm_coV (n := 1) (ci := 8) C0 okX8_isPlayer rfl rfl (mm_one_at (.methodLink RX8 229 yX8_isPlayer) 1274 (by decide +kernel) rfl) (wX8_isPlayer _ (by simp)) (wX8_isPlayer _ (by simp [yX8_isPlayer])) (wX8_isPlayer _ (by simp [yX8_isPlayer])) (wX8_isPlayer _ (by simp)) (by decide +kernel) (by omega) (by omega)) (mm_fa1 (mm_coV (n := 1) (ci := 8) C0 okX8_leadsBy rfl rfl (mm_one_at (.methodLink RX8 320 yX8_leadsBy) 1408 (by decide +kernel) rfl) (wX8_leadsBy _ (by simp)) (wX8_leadsBy _ (by simp [yX8_leadsBy])) (wX8_leadsBy _ (by simp [yX8_leadsBy])) (wX8_leadsBy _ (by simp)) (by decide +kernel) (by omega) (by omega)) (mm_fa1 (mm_coV (n := 2) (ci := 8) C0 okX8_ledBy rfl rfl (mm_one_at (.methodLink RX8 314 yX8_ledBy) 1400 (by decide +kernel) rfl) (wX8_ledBy _ (by simp)) (wX8_ledBy _ (by simp [yX8_ledBy])) (wX8_ledBy _ (by simp [yX8_ledBy])) (wX8_ledBy _ (by simp)) (by decide +kernel) (by omega) (by omega)) (mm_fa0)))), mm_vt_of (mm_fa0), kX8_follow_ok, mm_ctok_J ctRX8_ok⟩
  unfold fX8_follow at h
  split at h
  · obtain ⟨hb, h⟩ := mm_chk_e h
    cases (Nat.eq_of_beq_eq_true hb)
    exact ⟨Nat.le_of_ble_eq_true rfl, mm_Zb Z 16 0 [] mm_fa0 h⟩
  · exact h.elim
def kX8_lane : List mm_E := [(0, false, .iload_n 1, []), (1, false, .iconst 0, []), (2, false, .bipush 20, []), (4, false, .invokestatic 105, []), (7, false, .ifCond .eq 18, [25]), (10, false, .iload_n 2, []), (11, false, .iconst 1, []), (12, false, .if_icmp .eq 16, [28]), (15, false, .iload_n 2, []), (16, false, .iconst 2, []), (17, false, .if_icmp .eq 11, [28]), (20, false, .iload_n 2, []), (21, false, .iconst 4, []), (22, false, .if_icmp .eq 6, [28]), (25, false, .bipush (-102), []), (27, false, .ireturn, []), (28, true, .aload_n 0, []), (29, false, .getfield 323, []), (32, false, .iconst 5, []), (33, false, .if_icmp .ne 6, [39]), (36, false, .bipush (-104), []), (38, false, .ireturn, []), (39, false, .aload_n 0, []), (40, false, .getfield 43, []), (43, false, .aload_n 0, []), (44, false, .getfield 323, []), (47, false, .iload_n 1, []), (48, false, .iastore, []), (49, false, .aload_n 0, []), (50, false, .getfield 46, []), (53, false, .aload_n 0, []), (54, false, .getfield 323, []), (57, false, .iload_n 2, []), (58, false, .iastore, []), (59, false, .aload_n 0, []), (60, false, .dup, []), (61, false, .getfield 323, []), (64, false, .iconst 1, []), (65, false, .iadd, []), (66, false, .putfield 323, []), (69, false, .aload_n 0, []), (70, false, .getfield 323, []), (73, false, .iconst 1, []), (74, false, .isub, []), (75, false, .ireturn, [])]
set_option maxRecDepth 20000 in
theorem kX8_lane_ok : mm_cok cX8_lane RX8 (mm_ctt ctRX8) kX8_lane := mm_c_of (k := false) ctRX8_ok (by decide +kernel)
set_option maxRecDepth 20000 in
theorem wX8_lane : ∀ w ∈ ([.instanceMethod yX8_lane, .selects RX8 yX8_lane yX8_lane, .initialized RX8, .code yX8_lane cX8_lane 3 (some .int)] : List Cond), w ∈ mm_tbl := mm_sub_at _ [1417, 1418, 112, 1419] (by decide +kernel) (by decide +kernel)
def vtX8_lane : List (Nat × Nat × Nat × mm_F) := []
def smX8_lane : List (Nat × Nat × Nat × mm_F) := [(105, 0, 3, fX8_within)]
def ZX8_lane (p : Program) (l : Launch) (e : Env) (s : State) (m : MethodId) (args : Array Value) (below : List Frame) (meth : Method) (c : Code) (cA : Nat → ClassId) (ad : Nat → Nat) (D : va_G) (A : Nat → Prop) : Prop := mm_Z p l e (mm_rm 1) s m args below meth c lay_m cA ad D A RX8 cX8_lane 3 1 (mm_flt flRX8) (mm_clt (vtX8_lane)) (mm_clt (smX8_lane)) (mm_ctt ctRX8) kX8_lane
def qX8_lane_28 (P : Int → Int → mm_M → Prop) : mm_K := fun ls st M => match ls, st with
  | [some (.inr (.inr c0)), some (.inl v1), some (.inl v2)], [] => mm_chk (Nat.beq c0 0) (P v1 v2 M)
  | _, _ => False
theorem okX8_lane_28 {p : Program} {l : Launch} {e : Env} {s : State} {m : MethodId} {args : Array Value} {below : List Frame} {meth : Method} {c : Code} {cA : Nat → ClassId} {ad : Nat → Nat} {D : va_G} {A : Nat → Prop} {Q : Option mm_V → mm_M → Prop} (Z : ZX8_lane p l e s m args below meth c cA ad D A) : ∀ ls st M, qX8_lane_28 (fun v1 v2 M => bX8_lane_28 v1 v2 M (fun r M => Q (some (.inl r)) M)) ls st M → mm_G p l e (mm_rm 1) s m args below meth c lay_m cA ad D A 3 Q 28 ls st M := by
  intro ls st M h
  unfold qX8_lane_28 at h
  split at h
  · obtain ⟨hb, h⟩ := mm_chk_e h
    cases (Nat.eq_of_beq_eq_true hb)
    exact mm_Zb Z 48 28 [] mm_fa0 h
  · exact h.elim
theorem okX8_lane : mm_Ok lay_m yX8_lane cX8_lane 3 (some .int) 1 fX8_lane := by
  refine mm_enter (rt := 1) (by decide +kernel) rfl ?_
  intro p l e s m args below meth c cA ad D A as M Q h C0
  have Z : ZX8_lane p l e s m args below meth c cA ad D A := ⟨C0, flRX8_ok, mm_vt_of (mm_fa0), mm_vt_of (mm_fa1 (mm_coS (n := 3) C0 okX8_within (mm_one_at (.methodLink RX8 105 yX8_within) 1123 (by decide +kernel) rfl) (wX8_within _ (by simp)) (wX8_within _ (by simp [yX8_within])) (wX8_within _ (by simp)) (by decide +kernel) (by omega) (by omega)) (mm_fa0)), kX8_lane_ok, mm_ctok_J ctRX8_ok⟩
  unfold fX8_lane at h
  split at h
  · obtain ⟨hb, h⟩ := mm_chk_e h
    cases (Nat.eq_of_beq_eq_true hb)
    exact ⟨Nat.le_of_ble_eq_true rfl, mm_Zb Z 48 0 [(28, qX8_lane_28 (fun v1 v2 M => bX8_lane_28 v1 v2 M (fun r M => Q (some (.inl r)) M)))] (mm_fa1 (fun ls st M h => okX8_lane_28 Z  ls st M h) mm_fa0) h⟩
  · exact h.elim
def kX8_clear : List mm_E := [(0, false, .aload_n 0, []), (1, false, .getfield 323, []), (4, false, .istore_n 1, []), (5, false, .aload_n 0, []), (6, false, .iconst 0, []), (7, false, .putfield 323, []), (10, false, .iload_n 1, []), (11, false, .ireturn, [])]
set_option maxRecDepth 20000 in
theorem kX8_clear_ok : mm_cok cX8_clear RX8 (mm_ctt ctRX8) kX8_clear := mm_c_of (k := false) ctRX8_ok (by decide +kernel)
set_option maxRecDepth 20000 in
theorem wX8_clear : ∀ w ∈ ([.instanceMethod yX8_clear, .selects RX8 yX8_clear yX8_clear, .initialized RX8, .code yX8_clear cX8_clear 2 (some .int)] : List Cond), w ∈ mm_tbl := mm_sub_at _ [1421, 1422, 112, 1423] (by decide +kernel) (by decide +kernel)
def vtX8_clear : List (Nat × Nat × Nat × mm_F) := []
def smX8_clear : List (Nat × Nat × Nat × mm_F) := []
def ZX8_clear (p : Program) (l : Launch) (e : Env) (s : State) (m : MethodId) (args : Array Value) (below : List Frame) (meth : Method) (c : Code) (cA : Nat → ClassId) (ad : Nat → Nat) (D : va_G) (A : Nat → Prop) : Prop := mm_Z p l e (mm_rm 0) s m args below meth c lay_m cA ad D A RX8 cX8_clear 2 1 (mm_flt flRX8) (mm_clt (vtX8_clear)) (mm_clt (smX8_clear)) (mm_ctt ctRX8) kX8_clear
theorem okX8_clear : mm_Ok lay_m yX8_clear cX8_clear 2 (some .int) 0 fX8_clear := by
  refine mm_enter (rt := 1) (by decide +kernel) rfl ?_
  intro p l e s m args below meth c cA ad D A as M Q h C0
  have Z : ZX8_clear p l e s m args below meth c cA ad D A := ⟨C0, flRX8_ok, mm_vt_of (mm_fa0), mm_vt_of (mm_fa0), kX8_clear_ok, mm_ctok_J ctRX8_ok⟩
  unfold fX8_clear at h
  split at h
  · obtain ⟨hb, h⟩ := mm_chk_e h
    cases (Nat.eq_of_beq_eq_true hb)
    exact ⟨Nat.le_of_ble_eq_true rfl, mm_Zb Z 11 0 [] mm_fa0 h⟩
  · exact h.elim
def kX8_stream : List mm_E := [(0, false, .iload_n 1, []), (1, false, .iconst 1, []), (2, false, .bipush 40, []), (4, false, .invokestatic 105, []), (7, false, .ifCond .ne 6, [13]), (10, false, .bipush (-102), []), (12, false, .ireturn, []), (13, false, .aload_n 0, []), (14, false, .getfield 49, []), (17, false, .istore_n 2, []), (18, false, .aload_n 0, []), (19, false, .iload_n 1, []), (20, false, .putfield 49, []), (23, false, .iload_n 2, []), (24, false, .ireturn, [])]
set_option maxRecDepth 20000 in
theorem kX8_stream_ok : mm_cok cX8_stream RX8 (mm_ctt ctRX8) kX8_stream := mm_c_of (k := false) ctRX8_ok (by decide +kernel)
set_option maxRecDepth 20000 in
theorem wX8_stream : ∀ w ∈ ([.instanceMethod yX8_stream, .selects RX8 yX8_stream yX8_stream, .initialized RX8, .code yX8_stream cX8_stream 3 (some .int)] : List Cond), w ∈ mm_tbl := mm_sub_at _ [1425, 1426, 112, 1427] (by decide +kernel) (by decide +kernel)
def vtX8_stream : List (Nat × Nat × Nat × mm_F) := []
def smX8_stream : List (Nat × Nat × Nat × mm_F) := [(105, 0, 3, fX8_within)]
def ZX8_stream (p : Program) (l : Launch) (e : Env) (s : State) (m : MethodId) (args : Array Value) (below : List Frame) (meth : Method) (c : Code) (cA : Nat → ClassId) (ad : Nat → Nat) (D : va_G) (A : Nat → Prop) : Prop := mm_Z p l e (mm_rm 1) s m args below meth c lay_m cA ad D A RX8 cX8_stream 3 1 (mm_flt flRX8) (mm_clt (vtX8_stream)) (mm_clt (smX8_stream)) (mm_ctt ctRX8) kX8_stream
theorem okX8_stream : mm_Ok lay_m yX8_stream cX8_stream 3 (some .int) 1 fX8_stream := by
  refine mm_enter (rt := 1) (by decide +kernel) rfl ?_
  intro p l e s m args below meth c cA ad D A as M Q h C0
  have Z : ZX8_stream p l e s m args below meth c cA ad D A := ⟨C0, flRX8_ok, mm_vt_of (mm_fa0), mm_vt_of (mm_fa1 (mm_coS (n := 3) C0 okX8_within (mm_one_at (.methodLink RX8 105 yX8_within) 1123 (by decide +kernel) rfl) (wX8_within _ (by simp)) (wX8_within _ (by simp [yX8_within])) (wX8_within _ (by simp)) (by decide +kernel) (by omega) (by omega)) (mm_fa0)), kX8_stream_ok, mm_ctok_J ctRX8_ok⟩
  unfold fX8_stream at h
  split at h
  · obtain ⟨hb, h⟩ := mm_chk_e h
    cases (Nat.eq_of_beq_eq_true hb)
    exact ⟨Nat.le_of_ble_eq_true rfl, mm_Zb Z 18 0 [] mm_fa0 h⟩
  · exact h.elim
def kX8_share : List mm_E := [(0, false, .iload_n 1, []), (1, false, .iconst 0, []), (2, false, .bipush 10, []), (4, false, .invokestatic 105, []), (7, false, .ifCond .ne 6, [13]), (10, false, .bipush (-102), []), (12, false, .ireturn, []), (13, false, .aload_n 0, []), (14, false, .getfield 53, []), (17, false, .istore_n 2, []), (18, false, .aload_n 0, []), (19, false, .iload_n 1, []), (20, false, .putfield 53, []), (23, false, .iload_n 2, []), (24, false, .ireturn, [])]
set_option maxRecDepth 20000 in
theorem kX8_share_ok : mm_cok cX8_share RX8 (mm_ctt ctRX8) kX8_share := mm_c_of (k := false) ctRX8_ok (by decide +kernel)
set_option maxRecDepth 20000 in
theorem wX8_share : ∀ w ∈ ([.instanceMethod yX8_share, .selects RX8 yX8_share yX8_share, .initialized RX8, .code yX8_share cX8_share 3 (some .int)] : List Cond), w ∈ mm_tbl := mm_sub_at _ [1429, 1430, 112, 1431] (by decide +kernel) (by decide +kernel)
def vtX8_share : List (Nat × Nat × Nat × mm_F) := []
def smX8_share : List (Nat × Nat × Nat × mm_F) := [(105, 0, 3, fX8_within)]
def ZX8_share (p : Program) (l : Launch) (e : Env) (s : State) (m : MethodId) (args : Array Value) (below : List Frame) (meth : Method) (c : Code) (cA : Nat → ClassId) (ad : Nat → Nat) (D : va_G) (A : Nat → Prop) : Prop := mm_Z p l e (mm_rm 1) s m args below meth c lay_m cA ad D A RX8 cX8_share 3 1 (mm_flt flRX8) (mm_clt (vtX8_share)) (mm_clt (smX8_share)) (mm_ctt ctRX8) kX8_share
theorem okX8_share : mm_Ok lay_m yX8_share cX8_share 3 (some .int) 1 fX8_share := by
  refine mm_enter (rt := 1) (by decide +kernel) rfl ?_
  intro p l e s m args below meth c cA ad D A as M Q h C0
  have Z : ZX8_share p l e s m args below meth c cA ad D A := ⟨C0, flRX8_ok, mm_vt_of (mm_fa0), mm_vt_of (mm_fa1 (mm_coS (n := 3) C0 okX8_within (mm_one_at (.methodLink RX8 105 yX8_within) 1123 (by decide +kernel) rfl) (wX8_within _ (by simp)) (wX8_within _ (by simp [yX8_within])) (wX8_within _ (by simp)) (by decide +kernel) (by omega) (by omega)) (mm_fa0)), kX8_share_ok, mm_ctok_J ctRX8_ok⟩
  unfold fX8_share at h
  split at h
  · obtain ⟨hb, h⟩ := mm_chk_e h
    cases (Nat.eq_of_beq_eq_true hb)
    exact ⟨Nat.le_of_ble_eq_true rfl, mm_Zb Z 18 0 [] mm_fa0 h⟩
  · exact h.elim
def kX8_weight : List mm_E := [(0, false, .iconst 4, []), (1, false, .aload_n 0, []), (2, false, .getfield 46, []), (5, false, .iload_n 1, []), (6, false, .iaload, []), (7, false, .idiv, []), (8, false, .ireturn, [])]
set_option maxRecDepth 20000 in
theorem kX8_weight_ok : mm_cok cX8_weight RX8 (mm_ctt ctRX8) kX8_weight := mm_c_of (k := false) ctRX8_ok (by decide +kernel)
set_option maxRecDepth 20000 in
theorem wX8_weight : ∀ w ∈ ([.instanceMethod yX8_weight, .selects RX8 yX8_weight yX8_weight, .initialized RX8, .code yX8_weight cX8_weight 2 (some .int)] : List Cond), w ∈ mm_tbl := mm_sub_at _ [1459, 85, 112, 1460] (by decide +kernel) (by decide +kernel)
def vtX8_weight : List (Nat × Nat × Nat × mm_F) := []
def smX8_weight : List (Nat × Nat × Nat × mm_F) := []
def ZX8_weight (p : Program) (l : Launch) (e : Env) (s : State) (m : MethodId) (args : Array Value) (below : List Frame) (meth : Method) (c : Code) (cA : Nat → ClassId) (ad : Nat → Nat) (D : va_G) (A : Nat → Prop) : Prop := mm_Z p l e (mm_rm 0) s m args below meth c lay_m cA ad D A RX8 cX8_weight 2 1 (mm_flt flRX8) (mm_clt (vtX8_weight)) (mm_clt (smX8_weight)) (mm_ctt ctRX8) kX8_weight
theorem okX8_weight : mm_Ok lay_m yX8_weight cX8_weight 2 (some .int) 0 fX8_weight := by
  refine mm_enter (rt := 1) (by decide +kernel) rfl ?_
  intro p l e s m args below meth c cA ad D A as M Q h C0
  have Z : ZX8_weight p l e s m args below meth c cA ad D A := ⟨C0, flRX8_ok, mm_vt_of (mm_fa0), mm_vt_of (mm_fa0), kX8_weight_ok, mm_ctok_J ctRX8_ok⟩
  unfold fX8_weight at h
  split at h
  · obtain ⟨hb, h⟩ := mm_chk_e h
    cases (Nat.eq_of_beq_eq_true hb)
    exact ⟨Nat.le_of_ble_eq_true rfl, mm_Zb Z 10 0 [] mm_fa0 h⟩
  · exact h.elim
