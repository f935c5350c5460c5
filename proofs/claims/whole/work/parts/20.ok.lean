def kX8_isLevel : List mm_E := [(0, false, .ldc2_w 326, []), (3, false, .iload 6, []), (5, false, .i2l, []), (6, false, .lmul, []), (7, false, .lload_n 2, []), (8, false, .lmul, []), (9, false, .lstore 7, []), (11, false, .lconst 0, []), (12, false, .lstore 9, []), (14, false, .iconst 0, []), (15, false, .istore 11, []), (17, true, .iload 11, []), (19, false, .aload_n 0, []), (20, false, .getfield 323, []), (23, false, .if_icmp .ge 76, [99]), (26, false, .iload_n 1, []), (27, false, .iload 11, []), (29, false, .ishr, []), (30, false, .iconst 1, []), (31, false, .iand, []), (32, false, .iconst 1, []), (33, false, .if_icmp .ne 7, [40]), (36, false, .iconst 1, []), (37, false, .goto 4, [41]), (40, false, .iconst 0, []), (41, true, .istore 12, []), (43, false, .lload 7, []), (45, false, .iload 12, []), (47, false, .ifCond .eq 21, [68]), (50, false, .aload_n 0, []), (51, false, .iload 11, []), (53, false, .invokevirtual 328, []), (56, false, .i2l, []), (57, false, .aload_n 0, []), (58, false, .getfield 89, []), (61, false, .iload 11, []), (63, false, .laload, []), (64, false, .lmul, []), (65, false, .goto 4, [69]), (68, false, .lconst 0, []), (69, true, .ladd, []), (70, false, .lstore 7, []), (72, false, .lload 9, []), (74, false, .iload 12, []), (76, false, .ifCond .eq 13, [89]), (79, false, .aload_n 0, []), (80, false, .iload 11, []), (82, false, .invokevirtual 328, []), (85, false, .i2l, []), (86, false, .goto 4, [90]), (89, false, .lconst 0, []), (90, false, .ladd, []), (91, false, .lstore 9, []), (93, false, .iinc 11 1, []), (96, false, .goto (-79), [17]), (99, false, .aload_n 0, []), (100, false, .lload 7, []), (102, false, .putfield 331, []), (105, false, .aload_n 0, []), (106, false, .lload 4, []), (108, false, .lload 9, []), (110, false, .lmul, []), (111, false, .putfield 335, []), (114, false, .iconst 1, []), (115, false, .istore 11, []), (117, false, .iconst 0, []), (118, false, .istore 12, []), (120, true, .iload 12, []), (122, false, .aload_n 0, []), (123, false, .getfield 323, []), (126, false, .if_icmp .ge 64, [190]), (129, false, .iload_n 1, []), (130, false, .iload 12, []), (132, false, .ishr, []), (133, false, .iconst 1, []), (134, false, .iand, []), (135, false, .iconst 1, []), (136, false, .if_icmp .ne 7, [143]), (139, false, .iconst 1, []), (140, false, .goto 4, [144]), (143, false, .iconst 0, []), (144, true, .istore 13, []), (146, false, .iload 11, []), (148, false, .ifCond .eq 33, [181]), (151, false, .lload 7, []), (153, false, .aload_n 0, []), (154, false, .getfield 89, []), (157, false, .iload 12, []), (159, false, .laload, []), (160, false, .lload 9, []), (162, false, .lmul, []), (163, false, .lcmp, []), (164, false, .ifCond .le 7, [171]), (167, false, .iconst 1, []), (168, false, .goto 4, [172]), (171, false, .iconst 0, []), (172, false, .iload 13, []), (174, false, .if_icmp .ne 7, [181]), (177, false, .iconst 1, []), (178, false, .goto 4, [182]), (181, false, .iconst 0, []), (182, false, .istore 11, []), (184, false, .iinc 12 1, []), (187, false, .goto (-67), [120]), (190, false, .iload 11, []), (192, false, .ireturn, [])]
set_option maxRecDepth 20000 in
theorem kX8_isLevel_ok : mm_cok cX8_isLevel RX8 (mm_ctt ctRX8) kX8_isLevel := mm_c_of (k := false) ctRX8_ok (by decide +kernel)
set_option maxRecDepth 20000 in
theorem wX8_isLevel : ∀ w ∈ ([.instanceMethod yX8_isLevel, .selects RX8 yX8_isLevel yX8_isLevel, .initialized RX8, .code yX8_isLevel cX8_isLevel 14 (some .boolean)] : List Cond), w ∈ mm_tbl := mm_sub_at _ [1454, 84, 112, 1455] (by decide +kernel) (by decide +kernel)
def vtX8_isLevel : List (Nat × Nat × Nat × mm_F) := [(328, 8, 2, fX8_weight)]
def smX8_isLevel : List (Nat × Nat × Nat × mm_F) := []
def ZX8_isLevel (p : Program) (l : Launch) (e : Env) (s : State) (m : MethodId) (args : Array Value) (below : List Frame) (meth : Method) (c : Code) (cA : Nat → ClassId) (ad : Nat → Nat) (D : va_G) (A : Nat → Prop) : Prop := mm_Z p l e (mm_rm 1) s m args below meth c lay_m cA ad D A RX8 cX8_isLevel 14 2 (mm_flt flRX8) (mm_clt (vtX8_isLevel)) (mm_clt (smX8_isLevel)) (mm_ctt ctRX8) kX8_isLevel
def qX8_isLevel_144 (P : Int → Int → Int → Int → Int → Int → Int → mm_M → Prop) : mm_K := fun ls st M => match ls, st with
  | [some (.inr (.inr c0)), some (.inl v1), _, none, _, none, some (.inl v6), some (.inr (.inl v7)), none, some (.inr (.inl v9)), none, some (.inl v11), some (.inl v12), _], [.inl w0] => mm_chk (Nat.beq c0 0) (P v1 v6 v7 v9 v11 v12 w0 M)
  | _, _ => False
def qX8_isLevel_120 (P : Int → Int → Int → Int → Int → Int → mm_M → Prop) : mm_K := fun ls st M => match ls, st with
  | [some (.inr (.inr c0)), some (.inl v1), _, none, _, none, some (.inl v6), some (.inr (.inl v7)), none, some (.inr (.inl v9)), none, some (.inl v11), some (.inl v12), _], [] => mm_chk (Nat.beq c0 0) (P v1 v6 v7 v9 v11 v12 M)
  | _, _ => False
def qX8_isLevel_69 (P : Int → Int → Int → Int → Int → Int → Int → Int → mm_M → Prop) : mm_K := fun ls st M => match ls, st with
  | [some (.inr (.inr c0)), some (.inl v1), _, none, some (.inr (.inl v4)), none, some (.inl v6), _, none, some (.inr (.inl v9)), none, some (.inl v11), some (.inl v12), none], [.inr (.inl w0), .inr (.inl w1)] => mm_chk (Nat.beq c0 0) (P v1 v4 v6 v9 v11 v12 w0 w1 M)
  | _, _ => False
def qX8_isLevel_41 (P : Int → Int → Int → Int → Int → Int → Int → mm_M → Prop) : mm_K := fun ls st M => match ls, st with
  | [some (.inr (.inr c0)), some (.inl v1), _, none, some (.inr (.inl v4)), none, some (.inl v6), some (.inr (.inl v7)), none, some (.inr (.inl v9)), none, some (.inl v11), _, none], [.inl w0] => mm_chk (Nat.beq c0 0) (P v1 v4 v6 v7 v9 v11 w0 M)
  | _, _ => False
def qX8_isLevel_17 (P : Int → Int → Int → Int → Int → Int → mm_M → Prop) : mm_K := fun ls st M => match ls, st with
  | [some (.inr (.inr c0)), some (.inl v1), _, none, some (.inr (.inl v4)), none, some (.inl v6), some (.inr (.inl v7)), none, some (.inr (.inl v9)), none, some (.inl v11), _, none], [] => mm_chk (Nat.beq c0 0) (P v1 v4 v6 v7 v9 v11 M)
  | _, _ => False
set_option maxRecDepth 100000 in
theorem okX8_isLevel_144 {p : Program} {l : Launch} {e : Env} {s : State} {m : MethodId} {args : Array Value} {below : List Frame} {meth : Method} {c : Code} {cA : Nat → ClassId} {ad : Nat → Nat} {D : va_G} {A : Nat → Prop} {Q : Option mm_V → mm_M → Prop} (Z : ZX8_isLevel p l e s m args below meth c cA ad D A) {K120 : Int → Int → Int → Int → Int → Int → mm_M → Prop} (hk120 : ∀ ls st M, qX8_isLevel_120 K120 ls st M → mm_G p l e (mm_rm 1) s m args below meth c lay_m cA ad D A 14 Q 120 ls st M) : ∀ ls st M, qX8_isLevel_144 (fun v1 v6 v7 v9 v11 v12 w0 M => bX8_isLevel_144 K120 v1 v6 v7 v9 v11 v12 w0 M (fun r M => Q (some (.inl r)) M)) ls st M → mm_G p l e (mm_rm 1) s m args below meth c lay_m cA ad D A 14 Q 144 ls st M := by
  intro ls st M h
  unfold qX8_isLevel_144 at h
  split at h
  · obtain ⟨hb, h⟩ := mm_chk_e h
    cases (Nat.eq_of_beq_eq_true hb)
    exact mm_Zb Z 109 144 [(120, qX8_isLevel_120 (K120))] (mm_fa1 hk120 mm_fa0) h
  · exact h.elim
set_option maxRecDepth 100000 in
theorem okX8_isLevel_120 {p : Program} {l : Launch} {e : Env} {s : State} {m : MethodId} {args : Array Value} {below : List Frame} {meth : Method} {c : Code} {cA : Nat → ClassId} {ad : Nat → Nat} {D : va_G} {A : Nat → Prop} {Q : Option mm_V → mm_M → Prop} (Z : ZX8_isLevel p l e s m args below meth c cA ad D A) : ∀ (n : Nat) ls st M, qX8_isLevel_120 (fun v1 v6 v7 v9 v11 v12 M => bX8_isLevel_120 n v1 v6 v7 v9 v11 v12 M (fun r M => Q (some (.inl r)) M)) ls st M → mm_G p l e (mm_rm 1) s m args below meth c lay_m cA ad D A 14 Q 120 ls st M
  | 0, ls, st, M, h => by
    unfold qX8_isLevel_120 at h
    split at h
    · obtain ⟨hb, h⟩ := mm_chk_e h
      cases (Nat.eq_of_beq_eq_true hb)
      exact h.elim
    · exact h.elim
  | n + 1, ls, st, M, h => by
    have ih := okX8_isLevel_120 (Q := Q) Z  n
    unfold qX8_isLevel_120 at h
    split at h
    · obtain ⟨hb, h⟩ := mm_chk_e h
      cases (Nat.eq_of_beq_eq_true hb)
      exact mm_Zb Z 109 120 [(144, qX8_isLevel_144 (fun v1 v6 v7 v9 v11 v12 w0 M => bX8_isLevel_144 (fun v1 v6 v7 v9 v11 v12 M => bX8_isLevel_120 n v1 v6 v7 v9 v11 v12 M (fun r M => Q (some (.inl r)) M)) v1 v6 v7 v9 v11 v12 w0 M (fun r M => Q (some (.inl r)) M)))] (mm_fa1 (fun ls st M h => okX8_isLevel_144 Z (ih) ls st M h) mm_fa0) h
    · exact h.elim
set_option maxRecDepth 100000 in
theorem okX8_isLevel_120x {p : Program} {l : Launch} {e : Env} {s : State} {m : MethodId} {args : Array Value} {below : List Frame} {meth : Method} {c : Code} {cA : Nat → ClassId} {ad : Nat → Nat} {D : va_G} {A : Nat → Prop} {Q : Option mm_V → mm_M → Prop} (Z : ZX8_isLevel p l e s m args below meth c cA ad D A) : ∀ ls st M, qX8_isLevel_120 (fun v1 v6 v7 v9 v11 v12 M => ∃ j, bX8_isLevel_120 j v1 v6 v7 v9 v11 v12 M (fun r M => Q (some (.inl r)) M)) ls st M → mm_G p l e (mm_rm 1) s m args below meth c lay_m cA ad D A 14 Q 120 ls st M := by
  intro ls st M h
  have hex : ∃ n, qX8_isLevel_120 (fun v1 v6 v7 v9 v11 v12 M => bX8_isLevel_120 n v1 v6 v7 v9 v11 v12 M (fun r M => Q (some (.inl r)) M)) ls st M := by
    unfold qX8_isLevel_120 at h
    split at h
    · obtain ⟨hb, h⟩ := mm_chk_e h
      cases (Nat.eq_of_beq_eq_true hb)
      obtain ⟨n, h⟩ := h
      exact ⟨n, h⟩
    · exact h.elim
  obtain ⟨n, hex⟩ := hex
  exact okX8_isLevel_120 Z  n ls st M hex
set_option maxRecDepth 100000 in
theorem okX8_isLevel_69 {p : Program} {l : Launch} {e : Env} {s : State} {m : MethodId} {args : Array Value} {below : List Frame} {meth : Method} {c : Code} {cA : Nat → ClassId} {ad : Nat → Nat} {D : va_G} {A : Nat → Prop} {Q : Option mm_V → mm_M → Prop} (Z : ZX8_isLevel p l e s m args below meth c cA ad D A) {K17 : Int → Int → Int → Int → Int → Int → mm_M → Prop} (hk17 : ∀ ls st M, qX8_isLevel_17 K17 ls st M → mm_G p l e (mm_rm 1) s m args below meth c lay_m cA ad D A 14 Q 17 ls st M) : ∀ ls st M, qX8_isLevel_69 (fun v1 v4 v6 v9 v11 v12 w0 w1 M => bX8_isLevel_69 K17 v1 v4 v6 v9 v11 v12 w0 w1 M (fun r M => Q (some (.inl r)) M)) ls st M → mm_G p l e (mm_rm 1) s m args below meth c lay_m cA ad D A 14 Q 69 ls st M := by
  intro ls st M h
  unfold qX8_isLevel_69 at h
  split at h
  · obtain ⟨hb, h⟩ := mm_chk_e h
    cases (Nat.eq_of_beq_eq_true hb)
    exact mm_Zb Z 109 69 [(17, qX8_isLevel_17 (K17))] (mm_fa1 hk17 mm_fa0) h
  · exact h.elim
set_option maxRecDepth 100000 in
theorem okX8_isLevel_41 {p : Program} {l : Launch} {e : Env} {s : State} {m : MethodId} {args : Array Value} {below : List Frame} {meth : Method} {c : Code} {cA : Nat → ClassId} {ad : Nat → Nat} {D : va_G} {A : Nat → Prop} {Q : Option mm_V → mm_M → Prop} (Z : ZX8_isLevel p l e s m args below meth c cA ad D A) {K17 : Int → Int → Int → Int → Int → Int → mm_M → Prop} (hk17 : ∀ ls st M, qX8_isLevel_17 K17 ls st M → mm_G p l e (mm_rm 1) s m args below meth c lay_m cA ad D A 14 Q 17 ls st M) : ∀ ls st M, qX8_isLevel_41 (fun v1 v4 v6 v7 v9 v11 w0 M => bX8_isLevel_41 K17 v1 v4 v6 v7 v9 v11 w0 M (fun r M => Q (some (.inl r)) M)) ls st M → mm_G p l e (mm_rm 1) s m args below meth c lay_m cA ad D A 14 Q 41 ls st M := by
  intro ls st M h
  unfold qX8_isLevel_41 at h
  split at h
  · obtain ⟨hb, h⟩ := mm_chk_e h
    cases (Nat.eq_of_beq_eq_true hb)
    exact mm_Zb Z 109 41 [(69, qX8_isLevel_69 (fun v1 v4 v6 v9 v11 v12 w0 w1 M => bX8_isLevel_69 K17 v1 v4 v6 v9 v11 v12 w0 w1 M (fun r M => Q (some (.inl r)) M)))] (mm_fa1 (fun ls st M h => okX8_isLevel_69 Z hk17 ls st M h) mm_fa0) h
  · exact h.elim
set_option maxRecDepth 100000 in
theorem okX8_isLevel_17 {p : Program} {l : Launch} {e : Env} {s : State} {m : MethodId} {args : Array Value} {below : List Frame} {meth : Method} {c : Code} {cA : Nat → ClassId} {ad : Nat → Nat} {D : va_G} {A : Nat → Prop} {Q : Option mm_V → mm_M → Prop} (Z : ZX8_isLevel p l e s m args below meth c cA ad D A) : ∀ (n : Nat) ls st M, qX8_isLevel_17 (fun v1 v4 v6 v7 v9 v11 M => bX8_isLevel_17 n v1 v4 v6 v7 v9 v11 M (fun r M => Q (some (.inl r)) M)) ls st M → mm_G p l e (mm_rm 1) s m args below meth c lay_m cA ad D A 14 Q 17 ls st M
  | 0, ls, st, M, h => by
    unfold qX8_isLevel_17 at h
    split at h
    · obtain ⟨hb, h⟩ := mm_chk_e h
      cases (Nat.eq_of_beq_eq_true hb)
      exact h.elim
    · exact h.elim
  | n + 1, ls, st, M, h => by
    have ih := okX8_isLevel_17 (Q := Q) Z  n
    unfold qX8_isLevel_17 at h
    split at h
    · obtain ⟨hb, h⟩ := mm_chk_e h
      cases (Nat.eq_of_beq_eq_true hb)
      exact mm_Zb Z 109 17 [(41, qX8_isLevel_41 (fun v1 v4 v6 v7 v9 v11 w0 M => bX8_isLevel_41 (fun v1 v4 v6 v7 v9 v11 M => bX8_isLevel_17 n v1 v4 v6 v7 v9 v11 M (fun r M => Q (some (.inl r)) M)) v1 v4 v6 v7 v9 v11 w0 M (fun r M => Q (some (.inl r)) M))), (120, qX8_isLevel_120 (fun v1 v6 v7 v9 v11 v12 M => ∃ j, bX8_isLevel_120 j v1 v6 v7 v9 v11 v12 M (fun r M => Q (some (.inl r)) M)))] (mm_fa1 (fun ls st M h => okX8_isLevel_41 Z (ih) ls st M h) (mm_fa1 (fun ls st M h => okX8_isLevel_120x Z  ls st M h) mm_fa0)) h
    · exact h.elim
set_option maxRecDepth 100000 in
theorem okX8_isLevel_17x {p : Program} {l : Launch} {e : Env} {s : State} {m : MethodId} {args : Array Value} {below : List Frame} {meth : Method} {c : Code} {cA : Nat → ClassId} {ad : Nat → Nat} {D : va_G} {A : Nat → Prop} {Q : Option mm_V → mm_M → Prop} (Z : ZX8_isLevel p l e s m args below meth c cA ad D A) : ∀ ls st M, qX8_isLevel_17 (fun v1 v4 v6 v7 v9 v11 M => ∃ j, bX8_isLevel_17 j v1 v4 v6 v7 v9 v11 M (fun r M => Q (some (.inl r)) M)) ls st M → mm_G p l e (mm_rm 1) s m args below meth c lay_m cA ad D A 14 Q 17 ls st M := by
  intro ls st M h
  have hex : ∃ n, qX8_isLevel_17 (fun v1 v4 v6 v7 v9 v11 M => bX8_isLevel_17 n v1 v4 v6 v7 v9 v11 M (fun r M => Q (some (.inl r)) M)) ls st M := by
    unfold qX8_isLevel_17 at h
    split at h
    · obtain ⟨hb, h⟩ := mm_chk_e h
      cases (Nat.eq_of_beq_eq_true hb)
      obtain ⟨n, h⟩ := h
      exact ⟨n, h⟩
    · exact h.elim
  obtain ⟨n, hex⟩ := hex
  exact okX8_isLevel_17 Z  n ls st M hex
set_option maxRecDepth 100000 in
theorem okX8_isLevel : mm_Ok lay_m yX8_isLevel cX8_isLevel 14 (some .boolean) 1 fX8_isLevel := by
  refine mm_enter (rt := 2) (by decide +kernel) rfl ?_
  intro p l e s m args below meth c cA ad D A as M Q h C0
  have Z : ZX8_isLevel p l e s m args below meth c cA ad D A := ⟨C0, flRX8_ok, mm_vt_of (mm_fa1 (mm_coV (n := 1) (ci := 8) C0 okX8_weight rfl rfl (mm_one_at (.methodLink RX8 328 yX8_weight) 1457 (by decide +kernel) rfl) (wX8_weight _ (by simp)) (wX8_weight _ (by simp [yX8_weight])) (wX8_weight _ (by simp [yX8_weight])) (wX8_weight _ (by simp)) (by decide +kernel) (by omega) (by omega)) (mm_fa0)), mm_vt_of (mm_fa0), kX8_isLevel_ok, mm_ctok_J ctRX8_ok⟩
  unfold fX8_isLevel at h
  split at h
  · obtain ⟨hb, h⟩ := mm_chk_e h
    cases (Nat.eq_of_beq_eq_true hb)
    exact ⟨Nat.le_of_ble_eq_true rfl, mm_Zb Z 109 0 [(17, qX8_isLevel_17 (fun v1 v4 v6 v7 v9 v11 M => ∃ j, bX8_isLevel_17 j v1 v4 v6 v7 v9 v11 M (fun r M => Q (some (.inl r)) M)))] (mm_fa1 (fun ls st M h => okX8_isLevel_17x Z  ls st M h) mm_fa0) h⟩
  · exact h.elim
def kX8_findLevel : List mm_E := [(0, false, .iconst 1, []), (1, false, .istore 6, []), (3, true, .lload_n 1, []), (4, false, .lconst 0, []), (5, false, .lcmp, []), (6, false, .ifCond .le 22, [28]), (9, false, .aload_n 0, []), (10, false, .iload 6, []), (12, false, .lload_n 1, []), (13, false, .lload_n 3, []), (14, false, .iload 5, []), (16, false, .invokevirtual 338, []), (19, false, .ifCond .ne 9, [28]), (22, false, .iinc 6 1, []), (25, false, .goto (-22), [3]), (28, false, .lload_n 1, []), (29, false, .lconst 0, []), (30, false, .lcmp, []), (31, false, .ifCond .le 8, [39]), (34, false, .iload 6, []), (36, false, .goto 4, [40]), (39, false, .iconst 0, []), (40, false, .ireturn, [])]
set_option maxRecDepth 20000 in
theorem kX8_findLevel_ok : mm_cok cX8_findLevel RX8 (mm_ctt ctRX8) kX8_findLevel := mm_c_of (k := false) ctRX8_ok (by decide +kernel)
set_option maxRecDepth 20000 in
theorem wX8_findLevel : ∀ w ∈ ([.instanceMethod yX8_findLevel, .selects RX8 yX8_findLevel yX8_findLevel, .initialized RX8, .code yX8_findLevel cX8_findLevel 7 (some .int)] : List Cond), w ∈ mm_tbl := mm_sub_at _ [1450, 83, 112, 1451] (by decide +kernel) (by decide +kernel)
def vtX8_findLevel : List (Nat × Nat × Nat × mm_F) := [(338, 8, 5, fX8_isLevel)]
def smX8_findLevel : List (Nat × Nat × Nat × mm_F) := []
def ZX8_findLevel (p : Program) (l : Launch) (e : Env) (s : State) (m : MethodId) (args : Array Value) (below : List Frame) (meth : Method) (c : Code) (cA : Nat → ClassId) (ad : Nat → Nat) (D : va_G) (A : Nat → Prop) : Prop := mm_Z p l e (mm_rm 2) s m args below meth c lay_m cA ad D A RX8 cX8_findLevel 7 1 (mm_flt flRX8) (mm_clt (vtX8_findLevel)) (mm_clt (smX8_findLevel)) (mm_ctt ctRX8) kX8_findLevel
def qX8_findLevel_3 (P : Int → Int → Int → Int → mm_M → Prop) : mm_K := fun ls st M => match ls, st with
  | [some (.inr (.inr c0)), some (.inr (.inl v1)), none, some (.inr (.inl v3)), none, some (.inl v5), some (.inl v6)], [] => mm_chk (Nat.beq c0 0) (P v1 v3 v5 v6 M)
  | _, _ => False
theorem okX8_findLevel_3 {p : Program} {l : Launch} {e : Env} {s : State} {m : MethodId} {args : Array Value} {below : List Frame} {meth : Method} {c : Code} {cA : Nat → ClassId} {ad : Nat → Nat} {D : va_G} {A : Nat → Prop} {Q : Option mm_V → mm_M → Prop} (Z : ZX8_findLevel p l e s m args below meth c cA ad D A) : ∀ (n : Nat) ls st M, qX8_findLevel_3 (fun v1 v3 v5 v6 M => bX8_findLevel_3 n v1 v3 v5 v6 M (fun r M => Q (some (.inl r)) M)) ls st M → mm_G p l e (mm_rm 2) s m args below meth c lay_m cA ad D A 7 Q 3 ls st M
  | 0, ls, st, M, h => by
    unfold qX8_findLevel_3 at h
    split at h
    · obtain ⟨hb, h⟩ := mm_chk_e h
      cases (Nat.eq_of_beq_eq_true hb)
      exact h.elim
    · exact h.elim
  | n + 1, ls, st, M, h => by
    have ih := okX8_findLevel_3 (Q := Q) Z  n
    unfold qX8_findLevel_3 at h
    split at h
    · obtain ⟨hb, h⟩ := mm_chk_e h
      cases (Nat.eq_of_beq_eq_true hb)
      exact mm_Zb Z 26 3 [(3, qX8_findLevel_3 (fun v1 v3 v5 v6 M => bX8_findLevel_3 n v1 v3 v5 v6 M (fun r M => Q (some (.inl r)) M)))] (mm_fa1 ih mm_fa0) h
    · exact h.elim
theorem okX8_findLevel_3x {p : Program} {l : Launch} {e : Env} {s : State} {m : MethodId} {args : Array Value} {below : List Frame} {meth : Method} {c : Code} {cA : Nat → ClassId} {ad : Nat → Nat} {D : va_G} {A : Nat → Prop} {Q : Option mm_V → mm_M → Prop} (Z : ZX8_findLevel p l e s m args below meth c cA ad D A) : ∀ ls st M, qX8_findLevel_3 (fun v1 v3 v5 v6 M => ∃ j, bX8_findLevel_3 j v1 v3 v5 v6 M (fun r M => Q (some (.inl r)) M)) ls st M → mm_G p l e (mm_rm 2) s m args below meth c lay_m cA ad D A 7 Q 3 ls st M := by
  intro ls st M h
  have hex : ∃ n, qX8_findLevel_3 (fun v1 v3 v5 v6 M => bX8_findLevel_3 n v1 v3 v5 v6 M (fun r M => Q (some (.inl r)) M)) ls st M := by
    unfold qX8_findLevel_3 at h
    split at h
    · obtain ⟨hb, h⟩ := mm_chk_e h
      cases (Nat.eq_of_beq_eq_true hb)
      obtain ⟨n, h⟩ := h
      exact ⟨n, h⟩
    · exact h.elim
  obtain ⟨n, hex⟩ := hex
  exact okX8_findLevel_3 Z  n ls st M hex
theorem okX8_findLevel : mm_Ok lay_m yX8_findLevel cX8_findLevel 7 (some .int) 2 fX8_findLevel := by
  refine mm_enter (rt := 1) (by decide +kernel) rfl ?_
  intro p l e s m args below meth c cA ad D A as M Q h C0
  have Z : ZX8_findLevel p l e s m args below meth c cA ad D A := ⟨C0, flRX8_ok, mm_vt_of (mm_fa1 (mm_coV (n := 4) (ci := 8) C0 okX8_isLevel rfl rfl (mm_one_at (.methodLink RX8 338 yX8_isLevel) 1452 (by decide +kernel) rfl) (wX8_isLevel _ (by simp)) (wX8_isLevel _ (by simp [yX8_isLevel])) (wX8_isLevel _ (by simp [yX8_isLevel])) (wX8_isLevel _ (by simp)) (by decide +kernel) (by omega) (by omega)) (mm_fa0)), mm_vt_of (mm_fa0), kX8_findLevel_ok, mm_ctok_J ctRX8_ok⟩
  unfold fX8_findLevel at h
  split at h
  · obtain ⟨hb, h⟩ := mm_chk_e h
    cases (Nat.eq_of_beq_eq_true hb)
    exact ⟨Nat.le_of_ble_eq_true rfl, mm_Zb Z 26 0 [(3, qX8_findLevel_3 (fun v1 v3 v5 v6 M => ∃ j, bX8_findLevel_3 j v1 v3 v5 v6 M (fun r M => Q (some (.inl r)) M)))] (mm_fa1 (fun ls st M h => okX8_findLevel_3x Z  ls st M h) mm_fa0) h⟩
  · exact h.elim
def kX8_layEven : List mm_E := [(0, false, .iconst 0, []), (1, false, .istore_n 1, []), (2, true, .iload_n 1, []), (3, false, .aload_n 0, []), (4, false, .getfield 323, []), (7, false, .if_icmp .ge 22, [29]), (10, false, .aload_n 0, []), (11, false, .getfield 89, []), (14, false, .iload_n 1, []), (15, false, .aload_n 0, []), (16, false, .getfield 43, []), (19, false, .iload_n 1, []), (20, false, .iaload, []), (21, false, .i2l, []), (22, false, .lastore, []), (23, false, .iinc 1 1, []), (26, false, .goto (-24), [2]), (29, false, .aload_n 0, []), (30, false, .aload_n 0, []), (31, false, .getfield 49, []), (34, false, .i2l, []), (35, false, .lconst 1, []), (36, false, .iconst 1, []), (37, false, .invokevirtual 342, []), (40, false, .istore_n 1, []), (41, false, .aload_n 0, []), (42, false, .ldc2_w 326, []), (45, false, .aload_n 0, []), (46, false, .getfield 335, []), (49, false, .lmul, []), (50, false, .putfield 345, []), (53, false, .iconst 0, []), (54, false, .istore_n 2, []), (55, true, .iload_n 2, []), (56, false, .aload_n 0, []), (57, false, .getfield 323, []), (60, false, .if_icmp .ge 61, [121]), (63, false, .iload_n 1, []), (64, false, .iload_n 2, []), (65, false, .ishr, []), (66, false, .iconst 1, []), (67, false, .iand, []), (68, false, .iconst 1, []), (69, false, .if_icmp .ne 7, [76]), (72, false, .iconst 1, []), (73, false, .goto 4, [77]), (76, false, .iconst 0, []), (77, true, .istore_n 3, []), (78, false, .aload_n 0, []), (79, false, .getfield 93, []), (82, false, .iload_n 2, []), (83, false, .iload_n 3, []), (84, false, .ifCond .eq 29, [113]), (87, false, .aload_n 0, []), (88, false, .iload_n 2, []), (89, false, .invokevirtual 328, []), (92, false, .i2l, []), (93, false, .aload_n 0, []), (94, false, .getfield 331, []), (97, false, .aload_n 0, []), (98, false, .getfield 89, []), (101, false, .iload_n 2, []), (102, false, .laload, []), (103, false, .aload_n 0, []), (104, false, .getfield 335, []), (107, false, .lmul, []), (108, false, .lsub, []), (109, false, .lmul, []), (110, false, .goto 4, [114]), (113, false, .lconst 0, []), (114, false, .lastore, []), (115, false, .iinc 2 1, []), (118, false, .goto (-63), [55]), (121, false, .return_, [])]
set_option maxRecDepth 20000 in
theorem kX8_layEven_ok : mm_cok cX8_layEven RX8 (mm_ctt ctRX8) kX8_layEven := mm_c_of (k := false) ctRX8_ok (by decide +kernel)
set_option maxRecDepth 20000 in
theorem wX8_layEven : ∀ w ∈ ([.instanceMethod yX8_layEven, .selects RX8 yX8_layEven yX8_layEven, .initialized RX8, .code yX8_layEven cX8_layEven 4 none] : List Cond), w ∈ mm_tbl := mm_sub_at _ [1446, 82, 112, 1447] (by decide +kernel) (by decide +kernel)
def vtX8_layEven : List (Nat × Nat × Nat × mm_F) := [(342, 8, 4, fX8_findLevel), (328, 8, 2, fX8_weight)]
def smX8_layEven : List (Nat × Nat × Nat × mm_F) := []
def ZX8_layEven (p : Program) (l : Launch) (e : Env) (s : State) (m : MethodId) (args : Array Value) (below : List Frame) (meth : Method) (c : Code) (cA : Nat → ClassId) (ad : Nat → Nat) (D : va_G) (A : Nat → Prop) : Prop := mm_Z p l e (mm_rm 3) s m args below meth c lay_m cA ad D A RX8 cX8_layEven 4 0 (mm_flt flRX8) (mm_clt (vtX8_layEven)) (mm_clt (smX8_layEven)) (mm_ctt ctRX8) kX8_layEven
def qX8_layEven_77 (P : Int → Int → Int → mm_M → Prop) : mm_K := fun ls st M => match ls, st with
  | [some (.inr (.inr c0)), some (.inl v1), some (.inl v2), _], [.inl w0] => mm_chk (Nat.beq c0 0) (P v1 v2 w0 M)
  | _, _ => False
def qX8_layEven_55 (P : Int → Int → mm_M → Prop) : mm_K := fun ls st M => match ls, st with
  | [some (.inr (.inr c0)), some (.inl v1), some (.inl v2), _], [] => mm_chk (Nat.beq c0 0) (P v1 v2 M)
  | _, _ => False
def qX8_layEven_2 (P : Int → mm_M → Prop) : mm_K := fun ls st M => match ls, st with
  | [some (.inr (.inr c0)), some (.inl v1), none, none], [] => mm_chk (Nat.beq c0 0) (P v1 M)
  | _, _ => False
theorem okX8_layEven_77 {p : Program} {l : Launch} {e : Env} {s : State} {m : MethodId} {args : Array Value} {below : List Frame} {meth : Method} {c : Code} {cA : Nat → ClassId} {ad : Nat → Nat} {D : va_G} {A : Nat → Prop} {Q : Option mm_V → mm_M → Prop} (Z : ZX8_layEven p l e s m args below meth c cA ad D A) {K55 : Int → Int → mm_M → Prop} (hk55 : ∀ ls st M, qX8_layEven_55 K55 ls st M → mm_G p l e (mm_rm 3) s m args below meth c lay_m cA ad D A 4 Q 55 ls st M) : ∀ ls st M, qX8_layEven_77 (fun v1 v2 w0 M => bX8_layEven_77 K55 v1 v2 w0 M (fun M => Q none M)) ls st M → mm_G p l e (mm_rm 3) s m args below meth c lay_m cA ad D A 4 Q 77 ls st M := by
  intro ls st M h
  unfold qX8_layEven_77 at h
  split at h
  · obtain ⟨hb, h⟩ := mm_chk_e h
    cases (Nat.eq_of_beq_eq_true hb)
    exact mm_Zb Z 77 77 [(55, qX8_layEven_55 (K55))] (mm_fa1 hk55 mm_fa0) h
  · exact h.elim
theorem okX8_layEven_55 {p : Program} {l : Launch} {e : Env} {s : State} {m : MethodId} {args : Array Value} {below : List Frame} {meth : Method} {c : Code} {cA : Nat → ClassId} {ad : Nat → Nat} {D : va_G} {A : Nat → Prop} {Q : Option mm_V → mm_M → Prop} (Z : ZX8_layEven p l e s m args below meth c cA ad D A) : ∀ (n : Nat) ls st M, qX8_layEven_55 (fun v1 v2 M => bX8_layEven_55 n v1 v2 M (fun M => Q none M)) ls st M → mm_G p l e (mm_rm 3) s m args below meth c lay_m cA ad D A 4 Q 55 ls st M
  | 0, ls, st, M, h => by
    unfold qX8_layEven_55 at h
    split at h
    · obtain ⟨hb, h⟩ := mm_chk_e h
      cases (Nat.eq_of_beq_eq_true hb)
      exact h.elim
    · exact h.elim
  | n + 1, ls, st, M, h => by
    have ih := okX8_layEven_55 (Q := Q) Z  n
    unfold qX8_layEven_55 at h
    split at h
    · obtain ⟨hb, h⟩ := mm_chk_e h
      cases (Nat.eq_of_beq_eq_true hb)
      exact mm_Zb Z 77 55 [(77, qX8_layEven_77 (fun v1 v2 w0 M => bX8_layEven_77 (fun v1 v2 M => bX8_layEven_55 n v1 v2 M (fun M => Q none M)) v1 v2 w0 M (fun M => Q none M)))] (mm_fa1 (fun ls st M h => okX8_layEven_77 Z (ih) ls st M h) mm_fa0) h
    · exact h.elim
theorem okX8_layEven_55x {p : Program} {l : Launch} {e : Env} {s : State} {m : MethodId} {args : Array Value} {below : List Frame} {meth : Method} {c : Code} {cA : Nat → ClassId} {ad : Nat → Nat} {D : va_G} {A : Nat → Prop} {Q : Option mm_V → mm_M → Prop} (Z : ZX8_layEven p l e s m args below meth c cA ad D A) : ∀ ls st M, qX8_layEven_55 (fun v1 v2 M => ∃ j, bX8_layEven_55 j v1 v2 M (fun M => Q none M)) ls st M → mm_G p l e (mm_rm 3) s m args below meth c lay_m cA ad D A 4 Q 55 ls st M := by
  intro ls st M h
  have hex : ∃ n, qX8_layEven_55 (fun v1 v2 M => bX8_layEven_55 n v1 v2 M (fun M => Q none M)) ls st M := by
    unfold qX8_layEven_55 at h
    split at h
    · obtain ⟨hb, h⟩ := mm_chk_e h
      cases (Nat.eq_of_beq_eq_true hb)
      obtain ⟨n, h⟩ := h
      exact ⟨n, h⟩
    · exact h.elim
  obtain ⟨n, hex⟩ := hex
  exact okX8_layEven_55 Z  n ls st M hex
theorem okX8_layEven_2 {p : Program} {l : Launch} {e : Env} {s : State} {m : MethodId} {args : Array Value} {below : List Frame} {meth : Method} {c : Code} {cA : Nat → ClassId} {ad : Nat → Nat} {D : va_G} {A : Nat → Prop} {Q : Option mm_V → mm_M → Prop} (Z : ZX8_layEven p l e s m args below meth c cA ad D A) : ∀ (n : Nat) ls st M, qX8_layEven_2 (fun v1 M => bX8_layEven_2 n v1 M (fun M => Q none M)) ls st M → mm_G p l e (mm_rm 3) s m args below meth c lay_m cA ad D A 4 Q 2 ls st M
  | 0, ls, st, M, h => by
    unfold qX8_layEven_2 at h
    split at h
    · obtain ⟨hb, h⟩ := mm_chk_e h
      cases (Nat.eq_of_beq_eq_true hb)
      exact h.elim
    · exact h.elim
  | n + 1, ls, st, M, h => by
    have ih := okX8_layEven_2 (Q := Q) Z  n
    unfold qX8_layEven_2 at h
    split at h
    · obtain ⟨hb, h⟩ := mm_chk_e h
      cases (Nat.eq_of_beq_eq_true hb)
      exact mm_Zb Z 77 2 [(2, qX8_layEven_2 (fun v1 M => bX8_layEven_2 n v1 M (fun M => Q none M))), (55, qX8_layEven_55 (fun v1 v2 M => ∃ j, bX8_layEven_55 j v1 v2 M (fun M => Q none M)))] (mm_fa1 ih (mm_fa1 (fun ls st M h => okX8_layEven_55x Z  ls st M h) mm_fa0)) h
    · exact h.elim
theorem okX8_layEven_2x {p : Program} {l : Launch} {e : Env} {s : State} {m : MethodId} {args : Array Value} {below : List Frame} {meth : Method} {c : Code} {cA : Nat → ClassId} {ad : Nat → Nat} {D : va_G} {A : Nat → Prop} {Q : Option mm_V → mm_M → Prop} (Z : ZX8_layEven p l e s m args below meth c cA ad D A) : ∀ ls st M, qX8_layEven_2 (fun v1 M => ∃ j, bX8_layEven_2 j v1 M (fun M => Q none M)) ls st M → mm_G p l e (mm_rm 3) s m args below meth c lay_m cA ad D A 4 Q 2 ls st M := by
  intro ls st M h
  have hex : ∃ n, qX8_layEven_2 (fun v1 M => bX8_layEven_2 n v1 M (fun M => Q none M)) ls st M := by
    unfold qX8_layEven_2 at h
    split at h
    · obtain ⟨hb, h⟩ := mm_chk_e h
      cases (Nat.eq_of_beq_eq_true hb)
      obtain ⟨n, h⟩ := h
      exact ⟨n, h⟩
    · exact h.elim
  obtain ⟨n, hex⟩ := hex
  exact okX8_layEven_2 Z  n ls st M hex
theorem okX8_layEven : mm_Ok lay_m yX8_layEven cX8_layEven 4 none 3 fX8_layEven := by
  refine mm_enter (rt := 0) (by decide +kernel) rfl ?_
  intro p l e s m args below meth c cA ad D A as M Q h C0
  have Z : ZX8_layEven p l e s m args below meth c cA ad D A := ⟨C0, flRX8_ok, mm_vt_of (mm_fa1 (mm_coV (n := 3) (ci := 8) C0 okX8_findLevel rfl rfl (mm_one_at (.methodLink RX8 342 yX8_findLevel) 1448 (by decide +kernel) rfl) (wX8_findLevel _ (by simp)) (wX8_findLevel _ (by simp [yX8_findLevel])) (wX8_findLevel _ (by simp [yX8_findLevel])) (wX8_findLevel _ (by simp)) (by decide +kernel) (by omega) (by omega)) (mm_fa1 (mm_coV (n := 1) (ci := 8) C0 okX8_weight rfl rfl (mm_one_at (.methodLink RX8 328 yX8_weight) 1457 (by decide +kernel) rfl) (wX8_weight _ (by simp)) (wX8_weight _ (by simp [yX8_weight])) (wX8_weight _ (by simp [yX8_weight])) (wX8_weight _ (by simp)) (by decide +kernel) (by omega) (by omega)) (mm_fa0))), mm_vt_of (mm_fa0), kX8_layEven_ok, mm_ctok_J ctRX8_ok⟩
  unfold fX8_layEven at h
  split at h
  · obtain ⟨hb, h⟩ := mm_chk_e h
    cases (Nat.eq_of_beq_eq_true hb)
    exact ⟨Nat.le_of_ble_eq_true rfl, mm_Zb Z 77 0 [(2, qX8_layEven_2 (fun v1 M => ∃ j, bX8_layEven_2 j v1 M (fun M => Q none M)))] (mm_fa1 (fun ls st M h => okX8_layEven_2x Z  ls st M h) mm_fa0) h⟩
  · exact h.elim
def kX8_layWise : List mm_E := [(0, false, .iconst 0, []), (1, false, .istore_n 1, []), (2, true, .iload_n 1, []), (3, false, .aload_n 0, []), (4, false, .getfield 323, []), (7, false, .if_icmp .ge 22, [29]), (10, false, .aload_n 0, []), (11, false, .getfield 89, []), (14, false, .iload_n 1, []), (15, false, .aload_n 0, []), (16, false, .getfield 43, []), (19, false, .iload_n 1, []), (20, false, .iaload, []), (21, false, .i2l, []), (22, false, .lastore, []), (23, false, .iinc 1 1, []), (26, false, .goto (-24), [2]), (29, false, .aload_n 0, []), (30, false, .aload_n 0, []), (31, false, .getfield 49, []), (34, false, .i2l, []), (35, false, .lconst 1, []), (36, false, .iconst 2, []), (37, false, .invokevirtual 342, []), (40, false, .istore_n 1, []), (41, false, .aload_n 0, []), (42, false, .ldc2_w 348, []), (45, false, .aload_n 0, []), (46, false, .getfield 335, []), (49, false, .lmul, []), (50, false, .putfield 350, []), (53, false, .iconst 0, []), (54, false, .istore_n 2, []), (55, true, .iload_n 2, []), (56, false, .aload_n 0, []), (57, false, .getfield 323, []), (60, false, .if_icmp .ge 61, [121]), (63, false, .iload_n 1, []), (64, false, .iload_n 2, []), (65, false, .ishr, []), (66, false, .iconst 1, []), (67, false, .iand, []), (68, false, .iconst 1, []), (69, false, .if_icmp .ne 7, [76]), (72, false, .iconst 1, []), (73, false, .goto 4, [77]), (76, false, .iconst 0, []), (77, true, .istore_n 3, []), (78, false, .aload_n 0, []), (79, false, .getfield 96, []), (82, false, .iload_n 2, []), (83, false, .iload_n 3, []), (84, false, .ifCond .eq 29, [113]), (87, false, .aload_n 0, []), (88, false, .iload_n 2, []), (89, false, .invokevirtual 328, []), (92, false, .i2l, []), (93, false, .aload_n 0, []), (94, false, .getfield 331, []), (97, false, .aload_n 0, []), (98, false, .getfield 89, []), (101, false, .iload_n 2, []), (102, false, .laload, []), (103, false, .aload_n 0, []), (104, false, .getfield 335, []), (107, false, .lmul, []), (108, false, .lsub, []), (109, false, .lmul, []), (110, false, .goto 4, [114]), (113, false, .lconst 0, []), (114, false, .lastore, []), (115, false, .iinc 2 1, []), (118, false, .goto (-63), [55]), (121, false, .return_, [])]
set_option maxRecDepth 20000 in
theorem kX8_layWise_ok : mm_cok cX8_layWise RX8 (mm_ctt ctRX8) kX8_layWise := mm_c_of (k := false) ctRX8_ok (by decide +kernel)
set_option maxRecDepth 20000 in
theorem wX8_layWise : ∀ w ∈ ([.instanceMethod yX8_layWise, .selects RX8 yX8_layWise yX8_layWise, .initialized RX8, .code yX8_layWise cX8_layWise 4 none] : List Cond), w ∈ mm_tbl := mm_sub_at _ [1463, 86, 112, 1464] (by decide +kernel) (by decide +kernel)
def vtX8_layWise : List (Nat × Nat × Nat × mm_F) := [(342, 8, 4, fX8_findLevel), (328, 8, 2, fX8_weight)]
def smX8_layWise : List (Nat × Nat × Nat × mm_F) := []
def ZX8_layWise (p : Program) (l : Launch) (e : Env) (s : State) (m : MethodId) (args : Array Value) (below : List Frame) (meth : Method) (c : Code) (cA : Nat → ClassId) (ad : Nat → Nat) (D : va_G) (A : Nat → Prop) : Prop := mm_Z p l e (mm_rm 3) s m args below meth c lay_m cA ad D A RX8 cX8_layWise 4 0 (mm_flt flRX8) (mm_clt (vtX8_layWise)) (mm_clt (smX8_layWise)) (mm_ctt ctRX8) kX8_layWise
def qX8_layWise_77 (P : Int → Int → Int → mm_M → Prop) : mm_K := fun ls st M => match ls, st with
  | [some (.inr (.inr c0)), some (.inl v1), some (.inl v2), _], [.inl w0] => mm_chk (Nat.beq c0 0) (P v1 v2 w0 M)
  | _, _ => False
def qX8_layWise_55 (P : Int → Int → mm_M → Prop) : mm_K := fun ls st M => match ls, st with
  | [some (.inr (.inr c0)), some (.inl v1), some (.inl v2), _], [] => mm_chk (Nat.beq c0 0) (P v1 v2 M)
  | _, _ => False
def qX8_layWise_2 (P : Int → mm_M → Prop) : mm_K := fun ls st M => match ls, st with
  | [some (.inr (.inr c0)), some (.inl v1), none, none], [] => mm_chk (Nat.beq c0 0) (P v1 M)
  | _, _ => False
theorem okX8_layWise_77 {p : Program} {l : Launch} {e : Env} {s : State} {m : MethodId} {args : Array Value} {below : List Frame} {meth : Method} {c : Code} {cA : Nat → ClassId} {ad : Nat → Nat} {D : va_G} {A : Nat → Prop} {Q : Option mm_V → mm_M → Prop} (Z : ZX8_layWise p l e s m args below meth c cA ad D A) {K55 : Int → Int → mm_M → Prop} (hk55 : ∀ ls st M, qX8_layWise_55 K55 ls st M → mm_G p l e (mm_rm 3) s m args below meth c lay_m cA ad D A 4 Q 55 ls st M) : ∀ ls st M, qX8_layWise_77 (fun v1 v2 w0 M => bX8_layWise_77 K55 v1 v2 w0 M (fun M => Q none M)) ls st M → mm_G p l e (mm_rm 3) s m args below meth c lay_m cA ad D A 4 Q 77 ls st M := by
  intro ls st M h
  unfold qX8_layWise_77 at h
  split at h
  · obtain ⟨hb, h⟩ := mm_chk_e h
    cases (Nat.eq_of_beq_eq_true hb)
    exact mm_Zb Z 77 77 [(55, qX8_layWise_55 (K55))] (mm_fa1 hk55 mm_fa0) h
  · exact h.elim
theorem okX8_layWise_55 {p : Program} {l : Launch} {e : Env} {s : State} {m : MethodId} {args : Array Value} {below : List Frame} {meth : Method} {c : Code} {cA : Nat → ClassId} {ad : Nat → Nat} {D : va_G} {A : Nat → Prop} {Q : Option mm_V → mm_M → Prop} (Z : ZX8_layWise p l e s m args below meth c cA ad D A) : ∀ (n : Nat) ls st M, qX8_layWise_55 (fun v1 v2 M => bX8_layWise_55 n v1 v2 M (fun M => Q none M)) ls st M → mm_G p l e (mm_rm 3) s m args below meth c lay_m cA ad D A 4 Q 55 ls st M
  | 0, ls, st, M, h => by
    unfold qX8_layWise_55 at h
    split at h
    · obtain ⟨hb, h⟩ := mm_chk_e h
      cases (Nat.eq_of_beq_eq_true hb)
      exact h.elim
    · exact h.elim
  | n + 1, ls, st, M, h => by
    have ih := okX8_layWise_55 (Q := Q) Z  n
    unfold qX8_layWise_55 at h
    split at h
    · obtain ⟨hb, h⟩ := mm_chk_e h
      cases (Nat.eq_of_beq_eq_true hb)
      exact mm_Zb Z 77 55 [(77, qX8_layWise_77 (fun v1 v2 w0 M => bX8_layWise_77 (fun v1 v2 M => bX8_layWise_55 n v1 v2 M (fun M => Q none M)) v1 v2 w0 M (fun M => Q none M)))] (mm_fa1 (fun ls st M h => okX8_layWise_77 Z (ih) ls st M h) mm_fa0) h
    · exact h.elim
theorem okX8_layWise_55x {p : Program} {l : Launch} {e : Env} {s : State} {m : MethodId} {args : Array Value} {below : List Frame} {meth : Method} {c : Code} {cA : Nat → ClassId} {ad : Nat → Nat} {D : va_G} {A : Nat → Prop} {Q : Option mm_V → mm_M → Prop} (Z : ZX8_layWise p l e s m args below meth c cA ad D A) : ∀ ls st M, qX8_layWise_55 (fun v1 v2 M => ∃ j, bX8_layWise_55 j v1 v2 M (fun M => Q none M)) ls st M → mm_G p l e (mm_rm 3) s m args below meth c lay_m cA ad D A 4 Q 55 ls st M := by
  intro ls st M h
  have hex : ∃ n, qX8_layWise_55 (fun v1 v2 M => bX8_layWise_55 n v1 v2 M (fun M => Q none M)) ls st M := by
    unfold qX8_layWise_55 at h
    split at h
    · obtain ⟨hb, h⟩ := mm_chk_e h
      cases (Nat.eq_of_beq_eq_true hb)
      obtain ⟨n, h⟩ := h
      exact ⟨n, h⟩
    · exact h.elim
  obtain ⟨n, hex⟩ := hex
  exact okX8_layWise_55 Z  n ls st M hex
theorem okX8_layWise_2 {p : Program} {l : Launch} {e : Env} {s : State} {m : MethodId} {args : Array Value} {below : List Frame} {meth : Method} {c : Code} {cA : Nat → ClassId} {ad : Nat → Nat} {D : va_G} {A : Nat → Prop} {Q : Option mm_V → mm_M → Prop} (Z : ZX8_layWise p l e s m args below meth c cA ad D A) : ∀ (n : Nat) ls st M, qX8_layWise_2 (fun v1 M => bX8_layWise_2 n v1 M (fun M => Q none M)) ls st M → mm_G p l e (mm_rm 3) s m args below meth c lay_m cA ad D A 4 Q 2 ls st M
  | 0, ls, st, M, h => by
    unfold qX8_layWise_2 at h
    split at h
    · obtain ⟨hb, h⟩ := mm_chk_e h
      cases (Nat.eq_of_beq_eq_true hb)
      exact h.elim
    · exact h.elim
  | n + 1, ls, st, M, h => by
    have ih := okX8_layWise_2 (Q := Q) Z  n
    unfold qX8_layWise_2 at h
    split at h
    · obtain ⟨hb, h⟩ := mm_chk_e h
      cases (Nat.eq_of_beq_eq_true hb)
      exact mm_Zb Z 77 2 [(2, qX8_layWise_2 (fun v1 M => bX8_layWise_2 n v1 M (fun M => Q none M))), (55, qX8_layWise_55 (fun v1 v2 M => ∃ j, bX8_layWise_55 j v1 v2 M (fun M => Q none M)))] (mm_fa1 ih (mm_fa1 (fun ls st M h => okX8_layWise_55x Z  ls st M h) mm_fa0)) h
    · exact h.elim
theorem okX8_layWise_2x {p : Program} {l : Launch} {e : Env} {s : State} {m : MethodId} {args : Array Value} {below : List Frame} {meth : Method} {c : Code} {cA : Nat → ClassId} {ad : Nat → Nat} {D : va_G} {A : Nat → Prop} {Q : Option mm_V → mm_M → Prop} (Z : ZX8_layWise p l e s m args below meth c cA ad D A) : ∀ ls st M, qX8_layWise_2 (fun v1 M => ∃ j, bX8_layWise_2 j v1 M (fun M => Q none M)) ls st M → mm_G p l e (mm_rm 3) s m args below meth c lay_m cA ad D A 4 Q 2 ls st M := by
  intro ls st M h
  have hex : ∃ n, qX8_layWise_2 (fun v1 M => bX8_layWise_2 n v1 M (fun M => Q none M)) ls st M := by
    unfold qX8_layWise_2 at h
    split at h
    · obtain ⟨hb, h⟩ := mm_chk_e h
      cases (Nat.eq_of_beq_eq_true hb)
      obtain ⟨n, h⟩ := h
      exact ⟨n, h⟩
    · exact h.elim
  obtain ⟨n, hex⟩ := hex
  exact okX8_layWise_2 Z  n ls st M hex
theorem okX8_layWise : mm_Ok lay_m yX8_layWise cX8_layWise 4 none 3 fX8_layWise := by
  refine mm_enter (rt := 0) (by decide +kernel) rfl ?_
  intro p l e s m args below meth c cA ad D A as M Q h C0
  have Z : ZX8_layWise p l e s m args below meth c cA ad D A := ⟨C0, flRX8_ok, mm_vt_of (mm_fa1 (mm_coV (n := 3) (ci := 8) C0 okX8_findLevel rfl rfl (mm_one_at (.methodLink RX8 342 yX8_findLevel) 1448 (by decide +kernel) rfl) (wX8_findLevel _ (by simp)) (wX8_findLevel _ (by simp [yX8_findLevel])) (wX8_findLevel _ (by simp [yX8_findLevel])) (wX8_findLevel _ (by simp)) (by decide +kernel) (by omega) (by omega)) (mm_fa1 (mm_coV (n := 1) (ci := 8) C0 okX8_weight rfl rfl (mm_one_at (.methodLink RX8 328 yX8_weight) 1457 (by decide +kernel) rfl) (wX8_weight _ (by simp)) (wX8_weight _ (by simp [yX8_weight])) (wX8_weight _ (by simp [yX8_weight])) (wX8_weight _ (by simp)) (by decide +kernel) (by omega) (by omega)) (mm_fa0))), mm_vt_of (mm_fa0), kX8_layWise_ok, mm_ctok_J ctRX8_ok⟩
  unfold fX8_layWise at h
  split at h
  · obtain ⟨hb, h⟩ := mm_chk_e h
    cases (Nat.eq_of_beq_eq_true hb)
    exact ⟨Nat.le_of_ble_eq_true rfl, mm_Zb Z 77 0 [(2, qX8_layWise_2 (fun v1 M => ∃ j, bX8_layWise_2 j v1 M (fun M => Q none M)))] (mm_fa1 (fun ls st M h => okX8_layWise_2x Z  ls st M h) mm_fa0) h⟩
  · exact h.elim
def kX8_wiseCost : List mm_E := [(0, false, .aload_n 0, []), (1, false, .getfield 43, []), (4, false, .iload_n 1, []), (5, false, .iaload, []), (6, false, .i2l, []), (7, false, .aload_n 0, []), (8, false, .getfield 350, []), (11, false, .lmul, []), (12, false, .aload_n 0, []), (13, false, .getfield 46, []), (16, false, .iload_n 1, []), (17, false, .iaload, []), (18, false, .i2l, []), (19, false, .aload_n 0, []), (20, false, .getfield 96, []), (23, false, .iload_n 1, []), (24, false, .laload, []), (25, false, .lmul, []), (26, false, .ladd, []), (27, false, .lreturn, [])]
set_option maxRecDepth 20000 in
theorem kX8_wiseCost_ok : mm_cok cX8_wiseCost RX8 (mm_ctt ctRX8) kX8_wiseCost := mm_c_of (k := false) ctRX8_ok (by decide +kernel)
set_option maxRecDepth 20000 in
theorem wX8_wiseCost : ∀ w ∈ ([.instanceMethod yX8_wiseCost, .selects RX8 yX8_wiseCost yX8_wiseCost, .initialized RX8, .code yX8_wiseCost cX8_wiseCost 2 (some .long)] : List Cond), w ∈ mm_tbl := mm_sub_at _ [1485, 91, 112, 1486] (by decide +kernel) (by decide +kernel)
def vtX8_wiseCost : List (Nat × Nat × Nat × mm_F) := []
def smX8_wiseCost : List (Nat × Nat × Nat × mm_F) := []
def ZX8_wiseCost (p : Program) (l : Launch) (e : Env) (s : State) (m : MethodId) (args : Array Value) (below : List Frame) (meth : Method) (c : Code) (cA : Nat → ClassId) (ad : Nat → Nat) (D : va_G) (A : Nat → Prop) : Prop := mm_Z p l e (mm_rm 0) s m args below meth c lay_m cA ad D A RX8 cX8_wiseCost 2 3 (mm_flt flRX8) (mm_clt (vtX8_wiseCost)) (mm_clt (smX8_wiseCost)) (mm_ctt ctRX8) kX8_wiseCost
theorem okX8_wiseCost : mm_Ok lay_m yX8_wiseCost cX8_wiseCost 2 (some .long) 0 fX8_wiseCost := by
  refine mm_enter (rt := 3) (by decide +kernel) rfl ?_
  intro p l e s m args below meth c cA ad D A as M Q h C0
  have Z : ZX8_wiseCost p l e s m args below meth c cA ad D A := ⟨C0, flRX8_ok, mm_vt_of (mm_fa0), mm_vt_of (mm_fa0), kX8_wiseCost_ok, mm_ctok_J ctRX8_ok⟩
  unfold fX8_wiseCost at h
  split at h
  · obtain ⟨hb, h⟩ := mm_chk_e h
    cases (Nat.eq_of_beq_eq_true hb)
    exact ⟨Nat.le_of_ble_eq_true rfl, mm_Zb Z 23 0 [] mm_fa0 h⟩
  · exact h.elim
def kX8_costsMore : List mm_E := [(0, false, .aload_n 0, []), (1, false, .iload_n 1, []), (2, false, .invokevirtual 353, []), (5, false, .lstore_n 3, []), (6, false, .aload_n 0, []), (7, false, .iload_n 2, []), (8, false, .invokevirtual 353, []), (11, false, .lstore 5, []), (13, false, .lload_n 3, []), (14, false, .lload 5, []), (16, false, .lcmp, []), (17, false, .ifCond .gt 15, [32]), (20, false, .lload_n 3, []), (21, false, .lload 5, []), (23, false, .lcmp, []), (24, false, .ifCond .ne 12, [36]), (27, false, .iload_n 1, []), (28, false, .iload_n 2, []), (29, false, .if_icmp .ge 7, [36]), (32, false, .iconst 1, []), (33, false, .goto 4, [37]), (36, false, .iconst 0, []), (37, false, .ireturn, [])]
set_option maxRecDepth 20000 in
theorem kX8_costsMore_ok : mm_cok cX8_costsMore RX8 (mm_ctt ctRX8) kX8_costsMore := mm_c_of (k := false) ctRX8_ok (by decide +kernel)
set_option maxRecDepth 20000 in
theorem wX8_costsMore : ∀ w ∈ ([.instanceMethod yX8_costsMore, .selects RX8 yX8_costsMore yX8_costsMore, .initialized RX8, .code yX8_costsMore cX8_costsMore 7 (some .boolean)] : List Cond), w ∈ mm_tbl := mm_sub_at _ [1481, 90, 112, 1482] (by decide +kernel) (by decide +kernel)
def vtX8_costsMore : List (Nat × Nat × Nat × mm_F) := [(353, 8, 2, fX8_wiseCost)]
def smX8_costsMore : List (Nat × Nat × Nat × mm_F) := []
def ZX8_costsMore (p : Program) (l : Launch) (e : Env) (s : State) (m : MethodId) (args : Array Value) (below : List Frame) (meth : Method) (c : Code) (cA : Nat → ClassId) (ad : Nat → Nat) (D : va_G) (A : Nat → Prop) : Prop := mm_Z p l e (mm_rm 1) s m args below meth c lay_m cA ad D A RX8 cX8_costsMore 7 2 (mm_flt flRX8) (mm_clt (vtX8_costsMore)) (mm_clt (smX8_costsMore)) (mm_ctt ctRX8) kX8_costsMore
theorem okX8_costsMore : mm_Ok lay_m yX8_costsMore cX8_costsMore 7 (some .boolean) 1 fX8_costsMore := by
  refine mm_enter (rt := 2) (by decide +kernel) rfl ?_
  intro p l e s m args below meth c cA ad D A as M Q h C0
  have Z : ZX8_costsMore p l e s m args below meth c cA ad D A := ⟨C0, flRX8_ok, mm_vt_of (mm_fa1 (mm_coV (n := 1) (ci := 8) C0 okX8_wiseCost rfl rfl (mm_one_at (.methodLink RX8 353 yX8_wiseCost) 1483 (by decide +kernel) rfl) (wX8_wiseCost _ (by simp)) (wX8_wiseCost _ (by simp [yX8_wiseCost])) (wX8_wiseCost _ (by simp [yX8_wiseCost])) (wX8_wiseCost _ (by simp)) (by decide +kernel) (by omega) (by omega)) (mm_fa0)), mm_vt_of (mm_fa0), kX8_costsMore_ok, mm_ctok_J ctRX8_ok⟩
  unfold fX8_costsMore at h
  split at h
  · obtain ⟨hb, h⟩ := mm_chk_e h
    cases (Nat.eq_of_beq_eq_true hb)
    exact ⟨Nat.le_of_ble_eq_true rfl, mm_Zb Z 26 0 [] mm_fa0 h⟩
  · exact h.elim
def kX8_dearest : List mm_E := [(0, false, .iconst 0, []), (1, false, .istore_n 2, []), (2, false, .iconst (-1), []), (3, false, .istore_n 3, []), (4, true, .iload_n 3, []), (5, false, .iload_n 1, []), (6, false, .if_icmp .eq 63, [69]), (9, false, .iconst 0, []), (10, false, .istore_n 3, []), (11, false, .iconst 0, []), (12, false, .istore 4, []), (14, true, .iload 4, []), (16, false, .aload_n 0, []), (17, false, .getfield 323, []), (20, false, .if_icmp .ge 33, [53]), (23, false, .iload_n 3, []), (24, false, .iload 4, []), (26, false, .iload_n 2, []), (27, false, .if_icmp .eq 17, [44]), (30, false, .aload_n 0, []), (31, false, .iload 4, []), (33, false, .iload_n 2, []), (34, false, .invokevirtual 357, []), (37, false, .ifCond .eq 7, [44]), (40, false, .iconst 1, []), (41, false, .goto 4, [45]), (44, false, .iconst 0, []), (45, false, .iadd, []), (46, false, .istore_n 3, []), (47, false, .iinc 4 1, []), (50, false, .goto (-36), [14]), (53, false, .iload_n 2, []), (54, false, .iload_n 3, []), (55, false, .iload_n 1, []), (56, false, .if_icmp .ne 7, [63]), (59, false, .iconst 0, []), (60, false, .goto 4, [64]), (63, false, .iconst 1, []), (64, false, .iadd, []), (65, false, .istore_n 2, []), (66, false, .goto (-62), [4]), (69, false, .iload_n 2, []), (70, false, .ireturn, [])]
set_option maxRecDepth 20000 in
theorem kX8_dearest_ok : mm_cok cX8_dearest RX8 (mm_ctt ctRX8) kX8_dearest := mm_c_of (k := false) ctRX8_ok (by decide +kernel)
set_option maxRecDepth 20000 in
theorem wX8_dearest : ∀ w ∈ ([.instanceMethod yX8_dearest, .selects RX8 yX8_dearest yX8_dearest, .initialized RX8, .code yX8_dearest cX8_dearest 5 (some .int)] : List Cond), w ∈ mm_tbl := mm_sub_at _ [1477, 89, 112, 1478] (by decide +kernel) (by decide +kernel)
def vtX8_dearest : List (Nat × Nat × Nat × mm_F) := [(357, 8, 3, fX8_costsMore)]
def smX8_dearest : List (Nat × Nat × Nat × mm_F) := []
def ZX8_dearest (p : Program) (l : Launch) (e : Env) (s : State) (m : MethodId) (args : Array Value) (below : List Frame) (meth : Method) (c : Code) (cA : Nat → ClassId) (ad : Nat → Nat) (D : va_G) (A : Nat → Prop) : Prop := mm_Z p l e (mm_rm 2) s m args below meth c lay_m cA ad D A RX8 cX8_dearest 5 1 (mm_flt flRX8) (mm_clt (vtX8_dearest)) (mm_clt (smX8_dearest)) (mm_ctt ctRX8) kX8_dearest
def qX8_dearest_14 (P : Int → Int → Int → Int → mm_M → Prop) : mm_K := fun ls st M => match ls, st with
  | [some (.inr (.inr c0)), some (.inl v1), some (.inl v2), some (.inl v3), some (.inl v4)], [] => mm_chk (Nat.beq c0 0) (P v1 v2 v3 v4 M)
  | _, _ => False
def qX8_dearest_4 (P : Int → Int → Int → mm_M → Prop) : mm_K := fun ls st M => match ls, st with
  | [some (.inr (.inr c0)), some (.inl v1), some (.inl v2), some (.inl v3), _], [] => mm_chk (Nat.beq c0 0) (P v1 v2 v3 M)
  | _, _ => False
theorem okX8_dearest_14 {p : Program} {l : Launch} {e : Env} {s : State} {m : MethodId} {args : Array Value} {below : List Frame} {meth : Method} {c : Code} {cA : Nat → ClassId} {ad : Nat → Nat} {D : va_G} {A : Nat → Prop} {Q : Option mm_V → mm_M → Prop} (Z : ZX8_dearest p l e s m args below meth c cA ad D A) {K4 : Int → Int → Int → mm_M → Prop} (hk4 : ∀ ls st M, qX8_dearest_4 K4 ls st M → mm_G p l e (mm_rm 2) s m args below meth c lay_m cA ad D A 5 Q 4 ls st M) : ∀ (n : Nat) ls st M, qX8_dearest_14 (fun v1 v2 v3 v4 M => bX8_dearest_14 K4 n v1 v2 v3 v4 M (fun r M => Q (some (.inl r)) M)) ls st M → mm_G p l e (mm_rm 2) s m args below meth c lay_m cA ad D A 5 Q 14 ls st M
  | 0, ls, st, M, h => by
    unfold qX8_dearest_14 at h
    split at h
    · obtain ⟨hb, h⟩ := mm_chk_e h
      cases (Nat.eq_of_beq_eq_true hb)
      exact h.elim
    · exact h.elim
  | n + 1, ls, st, M, h => by
    have ih := okX8_dearest_14 (Q := Q) Z hk4 n
    unfold qX8_dearest_14 at h
    split at h
    · obtain ⟨hb, h⟩ := mm_chk_e h
      cases (Nat.eq_of_beq_eq_true hb)
      exact mm_Zb Z 46 14 [(4, qX8_dearest_4 (K4)), (14, qX8_dearest_14 (fun v1 v2 v3 v4 M => bX8_dearest_14 K4 n v1 v2 v3 v4 M (fun r M => Q (some (.inl r)) M)))] (mm_fa1 hk4 (mm_fa1 ih mm_fa0)) h
    · exact h.elim
theorem okX8_dearest_14x {p : Program} {l : Launch} {e : Env} {s : State} {m : MethodId} {args : Array Value} {below : List Frame} {meth : Method} {c : Code} {cA : Nat → ClassId} {ad : Nat → Nat} {D : va_G} {A : Nat → Prop} {Q : Option mm_V → mm_M → Prop} (Z : ZX8_dearest p l e s m args below meth c cA ad D A) {K4 : Int → Int → Int → mm_M → Prop} (hk4 : ∀ ls st M, qX8_dearest_4 K4 ls st M → mm_G p l e (mm_rm 2) s m args below meth c lay_m cA ad D A 5 Q 4 ls st M) : ∀ ls st M, qX8_dearest_14 (fun v1 v2 v3 v4 M => ∃ j, bX8_dearest_14 K4 j v1 v2 v3 v4 M (fun r M => Q (some (.inl r)) M)) ls st M → mm_G p l e (mm_rm 2) s m args below meth c lay_m cA ad D A 5 Q 14 ls st M := by
  intro ls st M h
  have hex : ∃ n, qX8_dearest_14 (fun v1 v2 v3 v4 M => bX8_dearest_14 K4 n v1 v2 v3 v4 M (fun r M => Q (some (.inl r)) M)) ls st M := by
    unfold qX8_dearest_14 at h
    split at h
    · obtain ⟨hb, h⟩ := mm_chk_e h
      cases (Nat.eq_of_beq_eq_true hb)
      obtain ⟨n, h⟩ := h
      exact ⟨n, h⟩
    · exact h.elim
  obtain ⟨n, hex⟩ := hex
  exact okX8_dearest_14 Z hk4 n ls st M hex
theorem okX8_dearest_4 {p : Program} {l : Launch} {e : Env} {s : State} {m : MethodId} {args : Array Value} {below : List Frame} {meth : Method} {c : Code} {cA : Nat → ClassId} {ad : Nat → Nat} {D : va_G} {A : Nat → Prop} {Q : Option mm_V → mm_M → Prop} (Z : ZX8_dearest p l e s m args below meth c cA ad D A) : ∀ (n : Nat) ls st M, qX8_dearest_4 (fun v1 v2 v3 M => bX8_dearest_4 n v1 v2 v3 M (fun r M => Q (some (.inl r)) M)) ls st M → mm_G p l e (mm_rm 2) s m args below meth c lay_m cA ad D A 5 Q 4 ls st M
  | 0, ls, st, M, h => by
    unfold qX8_dearest_4 at h
    split at h
    · obtain ⟨hb, h⟩ := mm_chk_e h
      cases (Nat.eq_of_beq_eq_true hb)
      exact h.elim
    · exact h.elim
  | n + 1, ls, st, M, h => by
    have ih := okX8_dearest_4 (Q := Q) Z  n
    unfold qX8_dearest_4 at h
    split at h
    · obtain ⟨hb, h⟩ := mm_chk_e h
      cases (Nat.eq_of_beq_eq_true hb)
      exact mm_Zb Z 46 4 [(14, qX8_dearest_14 (fun v1 v2 v3 v4 M => ∃ j, bX8_dearest_14 (fun v1 v2 v3 M => bX8_dearest_4 n v1 v2 v3 M (fun r M => Q (some (.inl r)) M)) j v1 v2 v3 v4 M (fun r M => Q (some (.inl r)) M)))] (mm_fa1 (fun ls st M h => okX8_dearest_14x Z (ih) ls st M h) mm_fa0) h
    · exact h.elim
theorem okX8_dearest_4x {p : Program} {l : Launch} {e : Env} {s : State} {m : MethodId} {args : Array Value} {below : List Frame} {meth : Method} {c : Code} {cA : Nat → ClassId} {ad : Nat → Nat} {D : va_G} {A : Nat → Prop} {Q : Option mm_V → mm_M → Prop} (Z : ZX8_dearest p l e s m args below meth c cA ad D A) : ∀ ls st M, qX8_dearest_4 (fun v1 v2 v3 M => ∃ j, bX8_dearest_4 j v1 v2 v3 M (fun r M => Q (some (.inl r)) M)) ls st M → mm_G p l e (mm_rm 2) s m args below meth c lay_m cA ad D A 5 Q 4 ls st M := by
  intro ls st M h
  have hex : ∃ n, qX8_dearest_4 (fun v1 v2 v3 M => bX8_dearest_4 n v1 v2 v3 M (fun r M => Q (some (.inl r)) M)) ls st M := by
    unfold qX8_dearest_4 at h
    split at h
    · obtain ⟨hb, h⟩ := mm_chk_e h
      cases (Nat.eq_of_beq_eq_true hb)
      obtain ⟨n, h⟩ := h
      exact ⟨n, h⟩
    · exact h.elim
  obtain ⟨n, hex⟩ := hex
  exact okX8_dearest_4 Z  n ls st M hex
theorem okX8_dearest : mm_Ok lay_m yX8_dearest cX8_dearest 5 (some .int) 2 fX8_dearest := by
  refine mm_enter (rt := 1) (by decide +kernel) rfl ?_
  intro p l e s m args below meth c cA ad D A as M Q h C0
  have Z : ZX8_dearest p l e s m args below meth c cA ad D A := ⟨C0, flRX8_ok, mm_vt_of (mm_fa1 (mm_coV (n := 2) (ci := 8) C0 okX8_costsMore rfl rfl (mm_one_at (.methodLink RX8 357 yX8_costsMore) 1479 (by decide +kernel) rfl) (wX8_costsMore _ (by simp)) (wX8_costsMore _ (by simp [yX8_costsMore])) (wX8_costsMore _ (by simp [yX8_costsMore])) (wX8_costsMore _ (by simp)) (by decide +kernel) (by omega) (by omega)) (mm_fa0)), mm_vt_of (mm_fa0), kX8_dearest_ok, mm_ctok_J ctRX8_ok⟩
  unfold fX8_dearest at h
  split at h
  · obtain ⟨hb, h⟩ := mm_chk_e h
    cases (Nat.eq_of_beq_eq_true hb)
    exact ⟨Nat.le_of_ble_eq_true rfl, mm_Zb Z 46 0 [(4, qX8_dearest_4 (fun v1 v2 v3 M => ∃ j, bX8_dearest_4 j v1 v2 v3 M (fun r M => Q (some (.inl r)) M)))] (mm_fa1 (fun ls st M h => okX8_dearest_4x Z  ls st M h) mm_fa0) h⟩
  · exact h.elim
def kX8_layLeader : List mm_E := [(0, false, .aload_n 0, []), (1, false, .invokevirtual 360, []), (4, false, .aload_n 0, []), (5, false, .ldc2_w 363, []), (8, false, .aload_n 0, []), (9, false, .getfield 350, []), (12, false, .lmul, []), (13, false, .putfield 365, []), (16, false, .aload_n 0, []), (17, false, .getfield 53, []), (20, false, .i2l, []), (21, false, .aload_n 0, []), (22, false, .getfield 49, []), (25, false, .i2l, []), (26, false, .lmul, []), (27, false, .aload_n 0, []), (28, false, .getfield 350, []), (31, false, .lmul, []), (32, false, .lstore_n 1, []), (33, false, .iconst 0, []), (34, false, .istore_n 3, []), (35, true, .iload_n 3, []), (36, false, .aload_n 0, []), (37, false, .getfield 323, []), (40, false, .if_icmp .ge 59, [99]), (43, false, .aload_n 0, []), (44, false, .iload_n 3, []), (45, false, .invokevirtual 368, []), (48, false, .istore 4, []), (50, false, .ldc2_w 363, []), (53, false, .aload_n 0, []), (54, false, .getfield 96, []), (57, false, .iload 4, []), (59, false, .laload, []), (60, false, .lmul, []), (61, false, .lstore 5, []), (63, false, .aload_n 0, []), (64, false, .getfield 102, []), (67, false, .iload 4, []), (69, false, .lload_n 1, []), (70, false, .lload 5, []), (72, false, .lcmp, []), (73, false, .ifCond .ge 7, [80]), (76, false, .lload_n 1, []), (77, false, .goto 5, [82]), (80, false, .lload 5, []), (82, false, .lastore, []), (83, false, .lload_n 1, []), (84, false, .aload_n 0, []), (85, false, .getfield 102, []), (88, false, .iload 4, []), (90, false, .laload, []), (91, false, .lsub, []), (92, false, .lstore_n 1, []), (93, false, .iinc 3 1, []), (96, false, .goto (-61), [35]), (99, false, .return_, [])]
set_option maxRecDepth 20000 in
theorem kX8_layLeader_ok : mm_cok cX8_layLeader RX8 (mm_ctt ctRX8) kX8_layLeader := mm_c_of (k := false) ctRX8_ok (by decide +kernel)
set_option maxRecDepth 20000 in
theorem wX8_layLeader : ∀ w ∈ ([.instanceMethod yX8_layLeader, .selects RX8 yX8_layLeader yX8_layLeader, .initialized RX8, .code yX8_layLeader cX8_layLeader 7 none] : List Cond), w ∈ mm_tbl := mm_sub_at _ [1472, 88, 112, 1473] (by decide +kernel) (by decide +kernel)
def vtX8_layLeader : List (Nat × Nat × Nat × mm_F) := [(360, 8, 1, fX8_layWise), (368, 8, 2, fX8_dearest)]
def smX8_layLeader : List (Nat × Nat × Nat × mm_F) := []
def ZX8_layLeader (p : Program) (l : Launch) (e : Env) (s : State) (m : MethodId) (args : Array Value) (below : List Frame) (meth : Method) (c : Code) (cA : Nat → ClassId) (ad : Nat → Nat) (D : va_G) (A : Nat → Prop) : Prop := mm_Z p l e (mm_rm 4) s m args below meth c lay_m cA ad D A RX8 cX8_layLeader 7 0 (mm_flt flRX8) (mm_clt (vtX8_layLeader)) (mm_clt (smX8_layLeader)) (mm_ctt ctRX8) kX8_layLeader
def qX8_layLeader_35 (P : Int → Int → mm_M → Prop) : mm_K := fun ls st M => match ls, st with
  | [some (.inr (.inr c0)), some (.inr (.inl v1)), none, some (.inl v3), _, _, none], [] => mm_chk (Nat.beq c0 0) (P v1 v3 M)
  | _, _ => False
theorem okX8_layLeader_35 {p : Program} {l : Launch} {e : Env} {s : State} {m : MethodId} {args : Array Value} {below : List Frame} {meth : Method} {c : Code} {cA : Nat → ClassId} {ad : Nat → Nat} {D : va_G} {A : Nat → Prop} {Q : Option mm_V → mm_M → Prop} (Z : ZX8_layLeader p l e s m args below meth c cA ad D A) : ∀ (n : Nat) ls st M, qX8_layLeader_35 (fun v1 v3 M => bX8_layLeader_35 n v1 v3 M (fun M => Q none M)) ls st M → mm_G p l e (mm_rm 4) s m args below meth c lay_m cA ad D A 7 Q 35 ls st M
  | 0, ls, st, M, h => by
    unfold qX8_layLeader_35 at h
    split at h
    · obtain ⟨hb, h⟩ := mm_chk_e h
      cases (Nat.eq_of_beq_eq_true hb)
      exact h.elim
    · exact h.elim
  | n + 1, ls, st, M, h => by
    have ih := okX8_layLeader_35 (Q := Q) Z  n
    unfold qX8_layLeader_35 at h
    split at h
    · obtain ⟨hb, h⟩ := mm_chk_e h
      cases (Nat.eq_of_beq_eq_true hb)
      exact mm_Zb Z 60 35 [(35, qX8_layLeader_35 (fun v1 v3 M => bX8_layLeader_35 n v1 v3 M (fun M => Q none M)))] (mm_fa1 ih mm_fa0) h
    · exact h.elim
theorem okX8_layLeader_35x {p : Program} {l : Launch} {e : Env} {s : State} {m : MethodId} {args : Array Value} {below : List Frame} {meth : Method} {c : Code} {cA : Nat → ClassId} {ad : Nat → Nat} {D : va_G} {A : Nat → Prop} {Q : Option mm_V → mm_M → Prop} (Z : ZX8_layLeader p l e s m args below meth c cA ad D A) : ∀ ls st M, qX8_layLeader_35 (fun v1 v3 M => ∃ j, bX8_layLeader_35 j v1 v3 M (fun M => Q none M)) ls st M → mm_G p l e (mm_rm 4) s m args below meth c lay_m cA ad D A 7 Q 35 ls st M := by
  intro ls st M h
  have hex : ∃ n, qX8_layLeader_35 (fun v1 v3 M => bX8_layLeader_35 n v1 v3 M (fun M => Q none M)) ls st M := by
    unfold qX8_layLeader_35 at h
    split at h
    · obtain ⟨hb, h⟩ := mm_chk_e h
      cases (Nat.eq_of_beq_eq_true hb)
      obtain ⟨n, h⟩ := h
      exact ⟨n, h⟩
    · exact h.elim
  obtain ⟨n, hex⟩ := hex
  exact okX8_layLeader_35 Z  n ls st M hex
theorem okX8_layLeader : mm_Ok lay_m yX8_layLeader cX8_layLeader 7 none 4 fX8_layLeader := by
  refine mm_enter (rt := 0) (by decide +kernel) rfl ?_
  intro p l e s m args below meth c cA ad D A as M Q h C0
  have Z : ZX8_layLeader p l e s m args below meth c cA ad D A := ⟨C0, flRX8_ok, mm_vt_of (mm_fa1 (mm_coV (n := 0) (ci := 8) C0 okX8_layWise rfl rfl (mm_one_at (.methodLink RX8 360 yX8_layWise) 1461 (by decide +kernel) rfl) (wX8_layWise _ (by simp)) (wX8_layWise _ (by simp [yX8_layWise])) (wX8_layWise _ (by simp [yX8_layWise])) (wX8_layWise _ (by simp)) (by decide +kernel) (by omega) (by omega)) (mm_fa1 (mm_coV (n := 1) (ci := 8) C0 okX8_dearest rfl rfl (mm_one_at (.methodLink RX8 368 yX8_dearest) 1475 (by decide +kernel) rfl) (wX8_dearest _ (by simp)) (wX8_dearest _ (by simp [yX8_dearest])) (wX8_dearest _ (by simp [yX8_dearest])) (wX8_dearest _ (by simp)) (by decide +kernel) (by omega) (by omega)) (mm_fa0))), mm_vt_of (mm_fa0), kX8_layLeader_ok, mm_ctok_J ctRX8_ok⟩
  unfold fX8_layLeader at h
  split at h
  · obtain ⟨hb, h⟩ := mm_chk_e h
    cases (Nat.eq_of_beq_eq_true hb)
    exact ⟨Nat.le_of_ble_eq_true rfl, mm_Zb Z 60 0 [(35, qX8_layLeader_35 (fun v1 v3 M => ∃ j, bX8_layLeader_35 j v1 v3 M (fun M => Q none M)))] (mm_fa1 (fun ls st M h => okX8_layLeader_35x Z  ls st M h) mm_fa0) h⟩
  · exact h.elim
def kX8_layLed : List mm_E := [(0, false, .aload_n 0, []), (1, false, .invokevirtual 371, []), (4, false, .iconst 0, []), (5, false, .istore_n 1, []), (6, true, .iload_n 1, []), (7, false, .aload_n 0, []), (8, false, .getfield 323, []), (11, false, .if_icmp .ge 42, [53]), (14, false, .aload_n 0, []), (15, false, .getfield 89, []), (18, false, .iload_n 1, []), (19, false, .aload_n 0, []), (20, false, .getfield 43, []), (23, false, .iload_n 1, []), (24, false, .iaload, []), (25, false, .i2l, []), (26, false, .aload_n 0, []), (27, false, .getfield 365, []), (30, false, .lmul, []), (31, false, .aload_n 0, []), (32, false, .getfield 46, []), (35, false, .iload_n 1, []), (36, false, .iaload, []), (37, false, .i2l, []), (38, false, .aload_n 0, []), (39, false, .getfield 102, []), (42, false, .iload_n 1, []), (43, false, .laload, []), (44, false, .lmul, []), (45, false, .ladd, []), (46, false, .lastore, []), (47, false, .iinc 1 1, []), (50, false, .goto (-44), [6]), (53, false, .bipush 10, []), (55, false, .aload_n 0, []), (56, false, .getfield 53, []), (59, false, .isub, []), (60, false, .i2l, []), (61, false, .aload_n 0, []), (62, false, .getfield 49, []), (65, false, .i2l, []), (66, false, .lmul, []), (67, false, .aload_n 0, []), (68, false, .getfield 350, []), (71, false, .lmul, []), (72, false, .lstore_n 1, []), (73, false, .aload_n 0, []), (74, false, .lload_n 1, []), (75, false, .aload_n 0, []), (76, false, .getfield 365, []), (79, false, .iconst 1, []), (80, false, .invokevirtual 342, []), (83, false, .istore_n 3, []), (84, false, .aload_n 0, []), (85, false, .iload_n 3, []), (86, false, .ifCond .ne 10, [96]), (89, false, .aload_n 0, []), (90, false, .getfield 365, []), (93, false, .goto 11, [104]), (96, false, .ldc2_w 326, []), (99, false, .aload_n 0, []), (100, false, .getfield 335, []), (103, false, .lmul, []), (104, false, .putfield 374, []), (107, false, .iconst 0, []), (108, false, .istore 4, []), (110, true, .iload 4, []), (112, false, .aload_n 0, []), (113, false, .getfield 323, []), (116, false, .if_icmp .ge 88, [204]), (119, false, .iload_n 3, []), (120, false, .iload 4, []), (122, false, .ishr, []), (123, false, .iconst 1, []), (124, false, .iand, []), (125, false, .iconst 1, []), (126, false, .if_icmp .ne 7, [133]), (129, false, .iconst 1, []), (130, false, .goto 4, [134]), (133, false, .iconst 0, []), (134, true, .istore 5, []), (136, false, .aload_n 0, []), (137, false, .getfield 374, []), (140, false, .aload_n 0, []), (141, false, .getfield 365, []), (144, false, .ldiv, []), (145, false, .lstore 6, []), (147, false, .aload_n 0, []), (148, false, .getfield 99, []), (151, false, .iload 4, []), (153, false, .iload 5, []), (155, false, .ifCond .eq 32, [187]), (158, false, .aload_n 0, []), (159, false, .iload 4, []), (161, false, .invokevirtual 328, []), (164, false, .i2l, []), (165, false, .aload_n 0, []), (166, false, .getfield 331, []), (169, false, .aload_n 0, []), (170, false, .getfield 43, []), (173, false, .iload 4, []), (175, false, .iaload, []), (176, false, .i2l, []), (177, false, .aload_n 0, []), (178, false, .getfield 335, []), (181, false, .lmul, []), (182, false, .lsub, []), (183, false, .lmul, []), (184, false, .goto 13, [197]), (187, false, .aload_n 0, []), (188, false, .getfield 102, []), (191, false, .iload 4, []), (193, false, .laload, []), (194, false, .lload 6, []), (196, false, .lmul, []), (197, false, .lastore, []), (198, false, .iinc 4 1, []), (201, false, .goto (-91), [110]), (204, false, .return_, [])]
set_option maxRecDepth 20000 in
theorem kX8_layLed_ok : mm_cok cX8_layLed RX8 (mm_ctt ctRX8) kX8_layLed := mm_c_of (k := false) ctRX8_ok (by decide +kernel)
set_option maxRecDepth 20000 in
theorem wX8_layLed : ∀ w ∈ ([.instanceMethod yX8_layLed, .selects RX8 yX8_layLed yX8_layLed, .initialized RX8, .code yX8_layLed cX8_layLed 8 none] : List Cond), w ∈ mm_tbl := mm_sub_at _ [1468, 87, 112, 1469] (by decide +kernel) (by decide +kernel)
def vtX8_layLed : List (Nat × Nat × Nat × mm_F) := [(371, 8, 1, fX8_layLeader), (342, 8, 4, fX8_findLevel), (328, 8, 2, fX8_weight)]
def smX8_layLed : List (Nat × Nat × Nat × mm_F) := []
def ZX8_layLed (p : Program) (l : Launch) (e : Env) (s : State) (m : MethodId) (args : Array Value) (below : List Frame) (meth : Method) (c : Code) (cA : Nat → ClassId) (ad : Nat → Nat) (D : va_G) (A : Nat → Prop) : Prop := mm_Z p l e (mm_rm 5) s m args below meth c lay_m cA ad D A RX8 cX8_layLed 8 0 (mm_flt flRX8) (mm_clt (vtX8_layLed)) (mm_clt (smX8_layLed)) (mm_ctt ctRX8) kX8_layLed
def qX8_layLed_134 (P : Int → Int → Int → mm_M → Prop) : mm_K := fun ls st M => match ls, st with
  | [some (.inr (.inr c0)), _, none, some (.inl v3), some (.inl v4), _, _, none], [.inl w0] => mm_chk (Nat.beq c0 0) (P v3 v4 w0 M)
  | _, _ => False
def qX8_layLed_110 (P : Int → Int → mm_M → Prop) : mm_K := fun ls st M => match ls, st with
  | [some (.inr (.inr c0)), _, none, some (.inl v3), some (.inl v4), _, _, none], [] => mm_chk (Nat.beq c0 0) (P v3 v4 M)
  | _, _ => False
def qX8_layLed_6 (P : Int → mm_M → Prop) : mm_K := fun ls st M => match ls, st with
  | [some (.inr (.inr c0)), some (.inl v1), none, none, none, none, none, none], [] => mm_chk (Nat.beq c0 0) (P v1 M)
  | _, _ => False
set_option maxRecDepth 100000 in
theorem okX8_layLed_134 {p : Program} {l : Launch} {e : Env} {s : State} {m : MethodId} {args : Array Value} {below : List Frame} {meth : Method} {c : Code} {cA : Nat → ClassId} {ad : Nat → Nat} {D : va_G} {A : Nat → Prop} {Q : Option mm_V → mm_M → Prop} (Z : ZX8_layLed p l e s m args below meth c cA ad D A) {K110 : Int → Int → mm_M → Prop} (hk110 : ∀ ls st M, qX8_layLed_110 K110 ls st M → mm_G p l e (mm_rm 5) s m args below meth c lay_m cA ad D A 8 Q 110 ls st M) : ∀ ls st M, qX8_layLed_134 (fun v3 v4 w0 M => bX8_layLed_134 K110 v3 v4 w0 M (fun M => Q none M)) ls st M → mm_G p l e (mm_rm 5) s m args below meth c lay_m cA ad D A 8 Q 134 ls st M := by
  intro ls st M h
  unfold qX8_layLed_134 at h
  split at h
  · obtain ⟨hb, h⟩ := mm_chk_e h
    cases (Nat.eq_of_beq_eq_true hb)
    exact mm_Zb Z 122 134 [(110, qX8_layLed_110 (K110))] (mm_fa1 hk110 mm_fa0) h
  · exact h.elim
set_option maxRecDepth 100000 in
theorem okX8_layLed_110 {p : Program} {l : Launch} {e : Env} {s : State} {m : MethodId} {args : Array Value} {below : List Frame} {meth : Method} {c : Code} {cA : Nat → ClassId} {ad : Nat → Nat} {D : va_G} {A : Nat → Prop} {Q : Option mm_V → mm_M → Prop} (Z : ZX8_layLed p l e s m args below meth c cA ad D A) : ∀ (n : Nat) ls st M, qX8_layLed_110 (fun v3 v4 M => bX8_layLed_110 n v3 v4 M (fun M => Q none M)) ls st M → mm_G p l e (mm_rm 5) s m args below meth c lay_m cA ad D A 8 Q 110 ls st M
  | 0, ls, st, M, h => by
    unfold qX8_layLed_110 at h
    split at h
    · obtain ⟨hb, h⟩ := mm_chk_e h
      cases (Nat.eq_of_beq_eq_true hb)
      exact h.elim
    · exact h.elim
  | n + 1, ls, st, M, h => by
    have ih := okX8_layLed_110 (Q := Q) Z  n
    unfold qX8_layLed_110 at h
    split at h
    · obtain ⟨hb, h⟩ := mm_chk_e h
      cases (Nat.eq_of_beq_eq_true hb)
      exact mm_Zb Z 122 110 [(134, qX8_layLed_134 (fun v3 v4 w0 M => bX8_layLed_134 (fun v3 v4 M => bX8_layLed_110 n v3 v4 M (fun M => Q none M)) v3 v4 w0 M (fun M => Q none M)))] (mm_fa1 (fun ls st M h => okX8_layLed_134 Z (ih) ls st M h) mm_fa0) h
    · exact h.elim
set_option maxRecDepth 100000 in
theorem okX8_layLed_110x {p : Program} {l : Launch} {e : Env} {s : State} {m : MethodId} {args : Array Value} {below : List Frame} {meth : Method} {c : Code} {cA : Nat → ClassId} {ad : Nat → Nat} {D : va_G} {A : Nat → Prop} {Q : Option mm_V → mm_M → Prop} (Z : ZX8_layLed p l e s m args below meth c cA ad D A) : ∀ ls st M, qX8_layLed_110 (fun v3 v4 M => ∃ j, bX8_layLed_110 j v3 v4 M (fun M => Q none M)) ls st M → mm_G p l e (mm_rm 5) s m args below meth c lay_m cA ad D A 8 Q 110 ls st M := by
  intro ls st M h
  have hex : ∃ n, qX8_layLed_110 (fun v3 v4 M => bX8_layLed_110 n v3 v4 M (fun M => Q none M)) ls st M := by
    unfold qX8_layLed_110 at h
    split at h
    · obtain ⟨hb, h⟩ := mm_chk_e h
      cases (Nat.eq_of_beq_eq_true hb)
      obtain ⟨n, h⟩ := h
      exact ⟨n, h⟩
    · exact h.elim
  obtain ⟨n, hex⟩ := hex
  exact okX8_layLed_110 Z  n ls st M hex
set_option maxRecDepth 100000 in
theorem okX8_layLed_6 {p : Program} {l : Launch} {e : Env} {s : State} {m : MethodId} {args : Array Value} {below : List Frame} {meth : Method} {c : Code} {cA : Nat → ClassId} {ad : Nat → Nat} {D : va_G} {A : Nat → Prop} {Q : Option mm_V → mm_M → Prop} (Z : ZX8_layLed p l e s m args below meth c cA ad D A) : ∀ (n : Nat) ls st M, qX8_layLed_6 (fun v1 M => bX8_layLed_6 n v1 M (fun M => Q none M)) ls st M → mm_G p l e (mm_rm 5) s m args below meth c lay_m cA ad D A 8 Q 6 ls st M
  | 0, ls, st, M, h => by
    unfold qX8_layLed_6 at h
    split at h
    · obtain ⟨hb, h⟩ := mm_chk_e h
      cases (Nat.eq_of_beq_eq_true hb)
      exact h.elim
    · exact h.elim
  | n + 1, ls, st, M, h => by
    have ih := okX8_layLed_6 (Q := Q) Z  n
    unfold qX8_layLed_6 at h
    split at h
    · obtain ⟨hb, h⟩ := mm_chk_e h
      cases (Nat.eq_of_beq_eq_true hb)
      exact mm_Zb Z 122 6 [(6, qX8_layLed_6 (fun v1 M => bX8_layLed_6 n v1 M (fun M => Q none M))), (110, qX8_layLed_110 (fun v3 v4 M => ∃ j, bX8_layLed_110 j v3 v4 M (fun M => Q none M)))] (mm_fa1 ih (mm_fa1 (fun ls st M h => okX8_layLed_110x Z  ls st M h) mm_fa0)) h
    · exact h.elim
set_option maxRecDepth 100000 in
theorem okX8_layLed_6x {p : Program} {l : Launch} {e : Env} {s : State} {m : MethodId} {args : Array Value} {below : List Frame} {meth : Method} {c : Code} {cA : Nat → ClassId} {ad : Nat → Nat} {D : va_G} {A : Nat → Prop} {Q : Option mm_V → mm_M → Prop} (Z : ZX8_layLed p l e s m args below meth c cA ad D A) : ∀ ls st M, qX8_layLed_6 (fun v1 M => ∃ j, bX8_layLed_6 j v1 M (fun M => Q none M)) ls st M → mm_G p l e (mm_rm 5) s m args below meth c lay_m cA ad D A 8 Q 6 ls st M := by
  intro ls st M h
  have hex : ∃ n, qX8_layLed_6 (fun v1 M => bX8_layLed_6 n v1 M (fun M => Q none M)) ls st M := by
    unfold qX8_layLed_6 at h
    split at h
    · obtain ⟨hb, h⟩ := mm_chk_e h
      cases (Nat.eq_of_beq_eq_true hb)
      obtain ⟨n, h⟩ := h
      exact ⟨n, h⟩
    · exact h.elim
  obtain ⟨n, hex⟩ := hex
  exact okX8_layLed_6 Z  n ls st M hex
set_option maxRecDepth 100000 in
theorem okX8_layLed : mm_Ok lay_m yX8_layLed cX8_layLed 8 none 5 fX8_layLed := by
  refine mm_enter (rt := 0) (by decide +kernel) rfl ?_
  intro p l e s m args below meth c cA ad D A as M Q h C0
  have Z : ZX8_layLed p l e s m args below meth c cA ad D A := ⟨C0, flRX8_ok, mm_vt_of (mm_fa1 (mm_coV (n := 0) (ci := 8) C0 okX8_layLeader rfl rfl (mm_one_at (.methodLink RX8 371 yX8_layLeader) 1470 (by decide +kernel) rfl) (wX8_layLeader _ (by simp)) (wX8_layLeader _ (by simp [yX8_layLeader])) (wX8_layLeader _ (by simp [yX8_layLeader])) (wX8_layLeader _ (by simp)) (by decide +kernel) (by omega) (by omega)) (mm_fa1 (mm_coV (n := 3) (ci := 8) C0 okX8_findLevel rfl rfl (mm_one_at (.methodLink RX8 342 yX8_findLevel) 1448 (by decide +kernel) rfl) (wX8_findLevel _ (by simp)) (wX8_findLevel _ (by simp [yX8_findLevel])) (wX8_findLevel _ (by simp [yX8_findLevel])) (wX8_findLevel _ (by simp)) (by decide +kernel) (by omega) (by omega)) (mm_fa1 (mm_coV (n := 1) (ci := 8) C0 okX8_weight rfl rfl (mm_one_at (.methodLink RX8 328 yX8_weight) 1457 (by decide +kernel) rfl) (wX8_weight _ (by simp)) (wX8_weight _ (by simp [yX8_weight])) (wX8_weight _ (by simp [yX8_weight])) (wX8_weight _ (by simp)) (by decide +kernel) (by omega) (by omega)) (mm_fa0)))), mm_vt_of (mm_fa0), kX8_layLed_ok, mm_ctok_J ctRX8_ok⟩
  unfold fX8_layLed at h
  split at h
  · obtain ⟨hb, h⟩ := mm_chk_e h
    cases (Nat.eq_of_beq_eq_true hb)
    exact ⟨Nat.le_of_ble_eq_true rfl, mm_Zb Z 122 0 [(6, qX8_layLed_6 (fun v1 M => ∃ j, bX8_layLed_6 j v1 M (fun M => Q none M)))] (mm_fa1 (fun ls st M h => okX8_layLed_6x Z  ls st M h) mm_fa0) h⟩
  · exact h.elim
def kX8_layFlow : List mm_E := [(0, false, .iload_n 1, []), (1, false, .lookupswitch 41 #[(0, 27), (1, 34)], [42, 28, 35]), (28, false, .aload_n 0, []), (29, false, .invokevirtual 377, []), (32, false, .goto 14, [46]), (35, false, .aload_n 0, []), (36, false, .invokevirtual 360, []), (39, false, .goto 7, [46]), (42, false, .aload_n 0, []), (43, false, .invokevirtual 380, []), (46, false, .return_, [])]
set_option maxRecDepth 20000 in
theorem kX8_layFlow_ok : mm_cok cX8_layFlow RX8 (mm_ctt ctRX8) kX8_layFlow := mm_c_of (k := false) ctRX8_ok (by decide +kernel)
set_option maxRecDepth 20000 in
theorem wX8_layFlow : ∀ w ∈ ([.instanceMethod yX8_layFlow, .selects RX8 yX8_layFlow yX8_layFlow, .initialized RX8, .code yX8_layFlow cX8_layFlow 2 none] : List Cond), w ∈ mm_tbl := mm_sub_at _ [1442, 81, 112, 1443] (by decide +kernel) (by decide +kernel)
def vtX8_layFlow : List (Nat × Nat × Nat × mm_F) := [(380, 8, 1, fX8_layLed), (377, 8, 1, fX8_layEven), (360, 8, 1, fX8_layWise)]
def smX8_layFlow : List (Nat × Nat × Nat × mm_F) := []
def ZX8_layFlow (p : Program) (l : Launch) (e : Env) (s : State) (m : MethodId) (args : Array Value) (below : List Frame) (meth : Method) (c : Code) (cA : Nat → ClassId) (ad : Nat → Nat) (D : va_G) (A : Nat → Prop) : Prop := mm_Z p l e (mm_rm 6) s m args below meth c lay_m cA ad D A RX8 cX8_layFlow 2 0 (mm_flt flRX8) (mm_clt (vtX8_layFlow)) (mm_clt (smX8_layFlow)) (mm_ctt ctRX8) kX8_layFlow
theorem okX8_layFlow : mm_Ok lay_m yX8_layFlow cX8_layFlow 2 none 6 fX8_layFlow := by
  refine mm_enter (rt := 0) (by decide +kernel) rfl ?_
  intro p l e s m args below meth c cA ad D A as M Q h C0
  have Z : ZX8_layFlow p l e s m args below meth c cA ad D A := ⟨C0, flRX8_ok, mm_vt_of (mm_fa1 (mm_coV (n := 0) (ci := 8) C0 okX8_layLed rfl rfl (mm_one_at (.methodLink RX8 380 yX8_layLed) 1466 (by decide +kernel) rfl) (wX8_layLed _ (by simp)) (wX8_layLed _ (by simp [yX8_layLed])) (wX8_layLed _ (by simp [yX8_layLed])) (wX8_layLed _ (by simp)) (by decide +kernel) (by omega) (by omega)) (mm_fa1 (mm_coV (n := 0) (ci := 8) C0 okX8_layEven rfl rfl (mm_one_at (.methodLink RX8 377 yX8_layEven) 1444 (by decide +kernel) rfl) (wX8_layEven _ (by simp)) (wX8_layEven _ (by simp [yX8_layEven])) (wX8_layEven _ (by simp [yX8_layEven])) (wX8_layEven _ (by simp)) (by decide +kernel) (by omega) (by omega)) (mm_fa1 (mm_coV (n := 0) (ci := 8) C0 okX8_layWise rfl rfl (mm_one_at (.methodLink RX8 360 yX8_layWise) 1461 (by decide +kernel) rfl) (wX8_layWise _ (by simp)) (wX8_layWise _ (by simp [yX8_layWise])) (wX8_layWise _ (by simp [yX8_layWise])) (wX8_layWise _ (by simp)) (by decide +kernel) (by omega) (by omega)) (mm_fa0)))), mm_vt_of (mm_fa0), kX8_layFlow_ok, mm_ctok_J ctRX8_ok⟩
  unfold fX8_layFlow at h
  split at h
  · obtain ⟨hb, h⟩ := mm_chk_e h
    cases (Nat.eq_of_beq_eq_true hb)
    exact ⟨Nat.le_of_ble_eq_true rfl, mm_Zb Z 14 0 [] mm_fa0 h⟩
  · exact h.elim
def kX8_amountOf : List mm_E := [(0, false, .iload_n 1, []), (1, false, .ifCond .ne 12, [13]), (4, false, .aload_n 0, []), (5, false, .getfield 93, []), (8, false, .iload_n 2, []), (9, false, .laload, []), (10, false, .goto 37, [47]), (13, false, .iload_n 1, []), (14, false, .iconst 1, []), (15, false, .if_icmp .ne 12, [27]), (18, false, .aload_n 0, []), (19, false, .getfield 96, []), (22, false, .iload_n 2, []), (23, false, .laload, []), (24, false, .goto 23, [47]), (27, false, .iload_n 1, []), (28, false, .iconst 2, []), (29, false, .if_icmp .ne 12, [41]), (32, false, .aload_n 0, []), (33, false, .getfield 99, []), (36, false, .iload_n 2, []), (37, false, .laload, []), (38, false, .goto 9, [47]), (41, false, .aload_n 0, []), (42, false, .getfield 102, []), (45, false, .iload_n 2, []), (46, false, .laload, []), (47, false, .lreturn, [])]
set_option maxRecDepth 20000 in
theorem kX8_amountOf_ok : mm_cok cX8_amountOf RX8 (mm_ctt ctRX8) kX8_amountOf := mm_c_of (k := false) ctRX8_ok (by decide +kernel)
set_option maxRecDepth 20000 in
theorem wX8_amountOf : ∀ w ∈ ([.instanceMethod yX8_amountOf, .selects RX8 yX8_amountOf yX8_amountOf, .initialized RX8, .code yX8_amountOf cX8_amountOf 3 (some .long)] : List Cond), w ∈ mm_tbl := mm_sub_at _ [1489, 92, 112, 1490] (by decide +kernel) (by decide +kernel)
def vtX8_amountOf : List (Nat × Nat × Nat × mm_F) := []
def smX8_amountOf : List (Nat × Nat × Nat × mm_F) := []
def ZX8_amountOf (p : Program) (l : Launch) (e : Env) (s : State) (m : MethodId) (args : Array Value) (below : List Frame) (meth : Method) (c : Code) (cA : Nat → ClassId) (ad : Nat → Nat) (D : va_G) (A : Nat → Prop) : Prop := mm_Z p l e (mm_rm 0) s m args below meth c lay_m cA ad D A RX8 cX8_amountOf 3 3 (mm_flt flRX8) (mm_clt (vtX8_amountOf)) (mm_clt (smX8_amountOf)) (mm_ctt ctRX8) kX8_amountOf
theorem okX8_amountOf : mm_Ok lay_m yX8_amountOf cX8_amountOf 3 (some .long) 0 fX8_amountOf := by
  refine mm_enter (rt := 3) (by decide +kernel) rfl ?_
  intro p l e s m args below meth c cA ad D A as M Q h C0
  have Z : ZX8_amountOf p l e s m args below meth c cA ad D A := ⟨C0, flRX8_ok, mm_vt_of (mm_fa0), mm_vt_of (mm_fa0), kX8_amountOf_ok, mm_ctok_J ctRX8_ok⟩
  unfold fX8_amountOf at h
  split at h
  · obtain ⟨hb, h⟩ := mm_chk_e h
    cases (Nat.eq_of_beq_eq_true hb)
    exact ⟨Nat.le_of_ble_eq_true rfl, mm_Zb Z 31 0 [] mm_fa0 h⟩
  · exact h.elim
def kX8_belowOf : List mm_E := [(0, false, .iload_n 1, []), (1, false, .ifCond .ne 10, [11]), (4, false, .aload_n 0, []), (5, false, .getfield 345, []), (8, false, .goto 31, [39]), (11, false, .iload_n 1, []), (12, false, .iconst 1, []), (13, false, .if_icmp .ne 10, [23]), (16, false, .aload_n 0, []), (17, false, .getfield 350, []), (20, false, .goto 19, [39]), (23, false, .iload_n 1, []), (24, false, .iconst 2, []), (25, false, .if_icmp .ne 10, [35]), (28, false, .aload_n 0, []), (29, false, .getfield 374, []), (32, false, .goto 7, [39]), (35, false, .aload_n 0, []), (36, false, .getfield 365, []), (39, false, .lreturn, [])]
set_option maxRecDepth 20000 in
theorem kX8_belowOf_ok : mm_cok cX8_belowOf RX8 (mm_ctt ctRX8) kX8_belowOf := mm_c_of (k := false) ctRX8_ok (by decide +kernel)
set_option maxRecDepth 20000 in
theorem wX8_belowOf : ∀ w ∈ ([.instanceMethod yX8_belowOf, .selects RX8 yX8_belowOf yX8_belowOf, .initialized RX8, .code yX8_belowOf cX8_belowOf 2 (some .long)] : List Cond), w ∈ mm_tbl := mm_sub_at _ [1493, 93, 112, 1494] (by decide +kernel) (by decide +kernel)
def vtX8_belowOf : List (Nat × Nat × Nat × mm_F) := []
def smX8_belowOf : List (Nat × Nat × Nat × mm_F) := []
def ZX8_belowOf (p : Program) (l : Launch) (e : Env) (s : State) (m : MethodId) (args : Array Value) (below : List Frame) (meth : Method) (c : Code) (cA : Nat → ClassId) (ad : Nat → Nat) (D : va_G) (A : Nat → Prop) : Prop := mm_Z p l e (mm_rm 0) s m args below meth c lay_m cA ad D A RX8 cX8_belowOf 2 3 (mm_flt flRX8) (mm_clt (vtX8_belowOf)) (mm_clt (smX8_belowOf)) (mm_ctt ctRX8) kX8_belowOf
theorem okX8_belowOf : mm_Ok lay_m yX8_belowOf cX8_belowOf 2 (some .long) 0 fX8_belowOf := by
  refine mm_enter (rt := 3) (by decide +kernel) rfl ?_
  intro p l e s m args below meth c cA ad D A as M Q h C0
  have Z : ZX8_belowOf p l e s m args below meth c cA ad D A := ⟨C0, flRX8_ok, mm_vt_of (mm_fa0), mm_vt_of (mm_fa0), kX8_belowOf_ok, mm_ctok_J ctRX8_ok⟩
  unfold fX8_belowOf at h
  split at h
  · obtain ⟨hb, h⟩ := mm_chk_e h
    cases (Nat.eq_of_beq_eq_true hb)
    exact ⟨Nat.le_of_ble_eq_true rfl, mm_Zb Z 23 0 [] mm_fa0 h⟩
  · exact h.elim
def kX8_flowNow : List mm_E := [(0, false, .aload_n 0, []), (1, false, .iload_n 1, []), (2, false, .invokevirtual 383, []), (5, false, .aload_n 0, []), (6, false, .iload_n 1, []), (7, false, .iload_n 2, []), (8, false, .invokevirtual 386, []), (11, false, .aload_n 0, []), (12, false, .iload_n 1, []), (13, false, .invokevirtual 390, []), (16, false, .iload_n 3, []), (17, false, .invokestatic 295, []), (20, false, .ireturn, [])]
set_option maxRecDepth 20000 in
theorem kX8_flowNow_ok : mm_cok cX8_flowNow RX8 (mm_ctt ctRX8) kX8_flowNow := mm_c_of (k := false) ctRX8_ok (by decide +kernel)
set_option maxRecDepth 20000 in
theorem wX8_flowNow : ∀ w ∈ ([.instanceMethod yX8_flowNow, .selects RX8 yX8_flowNow yX8_flowNow, .initialized RX8, .code yX8_flowNow cX8_flowNow 4 (some .int)] : List Cond), w ∈ mm_tbl := mm_sub_at _ [1438, 80, 112, 1439] (by decide +kernel) (by decide +kernel)
def vtX8_flowNow : List (Nat × Nat × Nat × mm_F) := [(383, 8, 2, fX8_layFlow), (386, 8, 3, fX8_amountOf), (390, 8, 2, fX8_belowOf)]
def smX8_flowNow : List (Nat × Nat × Nat × mm_F) := [(295, 0, 3, fX8_part)]
def ZX8_flowNow (p : Program) (l : Launch) (e : Env) (s : State) (m : MethodId) (args : Array Value) (below : List Frame) (meth : Method) (c : Code) (cA : Nat → ClassId) (ad : Nat → Nat) (D : va_G) (A : Nat → Prop) : Prop := mm_Z p l e (mm_rm 7) s m args below meth c lay_m cA ad D A RX8 cX8_flowNow 4 1 (mm_flt flRX8) (mm_clt (vtX8_flowNow)) (mm_clt (smX8_flowNow)) (mm_ctt ctRX8) kX8_flowNow
theorem okX8_flowNow : mm_Ok lay_m yX8_flowNow cX8_flowNow 4 (some .int) 7 fX8_flowNow := by
  refine mm_enter (rt := 1) (by decide +kernel) rfl ?_
  intro p l e s m args below meth c cA ad D A as M Q h C0
  have Z : ZX8_flowNow p l e s m args below meth c cA ad D A := ⟨C0, flRX8_ok, mm_vt_of (mm_fa1 (mm_coV (n := 1) (ci := 8) C0 okX8_layFlow rfl rfl (mm_one_at (.methodLink RX8 383 yX8_layFlow) 1440 (by decide +kernel) rfl) (wX8_layFlow _ (by simp)) (wX8_layFlow _ (by simp [yX8_layFlow])) (wX8_layFlow _ (by simp [yX8_layFlow])) (wX8_layFlow _ (by simp)) (by decide +kernel) (by omega) (by omega)) (mm_fa1 (mm_coV (n := 2) (ci := 8) C0 okX8_amountOf rfl rfl (mm_one_at (.methodLink RX8 386 yX8_amountOf) 1487 (by decide +kernel) rfl) (wX8_amountOf _ (by simp)) (wX8_amountOf _ (by simp [yX8_amountOf])) (wX8_amountOf _ (by simp [yX8_amountOf])) (wX8_amountOf _ (by simp)) (by decide +kernel) (by omega) (by omega)) (mm_fa1 (mm_coV (n := 1) (ci := 8) C0 okX8_belowOf rfl rfl (mm_one_at (.methodLink RX8 390 yX8_belowOf) 1491 (by decide +kernel) rfl) (wX8_belowOf _ (by simp)) (wX8_belowOf _ (by simp [yX8_belowOf])) (wX8_belowOf _ (by simp [yX8_belowOf])) (wX8_belowOf _ (by simp)) (by decide +kernel) (by omega) (by omega)) (mm_fa0)))), mm_vt_of (mm_fa1 (mm_coS (n := 3) C0 okX8_part (mm_one_at (.methodLink RX8 295 yX8_part) 1366 (by decide +kernel) rfl) (wX8_part _ (by simp)) (wX8_part _ (by simp [yX8_part])) (wX8_part _ (by simp)) (by decide +kernel) (by omega) (by omega)) (mm_fa0)), kX8_flowNow_ok, mm_ctok_J ctRX8_ok⟩
  unfold fX8_flowNow at h
  split at h
  · obtain ⟨hb, h⟩ := mm_chk_e h
    cases (Nat.eq_of_beq_eq_true hb)
    exact ⟨Nat.le_of_ble_eq_true rfl, mm_Zb Z 16 0 [] mm_fa0 h⟩
  · exact h.elim
def kX8_flow : List mm_E := [(0, false, .iload_n 2, []), (1, false, .iconst 0, []), (2, false, .aload_n 0, []), (3, false, .getfield 323, []), (6, false, .iconst 1, []), (7, false, .isub, []), (8, false, .invokestatic 105, []), (11, false, .ifCond .ne 6, [17]), (14, false, .bipush (-101), []), (16, false, .ireturn, []), (17, false, .iload_n 1, []), (18, false, .iconst 0, []), (19, false, .iconst 3, []), (20, false, .invokestatic 105, []), (23, false, .ifCond .eq 22, [45]), (26, false, .iload_n 3, []), (27, false, .iconst 0, []), (28, false, .iconst 1, []), (29, false, .invokestatic 105, []), (32, false, .ifCond .eq 13, [45]), (35, false, .aload_n 0, []), (36, false, .iload_n 1, []), (37, false, .iload_n 2, []), (38, false, .iload_n 3, []), (39, false, .invokevirtual 393, []), (42, false, .goto 5, [47]), (45, false, .bipush (-102), []), (47, false, .ireturn, [])]
set_option maxRecDepth 20000 in
theorem kX8_flow_ok : mm_cok cX8_flow RX8 (mm_ctt ctRX8) kX8_flow := mm_c_of (k := false) ctRX8_ok (by decide +kernel)
set_option maxRecDepth 20000 in
theorem wX8_flow : ∀ w ∈ ([.instanceMethod yX8_flow, .selects RX8 yX8_flow yX8_flow, .initialized RX8, .code yX8_flow cX8_flow 4 (some .int)] : List Cond), w ∈ mm_tbl := mm_sub_at _ [1433, 1434, 112, 1435] (by decide +kernel) (by decide +kernel)
def vtX8_flow : List (Nat × Nat × Nat × mm_F) := [(393, 8, 4, fX8_flowNow)]
def smX8_flow : List (Nat × Nat × Nat × mm_F) := [(105, 0, 3, fX8_within)]
def ZX8_flow (p : Program) (l : Launch) (e : Env) (s : State) (m : MethodId) (args : Array Value) (below : List Frame) (meth : Method) (c : Code) (cA : Nat → ClassId) (ad : Nat → Nat) (D : va_G) (A : Nat → Prop) : Prop := mm_Z p l e (mm_rm 8) s m args below meth c lay_m cA ad D A RX8 cX8_flow 4 1 (mm_flt flRX8) (mm_clt (vtX8_flow)) (mm_clt (smX8_flow)) (mm_ctt ctRX8) kX8_flow
theorem okX8_flow : mm_Ok lay_m yX8_flow cX8_flow 4 (some .int) 8 fX8_flow := by
  refine mm_enter (rt := 1) (by decide +kernel) rfl ?_
  intro p l e s m args below meth c cA ad D A as M Q h C0
  have Z : ZX8_flow p l e s m args below meth c cA ad D A := ⟨C0, flRX8_ok, mm_vt_of (mm_fa1 (mm_coV (n := 3) (ci := 8) C0 okX8_flowNow rfl rfl (mm_one_at (.methodLink RX8 393 yX8_flowNow) 1436 (by decide +kernel) rfl) (wX8_flowNow _ (by simp)) (wX8_flowNow _ (by simp [yX8_flowNow])) (wX8_flowNow _ (by simp [yX8_flowNow])) (wX8_flowNow _ (by simp)) (by decide +kernel) (by omega) (by omega)) (mm_fa0)), mm_vt_of (mm_fa1 (mm_coS (n := 3) C0 okX8_within (mm_one_at (.methodLink RX8 105 yX8_within) 1123 (by decide +kernel) rfl) (wX8_within _ (by simp)) (wX8_within _ (by simp [yX8_within])) (wX8_within _ (by simp)) (by decide +kernel) (by omega) (by omega)) (mm_fa0)), kX8_flow_ok, mm_ctok_J ctRX8_ok⟩
  unfold fX8_flow at h
  split at h
  · obtain ⟨hb, h⟩ := mm_chk_e h
    cases (Nat.eq_of_beq_eq_true hb)
    exact ⟨Nat.le_of_ble_eq_true rfl, mm_Zb Z 31 0 [] mm_fa0 h⟩
  · exact h.elim
def kX8_levelNow : List mm_E := [(0, false, .aload_n 0, []), (1, false, .invokevirtual 377, []), (4, false, .aload_n 0, []), (5, false, .getfield 331, []), (8, false, .aload_n 0, []), (9, false, .getfield 335, []), (12, false, .iload_n 1, []), (13, false, .invokestatic 295, []), (16, false, .ireturn, [])]
set_option maxRecDepth 20000 in
theorem kX8_levelNow_ok : mm_cok cX8_levelNow RX8 (mm_ctt ctRX8) kX8_levelNow := mm_c_of (k := false) ctRX8_ok (by decide +kernel)
set_option maxRecDepth 20000 in
theorem wX8_levelNow : ∀ w ∈ ([.instanceMethod yX8_levelNow, .selects RX8 yX8_levelNow yX8_levelNow, .initialized RX8, .code yX8_levelNow cX8_levelNow 2 (some .int)] : List Cond), w ∈ mm_tbl := mm_sub_at _ [1501, 94, 112, 1502] (by decide +kernel) (by decide +kernel)
def vtX8_levelNow : List (Nat × Nat × Nat × mm_F) := [(377, 8, 1, fX8_layEven)]
def smX8_levelNow : List (Nat × Nat × Nat × mm_F) := [(295, 0, 3, fX8_part)]
def ZX8_levelNow (p : Program) (l : Launch) (e : Env) (s : State) (m : MethodId) (args : Array Value) (below : List Frame) (meth : Method) (c : Code) (cA : Nat → ClassId) (ad : Nat → Nat) (D : va_G) (A : Nat → Prop) : Prop := mm_Z p l e (mm_rm 4) s m args below meth c lay_m cA ad D A RX8 cX8_levelNow 2 1 (mm_flt flRX8) (mm_clt (vtX8_levelNow)) (mm_clt (smX8_levelNow)) (mm_ctt ctRX8) kX8_levelNow
theorem okX8_levelNow : mm_Ok lay_m yX8_levelNow cX8_levelNow 2 (some .int) 4 fX8_levelNow := by
  refine mm_enter (rt := 1) (by decide +kernel) rfl ?_
  intro p l e s m args below meth c cA ad D A as M Q h C0
  have Z : ZX8_levelNow p l e s m args below meth c cA ad D A := ⟨C0, flRX8_ok, mm_vt_of (mm_fa1 (mm_coV (n := 0) (ci := 8) C0 okX8_layEven rfl rfl (mm_one_at (.methodLink RX8 377 yX8_layEven) 1444 (by decide +kernel) rfl) (wX8_layEven _ (by simp)) (wX8_layEven _ (by simp [yX8_layEven])) (wX8_layEven _ (by simp [yX8_layEven])) (wX8_layEven _ (by simp)) (by decide +kernel) (by omega) (by omega)) (mm_fa0)), mm_vt_of (mm_fa1 (mm_coS (n := 3) C0 okX8_part (mm_one_at (.methodLink RX8 295 yX8_part) 1366 (by decide +kernel) rfl) (wX8_part _ (by simp)) (wX8_part _ (by simp [yX8_part])) (wX8_part _ (by simp)) (by decide +kernel) (by omega) (by omega)) (mm_fa0)), kX8_levelNow_ok, mm_ctok_J ctRX8_ok⟩
  unfold fX8_levelNow at h
  split at h
  · obtain ⟨hb, h⟩ := mm_chk_e h
    cases (Nat.eq_of_beq_eq_true hb)
    exact ⟨Nat.le_of_ble_eq_true rfl, mm_Zb Z 12 0 [] mm_fa0 h⟩
  · exact h.elim
def kX8_level : List mm_E := [(0, false, .iload_n 1, []), (1, false, .iconst 0, []), (2, false, .iconst 1, []), (3, false, .invokestatic 105, []), (6, false, .ifCond .ne 6, [12]), (9, false, .bipush (-102), []), (11, false, .ireturn, []), (12, false, .aload_n 0, []), (13, false, .getfield 323, []), (16, false, .ifCond .le 11, [27]), (19, false, .aload_n 0, []), (20, false, .iload_n 1, []), (21, false, .invokevirtual 396, []), (24, false, .goto 5, [29]), (27, false, .bipush (-103), []), (29, false, .ireturn, [])]
set_option maxRecDepth 20000 in
theorem kX8_level_ok : mm_cok cX8_level RX8 (mm_ctt ctRX8) kX8_level := mm_c_of (k := false) ctRX8_ok (by decide +kernel)
set_option maxRecDepth 20000 in
theorem wX8_level : ∀ w ∈ ([.instanceMethod yX8_level, .selects RX8 yX8_level yX8_level, .initialized RX8, .code yX8_level cX8_level 2 (some .int)] : List Cond), w ∈ mm_tbl := mm_sub_at _ [1496, 1497, 112, 1498] (by decide +kernel) (by decide +kernel)
def vtX8_level : List (Nat × Nat × Nat × mm_F) := [(396, 8, 2, fX8_levelNow)]
def smX8_level : List (Nat × Nat × Nat × mm_F) := [(105, 0, 3, fX8_within)]
def ZX8_level (p : Program) (l : Launch) (e : Env) (s : State) (m : MethodId) (args : Array Value) (below : List Frame) (meth : Method) (c : Code) (cA : Nat → ClassId) (ad : Nat → Nat) (D : va_G) (A : Nat → Prop) : Prop := mm_Z p l e (mm_rm 5) s m args below meth c lay_m cA ad D A RX8 cX8_level 2 1 (mm_flt flRX8) (mm_clt (vtX8_level)) (mm_clt (smX8_level)) (mm_ctt ctRX8) kX8_level
theorem okX8_level : mm_Ok lay_m yX8_level cX8_level 2 (some .int) 5 fX8_level := by
  refine mm_enter (rt := 1) (by decide +kernel) rfl ?_
  intro p l e s m args below meth c cA ad D A as M Q h C0
  have Z : ZX8_level p l e s m args below meth c cA ad D A := ⟨C0, flRX8_ok, mm_vt_of (mm_fa1 (mm_coV (n := 1) (ci := 8) C0 okX8_levelNow rfl rfl (mm_one_at (.methodLink RX8 396 yX8_levelNow) 1499 (by decide +kernel) rfl) (wX8_levelNow _ (by simp)) (wX8_levelNow _ (by simp [yX8_levelNow])) (wX8_levelNow _ (by simp [yX8_levelNow])) (wX8_levelNow _ (by simp)) (by decide +kernel) (by omega) (by omega)) (mm_fa0)), mm_vt_of (mm_fa1 (mm_coS (n := 3) C0 okX8_within (mm_one_at (.methodLink RX8 105 yX8_within) 1123 (by decide +kernel) rfl) (wX8_within _ (by simp)) (wX8_within _ (by simp [yX8_within])) (wX8_within _ (by simp)) (by decide +kernel) (by omega) (by omega)) (mm_fa0)), kX8_level_ok, mm_ctok_J ctRX8_ok⟩
  unfold fX8_level at h
  split at h
  · obtain ⟨hb, h⟩ := mm_chk_e h
    cases (Nat.eq_of_beq_eq_true hb)
    exact ⟨Nat.le_of_ble_eq_true rfl, mm_Zb Z 19 0 [] mm_fa0 h⟩
  · exact h.elim
def kX8_totalNow : List mm_E := [(0, false, .aload_n 0, []), (1, false, .iload_n 1, []), (2, false, .invokevirtual 383, []), (5, false, .aload_n 0, []), (6, false, .iload_n 1, []), (7, false, .invokevirtual 390, []), (10, false, .lstore_n 2, []), (11, false, .lconst 0, []), (12, false, .lstore 4, []), (14, false, .iconst 0, []), (15, false, .istore 6, []), (17, true, .iload 6, []), (19, false, .aload_n 0, []), (20, false, .getfield 323, []), (23, false, .if_icmp .ge 48, [71]), (26, false, .aload_n 0, []), (27, false, .iload_n 1, []), (28, false, .iload 6, []), (30, false, .invokevirtual 386, []), (33, false, .lstore 7, []), (35, false, .lload 4, []), (37, false, .lload 7, []), (39, false, .aload_n 0, []), (40, false, .getfield 43, []), (43, false, .iload 6, []), (45, false, .iaload, []), (46, false, .i2l, []), (47, false, .lload_n 2, []), (48, false, .lmul, []), (49, false, .aload_n 0, []), (50, false, .getfield 46, []), (53, false, .iload 6, []), (55, false, .iaload, []), (56, false, .i2l, []), (57, false, .lload 7, []), (59, false, .lmul, []), (60, false, .ladd, []), (61, false, .lmul, []), (62, false, .ladd, []), (63, false, .lstore 4, []), (65, false, .iinc 6 1, []), (68, false, .goto (-51), [17]), (71, false, .lload 4, []), (73, false, .ldc2_w 399, []), (76, false, .lmul, []), (77, false, .lload_n 2, []), (78, false, .lload_n 2, []), (79, false, .lmul, []), (80, false, .ldiv, []), (81, false, .l2i, []), (82, false, .ireturn, [])]
set_option maxRecDepth 20000 in
theorem kX8_totalNow_ok : mm_cok cX8_totalNow RX8 (mm_ctt ctRX8) kX8_totalNow := mm_c_of (k := false) ctRX8_ok (by decide +kernel)
set_option maxRecDepth 20000 in
theorem wX8_totalNow : ∀ w ∈ ([.instanceMethod yX8_totalNow, .selects RX8 yX8_totalNow yX8_totalNow, .initialized RX8, .code yX8_totalNow cX8_totalNow 9 (some .int)] : List Cond), w ∈ mm_tbl := mm_sub_at _ [1509, 95, 112, 1510] (by decide +kernel) (by decide +kernel)
def vtX8_totalNow : List (Nat × Nat × Nat × mm_F) := [(383, 8, 2, fX8_layFlow), (390, 8, 2, fX8_belowOf), (386, 8, 3, fX8_amountOf)]
def smX8_totalNow : List (Nat × Nat × Nat × mm_F) := []
def ZX8_totalNow (p : Program) (l : Launch) (e : Env) (s : State) (m : MethodId) (args : Array Value) (below : List Frame) (meth : Method) (c : Code) (cA : Nat → ClassId) (ad : Nat → Nat) (D : va_G) (A : Nat → Prop) : Prop := mm_Z p l e (mm_rm 7) s m args below meth c lay_m cA ad D A RX8 cX8_totalNow 9 1 (mm_flt flRX8) (mm_clt (vtX8_totalNow)) (mm_clt (smX8_totalNow)) (mm_ctt ctRX8) kX8_totalNow
def qX8_totalNow_17 (P : Int → Int → Int → Int → mm_M → Prop) : mm_K := fun ls st M => match ls, st with
  | [some (.inr (.inr c0)), some (.inl v1), some (.inr (.inl v2)), none, some (.inr (.inl v4)), none, some (.inl v6), _, none], [] => mm_chk (Nat.beq c0 0) (P v1 v2 v4 v6 M)
  | _, _ => False
theorem okX8_totalNow_17 {p : Program} {l : Launch} {e : Env} {s : State} {m : MethodId} {args : Array Value} {below : List Frame} {meth : Method} {c : Code} {cA : Nat → ClassId} {ad : Nat → Nat} {D : va_G} {A : Nat → Prop} {Q : Option mm_V → mm_M → Prop} (Z : ZX8_totalNow p l e s m args below meth c cA ad D A) : ∀ (n : Nat) ls st M, qX8_totalNow_17 (fun v1 v2 v4 v6 M => bX8_totalNow_17 n v1 v2 v4 v6 M (fun r M => Q (some (.inl r)) M)) ls st M → mm_G p l e (mm_rm 7) s m args below meth c lay_m cA ad D A 9 Q 17 ls st M
  | 0, ls, st, M, h => by
    unfold qX8_totalNow_17 at h
    split at h
    · obtain ⟨hb, h⟩ := mm_chk_e h
      cases (Nat.eq_of_beq_eq_true hb)
      exact h.elim
    · exact h.elim
  | n + 1, ls, st, M, h => by
    have ih := okX8_totalNow_17 (Q := Q) Z  n
    unfold qX8_totalNow_17 at h
    split at h
    · obtain ⟨hb, h⟩ := mm_chk_e h
      cases (Nat.eq_of_beq_eq_true hb)
      exact mm_Zb Z 54 17 [(17, qX8_totalNow_17 (fun v1 v2 v4 v6 M => bX8_totalNow_17 n v1 v2 v4 v6 M (fun r M => Q (some (.inl r)) M)))] (mm_fa1 ih mm_fa0) h
    · exact h.elim
theorem okX8_totalNow_17x {p : Program} {l : Launch} {e : Env} {s : State} {m : MethodId} {args : Array Value} {below : List Frame} {meth : Method} {c : Code} {cA : Nat → ClassId} {ad : Nat → Nat} {D : va_G} {A : Nat → Prop} {Q : Option mm_V → mm_M → Prop} (Z : ZX8_totalNow p l e s m args below meth c cA ad D A) : ∀ ls st M, qX8_totalNow_17 (fun v1 v2 v4 v6 M => ∃ j, bX8_totalNow_17 j v1 v2 v4 v6 M (fun r M => Q (some (.inl r)) M)) ls st M → mm_G p l e (mm_rm 7) s m args below meth c lay_m cA ad D A 9 Q 17 ls st M := by
  intro ls st M h
  have hex : ∃ n, qX8_totalNow_17 (fun v1 v2 v4 v6 M => bX8_totalNow_17 n v1 v2 v4 v6 M (fun r M => Q (some (.inl r)) M)) ls st M := by
    unfold qX8_totalNow_17 at h
    split at h
    · obtain ⟨hb, h⟩ := mm_chk_e h
      cases (Nat.eq_of_beq_eq_true hb)
      obtain ⟨n, h⟩ := h
      exact ⟨n, h⟩
    · exact h.elim
  obtain ⟨n, hex⟩ := hex
  exact okX8_totalNow_17 Z  n ls st M hex
theorem okX8_totalNow : mm_Ok lay_m yX8_totalNow cX8_totalNow 9 (some .int) 7 fX8_totalNow := by
  refine mm_enter (rt := 1) (by decide +kernel) rfl ?_
  intro p l e s m args below meth c cA ad D A as M Q h C0
  have Z : ZX8_totalNow p l e s m args below meth c cA ad D A := ⟨C0, flRX8_ok, mm_vt_of (mm_fa1 (mm_coV (n := 1) (ci := 8) C0 okX8_layFlow rfl rfl (mm_one_at (.methodLink RX8 383 yX8_layFlow) 1440 (by decide +kernel) rfl) (wX8_layFlow _ (by simp)) (wX8_layFlow _ (by simp [yX8_layFlow])) (wX8_layFlow _ (by simp [yX8_layFlow])) (wX8_layFlow _ (by simp)) (by decide +kernel) (by omega) (by omega)) (mm_fa1 (mm_coV (n := 1) (ci := 8) C0 okX8_belowOf rfl rfl (mm_one_at (.methodLink RX8 390 yX8_belowOf) 1491 (by decide +kernel) rfl) (wX8_belowOf _ (by simp)) (wX8_belowOf _ (by simp [yX8_belowOf])) (wX8_belowOf _ (by simp [yX8_belowOf])) (wX8_belowOf _ (by simp)) (by decide +kernel) (by omega) (by omega)) (mm_fa1 (mm_coV (n := 2) (ci := 8) C0 okX8_amountOf rfl rfl (mm_one_at (.methodLink RX8 386 yX8_amountOf) 1487 (by decide +kernel) rfl) (wX8_amountOf _ (by simp)) (wX8_amountOf _ (by simp [yX8_amountOf])) (wX8_amountOf _ (by simp [yX8_amountOf])) (wX8_amountOf _ (by simp)) (by decide +kernel) (by omega) (by omega)) (mm_fa0)))), mm_vt_of (mm_fa0), kX8_totalNow_ok, mm_ctok_J ctRX8_ok⟩
  unfold fX8_totalNow at h
  split at h
  · obtain ⟨hb, h⟩ := mm_chk_e h
    cases (Nat.eq_of_beq_eq_true hb)
    exact ⟨Nat.le_of_ble_eq_true rfl, mm_Zb Z 54 0 [(17, qX8_totalNow_17 (fun v1 v2 v4 v6 M => ∃ j, bX8_totalNow_17 j v1 v2 v4 v6 M (fun r M => Q (some (.inl r)) M)))] (mm_fa1 (fun ls st M h => okX8_totalNow_17x Z  ls st M h) mm_fa0) h⟩
  · exact h.elim
def kX8_total : List mm_E := [(0, false, .iload_n 1, []), (1, false, .iconst 0, []), (2, false, .iconst 2, []), (3, false, .invokestatic 105, []), (6, false, .ifCond .ne 6, [12]), (9, false, .bipush (-102), []), (11, false, .ireturn, []), (12, false, .aload_n 0, []), (13, false, .getfield 323, []), (16, false, .ifCond .le 11, [27]), (19, false, .aload_n 0, []), (20, false, .iload_n 1, []), (21, false, .invokevirtual 401, []), (24, false, .goto 5, [29]), (27, false, .bipush (-103), []), (29, false, .ireturn, [])]
set_option maxRecDepth 20000 in
theorem kX8_total_ok : mm_cok cX8_total RX8 (mm_ctt ctRX8) kX8_total := mm_c_of (k := false) ctRX8_ok (by decide +kernel)
set_option maxRecDepth 20000 in
theorem wX8_total : ∀ w ∈ ([.instanceMethod yX8_total, .selects RX8 yX8_total yX8_total, .initialized RX8, .code yX8_total cX8_total 2 (some .int)] : List Cond), w ∈ mm_tbl := mm_sub_at _ [1504, 1505, 112, 1506] (by decide +kernel) (by decide +kernel)
def vtX8_total : List (Nat × Nat × Nat × mm_F) := [(401, 8, 2, fX8_totalNow)]
def smX8_total : List (Nat × Nat × Nat × mm_F) := [(105, 0, 3, fX8_within)]
def ZX8_total (p : Program) (l : Launch) (e : Env) (s : State) (m : MethodId) (args : Array Value) (below : List Frame) (meth : Method) (c : Code) (cA : Nat → ClassId) (ad : Nat → Nat) (D : va_G) (A : Nat → Prop) : Prop := mm_Z p l e (mm_rm 8) s m args below meth c lay_m cA ad D A RX8 cX8_total 2 1 (mm_flt flRX8) (mm_clt (vtX8_total)) (mm_clt (smX8_total)) (mm_ctt ctRX8) kX8_total
theorem okX8_total : mm_Ok lay_m yX8_total cX8_total 2 (some .int) 8 fX8_total := by
  refine mm_enter (rt := 1) (by decide +kernel) rfl ?_
  intro p l e s m args below meth c cA ad D A as M Q h C0
  have Z : ZX8_total p l e s m args below meth c cA ad D A := ⟨C0, flRX8_ok, mm_vt_of (mm_fa1 (mm_coV (n := 1) (ci := 8) C0 okX8_totalNow rfl rfl (mm_one_at (.methodLink RX8 401 yX8_totalNow) 1507 (by decide +kernel) rfl) (wX8_totalNow _ (by simp)) (wX8_totalNow _ (by simp [yX8_totalNow])) (wX8_totalNow _ (by simp [yX8_totalNow])) (wX8_totalNow _ (by simp)) (by decide +kernel) (by omega) (by omega)) (mm_fa0)), mm_vt_of (mm_fa1 (mm_coS (n := 3) C0 okX8_within (mm_one_at (.methodLink RX8 105 yX8_within) 1123 (by decide +kernel) rfl) (wX8_within _ (by simp)) (wX8_within _ (by simp [yX8_within])) (wX8_within _ (by simp)) (by decide +kernel) (by omega) (by omega)) (mm_fa0)), kX8_total_ok, mm_ctok_J ctRX8_ok⟩
  unfold fX8_total at h
  split at h
  · obtain ⟨hb, h⟩ := mm_chk_e h
    cases (Nat.eq_of_beq_eq_true hb)
    exact ⟨Nat.le_of_ble_eq_true rfl, mm_Zb Z 19 0 [] mm_fa0 h⟩
  · exact h.elim
def kX8_worse : List mm_E := [(0, false, .iload_n 1, []), (1, false, .iconst 0, []), (2, false, .iconst 2, []), (3, false, .invokestatic 105, []), (6, false, .ifCond .ne 6, [12]), (9, false, .bipush (-102), []), (11, false, .ireturn, []), (12, false, .aload_n 0, []), (13, false, .getfield 323, []), (16, false, .ifCond .le 24, [40]), (19, false, .ldc2_w 404, []), (22, false, .aload_n 0, []), (23, false, .iload_n 1, []), (24, false, .invokevirtual 401, []), (27, false, .i2l, []), (28, false, .lmul, []), (29, false, .aload_n 0, []), (30, false, .iconst 1, []), (31, false, .invokevirtual 401, []), (34, false, .i2l, []), (35, false, .ldiv, []), (36, false, .l2i, []), (37, false, .goto 5, [42]), (40, false, .bipush (-103), []), (42, false, .ireturn, [])]
set_option maxRecDepth 20000 in
theorem kX8_worse_ok : mm_cok cX8_worse RX8 (mm_ctt ctRX8) kX8_worse := mm_c_of (k := false) ctRX8_ok (by decide +kernel)
set_option maxRecDepth 20000 in
theorem wX8_worse : ∀ w ∈ ([.instanceMethod yX8_worse, .selects RX8 yX8_worse yX8_worse, .initialized RX8, .code yX8_worse cX8_worse 2 (some .int)] : List Cond), w ∈ mm_tbl := mm_sub_at _ [1513, 1514, 112, 1515] (by decide +kernel) (by decide +kernel)
def vtX8_worse : List (Nat × Nat × Nat × mm_F) := [(401, 8, 2, fX8_totalNow)]
def smX8_worse : List (Nat × Nat × Nat × mm_F) := [(105, 0, 3, fX8_within)]
def ZX8_worse (p : Program) (l : Launch) (e : Env) (s : State) (m : MethodId) (args : Array Value) (below : List Frame) (meth : Method) (c : Code) (cA : Nat → ClassId) (ad : Nat → Nat) (D : va_G) (A : Nat → Prop) : Prop := mm_Z p l e (mm_rm 8) s m args below meth c lay_m cA ad D A RX8 cX8_worse 2 1 (mm_flt flRX8) (mm_clt (vtX8_worse)) (mm_clt (smX8_worse)) (mm_ctt ctRX8) kX8_worse
theorem okX8_worse : mm_Ok lay_m yX8_worse cX8_worse 2 (some .int) 8 fX8_worse := by
  refine mm_enter (rt := 1) (by decide +kernel) rfl ?_
  intro p l e s m args below meth c cA ad D A as M Q h C0
  have Z : ZX8_worse p l e s m args below meth c cA ad D A := ⟨C0, flRX8_ok, mm_vt_of (mm_fa1 (mm_coV (n := 1) (ci := 8) C0 okX8_totalNow rfl rfl (mm_one_at (.methodLink RX8 401 yX8_totalNow) 1507 (by decide +kernel) rfl) (wX8_totalNow _ (by simp)) (wX8_totalNow _ (by simp [yX8_totalNow])) (wX8_totalNow _ (by simp [yX8_totalNow])) (wX8_totalNow _ (by simp)) (by decide +kernel) (by omega) (by omega)) (mm_fa0)), mm_vt_of (mm_fa1 (mm_coS (n := 3) C0 okX8_within (mm_one_at (.methodLink RX8 105 yX8_within) 1123 (by decide +kernel) rfl) (wX8_within _ (by simp)) (wX8_within _ (by simp [yX8_within])) (wX8_within _ (by simp)) (by decide +kernel) (by omega) (by omega)) (mm_fa0)), kX8_worse_ok, mm_ctok_J ctRX8_ok⟩
  unfold fX8_worse at h
  split at h
  · obtain ⟨hb, h⟩ := mm_chk_e h
    cases (Nat.eq_of_beq_eq_true hb)
    exact ⟨Nat.le_of_ble_eq_true rfl, mm_Zb Z 28 0 [] mm_fa0 h⟩
  · exact h.elim
def kX8_howMany : List mm_E := [(0, false, .iload_n 1, []), (1, false, .tableswitch 78 0 6 #[43, 48, 53, 58, 63, 68, 73], [79, 44, 49, 54, 59, 64, 69, 74]), (44, false, .aload_n 0, []), (45, false, .getfield 145, []), (48, false, .ireturn, []), (49, false, .aload_n 0, []), (50, false, .getfield 148, []), (53, false, .ireturn, []), (54, false, .aload_n 0, []), (55, false, .getfield 323, []), (58, false, .ireturn, []), (59, false, .aload_n 0, []), (60, false, .getfield 109, []), (63, false, .ireturn, []), (64, false, .aload_n 0, []), (65, false, .getfield 151, []), (68, false, .ireturn, []), (69, false, .aload_n 0, []), (70, false, .getfield 226, []), (73, false, .ireturn, []), (74, false, .aload_n 0, []), (75, false, .getfield 242, []), (78, false, .ireturn, []), (79, false, .bipush (-102), []), (81, false, .ireturn, [])]
set_option maxRecDepth 20000 in
theorem kX8_howMany_ok : mm_cok cX8_howMany RX8 (mm_ctt ctRX8) kX8_howMany := mm_c_of (k := false) ctRX8_ok (by decide +kernel)
set_option maxRecDepth 20000 in
theorem wX8_howMany : ∀ w ∈ ([.instanceMethod yX8_howMany, .selects RX8 yX8_howMany yX8_howMany, .initialized RX8, .code yX8_howMany cX8_howMany 2 (some .int)] : List Cond), w ∈ mm_tbl := mm_sub_at _ [1523, 96, 112, 1524] (by decide +kernel) (by decide +kernel)
def vtX8_howMany : List (Nat × Nat × Nat × mm_F) := []
def smX8_howMany : List (Nat × Nat × Nat × mm_F) := []
def ZX8_howMany (p : Program) (l : Launch) (e : Env) (s : State) (m : MethodId) (args : Array Value) (below : List Frame) (meth : Method) (c : Code) (cA : Nat → ClassId) (ad : Nat → Nat) (D : va_G) (A : Nat → Prop) : Prop := mm_Z p l e (mm_rm 0) s m args below meth c lay_m cA ad D A RX8 cX8_howMany 2 1 (mm_flt flRX8) (mm_clt (vtX8_howMany)) (mm_clt (smX8_howMany)) (mm_ctt ctRX8) kX8_howMany
theorem okX8_howMany : mm_Ok lay_m yX8_howMany cX8_howMany 2 (some .int) 0 fX8_howMany := by
  refine mm_enter (rt := 1) (by decide +kernel) rfl ?_
  intro p l e s m args below meth c cA ad D A as M Q h C0
  have Z : ZX8_howMany p l e s m args below meth c cA ad D A := ⟨C0, flRX8_ok, mm_vt_of (mm_fa0), mm_vt_of (mm_fa0), kX8_howMany_ok, mm_ctok_J ctRX8_ok⟩
  unfold fX8_howMany at h
  split at h
  · obtain ⟨hb, h⟩ := mm_chk_e h
    cases (Nat.eq_of_beq_eq_true hb)
    exact ⟨Nat.le_of_ble_eq_true rfl, mm_Zb Z 28 0 [] mm_fa0 h⟩
  · exact h.elim
