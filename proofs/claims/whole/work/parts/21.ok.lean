def kX8_count : List mm_E := [(0, false, .aload_n 0, []), (1, false, .iload_n 1, []), (2, false, .invokevirtual 406, []), (5, false, .ireturn, [])]
set_option maxRecDepth 20000 in
theorem kX8_count_ok : mm_cok cX8_count RX8 (mm_ctt ctRX8) kX8_count := mm_c_of (k := false) ctRX8_ok (by decide +kernel)
set_option maxRecDepth 20000 in
theorem wX8_count : ∀ w ∈ ([.instanceMethod yX8_count, .selects RX8 yX8_count yX8_count, .initialized RX8, .code yX8_count cX8_count 2 (some .int)] : List Cond), w ∈ mm_tbl := mm_sub_at _ [1518, 1519, 112, 1520] (by decide +kernel) (by decide +kernel)
def vtX8_count : List (Nat × Nat × Nat × mm_F) := [(406, 8, 2, fX8_howMany)]
def smX8_count : List (Nat × Nat × Nat × mm_F) := []
def ZX8_count (p : Program) (l : Launch) (e : Env) (s : State) (m : MethodId) (args : Array Value) (below : List Frame) (meth : Method) (c : Code) (cA : Nat → ClassId) (ad : Nat → Nat) (D : va_G) (A : Nat → Prop) : Prop := mm_Z p l e (mm_rm 1) s m args below meth c lay_m cA ad D A RX8 cX8_count 2 1 (mm_flt flRX8) (mm_clt (vtX8_count)) (mm_clt (smX8_count)) (mm_ctt ctRX8) kX8_count
theorem okX8_count : mm_Ok lay_m yX8_count cX8_count 2 (some .int) 1 fX8_count := by
  refine mm_enter (rt := 1) (by decide +kernel) rfl ?_
  intro p l e s m args below meth c cA ad D A as M Q h C0
  have Z : ZX8_count p l e s m args below meth c cA ad D A := ⟨C0, flRX8_ok, mm_vt_of (mm_fa1 (mm_coV (n := 1) (ci := 8) C0 okX8_howMany rfl rfl (mm_one_at (.methodLink RX8 406 yX8_howMany) 1521 (by decide +kernel) rfl) (wX8_howMany _ (by simp)) (wX8_howMany _ (by simp [yX8_howMany])) (wX8_howMany _ (by simp [yX8_howMany])) (wX8_howMany _ (by simp)) (by decide +kernel) (by omega) (by omega)) (mm_fa0)), mm_vt_of (mm_fa0), kX8_count_ok, mm_ctok_J ctRX8_ok⟩
  unfold fX8_count at h
  split at h
  · obtain ⟨hb, h⟩ := mm_chk_e h
    cases (Nat.eq_of_beq_eq_true hb)
    exact ⟨Nat.le_of_ble_eq_true rfl, mm_Zb Z 7 0 [] mm_fa0 h⟩
  · exact h.elim
def kX8_mix : List mm_E := [(0, false, .aload_n 0, []), (1, false, .ldc2_w 409, []), (4, false, .aload_n 0, []), (5, false, .getfield 411, []), (8, false, .lmul, []), (9, false, .lload_n 1, []), (10, false, .ladd, []), (11, false, .putfield 411, []), (14, false, .return_, [])]
set_option maxRecDepth 20000 in
theorem kX8_mix_ok : mm_cok cX8_mix RX8 (mm_ctt ctRX8) kX8_mix := mm_c_of (k := false) ctRX8_ok (by decide +kernel)
set_option maxRecDepth 20000 in
theorem wX8_mix : ∀ w ∈ ([.instanceMethod yX8_mix, .selects RX8 yX8_mix yX8_mix, .initialized RX8, .code yX8_mix cX8_mix 3 none] : List Cond), w ∈ mm_tbl := mm_sub_at _ [1536, 98, 112, 1537] (by decide +kernel) (by decide +kernel)
def vtX8_mix : List (Nat × Nat × Nat × mm_F) := []
def smX8_mix : List (Nat × Nat × Nat × mm_F) := []
def ZX8_mix (p : Program) (l : Launch) (e : Env) (s : State) (m : MethodId) (args : Array Value) (below : List Frame) (meth : Method) (c : Code) (cA : Nat → ClassId) (ad : Nat → Nat) (D : va_G) (A : Nat → Prop) : Prop := mm_Z p l e (mm_rm 0) s m args below meth c lay_m cA ad D A RX8 cX8_mix 3 0 (mm_flt flRX8) (mm_clt (vtX8_mix)) (mm_clt (smX8_mix)) (mm_ctt ctRX8) kX8_mix
theorem okX8_mix : mm_Ok lay_m yX8_mix cX8_mix 3 none 0 fX8_mix := by
  refine mm_enter (rt := 0) (by decide +kernel) rfl ?_
  intro p l e s m args below meth c cA ad D A as M Q h C0
  have Z : ZX8_mix p l e s m args below meth c cA ad D A := ⟨C0, flRX8_ok, mm_vt_of (mm_fa0), mm_vt_of (mm_fa0), kX8_mix_ok, mm_ctok_J ctRX8_ok⟩
  unfold fX8_mix at h
  split at h
  · obtain ⟨hb, h⟩ := mm_chk_e h
    cases (Nat.eq_of_beq_eq_true hb)
    exact ⟨Nat.le_of_ble_eq_true rfl, mm_Zb Z 12 0 [] mm_fa0 h⟩
  · exact h.elim
def kX8_mixPlayer : List mm_E := [(0, false, .iconst 0, []), (1, false, .istore_n 2, []), (2, true, .iload_n 2, []), (3, false, .bipush 7, []), (5, false, .if_icmp .ge 20, [25]), (8, false, .aload_n 0, []), (9, false, .aload_n 0, []), (10, false, .iload_n 1, []), (11, false, .iload_n 2, []), (12, false, .invokevirtual 232, []), (15, false, .i2l, []), (16, false, .invokevirtual 414, []), (19, false, .iinc 2 1, []), (22, false, .goto (-20), [2]), (25, false, .iconst 0, []), (26, false, .istore_n 2, []), (27, true, .iload_n 2, []), (28, false, .aload_n 0, []), (29, false, .getfield 31, []), (32, false, .iload_n 1, []), (33, false, .iaload, []), (34, false, .if_icmp .ge 20, [54]), (37, false, .aload_n 0, []), (38, false, .aload_n 0, []), (39, false, .iload_n 1, []), (40, false, .iload_n 2, []), (41, false, .invokevirtual 213, []), (44, false, .i2l, []), (45, false, .invokevirtual 414, []), (48, false, .iinc 2 1, []), (51, false, .goto (-24), [27]), (54, false, .iconst 0, []), (55, false, .istore_n 2, []), (56, true, .iload_n 2, []), (57, false, .aload_n 0, []), (58, false, .getfield 37, []), (61, false, .bipush 12, []), (63, false, .iload_n 1, []), (64, false, .imul, []), (65, false, .aload_n 0, []), (66, false, .getfield 34, []), (69, false, .iload_n 1, []), (70, false, .iaload, []), (71, false, .iadd, []), (72, false, .iaload, []), (73, false, .if_icmp .ge 26, [99]), (76, false, .aload_n 0, []), (77, false, .aload_n 0, []), (78, false, .iload_n 1, []), (79, false, .aload_n 0, []), (80, false, .getfield 34, []), (83, false, .iload_n 1, []), (84, false, .iaload, []), (85, false, .iload_n 2, []), (86, false, .invokevirtual 158, []), (89, false, .i2l, []), (90, false, .invokevirtual 414, []), (93, false, .iinc 2 1, []), (96, false, .goto (-40), [56]), (99, false, .return_, [])]
set_option maxRecDepth 20000 in
theorem kX8_mixPlayer_ok : mm_cok cX8_mixPlayer RX8 (mm_ctt ctRX8) kX8_mixPlayer := mm_c_of (k := false) ctRX8_ok (by decide +kernel)
set_option maxRecDepth 20000 in
theorem wX8_mixPlayer : ∀ w ∈ ([.instanceMethod yX8_mixPlayer, .selects RX8 yX8_mixPlayer yX8_mixPlayer, .initialized RX8, .code yX8_mixPlayer cX8_mixPlayer 3 none] : List Cond), w ∈ mm_tbl := mm_sub_at _ [1541, 99, 112, 1542] (by decide +kernel) (by decide +kernel)
def vtX8_mixPlayer : List (Nat × Nat × Nat × mm_F) := [(232, 8, 3, fX8_whoNow), (414, 8, 2, fX8_mix), (213, 8, 3, fX8_payOf), (158, 8, 4, fX8_roadOf)]
def smX8_mixPlayer : List (Nat × Nat × Nat × mm_F) := []
def ZX8_mixPlayer (p : Program) (l : Launch) (e : Env) (s : State) (m : MethodId) (args : Array Value) (below : List Frame) (meth : Method) (c : Code) (cA : Nat → ClassId) (ad : Nat → Nat) (D : va_G) (A : Nat → Prop) : Prop := mm_Z p l e (mm_rm 5) s m args below meth c lay_m cA ad D A RX8 cX8_mixPlayer 3 0 (mm_flt flRX8) (mm_clt (vtX8_mixPlayer)) (mm_clt (smX8_mixPlayer)) (mm_ctt ctRX8) kX8_mixPlayer
def qX8_mixPlayer_56 (P : Int → Int → mm_M → Prop) : mm_K := fun ls st M => match ls, st with
  | [some (.inr (.inr c0)), some (.inl v1), some (.inl v2)], [] => mm_chk (Nat.beq c0 0) (P v1 v2 M)
  | _, _ => False
def qX8_mixPlayer_27 (P : Int → Int → mm_M → Prop) : mm_K := fun ls st M => match ls, st with
  | [some (.inr (.inr c0)), some (.inl v1), some (.inl v2)], [] => mm_chk (Nat.beq c0 0) (P v1 v2 M)
  | _, _ => False
def qX8_mixPlayer_2 (P : Int → Int → mm_M → Prop) : mm_K := fun ls st M => match ls, st with
  | [some (.inr (.inr c0)), some (.inl v1), some (.inl v2)], [] => mm_chk (Nat.beq c0 0) (P v1 v2 M)
  | _, _ => False
theorem okX8_mixPlayer_56 {p : Program} {l : Launch} {e : Env} {s : State} {m : MethodId} {args : Array Value} {below : List Frame} {meth : Method} {c : Code} {cA : Nat → ClassId} {ad : Nat → Nat} {D : va_G} {A : Nat → Prop} {Q : Option mm_V → mm_M → Prop} (Z : ZX8_mixPlayer p l e s m args below meth c cA ad D A) : ∀ (n : Nat) ls st M, qX8_mixPlayer_56 (fun v1 v2 M => bX8_mixPlayer_56 n v1 v2 M (fun M => Q none M)) ls st M → mm_G p l e (mm_rm 5) s m args below meth c lay_m cA ad D A 3 Q 56 ls st M
  | 0, ls, st, M, h => by
    unfold qX8_mixPlayer_56 at h
    split at h
    · obtain ⟨hb, h⟩ := mm_chk_e h
      cases (Nat.eq_of_beq_eq_true hb)
      exact h.elim
    · exact h.elim
  | n + 1, ls, st, M, h => by
    have ih := okX8_mixPlayer_56 (Q := Q) Z  n
    unfold qX8_mixPlayer_56 at h
    split at h
    · obtain ⟨hb, h⟩ := mm_chk_e h
      cases (Nat.eq_of_beq_eq_true hb)
      exact mm_Zb Z 63 56 [(56, qX8_mixPlayer_56 (fun v1 v2 M => bX8_mixPlayer_56 n v1 v2 M (fun M => Q none M)))] (mm_fa1 ih mm_fa0) h
    · exact h.elim
theorem okX8_mixPlayer_56x {p : Program} {l : Launch} {e : Env} {s : State} {m : MethodId} {args : Array Value} {below : List Frame} {meth : Method} {c : Code} {cA : Nat → ClassId} {ad : Nat → Nat} {D : va_G} {A : Nat → Prop} {Q : Option mm_V → mm_M → Prop} (Z : ZX8_mixPlayer p l e s m args below meth c cA ad D A) : ∀ ls st M, qX8_mixPlayer_56 (fun v1 v2 M => ∃ j, bX8_mixPlayer_56 j v1 v2 M (fun M => Q none M)) ls st M → mm_G p l e (mm_rm 5) s m args below meth c lay_m cA ad D A 3 Q 56 ls st M := by
  intro ls st M h
  have hex : ∃ n, qX8_mixPlayer_56 (fun v1 v2 M => bX8_mixPlayer_56 n v1 v2 M (fun M => Q none M)) ls st M := by
    unfold qX8_mixPlayer_56 at h
    split at h
    · obtain ⟨hb, h⟩ := mm_chk_e h
      cases (Nat.eq_of_beq_eq_true hb)
      obtain ⟨n, h⟩ := h
      exact ⟨n, h⟩
    · exact h.elim
  obtain ⟨n, hex⟩ := hex
  exact okX8_mixPlayer_56 Z  n ls st M hex
theorem okX8_mixPlayer_27 {p : Program} {l : Launch} {e : Env} {s : State} {m : MethodId} {args : Array Value} {below : List Frame} {meth : Method} {c : Code} {cA : Nat → ClassId} {ad : Nat → Nat} {D : va_G} {A : Nat → Prop} {Q : Option mm_V → mm_M → Prop} (Z : ZX8_mixPlayer p l e s m args below meth c cA ad D A) : ∀ (n : Nat) ls st M, qX8_mixPlayer_27 (fun v1 v2 M => bX8_mixPlayer_27 n v1 v2 M (fun M => Q none M)) ls st M → mm_G p l e (mm_rm 5) s m args below meth c lay_m cA ad D A 3 Q 27 ls st M
  | 0, ls, st, M, h => by
    unfold qX8_mixPlayer_27 at h
    split at h
    · obtain ⟨hb, h⟩ := mm_chk_e h
      cases (Nat.eq_of_beq_eq_true hb)
      exact h.elim
    · exact h.elim
  | n + 1, ls, st, M, h => by
    have ih := okX8_mixPlayer_27 (Q := Q) Z  n
    unfold qX8_mixPlayer_27 at h
    split at h
    · obtain ⟨hb, h⟩ := mm_chk_e h
      cases (Nat.eq_of_beq_eq_true hb)
      exact mm_Zb Z 63 27 [(27, qX8_mixPlayer_27 (fun v1 v2 M => bX8_mixPlayer_27 n v1 v2 M (fun M => Q none M))), (56, qX8_mixPlayer_56 (fun v1 v2 M => ∃ j, bX8_mixPlayer_56 j v1 v2 M (fun M => Q none M)))] (mm_fa1 ih (mm_fa1 (fun ls st M h => okX8_mixPlayer_56x Z  ls st M h) mm_fa0)) h
    · exact h.elim
theorem okX8_mixPlayer_27x {p : Program} {l : Launch} {e : Env} {s : State} {m : MethodId} {args : Array Value} {below : List Frame} {meth : Method} {c : Code} {cA : Nat → ClassId} {ad : Nat → Nat} {D : va_G} {A : Nat → Prop} {Q : Option mm_V → mm_M → Prop} (Z : ZX8_mixPlayer p l e s m args below meth c cA ad D A) : ∀ ls st M, qX8_mixPlayer_27 (fun v1 v2 M => ∃ j, bX8_mixPlayer_27 j v1 v2 M (fun M => Q none M)) ls st M → mm_G p l e (mm_rm 5) s m args below meth c lay_m cA ad D A 3 Q 27 ls st M := by
  intro ls st M h
  have hex : ∃ n, qX8_mixPlayer_27 (fun v1 v2 M => bX8_mixPlayer_27 n v1 v2 M (fun M => Q none M)) ls st M := by
    unfold qX8_mixPlayer_27 at h
    split at h
    · obtain ⟨hb, h⟩ := mm_chk_e h
      cases (Nat.eq_of_beq_eq_true hb)
      obtain ⟨n, h⟩ := h
      exact ⟨n, h⟩
    · exact h.elim
  obtain ⟨n, hex⟩ := hex
  exact okX8_mixPlayer_27 Z  n ls st M hex
theorem okX8_mixPlayer_2 {p : Program} {l : Launch} {e : Env} {s : State} {m : MethodId} {args : Array Value} {below : List Frame} {meth : Method} {c : Code} {cA : Nat → ClassId} {ad : Nat → Nat} {D : va_G} {A : Nat → Prop} {Q : Option mm_V → mm_M → Prop} (Z : ZX8_mixPlayer p l e s m args below meth c cA ad D A) : ∀ (n : Nat) ls st M, qX8_mixPlayer_2 (fun v1 v2 M => bX8_mixPlayer_2 n v1 v2 M (fun M => Q none M)) ls st M → mm_G p l e (mm_rm 5) s m args below meth c lay_m cA ad D A 3 Q 2 ls st M
  | 0, ls, st, M, h => by
    unfold qX8_mixPlayer_2 at h
    split at h
    · obtain ⟨hb, h⟩ := mm_chk_e h
      cases (Nat.eq_of_beq_eq_true hb)
      exact h.elim
    · exact h.elim
  | n + 1, ls, st, M, h => by
    have ih := okX8_mixPlayer_2 (Q := Q) Z  n
    unfold qX8_mixPlayer_2 at h
    split at h
    · obtain ⟨hb, h⟩ := mm_chk_e h
      cases (Nat.eq_of_beq_eq_true hb)
      exact mm_Zb Z 63 2 [(2, qX8_mixPlayer_2 (fun v1 v2 M => bX8_mixPlayer_2 n v1 v2 M (fun M => Q none M))), (27, qX8_mixPlayer_27 (fun v1 v2 M => ∃ j, bX8_mixPlayer_27 j v1 v2 M (fun M => Q none M)))] (mm_fa1 ih (mm_fa1 (fun ls st M h => okX8_mixPlayer_27x Z  ls st M h) mm_fa0)) h
    · exact h.elim
theorem okX8_mixPlayer_2x {p : Program} {l : Launch} {e : Env} {s : State} {m : MethodId} {args : Array Value} {below : List Frame} {meth : Method} {c : Code} {cA : Nat → ClassId} {ad : Nat → Nat} {D : va_G} {A : Nat → Prop} {Q : Option mm_V → mm_M → Prop} (Z : ZX8_mixPlayer p l e s m args below meth c cA ad D A) : ∀ ls st M, qX8_mixPlayer_2 (fun v1 v2 M => ∃ j, bX8_mixPlayer_2 j v1 v2 M (fun M => Q none M)) ls st M → mm_G p l e (mm_rm 5) s m args below meth c lay_m cA ad D A 3 Q 2 ls st M := by
  intro ls st M h
  have hex : ∃ n, qX8_mixPlayer_2 (fun v1 v2 M => bX8_mixPlayer_2 n v1 v2 M (fun M => Q none M)) ls st M := by
    unfold qX8_mixPlayer_2 at h
    split at h
    · obtain ⟨hb, h⟩ := mm_chk_e h
      cases (Nat.eq_of_beq_eq_true hb)
      obtain ⟨n, h⟩ := h
      exact ⟨n, h⟩
    · exact h.elim
  obtain ⟨n, hex⟩ := hex
  exact okX8_mixPlayer_2 Z  n ls st M hex
theorem okX8_mixPlayer : mm_Ok lay_m yX8_mixPlayer cX8_mixPlayer 3 none 5 fX8_mixPlayer := by
  refine mm_enter (rt := 0) (by decide +kernel) rfl ?_
  intro p l e s m args below meth c cA ad D A as M Q h C0
  have Z : ZX8_mixPlayer p l e s m args below meth c cA ad D A := ⟨C0, flRX8_ok, mm_vt_of (mm_fa1 (mm_coV (n := 2) (ci := 8) C0 okX8_whoNow rfl rfl (mm_one_at (.methodLink RX8 232 yX8_whoNow) 1278 (by decide +kernel) rfl) (wX8_whoNow _ (by simp)) (wX8_whoNow _ (by simp [yX8_whoNow])) (wX8_whoNow _ (by simp [yX8_whoNow])) (wX8_whoNow _ (by simp)) (by decide +kernel) (by omega) (by omega)) (mm_fa1 (mm_coV (n := 1) (ci := 8) C0 okX8_mix rfl rfl (mm_one_at (.methodLink RX8 414 yX8_mix) 1534 (by decide +kernel) rfl) (wX8_mix _ (by simp)) (wX8_mix _ (by simp [yX8_mix])) (wX8_mix _ (by simp [yX8_mix])) (wX8_mix _ (by simp)) (by decide +kernel) (by omega) (by omega)) (mm_fa1 (mm_coV (n := 2) (ci := 8) C0 okX8_payOf rfl rfl (mm_one_at (.methodLink RX8 213 yX8_payOf) 1262 (by decide +kernel) rfl) (wX8_payOf _ (by simp)) (wX8_payOf _ (by simp [yX8_payOf])) (wX8_payOf _ (by simp [yX8_payOf])) (wX8_payOf _ (by simp)) (by decide +kernel) (by omega) (by omega)) (mm_fa1 (mm_coV (n := 3) (ci := 8) C0 okX8_roadOf rfl rfl (mm_one_at (.methodLink RX8 158 yX8_roadOf) 1186 (by decide +kernel) rfl) (wX8_roadOf _ (by simp)) (wX8_roadOf _ (by simp [yX8_roadOf])) (wX8_roadOf _ (by simp [yX8_roadOf])) (wX8_roadOf _ (by simp)) (by decide +kernel) (by omega) (by omega)) (mm_fa0))))), mm_vt_of (mm_fa0), kX8_mixPlayer_ok, mm_ctok_J ctRX8_ok⟩
  unfold fX8_mixPlayer at h
  split at h
  · obtain ⟨hb, h⟩ := mm_chk_e h
    cases (Nat.eq_of_beq_eq_true hb)
    exact ⟨Nat.le_of_ble_eq_true rfl, mm_Zb Z 63 0 [(2, qX8_mixPlayer_2 (fun v1 v2 M => ∃ j, bX8_mixPlayer_2 j v1 v2 M (fun M => Q none M)))] (mm_fa1 (fun ls st M h => okX8_mixPlayer_2x Z  ls st M h) mm_fa0) h⟩
  · exact h.elim
def kX8_mixNet : List mm_E := [(0, false, .iconst 0, []), (1, false, .istore_n 1, []), (2, true, .iload_n 1, []), (3, false, .bipush 8, []), (5, false, .if_icmp .ge 19, [24]), (8, false, .aload_n 0, []), (9, false, .aload_n 0, []), (10, false, .iload_n 1, []), (11, false, .invokevirtual 198, []), (14, false, .i2l, []), (15, false, .invokevirtual 414, []), (18, false, .iinc 1 1, []), (21, false, .goto (-19), [2]), (24, false, .iconst 0, []), (25, false, .istore_n 1, []), (26, true, .iload_n 1, []), (27, false, .bipush 8, []), (29, false, .aload_n 0, []), (30, false, .getfield 145, []), (33, false, .imul, []), (34, false, .if_icmp .ge 26, [60]), (37, false, .aload_n 0, []), (38, false, .aload_n 0, []), (39, false, .iload_n 1, []), (40, false, .bipush 8, []), (42, false, .idiv, []), (43, false, .iload_n 1, []), (44, false, .bipush 8, []), (46, false, .irem, []), (47, false, .invokevirtual 204, []), (50, false, .i2l, []), (51, false, .invokevirtual 414, []), (54, false, .iinc 1 1, []), (57, false, .goto (-31), [26]), (60, false, .iconst 0, []), (61, false, .istore_n 1, []), (62, true, .iload_n 1, []), (63, false, .aload_n 0, []), (64, false, .getfield 148, []), (67, false, .if_icmp .ge 14, [81]), (70, false, .aload_n 0, []), (71, false, .iload_n 1, []), (72, false, .invokevirtual 418, []), (75, false, .iinc 1 1, []), (78, false, .goto (-16), [62]), (81, false, .return_, [])]
set_option maxRecDepth 20000 in
theorem kX8_mixNet_ok : mm_cok cX8_mixNet RX8 (mm_ctt ctRX8) kX8_mixNet := mm_c_of (k := false) ctRX8_ok (by decide +kernel)
set_option maxRecDepth 20000 in
theorem wX8_mixNet : ∀ w ∈ ([.instanceMethod yX8_mixNet, .selects RX8 yX8_mixNet yX8_mixNet, .initialized RX8, .code yX8_mixNet cX8_mixNet 2 none] : List Cond), w ∈ mm_tbl := mm_sub_at _ [1532, 97, 112, 1533] (by decide +kernel) (by decide +kernel)
def vtX8_mixNet : List (Nat × Nat × Nat × mm_F) := [(198, 8, 2, fX8_aboutNow), (414, 8, 2, fX8_mix), (204, 8, 3, fX8_roadNow), (418, 8, 2, fX8_mixPlayer)]
def smX8_mixNet : List (Nat × Nat × Nat × mm_F) := []
def ZX8_mixNet (p : Program) (l : Launch) (e : Env) (s : State) (m : MethodId) (args : Array Value) (below : List Frame) (meth : Method) (c : Code) (cA : Nat → ClassId) (ad : Nat → Nat) (D : va_G) (A : Nat → Prop) : Prop := mm_Z p l e (mm_rm 6) s m args below meth c lay_m cA ad D A RX8 cX8_mixNet 2 0 (mm_flt flRX8) (mm_clt (vtX8_mixNet)) (mm_clt (smX8_mixNet)) (mm_ctt ctRX8) kX8_mixNet
def qX8_mixNet_62 (P : Int → mm_M → Prop) : mm_K := fun ls st M => match ls, st with
  | [some (.inr (.inr c0)), some (.inl v1)], [] => mm_chk (Nat.beq c0 0) (P v1 M)
  | _, _ => False
def qX8_mixNet_26 (P : Int → mm_M → Prop) : mm_K := fun ls st M => match ls, st with
  | [some (.inr (.inr c0)), some (.inl v1)], [] => mm_chk (Nat.beq c0 0) (P v1 M)
  | _, _ => False
def qX8_mixNet_2 (P : Int → mm_M → Prop) : mm_K := fun ls st M => match ls, st with
  | [some (.inr (.inr c0)), some (.inl v1)], [] => mm_chk (Nat.beq c0 0) (P v1 M)
  | _, _ => False
theorem okX8_mixNet_62 {p : Program} {l : Launch} {e : Env} {s : State} {m : MethodId} {args : Array Value} {below : List Frame} {meth : Method} {c : Code} {cA : Nat → ClassId} {ad : Nat → Nat} {D : va_G} {A : Nat → Prop} {Q : Option mm_V → mm_M → Prop} (Z : ZX8_mixNet p l e s m args below meth c cA ad D A) : ∀ (n : Nat) ls st M, qX8_mixNet_62 (fun v1 M => bX8_mixNet_62 n v1 M (fun M => Q none M)) ls st M → mm_G p l e (mm_rm 6) s m args below meth c lay_m cA ad D A 2 Q 62 ls st M
  | 0, ls, st, M, h => by
    unfold qX8_mixNet_62 at h
    split at h
    · obtain ⟨hb, h⟩ := mm_chk_e h
      cases (Nat.eq_of_beq_eq_true hb)
      exact h.elim
    · exact h.elim
  | n + 1, ls, st, M, h => by
    have ih := okX8_mixNet_62 (Q := Q) Z  n
    unfold qX8_mixNet_62 at h
    split at h
    · obtain ⟨hb, h⟩ := mm_chk_e h
      cases (Nat.eq_of_beq_eq_true hb)
      exact mm_Zb Z 49 62 [(62, qX8_mixNet_62 (fun v1 M => bX8_mixNet_62 n v1 M (fun M => Q none M)))] (mm_fa1 ih mm_fa0) h
    · exact h.elim
theorem okX8_mixNet_62x {p : Program} {l : Launch} {e : Env} {s : State} {m : MethodId} {args : Array Value} {below : List Frame} {meth : Method} {c : Code} {cA : Nat → ClassId} {ad : Nat → Nat} {D : va_G} {A : Nat → Prop} {Q : Option mm_V → mm_M → Prop} (Z : ZX8_mixNet p l e s m args below meth c cA ad D A) : ∀ ls st M, qX8_mixNet_62 (fun v1 M => ∃ j, bX8_mixNet_62 j v1 M (fun M => Q none M)) ls st M → mm_G p l e (mm_rm 6) s m args below meth c lay_m cA ad D A 2 Q 62 ls st M := by
  intro ls st M h
  have hex : ∃ n, qX8_mixNet_62 (fun v1 M => bX8_mixNet_62 n v1 M (fun M => Q none M)) ls st M := by
    unfold qX8_mixNet_62 at h
    split at h
    · obtain ⟨hb, h⟩ := mm_chk_e h
      cases (Nat.eq_of_beq_eq_true hb)
      obtain ⟨n, h⟩ := h
      exact ⟨n, h⟩
    · exact h.elim
  obtain ⟨n, hex⟩ := hex
  exact okX8_mixNet_62 Z  n ls st M hex
theorem okX8_mixNet_26 {p : Program} {l : Launch} {e : Env} {s : State} {m : MethodId} {args : Array Value} {below : List Frame} {meth : Method} {c : Code} {cA : Nat → ClassId} {ad : Nat → Nat} {D : va_G} {A : Nat → Prop} {Q : Option mm_V → mm_M → Prop} (Z : ZX8_mixNet p l e s m args below meth c cA ad D A) : ∀ (n : Nat) ls st M, qX8_mixNet_26 (fun v1 M => bX8_mixNet_26 n v1 M (fun M => Q none M)) ls st M → mm_G p l e (mm_rm 6) s m args below meth c lay_m cA ad D A 2 Q 26 ls st M
  | 0, ls, st, M, h => by
    unfold qX8_mixNet_26 at h
    split at h
    · obtain ⟨hb, h⟩ := mm_chk_e h
      cases (Nat.eq_of_beq_eq_true hb)
      exact h.elim
    · exact h.elim
  | n + 1, ls, st, M, h => by
    have ih := okX8_mixNet_26 (Q := Q) Z  n
    unfold qX8_mixNet_26 at h
    split at h
    · obtain ⟨hb, h⟩ := mm_chk_e h
      cases (Nat.eq_of_beq_eq_true hb)
      exact mm_Zb Z 49 26 [(26, qX8_mixNet_26 (fun v1 M => bX8_mixNet_26 n v1 M (fun M => Q none M))), (62, qX8_mixNet_62 (fun v1 M => ∃ j, bX8_mixNet_62 j v1 M (fun M => Q none M)))] (mm_fa1 ih (mm_fa1 (fun ls st M h => okX8_mixNet_62x Z  ls st M h) mm_fa0)) h
    · exact h.elim
theorem okX8_mixNet_26x {p : Program} {l : Launch} {e : Env} {s : State} {m : MethodId} {args : Array Value} {below : List Frame} {meth : Method} {c : Code} {cA : Nat → ClassId} {ad : Nat → Nat} {D : va_G} {A : Nat → Prop} {Q : Option mm_V → mm_M → Prop} (Z : ZX8_mixNet p l e s m args below meth c cA ad D A) : ∀ ls st M, qX8_mixNet_26 (fun v1 M => ∃ j, bX8_mixNet_26 j v1 M (fun M => Q none M)) ls st M → mm_G p l e (mm_rm 6) s m args below meth c lay_m cA ad D A 2 Q 26 ls st M := by
  intro ls st M h
  have hex : ∃ n, qX8_mixNet_26 (fun v1 M => bX8_mixNet_26 n v1 M (fun M => Q none M)) ls st M := by
    unfold qX8_mixNet_26 at h
    split at h
    · obtain ⟨hb, h⟩ := mm_chk_e h
      cases (Nat.eq_of_beq_eq_true hb)
      obtain ⟨n, h⟩ := h
      exact ⟨n, h⟩
    · exact h.elim
  obtain ⟨n, hex⟩ := hex
  exact okX8_mixNet_26 Z  n ls st M hex
theorem okX8_mixNet_2 {p : Program} {l : Launch} {e : Env} {s : State} {m : MethodId} {args : Array Value} {below : List Frame} {meth : Method} {c : Code} {cA : Nat → ClassId} {ad : Nat → Nat} {D : va_G} {A : Nat → Prop} {Q : Option mm_V → mm_M → Prop} (Z : ZX8_mixNet p l e s m args below meth c cA ad D A) : ∀ (n : Nat) ls st M, qX8_mixNet_2 (fun v1 M => bX8_mixNet_2 n v1 M (fun M => Q none M)) ls st M → mm_G p l e (mm_rm 6) s m args below meth c lay_m cA ad D A 2 Q 2 ls st M
  | 0, ls, st, M, h => by
    unfold qX8_mixNet_2 at h
    split at h
    · obtain ⟨hb, h⟩ := mm_chk_e h
      cases (Nat.eq_of_beq_eq_true hb)
      exact h.elim
    · exact h.elim
  | n + 1, ls, st, M, h => by
    have ih := okX8_mixNet_2 (Q := Q) Z  n
    unfold qX8_mixNet_2 at h
    split at h
    · obtain ⟨hb, h⟩ := mm_chk_e h
      cases (Nat.eq_of_beq_eq_true hb)
      exact mm_Zb Z 49 2 [(2, qX8_mixNet_2 (fun v1 M => bX8_mixNet_2 n v1 M (fun M => Q none M))), (26, qX8_mixNet_26 (fun v1 M => ∃ j, bX8_mixNet_26 j v1 M (fun M => Q none M)))] (mm_fa1 ih (mm_fa1 (fun ls st M h => okX8_mixNet_26x Z  ls st M h) mm_fa0)) h
    · exact h.elim
theorem okX8_mixNet_2x {p : Program} {l : Launch} {e : Env} {s : State} {m : MethodId} {args : Array Value} {below : List Frame} {meth : Method} {c : Code} {cA : Nat → ClassId} {ad : Nat → Nat} {D : va_G} {A : Nat → Prop} {Q : Option mm_V → mm_M → Prop} (Z : ZX8_mixNet p l e s m args below meth c cA ad D A) : ∀ ls st M, qX8_mixNet_2 (fun v1 M => ∃ j, bX8_mixNet_2 j v1 M (fun M => Q none M)) ls st M → mm_G p l e (mm_rm 6) s m args below meth c lay_m cA ad D A 2 Q 2 ls st M := by
  intro ls st M h
  have hex : ∃ n, qX8_mixNet_2 (fun v1 M => bX8_mixNet_2 n v1 M (fun M => Q none M)) ls st M := by
    unfold qX8_mixNet_2 at h
    split at h
    · obtain ⟨hb, h⟩ := mm_chk_e h
      cases (Nat.eq_of_beq_eq_true hb)
      obtain ⟨n, h⟩ := h
      exact ⟨n, h⟩
    · exact h.elim
  obtain ⟨n, hex⟩ := hex
  exact okX8_mixNet_2 Z  n ls st M hex
theorem okX8_mixNet : mm_Ok lay_m yX8_mixNet cX8_mixNet 2 none 6 fX8_mixNet := by
  refine mm_enter (rt := 0) (by decide +kernel) rfl ?_
  intro p l e s m args below meth c cA ad D A as M Q h C0
  have Z : ZX8_mixNet p l e s m args below meth c cA ad D A := ⟨C0, flRX8_ok, mm_vt_of (mm_fa1 (mm_coV (n := 1) (ci := 8) C0 okX8_aboutNow rfl rfl (mm_one_at (.methodLink RX8 198 yX8_aboutNow) 1170 (by decide +kernel) rfl) (wX8_aboutNow _ (by simp)) (wX8_aboutNow _ (by simp [yX8_aboutNow])) (wX8_aboutNow _ (by simp [yX8_aboutNow])) (wX8_aboutNow _ (by simp)) (by decide +kernel) (by omega) (by omega)) (mm_fa1 (mm_coV (n := 1) (ci := 8) C0 okX8_mix rfl rfl (mm_one_at (.methodLink RX8 414 yX8_mix) 1534 (by decide +kernel) rfl) (wX8_mix _ (by simp)) (wX8_mix _ (by simp [yX8_mix])) (wX8_mix _ (by simp [yX8_mix])) (wX8_mix _ (by simp)) (by decide +kernel) (by omega) (by omega)) (mm_fa1 (mm_coV (n := 2) (ci := 8) C0 okX8_roadNow rfl rfl (mm_one_at (.methodLink RX8 204 yX8_roadNow) 1226 (by decide +kernel) rfl) (wX8_roadNow _ (by simp)) (wX8_roadNow _ (by simp [yX8_roadNow])) (wX8_roadNow _ (by simp [yX8_roadNow])) (wX8_roadNow _ (by simp)) (by decide +kernel) (by omega) (by omega)) (mm_fa1 (mm_coV (n := 1) (ci := 8) C0 okX8_mixPlayer rfl rfl (mm_one_at (.methodLink RX8 418 yX8_mixPlayer) 1539 (by decide +kernel) rfl) (wX8_mixPlayer _ (by simp)) (wX8_mixPlayer _ (by simp [yX8_mixPlayer])) (wX8_mixPlayer _ (by simp [yX8_mixPlayer])) (wX8_mixPlayer _ (by simp)) (by decide +kernel) (by omega) (by omega)) (mm_fa0))))), mm_vt_of (mm_fa0), kX8_mixNet_ok, mm_ctok_J ctRX8_ok⟩
  unfold fX8_mixNet at h
  split at h
  · obtain ⟨hb, h⟩ := mm_chk_e h
    cases (Nat.eq_of_beq_eq_true hb)
    exact ⟨Nat.le_of_ble_eq_true rfl, mm_Zb Z 49 0 [(2, qX8_mixNet_2 (fun v1 M => ∃ j, bX8_mixNet_2 j v1 M (fun M => Q none M)))] (mm_fa1 (fun ls st M h => okX8_mixNet_2x Z  ls st M h) mm_fa0) h⟩
  · exact h.elim
def kX8_mixSets : List mm_E := [(0, false, .iconst 0, []), (1, false, .istore_n 1, []), (2, true, .iload_n 1, []), (3, false, .bipush 6, []), (5, false, .if_icmp .ge 19, [24]), (8, false, .aload_n 0, []), (9, false, .aload_n 0, []), (10, false, .iload_n 1, []), (11, false, .invokevirtual 285, []), (14, false, .i2l, []), (15, false, .invokevirtual 414, []), (18, false, .iinc 1 1, []), (21, false, .goto (-19), [2]), (24, false, .iconst 0, []), (25, false, .istore_n 1, []), (26, true, .iload_n 1, []), (27, false, .iconst 4, []), (28, false, .if_icmp .ge 19, [47]), (31, false, .aload_n 0, []), (32, false, .aload_n 0, []), (33, false, .iload_n 1, []), (34, false, .invokevirtual 299, []), (37, false, .i2l, []), (38, false, .invokevirtual 414, []), (41, false, .iinc 1 1, []), (44, false, .goto (-18), [26]), (47, false, .iconst 0, []), (48, false, .istore_n 1, []), (49, true, .iload_n 1, []), (50, false, .iconst 3, []), (51, false, .if_icmp .ge 19, [70]), (54, false, .aload_n 0, []), (55, false, .aload_n 0, []), (56, false, .iload_n 1, []), (57, false, .invokevirtual 311, []), (60, false, .i2l, []), (61, false, .invokevirtual 414, []), (64, false, .iinc 1 1, []), (67, false, .goto (-18), [49]), (70, false, .return_, [])]
set_option maxRecDepth 20000 in
theorem kX8_mixSets_ok : mm_cok cX8_mixSets RX8 (mm_ctt ctRX8) kX8_mixSets := mm_c_of (k := false) ctRX8_ok (by decide +kernel)
set_option maxRecDepth 20000 in
theorem wX8_mixSets : ∀ w ∈ ([.instanceMethod yX8_mixSets, .selects RX8 yX8_mixSets yX8_mixSets, .initialized RX8, .code yX8_mixSets cX8_mixSets 2 none] : List Cond), w ∈ mm_tbl := mm_sub_at _ [1545, 100, 112, 1546] (by decide +kernel) (by decide +kernel)
def vtX8_mixSets : List (Nat × Nat × Nat × mm_F) := [(285, 8, 2, fX8_restsNow), (414, 8, 2, fX8_mix), (299, 8, 2, fX8_priceNow), (311, 8, 2, fX8_reachNow)]
def smX8_mixSets : List (Nat × Nat × Nat × mm_F) := []
def ZX8_mixSets (p : Program) (l : Launch) (e : Env) (s : State) (m : MethodId) (args : Array Value) (below : List Frame) (meth : Method) (c : Code) (cA : Nat → ClassId) (ad : Nat → Nat) (D : va_G) (A : Nat → Prop) : Prop := mm_Z p l e (mm_rm 7) s m args below meth c lay_m cA ad D A RX8 cX8_mixSets 2 0 (mm_flt flRX8) (mm_clt (vtX8_mixSets)) (mm_clt (smX8_mixSets)) (mm_ctt ctRX8) kX8_mixSets
def qX8_mixSets_49 (P : Int → mm_M → Prop) : mm_K := fun ls st M => match ls, st with
  | [some (.inr (.inr c0)), some (.inl v1)], [] => mm_chk (Nat.beq c0 0) (P v1 M)
  | _, _ => False
def qX8_mixSets_26 (P : Int → mm_M → Prop) : mm_K := fun ls st M => match ls, st with
  | [some (.inr (.inr c0)), some (.inl v1)], [] => mm_chk (Nat.beq c0 0) (P v1 M)
  | _, _ => False
def qX8_mixSets_2 (P : Int → mm_M → Prop) : mm_K := fun ls st M => match ls, st with
  | [some (.inr (.inr c0)), some (.inl v1)], [] => mm_chk (Nat.beq c0 0) (P v1 M)
  | _, _ => False
theorem okX8_mixSets_49 {p : Program} {l : Launch} {e : Env} {s : State} {m : MethodId} {args : Array Value} {below : List Frame} {meth : Method} {c : Code} {cA : Nat → ClassId} {ad : Nat → Nat} {D : va_G} {A : Nat → Prop} {Q : Option mm_V → mm_M → Prop} (Z : ZX8_mixSets p l e s m args below meth c cA ad D A) : ∀ (n : Nat) ls st M, qX8_mixSets_49 (fun v1 M => bX8_mixSets_49 n v1 M (fun M => Q none M)) ls st M → mm_G p l e (mm_rm 7) s m args below meth c lay_m cA ad D A 2 Q 49 ls st M
  | 0, ls, st, M, h => by
    unfold qX8_mixSets_49 at h
    split at h
    · obtain ⟨hb, h⟩ := mm_chk_e h
      cases (Nat.eq_of_beq_eq_true hb)
      exact h.elim
    · exact h.elim
  | n + 1, ls, st, M, h => by
    have ih := okX8_mixSets_49 (Q := Q) Z  n
    unfold qX8_mixSets_49 at h
    split at h
    · obtain ⟨hb, h⟩ := mm_chk_e h
      cases (Nat.eq_of_beq_eq_true hb)
      exact mm_Zb Z 43 49 [(49, qX8_mixSets_49 (fun v1 M => bX8_mixSets_49 n v1 M (fun M => Q none M)))] (mm_fa1 ih mm_fa0) h
    · exact h.elim
theorem okX8_mixSets_49x {p : Program} {l : Launch} {e : Env} {s : State} {m : MethodId} {args : Array Value} {below : List Frame} {meth : Method} {c : Code} {cA : Nat → ClassId} {ad : Nat → Nat} {D : va_G} {A : Nat → Prop} {Q : Option mm_V → mm_M → Prop} (Z : ZX8_mixSets p l e s m args below meth c cA ad D A) : ∀ ls st M, qX8_mixSets_49 (fun v1 M => ∃ j, bX8_mixSets_49 j v1 M (fun M => Q none M)) ls st M → mm_G p l e (mm_rm 7) s m args below meth c lay_m cA ad D A 2 Q 49 ls st M := by
  intro ls st M h
  have hex : ∃ n, qX8_mixSets_49 (fun v1 M => bX8_mixSets_49 n v1 M (fun M => Q none M)) ls st M := by
    unfold qX8_mixSets_49 at h
    split at h
    · obtain ⟨hb, h⟩ := mm_chk_e h
      cases (Nat.eq_of_beq_eq_true hb)
      obtain ⟨n, h⟩ := h
      exact ⟨n, h⟩
    · exact h.elim
  obtain ⟨n, hex⟩ := hex
  exact okX8_mixSets_49 Z  n ls st M hex
theorem okX8_mixSets_26 {p : Program} {l : Launch} {e : Env} {s : State} {m : MethodId} {args : Array Value} {below : List Frame} {meth : Method} {c : Code} {cA : Nat → ClassId} {ad : Nat → Nat} {D : va_G} {A : Nat → Prop} {Q : Option mm_V → mm_M → Prop} (Z : ZX8_mixSets p l e s m args below meth c cA ad D A) : ∀ (n : Nat) ls st M, qX8_mixSets_26 (fun v1 M => bX8_mixSets_26 n v1 M (fun M => Q none M)) ls st M → mm_G p l e (mm_rm 7) s m args below meth c lay_m cA ad D A 2 Q 26 ls st M
  | 0, ls, st, M, h => by
    unfold qX8_mixSets_26 at h
    split at h
    · obtain ⟨hb, h⟩ := mm_chk_e h
      cases (Nat.eq_of_beq_eq_true hb)
      exact h.elim
    · exact h.elim
  | n + 1, ls, st, M, h => by
    have ih := okX8_mixSets_26 (Q := Q) Z  n
    unfold qX8_mixSets_26 at h
    split at h
    · obtain ⟨hb, h⟩ := mm_chk_e h
      cases (Nat.eq_of_beq_eq_true hb)
      exact mm_Zb Z 43 26 [(26, qX8_mixSets_26 (fun v1 M => bX8_mixSets_26 n v1 M (fun M => Q none M))), (49, qX8_mixSets_49 (fun v1 M => ∃ j, bX8_mixSets_49 j v1 M (fun M => Q none M)))] (mm_fa1 ih (mm_fa1 (fun ls st M h => okX8_mixSets_49x Z  ls st M h) mm_fa0)) h
    · exact h.elim
theorem okX8_mixSets_26x {p : Program} {l : Launch} {e : Env} {s : State} {m : MethodId} {args : Array Value} {below : List Frame} {meth : Method} {c : Code} {cA : Nat → ClassId} {ad : Nat → Nat} {D : va_G} {A : Nat → Prop} {Q : Option mm_V → mm_M → Prop} (Z : ZX8_mixSets p l e s m args below meth c cA ad D A) : ∀ ls st M, qX8_mixSets_26 (fun v1 M => ∃ j, bX8_mixSets_26 j v1 M (fun M => Q none M)) ls st M → mm_G p l e (mm_rm 7) s m args below meth c lay_m cA ad D A 2 Q 26 ls st M := by
  intro ls st M h
  have hex : ∃ n, qX8_mixSets_26 (fun v1 M => bX8_mixSets_26 n v1 M (fun M => Q none M)) ls st M := by
    unfold qX8_mixSets_26 at h
    split at h
    · obtain ⟨hb, h⟩ := mm_chk_e h
      cases (Nat.eq_of_beq_eq_true hb)
      obtain ⟨n, h⟩ := h
      exact ⟨n, h⟩
    · exact h.elim
  obtain ⟨n, hex⟩ := hex
  exact okX8_mixSets_26 Z  n ls st M hex
theorem okX8_mixSets_2 {p : Program} {l : Launch} {e : Env} {s : State} {m : MethodId} {args : Array Value} {below : List Frame} {meth : Method} {c : Code} {cA : Nat → ClassId} {ad : Nat → Nat} {D : va_G} {A : Nat → Prop} {Q : Option mm_V → mm_M → Prop} (Z : ZX8_mixSets p l e s m args below meth c cA ad D A) : ∀ (n : Nat) ls st M, qX8_mixSets_2 (fun v1 M => bX8_mixSets_2 n v1 M (fun M => Q none M)) ls st M → mm_G p l e (mm_rm 7) s m args below meth c lay_m cA ad D A 2 Q 2 ls st M
  | 0, ls, st, M, h => by
    unfold qX8_mixSets_2 at h
    split at h
    · obtain ⟨hb, h⟩ := mm_chk_e h
      cases (Nat.eq_of_beq_eq_true hb)
      exact h.elim
    · exact h.elim
  | n + 1, ls, st, M, h => by
    have ih := okX8_mixSets_2 (Q := Q) Z  n
    unfold qX8_mixSets_2 at h
    split at h
    · obtain ⟨hb, h⟩ := mm_chk_e h
      cases (Nat.eq_of_beq_eq_true hb)
      exact mm_Zb Z 43 2 [(2, qX8_mixSets_2 (fun v1 M => bX8_mixSets_2 n v1 M (fun M => Q none M))), (26, qX8_mixSets_26 (fun v1 M => ∃ j, bX8_mixSets_26 j v1 M (fun M => Q none M)))] (mm_fa1 ih (mm_fa1 (fun ls st M h => okX8_mixSets_26x Z  ls st M h) mm_fa0)) h
    · exact h.elim
theorem okX8_mixSets_2x {p : Program} {l : Launch} {e : Env} {s : State} {m : MethodId} {args : Array Value} {below : List Frame} {meth : Method} {c : Code} {cA : Nat → ClassId} {ad : Nat → Nat} {D : va_G} {A : Nat → Prop} {Q : Option mm_V → mm_M → Prop} (Z : ZX8_mixSets p l e s m args below meth c cA ad D A) : ∀ ls st M, qX8_mixSets_2 (fun v1 M => ∃ j, bX8_mixSets_2 j v1 M (fun M => Q none M)) ls st M → mm_G p l e (mm_rm 7) s m args below meth c lay_m cA ad D A 2 Q 2 ls st M := by
  intro ls st M h
  have hex : ∃ n, qX8_mixSets_2 (fun v1 M => bX8_mixSets_2 n v1 M (fun M => Q none M)) ls st M := by
    unfold qX8_mixSets_2 at h
    split at h
    · obtain ⟨hb, h⟩ := mm_chk_e h
      cases (Nat.eq_of_beq_eq_true hb)
      obtain ⟨n, h⟩ := h
      exact ⟨n, h⟩
    · exact h.elim
  obtain ⟨n, hex⟩ := hex
  exact okX8_mixSets_2 Z  n ls st M hex
theorem okX8_mixSets : mm_Ok lay_m yX8_mixSets cX8_mixSets 2 none 7 fX8_mixSets := by
  refine mm_enter (rt := 0) (by decide +kernel) rfl ?_
  intro p l e s m args below meth c cA ad D A as M Q h C0
  have Z : ZX8_mixSets p l e s m args below meth c cA ad D A := ⟨C0, flRX8_ok, mm_vt_of (mm_fa1 (mm_coV (n := 1) (ci := 8) C0 okX8_restsNow rfl rfl (mm_one_at (.methodLink RX8 285 yX8_restsNow) 1318 (by decide +kernel) rfl) (wX8_restsNow _ (by simp)) (wX8_restsNow _ (by simp [yX8_restsNow])) (wX8_restsNow _ (by simp [yX8_restsNow])) (wX8_restsNow _ (by simp)) (by decide +kernel) (by omega) (by omega)) (mm_fa1 (mm_coV (n := 1) (ci := 8) C0 okX8_mix rfl rfl (mm_one_at (.methodLink RX8 414 yX8_mix) 1534 (by decide +kernel) rfl) (wX8_mix _ (by simp)) (wX8_mix _ (by simp [yX8_mix])) (wX8_mix _ (by simp [yX8_mix])) (wX8_mix _ (by simp)) (by decide +kernel) (by omega) (by omega)) (mm_fa1 (mm_coV (n := 1) (ci := 8) C0 okX8_priceNow rfl rfl (mm_one_at (.methodLink RX8 299 yX8_priceNow) 1362 (by decide +kernel) rfl) (wX8_priceNow _ (by simp)) (wX8_priceNow _ (by simp [yX8_priceNow])) (wX8_priceNow _ (by simp [yX8_priceNow])) (wX8_priceNow _ (by simp)) (by decide +kernel) (by omega) (by omega)) (mm_fa1 (mm_coV (n := 1) (ci := 8) C0 okX8_reachNow rfl rfl (mm_one_at (.methodLink RX8 311 yX8_reachNow) 1376 (by decide +kernel) rfl) (wX8_reachNow _ (by simp)) (wX8_reachNow _ (by simp [yX8_reachNow])) (wX8_reachNow _ (by simp [yX8_reachNow])) (wX8_reachNow _ (by simp)) (by decide +kernel) (by omega) (by omega)) (mm_fa0))))), mm_vt_of (mm_fa0), kX8_mixSets_ok, mm_ctok_J ctRX8_ok⟩
  unfold fX8_mixSets at h
  split at h
  · obtain ⟨hb, h⟩ := mm_chk_e h
    cases (Nat.eq_of_beq_eq_true hb)
    exact ⟨Nat.le_of_ble_eq_true rfl, mm_Zb Z 43 0 [(2, qX8_mixSets_2 (fun v1 M => ∃ j, bX8_mixSets_2 j v1 M (fun M => Q none M)))] (mm_fa1 (fun ls st M h => okX8_mixSets_2x Z  ls st M h) mm_fa0) h⟩
  · exact h.elim
def kX8_mixLeads : List mm_E := [(0, false, .iconst 0, []), (1, false, .istore_n 1, []), (2, true, .iload_n 1, []), (3, false, .aload_n 0, []), (4, false, .getfield 148, []), (7, false, .if_icmp .ge 38, [45]), (10, false, .iconst 0, []), (11, false, .istore_n 2, []), (12, true, .iload_n 2, []), (13, false, .aload_n 0, []), (14, false, .getfield 31, []), (17, false, .iload_n 1, []), (18, false, .iaload, []), (19, false, .if_icmp .ge 20, [39]), (22, false, .aload_n 0, []), (23, false, .aload_n 0, []), (24, false, .iload_n 1, []), (25, false, .iload_n 2, []), (26, false, .invokevirtual 317, []), (29, false, .i2l, []), (30, false, .invokevirtual 414, []), (33, false, .iinc 2 1, []), (36, false, .goto (-24), [12]), (39, false, .iinc 1 1, []), (42, false, .goto (-40), [2]), (45, false, .return_, [])]
set_option maxRecDepth 20000 in
theorem kX8_mixLeads_ok : mm_cok cX8_mixLeads RX8 (mm_ctt ctRX8) kX8_mixLeads := mm_c_of (k := false) ctRX8_ok (by decide +kernel)
set_option maxRecDepth 20000 in
theorem wX8_mixLeads : ∀ w ∈ ([.instanceMethod yX8_mixLeads, .selects RX8 yX8_mixLeads yX8_mixLeads, .initialized RX8, .code yX8_mixLeads cX8_mixLeads 3 none] : List Cond), w ∈ mm_tbl := mm_sub_at _ [1549, 101, 112, 1550] (by decide +kernel) (by decide +kernel)
def vtX8_mixLeads : List (Nat × Nat × Nat × mm_F) := [(317, 8, 3, fX8_leadNow), (414, 8, 2, fX8_mix)]
def smX8_mixLeads : List (Nat × Nat × Nat × mm_F) := []
def ZX8_mixLeads (p : Program) (l : Launch) (e : Env) (s : State) (m : MethodId) (args : Array Value) (below : List Frame) (meth : Method) (c : Code) (cA : Nat → ClassId) (ad : Nat → Nat) (D : va_G) (A : Nat → Prop) : Prop := mm_Z p l e (mm_rm 8) s m args below meth c lay_m cA ad D A RX8 cX8_mixLeads 3 0 (mm_flt flRX8) (mm_clt (vtX8_mixLeads)) (mm_clt (smX8_mixLeads)) (mm_ctt ctRX8) kX8_mixLeads
def qX8_mixLeads_12 (P : Int → Int → mm_M → Prop) : mm_K := fun ls st M => match ls, st with
  | [some (.inr (.inr c0)), some (.inl v1), some (.inl v2)], [] => mm_chk (Nat.beq c0 0) (P v1 v2 M)
  | _, _ => False
def qX8_mixLeads_2 (P : Int → mm_M → Prop) : mm_K := fun ls st M => match ls, st with
  | [some (.inr (.inr c0)), some (.inl v1), _], [] => mm_chk (Nat.beq c0 0) (P v1 M)
  | _, _ => False
theorem okX8_mixLeads_12 {p : Program} {l : Launch} {e : Env} {s : State} {m : MethodId} {args : Array Value} {below : List Frame} {meth : Method} {c : Code} {cA : Nat → ClassId} {ad : Nat → Nat} {D : va_G} {A : Nat → Prop} {Q : Option mm_V → mm_M → Prop} (Z : ZX8_mixLeads p l e s m args below meth c cA ad D A) {K2 : Int → mm_M → Prop} (hk2 : ∀ ls st M, qX8_mixLeads_2 K2 ls st M → mm_G p l e (mm_rm 8) s m args below meth c lay_m cA ad D A 3 Q 2 ls st M) : ∀ (n : Nat) ls st M, qX8_mixLeads_12 (fun v1 v2 M => bX8_mixLeads_12 K2 n v1 v2 M (fun M => Q none M)) ls st M → mm_G p l e (mm_rm 8) s m args below meth c lay_m cA ad D A 3 Q 12 ls st M
  | 0, ls, st, M, h => by
    unfold qX8_mixLeads_12 at h
    split at h
    · obtain ⟨hb, h⟩ := mm_chk_e h
      cases (Nat.eq_of_beq_eq_true hb)
      exact h.elim
    · exact h.elim
  | n + 1, ls, st, M, h => by
    have ih := okX8_mixLeads_12 (Q := Q) Z hk2 n
    unfold qX8_mixLeads_12 at h
    split at h
    · obtain ⟨hb, h⟩ := mm_chk_e h
      cases (Nat.eq_of_beq_eq_true hb)
      exact mm_Zb Z 29 12 [(2, qX8_mixLeads_2 (K2)), (12, qX8_mixLeads_12 (fun v1 v2 M => bX8_mixLeads_12 K2 n v1 v2 M (fun M => Q none M)))] (mm_fa1 hk2 (mm_fa1 ih mm_fa0)) h
    · exact h.elim
theorem okX8_mixLeads_12x {p : Program} {l : Launch} {e : Env} {s : State} {m : MethodId} {args : Array Value} {below : List Frame} {meth : Method} {c : Code} {cA : Nat → ClassId} {ad : Nat → Nat} {D : va_G} {A : Nat → Prop} {Q : Option mm_V → mm_M → Prop} (Z : ZX8_mixLeads p l e s m args below meth c cA ad D A) {K2 : Int → mm_M → Prop} (hk2 : ∀ ls st M, qX8_mixLeads_2 K2 ls st M → mm_G p l e (mm_rm 8) s m args below meth c lay_m cA ad D A 3 Q 2 ls st M) : ∀ ls st M, qX8_mixLeads_12 (fun v1 v2 M => ∃ j, bX8_mixLeads_12 K2 j v1 v2 M (fun M => Q none M)) ls st M → mm_G p l e (mm_rm 8) s m args below meth c lay_m cA ad D A 3 Q 12 ls st M := by
  intro ls st M h
  have hex : ∃ n, qX8_mixLeads_12 (fun v1 v2 M => bX8_mixLeads_12 K2 n v1 v2 M (fun M => Q none M)) ls st M := by
    unfold qX8_mixLeads_12 at h
    split at h
    · obtain ⟨hb, h⟩ := mm_chk_e h
      cases (Nat.eq_of_beq_eq_true hb)
      obtain ⟨n, h⟩ := h
      exact ⟨n, h⟩
    · exact h.elim
  obtain ⟨n, hex⟩ := hex
  exact okX8_mixLeads_12 Z hk2 n ls st M hex
theorem okX8_mixLeads_2 {p : Program} {l : Launch} {e : Env} {s : State} {m : MethodId} {args : Array Value} {below : List Frame} {meth : Method} {c : Code} {cA : Nat → ClassId} {ad : Nat → Nat} {D : va_G} {A : Nat → Prop} {Q : Option mm_V → mm_M → Prop} (Z : ZX8_mixLeads p l e s m args below meth c cA ad D A) : ∀ (n : Nat) ls st M, qX8_mixLeads_2 (fun v1 M => bX8_mixLeads_2 n v1 M (fun M => Q none M)) ls st M → mm_G p l e (mm_rm 8) s m args below meth c lay_m cA ad D A 3 Q 2 ls st M
  | 0, ls, st, M, h => by
    unfold qX8_mixLeads_2 at h
    split at h
    · obtain ⟨hb, h⟩ := mm_chk_e h
      cases (Nat.eq_of_beq_eq_true hb)
      exact h.elim
    · exact h.elim
  | n + 1, ls, st, M, h => by
    have ih := okX8_mixLeads_2 (Q := Q) Z  n
    unfold qX8_mixLeads_2 at h
    split at h
    · obtain ⟨hb, h⟩ := mm_chk_e h
      cases (Nat.eq_of_beq_eq_true hb)
      exact mm_Zb Z 29 2 [(12, qX8_mixLeads_12 (fun v1 v2 M => ∃ j, bX8_mixLeads_12 (fun v1 M => bX8_mixLeads_2 n v1 M (fun M => Q none M)) j v1 v2 M (fun M => Q none M)))] (mm_fa1 (fun ls st M h => okX8_mixLeads_12x Z (ih) ls st M h) mm_fa0) h
    · exact h.elim
theorem okX8_mixLeads_2x {p : Program} {l : Launch} {e : Env} {s : State} {m : MethodId} {args : Array Value} {below : List Frame} {meth : Method} {c : Code} {cA : Nat → ClassId} {ad : Nat → Nat} {D : va_G} {A : Nat → Prop} {Q : Option mm_V → mm_M → Prop} (Z : ZX8_mixLeads p l e s m args below meth c cA ad D A) : ∀ ls st M, qX8_mixLeads_2 (fun v1 M => ∃ j, bX8_mixLeads_2 j v1 M (fun M => Q none M)) ls st M → mm_G p l e (mm_rm 8) s m args below meth c lay_m cA ad D A 3 Q 2 ls st M := by
  intro ls st M h
  have hex : ∃ n, qX8_mixLeads_2 (fun v1 M => bX8_mixLeads_2 n v1 M (fun M => Q none M)) ls st M := by
    unfold qX8_mixLeads_2 at h
    split at h
    · obtain ⟨hb, h⟩ := mm_chk_e h
      cases (Nat.eq_of_beq_eq_true hb)
      obtain ⟨n, h⟩ := h
      exact ⟨n, h⟩
    · exact h.elim
  obtain ⟨n, hex⟩ := hex
  exact okX8_mixLeads_2 Z  n ls st M hex
theorem okX8_mixLeads : mm_Ok lay_m yX8_mixLeads cX8_mixLeads 3 none 8 fX8_mixLeads := by
  refine mm_enter (rt := 0) (by decide +kernel) rfl ?_
  intro p l e s m args below meth c cA ad D A as M Q h C0
  have Z : ZX8_mixLeads p l e s m args below meth c cA ad D A := ⟨C0, flRX8_ok, mm_vt_of (mm_fa1 (mm_coV (n := 2) (ci := 8) C0 okX8_leadNow rfl rfl (mm_one_at (.methodLink RX8 317 yX8_leadNow) 1396 (by decide +kernel) rfl) (wX8_leadNow _ (by simp)) (wX8_leadNow _ (by simp [yX8_leadNow])) (wX8_leadNow _ (by simp [yX8_leadNow])) (wX8_leadNow _ (by simp)) (by decide +kernel) (by omega) (by omega)) (mm_fa1 (mm_coV (n := 1) (ci := 8) C0 okX8_mix rfl rfl (mm_one_at (.methodLink RX8 414 yX8_mix) 1534 (by decide +kernel) rfl) (wX8_mix _ (by simp)) (wX8_mix _ (by simp [yX8_mix])) (wX8_mix _ (by simp [yX8_mix])) (wX8_mix _ (by simp)) (by decide +kernel) (by omega) (by omega)) (mm_fa0))), mm_vt_of (mm_fa0), kX8_mixLeads_ok, mm_ctok_J ctRX8_ok⟩
  unfold fX8_mixLeads at h
  split at h
  · obtain ⟨hb, h⟩ := mm_chk_e h
    cases (Nat.eq_of_beq_eq_true hb)
    exact ⟨Nat.le_of_ble_eq_true rfl, mm_Zb Z 29 0 [(2, qX8_mixLeads_2 (fun v1 M => ∃ j, bX8_mixLeads_2 j v1 M (fun M => Q none M)))] (mm_fa1 (fun ls st M h => okX8_mixLeads_2x Z  ls st M h) mm_fa0) h⟩
  · exact h.elim
def kX8_mixLanes : List mm_E := [(0, false, .iconst 0, []), (1, false, .istore_n 1, []), (2, true, .iload_n 1, []), (3, false, .bipush 8, []), (5, false, .aload_n 0, []), (6, false, .getfield 323, []), (9, false, .imul, []), (10, false, .if_icmp .ge 31, [41]), (13, false, .aload_n 0, []), (14, false, .aload_n 0, []), (15, false, .iload_n 1, []), (16, false, .bipush 8, []), (18, false, .irem, []), (19, false, .iconst 2, []), (20, false, .idiv, []), (21, false, .iload_n 1, []), (22, false, .bipush 8, []), (24, false, .idiv, []), (25, false, .iload_n 1, []), (26, false, .iconst 2, []), (27, false, .irem, []), (28, false, .invokevirtual 393, []), (31, false, .i2l, []), (32, false, .invokevirtual 414, []), (35, false, .iinc 1 1, []), (38, false, .goto (-36), [2]), (41, false, .iconst 0, []), (42, false, .istore_n 1, []), (43, true, .iload_n 1, []), (44, false, .iconst 2, []), (45, false, .if_icmp .ge 19, [64]), (48, false, .aload_n 0, []), (49, false, .aload_n 0, []), (50, false, .iload_n 1, []), (51, false, .invokevirtual 396, []), (54, false, .i2l, []), (55, false, .invokevirtual 414, []), (58, false, .iinc 1 1, []), (61, false, .goto (-18), [43]), (64, false, .iconst 0, []), (65, false, .istore_n 1, []), (66, true, .iload_n 1, []), (67, false, .iconst 3, []), (68, false, .if_icmp .ge 19, [87]), (71, false, .aload_n 0, []), (72, false, .aload_n 0, []), (73, false, .iload_n 1, []), (74, false, .invokevirtual 401, []), (77, false, .i2l, []), (78, false, .invokevirtual 414, []), (81, false, .iinc 1 1, []), (84, false, .goto (-18), [66]), (87, false, .return_, [])]
set_option maxRecDepth 20000 in
theorem kX8_mixLanes_ok : mm_cok cX8_mixLanes RX8 (mm_ctt ctRX8) kX8_mixLanes := mm_c_of (k := false) ctRX8_ok (by decide +kernel)
set_option maxRecDepth 20000 in
theorem wX8_mixLanes : ∀ w ∈ ([.instanceMethod yX8_mixLanes, .selects RX8 yX8_mixLanes yX8_mixLanes, .initialized RX8, .code yX8_mixLanes cX8_mixLanes 2 none] : List Cond), w ∈ mm_tbl := mm_sub_at _ [1553, 102, 112, 1554] (by decide +kernel) (by decide +kernel)
def vtX8_mixLanes : List (Nat × Nat × Nat × mm_F) := [(393, 8, 4, fX8_flowNow), (414, 8, 2, fX8_mix), (396, 8, 2, fX8_levelNow), (401, 8, 2, fX8_totalNow)]
def smX8_mixLanes : List (Nat × Nat × Nat × mm_F) := []
def ZX8_mixLanes (p : Program) (l : Launch) (e : Env) (s : State) (m : MethodId) (args : Array Value) (below : List Frame) (meth : Method) (c : Code) (cA : Nat → ClassId) (ad : Nat → Nat) (D : va_G) (A : Nat → Prop) : Prop := mm_Z p l e (mm_rm 8) s m args below meth c lay_m cA ad D A RX8 cX8_mixLanes 2 0 (mm_flt flRX8) (mm_clt (vtX8_mixLanes)) (mm_clt (smX8_mixLanes)) (mm_ctt ctRX8) kX8_mixLanes
def qX8_mixLanes_66 (P : Int → mm_M → Prop) : mm_K := fun ls st M => match ls, st with
  | [some (.inr (.inr c0)), some (.inl v1)], [] => mm_chk (Nat.beq c0 0) (P v1 M)
  | _, _ => False
def qX8_mixLanes_43 (P : Int → mm_M → Prop) : mm_K := fun ls st M => match ls, st with
  | [some (.inr (.inr c0)), some (.inl v1)], [] => mm_chk (Nat.beq c0 0) (P v1 M)
  | _, _ => False
def qX8_mixLanes_2 (P : Int → mm_M → Prop) : mm_K := fun ls st M => match ls, st with
  | [some (.inr (.inr c0)), some (.inl v1)], [] => mm_chk (Nat.beq c0 0) (P v1 M)
  | _, _ => False
theorem okX8_mixLanes_66 {p : Program} {l : Launch} {e : Env} {s : State} {m : MethodId} {args : Array Value} {below : List Frame} {meth : Method} {c : Code} {cA : Nat → ClassId} {ad : Nat → Nat} {D : va_G} {A : Nat → Prop} {Q : Option mm_V → mm_M → Prop} (Z : ZX8_mixLanes p l e s m args below meth c cA ad D A) : ∀ (n : Nat) ls st M, qX8_mixLanes_66 (fun v1 M => bX8_mixLanes_66 n v1 M (fun M => Q none M)) ls st M → mm_G p l e (mm_rm 8) s m args below meth c lay_m cA ad D A 2 Q 66 ls st M
  | 0, ls, st, M, h => by
    unfold qX8_mixLanes_66 at h
    split at h
    · obtain ⟨hb, h⟩ := mm_chk_e h
      cases (Nat.eq_of_beq_eq_true hb)
      exact h.elim
    · exact h.elim
  | n + 1, ls, st, M, h => by
    have ih := okX8_mixLanes_66 (Q := Q) Z  n
    unfold qX8_mixLanes_66 at h
    split at h
    · obtain ⟨hb, h⟩ := mm_chk_e h
      cases (Nat.eq_of_beq_eq_true hb)
      exact mm_Zb Z 56 66 [(66, qX8_mixLanes_66 (fun v1 M => bX8_mixLanes_66 n v1 M (fun M => Q none M)))] (mm_fa1 ih mm_fa0) h
    · exact h.elim
theorem okX8_mixLanes_66x {p : Program} {l : Launch} {e : Env} {s : State} {m : MethodId} {args : Array Value} {below : List Frame} {meth : Method} {c : Code} {cA : Nat → ClassId} {ad : Nat → Nat} {D : va_G} {A : Nat → Prop} {Q : Option mm_V → mm_M → Prop} (Z : ZX8_mixLanes p l e s m args below meth c cA ad D A) : ∀ ls st M, qX8_mixLanes_66 (fun v1 M => ∃ j, bX8_mixLanes_66 j v1 M (fun M => Q none M)) ls st M → mm_G p l e (mm_rm 8) s m args below meth c lay_m cA ad D A 2 Q 66 ls st M := by
  intro ls st M h
  have hex : ∃ n, qX8_mixLanes_66 (fun v1 M => bX8_mixLanes_66 n v1 M (fun M => Q none M)) ls st M := by
    unfold qX8_mixLanes_66 at h
    split at h
    · obtain ⟨hb, h⟩ := mm_chk_e h
      cases (Nat.eq_of_beq_eq_true hb)
      obtain ⟨n, h⟩ := h
      exact ⟨n, h⟩
    · exact h.elim
  obtain ⟨n, hex⟩ := hex
  exact okX8_mixLanes_66 Z  n ls st M hex
theorem okX8_mixLanes_43 {p : Program} {l : Launch} {e : Env} {s : State} {m : MethodId} {args : Array Value} {below : List Frame} {meth : Method} {c : Code} {cA : Nat → ClassId} {ad : Nat → Nat} {D : va_G} {A : Nat → Prop} {Q : Option mm_V → mm_M → Prop} (Z : ZX8_mixLanes p l e s m args below meth c cA ad D A) : ∀ (n : Nat) ls st M, qX8_mixLanes_43 (fun v1 M => bX8_mixLanes_43 n v1 M (fun M => Q none M)) ls st M → mm_G p l e (mm_rm 8) s m args below meth c lay_m cA ad D A 2 Q 43 ls st M
  | 0, ls, st, M, h => by
    unfold qX8_mixLanes_43 at h
    split at h
    · obtain ⟨hb, h⟩ := mm_chk_e h
      cases (Nat.eq_of_beq_eq_true hb)
      exact h.elim
    · exact h.elim
  | n + 1, ls, st, M, h => by
    have ih := okX8_mixLanes_43 (Q := Q) Z  n
    unfold qX8_mixLanes_43 at h
    split at h
    · obtain ⟨hb, h⟩ := mm_chk_e h
      cases (Nat.eq_of_beq_eq_true hb)
      exact mm_Zb Z 56 43 [(43, qX8_mixLanes_43 (fun v1 M => bX8_mixLanes_43 n v1 M (fun M => Q none M))), (66, qX8_mixLanes_66 (fun v1 M => ∃ j, bX8_mixLanes_66 j v1 M (fun M => Q none M)))] (mm_fa1 ih (mm_fa1 (fun ls st M h => okX8_mixLanes_66x Z  ls st M h) mm_fa0)) h
    · exact h.elim
theorem okX8_mixLanes_43x {p : Program} {l : Launch} {e : Env} {s : State} {m : MethodId} {args : Array Value} {below : List Frame} {meth : Method} {c : Code} {cA : Nat → ClassId} {ad : Nat → Nat} {D : va_G} {A : Nat → Prop} {Q : Option mm_V → mm_M → Prop} (Z : ZX8_mixLanes p l e s m args below meth c cA ad D A) : ∀ ls st M, qX8_mixLanes_43 (fun v1 M => ∃ j, bX8_mixLanes_43 j v1 M (fun M => Q none M)) ls st M → mm_G p l e (mm_rm 8) s m args below meth c lay_m cA ad D A 2 Q 43 ls st M := by
  intro ls st M h
  have hex : ∃ n, qX8_mixLanes_43 (fun v1 M => bX8_mixLanes_43 n v1 M (fun M => Q none M)) ls st M := by
    unfold qX8_mixLanes_43 at h
    split at h
    · obtain ⟨hb, h⟩ := mm_chk_e h
      cases (Nat.eq_of_beq_eq_true hb)
      obtain ⟨n, h⟩ := h
      exact ⟨n, h⟩
    · exact h.elim
  obtain ⟨n, hex⟩ := hex
  exact okX8_mixLanes_43 Z  n ls st M hex
theorem okX8_mixLanes_2 {p : Program} {l : Launch} {e : Env} {s : State} {m : MethodId} {args : Array Value} {below : List Frame} {meth : Method} {c : Code} {cA : Nat → ClassId} {ad : Nat → Nat} {D : va_G} {A : Nat → Prop} {Q : Option mm_V → mm_M → Prop} (Z : ZX8_mixLanes p l e s m args below meth c cA ad D A) : ∀ (n : Nat) ls st M, qX8_mixLanes_2 (fun v1 M => bX8_mixLanes_2 n v1 M (fun M => Q none M)) ls st M → mm_G p l e (mm_rm 8) s m args below meth c lay_m cA ad D A 2 Q 2 ls st M
  | 0, ls, st, M, h => by
    unfold qX8_mixLanes_2 at h
    split at h
    · obtain ⟨hb, h⟩ := mm_chk_e h
      cases (Nat.eq_of_beq_eq_true hb)
      exact h.elim
    · exact h.elim
  | n + 1, ls, st, M, h => by
    have ih := okX8_mixLanes_2 (Q := Q) Z  n
    unfold qX8_mixLanes_2 at h
    split at h
    · obtain ⟨hb, h⟩ := mm_chk_e h
      cases (Nat.eq_of_beq_eq_true hb)
      exact mm_Zb Z 56 2 [(2, qX8_mixLanes_2 (fun v1 M => bX8_mixLanes_2 n v1 M (fun M => Q none M))), (43, qX8_mixLanes_43 (fun v1 M => ∃ j, bX8_mixLanes_43 j v1 M (fun M => Q none M)))] (mm_fa1 ih (mm_fa1 (fun ls st M h => okX8_mixLanes_43x Z  ls st M h) mm_fa0)) h
    · exact h.elim
theorem okX8_mixLanes_2x {p : Program} {l : Launch} {e : Env} {s : State} {m : MethodId} {args : Array Value} {below : List Frame} {meth : Method} {c : Code} {cA : Nat → ClassId} {ad : Nat → Nat} {D : va_G} {A : Nat → Prop} {Q : Option mm_V → mm_M → Prop} (Z : ZX8_mixLanes p l e s m args below meth c cA ad D A) : ∀ ls st M, qX8_mixLanes_2 (fun v1 M => ∃ j, bX8_mixLanes_2 j v1 M (fun M => Q none M)) ls st M → mm_G p l e (mm_rm 8) s m args below meth c lay_m cA ad D A 2 Q 2 ls st M := by
  intro ls st M h
  have hex : ∃ n, qX8_mixLanes_2 (fun v1 M => bX8_mixLanes_2 n v1 M (fun M => Q none M)) ls st M := by
    unfold qX8_mixLanes_2 at h
    split at h
    · obtain ⟨hb, h⟩ := mm_chk_e h
      cases (Nat.eq_of_beq_eq_true hb)
      obtain ⟨n, h⟩ := h
      exact ⟨n, h⟩
    · exact h.elim
  obtain ⟨n, hex⟩ := hex
  exact okX8_mixLanes_2 Z  n ls st M hex
theorem okX8_mixLanes : mm_Ok lay_m yX8_mixLanes cX8_mixLanes 2 none 8 fX8_mixLanes := by
  refine mm_enter (rt := 0) (by decide +kernel) rfl ?_
  intro p l e s m args below meth c cA ad D A as M Q h C0
  have Z : ZX8_mixLanes p l e s m args below meth c cA ad D A := ⟨C0, flRX8_ok, mm_vt_of (mm_fa1 (mm_coV (n := 3) (ci := 8) C0 okX8_flowNow rfl rfl (mm_one_at (.methodLink RX8 393 yX8_flowNow) 1436 (by decide +kernel) rfl) (wX8_flowNow _ (by simp)) (wX8_flowNow _ (by simp [yX8_flowNow])) (wX8_flowNow _ (by simp [yX8_flowNow])) (wX8_flowNow _ (by simp)) (by decide +kernel) (by omega) (by omega)) (mm_fa1 (mm_coV (n := 1) (ci := 8) C0 okX8_mix rfl rfl (mm_one_at (.methodLink RX8 414 yX8_mix) 1534 (by decide +kernel) rfl) (wX8_mix _ (by simp)) (wX8_mix _ (by simp [yX8_mix])) (wX8_mix _ (by simp [yX8_mix])) (wX8_mix _ (by simp)) (by decide +kernel) (by omega) (by omega)) (mm_fa1 (mm_coV (n := 1) (ci := 8) C0 okX8_levelNow rfl rfl (mm_one_at (.methodLink RX8 396 yX8_levelNow) 1499 (by decide +kernel) rfl) (wX8_levelNow _ (by simp)) (wX8_levelNow _ (by simp [yX8_levelNow])) (wX8_levelNow _ (by simp [yX8_levelNow])) (wX8_levelNow _ (by simp)) (by decide +kernel) (by omega) (by omega)) (mm_fa1 (mm_coV (n := 1) (ci := 8) C0 okX8_totalNow rfl rfl (mm_one_at (.methodLink RX8 401 yX8_totalNow) 1507 (by decide +kernel) rfl) (wX8_totalNow _ (by simp)) (wX8_totalNow _ (by simp [yX8_totalNow])) (wX8_totalNow _ (by simp [yX8_totalNow])) (wX8_totalNow _ (by simp)) (by decide +kernel) (by omega) (by omega)) (mm_fa0))))), mm_vt_of (mm_fa0), kX8_mixLanes_ok, mm_ctok_J ctRX8_ok⟩
  unfold fX8_mixLanes at h
  split at h
  · obtain ⟨hb, h⟩ := mm_chk_e h
    cases (Nat.eq_of_beq_eq_true hb)
    exact ⟨Nat.le_of_ble_eq_true rfl, mm_Zb Z 56 0 [(2, qX8_mixLanes_2 (fun v1 M => ∃ j, bX8_mixLanes_2 j v1 M (fun M => Q none M)))] (mm_fa1 (fun ls st M h => okX8_mixLanes_2x Z  ls st M h) mm_fa0) h⟩
  · exact h.elim
def kX8_digest : List mm_E := [(0, false, .aload_n 0, []), (1, false, .ldc2_w 421, []), (4, false, .putfield 411, []), (7, false, .aload_n 0, []), (8, false, .invokevirtual 194, []), (11, false, .ifCond .eq 7, [18]), (14, false, .aload_n 0, []), (15, false, .invokevirtual 423, []), (18, false, .aload_n 0, []), (19, false, .invokevirtual 282, []), (22, false, .ifCond .eq 7, [29]), (25, false, .aload_n 0, []), (26, false, .invokevirtual 426, []), (29, true, .aload_n 0, []), (30, false, .invokevirtual 429, []), (33, false, .aload_n 0, []), (34, false, .getfield 323, []), (37, false, .ifCond .le 7, [44]), (40, false, .aload_n 0, []), (41, false, .invokevirtual 432, []), (44, false, .iconst 0, []), (45, false, .istore_n 1, []), (46, true, .iload_n 1, []), (47, false, .aload_n 0, []), (48, false, .getfield 109, []), (51, false, .if_icmp .ge 20, [71]), (54, false, .aload_n 0, []), (55, false, .aload_n 0, []), (56, false, .getfield 56, []), (59, false, .iload_n 1, []), (60, false, .iaload, []), (61, false, .i2l, []), (62, false, .invokevirtual 414, []), (65, false, .iinc 1 1, []), (68, false, .goto (-22), [46]), (71, false, .iconst 0, []), (72, false, .istore_n 1, []), (73, true, .iload_n 1, []), (74, false, .bipush 7, []), (76, false, .if_icmp .ge 19, [95]), (79, false, .aload_n 0, []), (80, false, .aload_n 0, []), (81, false, .iload_n 1, []), (82, false, .invokevirtual 406, []), (85, false, .i2l, []), (86, false, .invokevirtual 414, []), (89, false, .iinc 1 1, []), (92, false, .goto (-19), [73]), (95, false, .aload_n 0, []), (96, false, .getfield 411, []), (99, false, .lreturn, [])]
set_option maxRecDepth 20000 in
theorem kX8_digest_ok : mm_cok cX8_digest RX8 (mm_ctt ctRX8) kX8_digest := mm_c_of (k := false) ctRX8_ok (by decide +kernel)
set_option maxRecDepth 20000 in
theorem wX8_digest : ∀ w ∈ ([.instanceMethod yX8_digest, .selects RX8 yX8_digest yX8_digest, .initialized RX8, .code yX8_digest cX8_digest 2 (some .long)] : List Cond), w ∈ mm_tbl := mm_sub_at _ [1526, 1527, 112, 1528] (by decide +kernel) (by decide +kernel)
def vtX8_digest : List (Nat × Nat × Nat × mm_F) := [(194, 8, 1, fX8_isNet), (282, 8, 1, fX8_isCounted), (426, 8, 1, fX8_mixSets), (423, 8, 1, fX8_mixNet), (429, 8, 1, fX8_mixLeads), (432, 8, 1, fX8_mixLanes), (414, 8, 2, fX8_mix), (406, 8, 2, fX8_howMany)]
def smX8_digest : List (Nat × Nat × Nat × mm_F) := []
def ZX8_digest (p : Program) (l : Launch) (e : Env) (s : State) (m : MethodId) (args : Array Value) (below : List Frame) (meth : Method) (c : Code) (cA : Nat → ClassId) (ad : Nat → Nat) (D : va_G) (A : Nat → Prop) : Prop := mm_Z p l e (mm_rm 9) s m args below meth c lay_m cA ad D A RX8 cX8_digest 2 3 (mm_flt flRX8) (mm_clt (vtX8_digest)) (mm_clt (smX8_digest)) (mm_ctt ctRX8) kX8_digest
def qX8_digest_73 (P : Int → mm_M → Prop) : mm_K := fun ls st M => match ls, st with
  | [some (.inr (.inr c0)), some (.inl v1)], [] => mm_chk (Nat.beq c0 0) (P v1 M)
  | _, _ => False
def qX8_digest_46 (P : Int → mm_M → Prop) : mm_K := fun ls st M => match ls, st with
  | [some (.inr (.inr c0)), some (.inl v1)], [] => mm_chk (Nat.beq c0 0) (P v1 M)
  | _, _ => False
def qX8_digest_29 (P : mm_M → Prop) : mm_K := fun ls st M => match ls, st with
  | [some (.inr (.inr c0)), none], [] => mm_chk (Nat.beq c0 0) (P M)
  | _, _ => False
theorem okX8_digest_73 {p : Program} {l : Launch} {e : Env} {s : State} {m : MethodId} {args : Array Value} {below : List Frame} {meth : Method} {c : Code} {cA : Nat → ClassId} {ad : Nat → Nat} {D : va_G} {A : Nat → Prop} {Q : Option mm_V → mm_M → Prop} (Z : ZX8_digest p l e s m args below meth c cA ad D A) : ∀ (n : Nat) ls st M, qX8_digest_73 (fun v1 M => bX8_digest_73 n v1 M (fun r M => Q (some (.inr (.inl r))) M)) ls st M → mm_G p l e (mm_rm 9) s m args below meth c lay_m cA ad D A 2 Q 73 ls st M
  | 0, ls, st, M, h => by
    unfold qX8_digest_73 at h
    split at h
    · obtain ⟨hb, h⟩ := mm_chk_e h
      cases (Nat.eq_of_beq_eq_true hb)
      exact h.elim
    · exact h.elim
  | n + 1, ls, st, M, h => by
    have ih := okX8_digest_73 (Q := Q) Z  n
    unfold qX8_digest_73 at h
    split at h
    · obtain ⟨hb, h⟩ := mm_chk_e h
      cases (Nat.eq_of_beq_eq_true hb)
      exact mm_Zb Z 54 73 [(73, qX8_digest_73 (fun v1 M => bX8_digest_73 n v1 M (fun r M => Q (some (.inr (.inl r))) M)))] (mm_fa1 ih mm_fa0) h
    · exact h.elim
theorem okX8_digest_73x {p : Program} {l : Launch} {e : Env} {s : State} {m : MethodId} {args : Array Value} {below : List Frame} {meth : Method} {c : Code} {cA : Nat → ClassId} {ad : Nat → Nat} {D : va_G} {A : Nat → Prop} {Q : Option mm_V → mm_M → Prop} (Z : ZX8_digest p l e s m args below meth c cA ad D A) : ∀ ls st M, qX8_digest_73 (fun v1 M => ∃ j, bX8_digest_73 j v1 M (fun r M => Q (some (.inr (.inl r))) M)) ls st M → mm_G p l e (mm_rm 9) s m args below meth c lay_m cA ad D A 2 Q 73 ls st M := by
  intro ls st M h
  have hex : ∃ n, qX8_digest_73 (fun v1 M => bX8_digest_73 n v1 M (fun r M => Q (some (.inr (.inl r))) M)) ls st M := by
    unfold qX8_digest_73 at h
    split at h
    · obtain ⟨hb, h⟩ := mm_chk_e h
      cases (Nat.eq_of_beq_eq_true hb)
      obtain ⟨n, h⟩ := h
      exact ⟨n, h⟩
    · exact h.elim
  obtain ⟨n, hex⟩ := hex
  exact okX8_digest_73 Z  n ls st M hex
theorem okX8_digest_46 {p : Program} {l : Launch} {e : Env} {s : State} {m : MethodId} {args : Array Value} {below : List Frame} {meth : Method} {c : Code} {cA : Nat → ClassId} {ad : Nat → Nat} {D : va_G} {A : Nat → Prop} {Q : Option mm_V → mm_M → Prop} (Z : ZX8_digest p l e s m args below meth c cA ad D A) : ∀ (n : Nat) ls st M, qX8_digest_46 (fun v1 M => bX8_digest_46 n v1 M (fun r M => Q (some (.inr (.inl r))) M)) ls st M → mm_G p l e (mm_rm 9) s m args below meth c lay_m cA ad D A 2 Q 46 ls st M
  | 0, ls, st, M, h => by
    unfold qX8_digest_46 at h
    split at h
    · obtain ⟨hb, h⟩ := mm_chk_e h
      cases (Nat.eq_of_beq_eq_true hb)
      exact h.elim
    · exact h.elim
  | n + 1, ls, st, M, h => by
    have ih := okX8_digest_46 (Q := Q) Z  n
    unfold qX8_digest_46 at h
    split at h
    · obtain ⟨hb, h⟩ := mm_chk_e h
      cases (Nat.eq_of_beq_eq_true hb)
      exact mm_Zb Z 54 46 [(46, qX8_digest_46 (fun v1 M => bX8_digest_46 n v1 M (fun r M => Q (some (.inr (.inl r))) M))), (73, qX8_digest_73 (fun v1 M => ∃ j, bX8_digest_73 j v1 M (fun r M => Q (some (.inr (.inl r))) M)))] (mm_fa1 ih (mm_fa1 (fun ls st M h => okX8_digest_73x Z  ls st M h) mm_fa0)) h
    · exact h.elim
theorem okX8_digest_46x {p : Program} {l : Launch} {e : Env} {s : State} {m : MethodId} {args : Array Value} {below : List Frame} {meth : Method} {c : Code} {cA : Nat → ClassId} {ad : Nat → Nat} {D : va_G} {A : Nat → Prop} {Q : Option mm_V → mm_M → Prop} (Z : ZX8_digest p l e s m args below meth c cA ad D A) : ∀ ls st M, qX8_digest_46 (fun v1 M => ∃ j, bX8_digest_46 j v1 M (fun r M => Q (some (.inr (.inl r))) M)) ls st M → mm_G p l e (mm_rm 9) s m args below meth c lay_m cA ad D A 2 Q 46 ls st M := by
  intro ls st M h
  have hex : ∃ n, qX8_digest_46 (fun v1 M => bX8_digest_46 n v1 M (fun r M => Q (some (.inr (.inl r))) M)) ls st M := by
    unfold qX8_digest_46 at h
    split at h
    · obtain ⟨hb, h⟩ := mm_chk_e h
      cases (Nat.eq_of_beq_eq_true hb)
      obtain ⟨n, h⟩ := h
      exact ⟨n, h⟩
    · exact h.elim
  obtain ⟨n, hex⟩ := hex
  exact okX8_digest_46 Z  n ls st M hex
theorem okX8_digest_29 {p : Program} {l : Launch} {e : Env} {s : State} {m : MethodId} {args : Array Value} {below : List Frame} {meth : Method} {c : Code} {cA : Nat → ClassId} {ad : Nat → Nat} {D : va_G} {A : Nat → Prop} {Q : Option mm_V → mm_M → Prop} (Z : ZX8_digest p l e s m args below meth c cA ad D A) : ∀ ls st M, qX8_digest_29 (fun M => bX8_digest_29 M (fun r M => Q (some (.inr (.inl r))) M)) ls st M → mm_G p l e (mm_rm 9) s m args below meth c lay_m cA ad D A 2 Q 29 ls st M := by
  intro ls st M h
  unfold qX8_digest_29 at h
  split at h
  · obtain ⟨hb, h⟩ := mm_chk_e h
    cases (Nat.eq_of_beq_eq_true hb)
    exact mm_Zb Z 54 29 [(46, qX8_digest_46 (fun v1 M => ∃ j, bX8_digest_46 j v1 M (fun r M => Q (some (.inr (.inl r))) M)))] (mm_fa1 (fun ls st M h => okX8_digest_46x Z  ls st M h) mm_fa0) h
  · exact h.elim
theorem okX8_digest : mm_Ok lay_m yX8_digest cX8_digest 2 (some .long) 9 fX8_digest := by
  refine mm_enter (rt := 3) (by decide +kernel) rfl ?_
  intro p l e s m args below meth c cA ad D A as M Q h C0
  have Z : ZX8_digest p l e s m args below meth c cA ad D A := ⟨C0, flRX8_ok, mm_vt_of (mm_fa1 (mm_coV (n := 0) (ci := 8) C0 okX8_isNet rfl rfl (mm_one_at (.methodLink RX8 194 yX8_isNet) 1166 (by decide +kernel) rfl) (wX8_isNet _ (by simp)) (wX8_isNet _ (by simp [yX8_isNet])) (wX8_isNet _ (by simp [yX8_isNet])) (wX8_isNet _ (by simp)) (by decide +kernel) (by omega) (by omega)) (mm_fa1 (mm_coV (n := 0) (ci := 8) C0 okX8_isCounted rfl rfl (mm_one_at (.methodLink RX8 282 yX8_isCounted) 1314 (by decide +kernel) rfl) (wX8_isCounted _ (by simp)) (wX8_isCounted _ (by simp [yX8_isCounted])) (wX8_isCounted _ (by simp [yX8_isCounted])) (wX8_isCounted _ (by simp)) (by decide +kernel) (by omega) (by omega)) (mm_fa1 (mm_coV (n := 0) (ci := 8) C0 okX8_mixSets rfl rfl (mm_one_at (.methodLink RX8 426 yX8_mixSets) 1543 (by decide +kernel) rfl) (wX8_mixSets _ (by simp)) (wX8_mixSets _ (by simp [yX8_mixSets])) (wX8_mixSets _ (by simp [yX8_mixSets])) (wX8_mixSets _ (by simp)) (by decide +kernel) (by omega) (by omega)) (mm_fa1 (mm_coV (n := 0) (ci := 8) C0 okX8_mixNet rfl rfl (mm_one_at (.methodLink RX8 423 yX8_mixNet) 1530 (by decide +kernel) rfl) (wX8_mixNet _ (by simp)) (wX8_mixNet _ (by simp [yX8_mixNet])) (wX8_mixNet _ (by simp [yX8_mixNet])) (wX8_mixNet _ (by simp)) (by decide +kernel) (by omega) (by omega)) (mm_fa1 (mm_coV (n := 0) (ci := 8) C0 okX8_mixLeads rfl rfl (mm_one_at (.methodLink RX8 429 yX8_mixLeads) 1547 (by decide +kernel) rfl) (wX8_mixLeads _ (by simp)) (wX8_mixLeads _ (by simp [yX8_mixLeads])) (wX8_mixLeads _ (by simp [yX8_mixLeads])) (wX8_mixLeads _ (by simp)) (by decide +kernel) (by omega) (by omega)) (mm_fa1 (mm_coV (n := 0) (ci := 8) C0 okX8_mixLanes rfl rfl (mm_one_at (.methodLink RX8 432 yX8_mixLanes) 1551 (by decide +kernel) rfl) (wX8_mixLanes _ (by simp)) (wX8_mixLanes _ (by simp [yX8_mixLanes])) (wX8_mixLanes _ (by simp [yX8_mixLanes])) (wX8_mixLanes _ (by simp)) (by decide +kernel) (by omega) (by omega)) (mm_fa1 (mm_coV (n := 1) (ci := 8) C0 okX8_mix rfl rfl (mm_one_at (.methodLink RX8 414 yX8_mix) 1534 (by decide +kernel) rfl) (wX8_mix _ (by simp)) (wX8_mix _ (by simp [yX8_mix])) (wX8_mix _ (by simp [yX8_mix])) (wX8_mix _ (by simp)) (by decide +kernel) (by omega) (by omega)) (mm_fa1 (mm_coV (n := 1) (ci := 8) C0 okX8_howMany rfl rfl (mm_one_at (.methodLink RX8 406 yX8_howMany) 1521 (by decide +kernel) rfl) (wX8_howMany _ (by simp)) (wX8_howMany _ (by simp [yX8_howMany])) (wX8_howMany _ (by simp [yX8_howMany])) (wX8_howMany _ (by simp)) (by decide +kernel) (by omega) (by omega)) (mm_fa0))))))))), mm_vt_of (mm_fa0), kX8_digest_ok, mm_ctok_J ctRX8_ok⟩
  unfold fX8_digest at h
  split at h
  · obtain ⟨hb, h⟩ := mm_chk_e h
    cases (Nat.eq_of_beq_eq_true hb)
    exact ⟨Nat.le_of_ble_eq_true rfl, mm_Zb Z 54 0 [(29, qX8_digest_29 (fun M => bX8_digest_29 M (fun r M => Q (some (.inr (.inl r))) M)))] (mm_fa1 (fun ls st M h => okX8_digest_29 Z  ls st M h) mm_fa0) h⟩
  · exact h.elim
