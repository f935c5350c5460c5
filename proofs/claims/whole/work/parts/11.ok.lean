def kX0_offerChanges : List mm_E := [(0, false, .iconst 0, []), (1, false, .istore_n 3, []), (2, true, .iload_n 3, []), (3, false, .aload_n 0, []), (4, false, .getfield 51, []), (7, false, .if_icmp .ge 86, [93]), (10, false, .aload_n 0, []), (11, false, .getfield 15, []), (14, false, .iload_n 3, []), (15, false, .iaload, []), (16, false, .istore 4, []), (18, false, .iload_n 1, []), (19, false, .aload_n 0, []), (20, false, .iload_n 1, []), (21, false, .iload_n 3, []), (22, false, .invokevirtual 118, []), (25, false, .iload 4, []), (27, false, .imul, []), (28, false, .isub, []), (29, false, .istore 5, []), (31, false, .iconst 0, []), (32, false, .istore 6, []), (34, true, .iload 6, []), (36, false, .aload_n 0, []), (37, false, .getfield 9, []), (40, false, .iload_n 3, []), (41, false, .iaload, []), (42, false, .if_icmp .ge 45, [87]), (45, false, .iload 5, []), (47, false, .iload 6, []), (49, false, .iload 4, []), (51, false, .imul, []), (52, false, .iadd, []), (53, false, .istore 7, []), (55, false, .aload_n 0, []), (56, false, .getfield 21, []), (59, false, .iload 7, []), (61, false, .iaload, []), (62, false, .aload_n 0, []), (63, false, .getfield 21, []), (66, false, .iload_n 1, []), (67, false, .iaload, []), (68, false, .if_icmp .ge 13, [81]), (71, false, .aload_n 0, []), (72, false, .getfield 30, []), (75, false, .iload 7, []), (77, false, .iload_n 2, []), (78, false, .invokevirtual 143, []), (81, false, .iinc 6 1, []), (84, false, .goto (-50), [34]), (87, false, .iinc 3 1, []), (90, false, .goto (-88), [2]), (93, false, .return_, [])]
set_option maxRecDepth 20000 in
theorem kX0_offerChanges_ok : mm_cok cX0_offerChanges RX0 (mm_ctt ctRX0) kX0_offerChanges := mm_c_of (k := false) ctRX0_ok (by decide +kernel)
set_option maxRecDepth 20000 in
theorem wX0_offerChanges : ∀ w ∈ ([.instanceMethod yX0_offerChanges, .selects RX0 yX0_offerChanges yX0_offerChanges, .initialized RX0, .code yX0_offerChanges cX0_offerChanges 8 none] : List Cond), w ∈ mm_tbl := mm_sub_at _ [761, 17, 109, 762] (by decide +kernel) (by decide +kernel)
def vtX0_offerChanges : List (Nat × Nat × Nat × mm_F) := [(118, 0, 3, fX0_wayIn), (143, 5, 3, fX5_offer)]
def smX0_offerChanges : List (Nat × Nat × Nat × mm_F) := []
def ZX0_offerChanges (p : Program) (l : Launch) (e : Env) (s : State) (m : MethodId) (args : Array Value) (below : List Frame) (meth : Method) (c : Code) (cA : Nat → ClassId) (ad : Nat → Nat) (D : va_G) (A : Nat → Prop) : Prop := mm_Z p l e (mm_rm 1) s m args below meth c lay_c cA ad D A RX0 cX0_offerChanges 8 0 (mm_flt flRX0) (mm_clt (vtX0_offerChanges)) (mm_clt (smX0_offerChanges)) (mm_ctt ctRX0) kX0_offerChanges
def qX0_offerChanges_34 (P : Int → Int → Int → Int → Int → Int → mm_M → Prop) : mm_K := fun ls st M => match ls, st with
  | [some (.inr (.inr c0)), some (.inl v1), some (.inl v2), some (.inl v3), some (.inl v4), some (.inl v5), some (.inl v6), _], [] => mm_chk (Nat.beq c0 115) (P v1 v2 v3 v4 v5 v6 M)
  | _, _ => False
def qX0_offerChanges_2 (P : Int → Int → Int → mm_M → Prop) : mm_K := fun ls st M => match ls, st with
  | [some (.inr (.inr c0)), some (.inl v1), some (.inl v2), some (.inl v3), _, _, _, _], [] => mm_chk (Nat.beq c0 115) (P v1 v2 v3 M)
  | _, _ => False
theorem okX0_offerChanges_34 {p : Program} {l : Launch} {e : Env} {s : State} {m : MethodId} {args : Array Value} {below : List Frame} {meth : Method} {c : Code} {cA : Nat → ClassId} {ad : Nat → Nat} {D : va_G} {A : Nat → Prop} {Q : Option mm_V → mm_M → Prop} (Z : ZX0_offerChanges p l e s m args below meth c cA ad D A) {K2 : Int → Int → Int → mm_M → Prop} (hk2 : ∀ ls st M, qX0_offerChanges_2 K2 ls st M → mm_G p l e (mm_rm 1) s m args below meth c lay_c cA ad D A 8 Q 2 ls st M) : ∀ (n : Nat) ls st M, qX0_offerChanges_34 (fun v1 v2 v3 v4 v5 v6 M => bX0_offerChanges_34 K2 n v1 v2 v3 v4 v5 v6 M (fun M => Q none M)) ls st M → mm_G p l e (mm_rm 1) s m args below meth c lay_c cA ad D A 8 Q 34 ls st M
  | 0, ls, st, M, h => by
    unfold qX0_offerChanges_34 at h
    split at h
    · obtain ⟨hb, h⟩ := mm_chk_e h
      cases (Nat.eq_of_beq_eq_true hb)
      exact h.elim
    · exact h.elim
  | n + 1, ls, st, M, h => by
    have ih := okX0_offerChanges_34 (Q := Q) Z hk2 n
    unfold qX0_offerChanges_34 at h
    split at h
    · obtain ⟨hb, h⟩ := mm_chk_e h
      cases (Nat.eq_of_beq_eq_true hb)
      exact mm_Zb Z 56 34 [(2, qX0_offerChanges_2 (K2)), (34, qX0_offerChanges_34 (fun v1 v2 v3 v4 v5 v6 M => bX0_offerChanges_34 K2 n v1 v2 v3 v4 v5 v6 M (fun M => Q none M)))] (mm_fa1 hk2 (mm_fa1 ih mm_fa0)) h
    · exact h.elim
theorem okX0_offerChanges_34x {p : Program} {l : Launch} {e : Env} {s : State} {m : MethodId} {args : Array Value} {below : List Frame} {meth : Method} {c : Code} {cA : Nat → ClassId} {ad : Nat → Nat} {D : va_G} {A : Nat → Prop} {Q : Option mm_V → mm_M → Prop} (Z : ZX0_offerChanges p l e s m args below meth c cA ad D A) {K2 : Int → Int → Int → mm_M → Prop} (hk2 : ∀ ls st M, qX0_offerChanges_2 K2 ls st M → mm_G p l e (mm_rm 1) s m args below meth c lay_c cA ad D A 8 Q 2 ls st M) : ∀ ls st M, qX0_offerChanges_34 (fun v1 v2 v3 v4 v5 v6 M => ∃ j, bX0_offerChanges_34 K2 j v1 v2 v3 v4 v5 v6 M (fun M => Q none M)) ls st M → mm_G p l e (mm_rm 1) s m args below meth c lay_c cA ad D A 8 Q 34 ls st M := by
  intro ls st M h
  have hex : ∃ n, qX0_offerChanges_34 (fun v1 v2 v3 v4 v5 v6 M => bX0_offerChanges_34 K2 n v1 v2 v3 v4 v5 v6 M (fun M => Q none M)) ls st M := by
    unfold qX0_offerChanges_34 at h
    split at h
    · obtain ⟨hb, h⟩ := mm_chk_e h
      cases (Nat.eq_of_beq_eq_true hb)
      obtain ⟨n, h⟩ := h
      exact ⟨n, h⟩
    · exact h.elim
  obtain ⟨n, hex⟩ := hex
  exact okX0_offerChanges_34 Z hk2 n ls st M hex
theorem okX0_offerChanges_2 {p : Program} {l : Launch} {e : Env} {s : State} {m : MethodId} {args : Array Value} {below : List Frame} {meth : Method} {c : Code} {cA : Nat → ClassId} {ad : Nat → Nat} {D : va_G} {A : Nat → Prop} {Q : Option mm_V → mm_M → Prop} (Z : ZX0_offerChanges p l e s m args below meth c cA ad D A) : ∀ (n : Nat) ls st M, qX0_offerChanges_2 (fun v1 v2 v3 M => bX0_offerChanges_2 n v1 v2 v3 M (fun M => Q none M)) ls st M → mm_G p l e (mm_rm 1) s m args below meth c lay_c cA ad D A 8 Q 2 ls st M
  | 0, ls, st, M, h => by
    unfold qX0_offerChanges_2 at h
    split at h
    · obtain ⟨hb, h⟩ := mm_chk_e h
      cases (Nat.eq_of_beq_eq_true hb)
      exact h.elim
    · exact h.elim
  | n + 1, ls, st, M, h => by
    have ih := okX0_offerChanges_2 (Q := Q) Z  n
    unfold qX0_offerChanges_2 at h
    split at h
    · obtain ⟨hb, h⟩ := mm_chk_e h
      cases (Nat.eq_of_beq_eq_true hb)
      exact mm_Zb Z 56 2 [(34, qX0_offerChanges_34 (fun v1 v2 v3 v4 v5 v6 M => ∃ j, bX0_offerChanges_34 (fun v1 v2 v3 M => bX0_offerChanges_2 n v1 v2 v3 M (fun M => Q none M)) j v1 v2 v3 v4 v5 v6 M (fun M => Q none M)))] (mm_fa1 (fun ls st M h => okX0_offerChanges_34x Z (ih) ls st M h) mm_fa0) h
    · exact h.elim
theorem okX0_offerChanges_2x {p : Program} {l : Launch} {e : Env} {s : State} {m : MethodId} {args : Array Value} {below : List Frame} {meth : Method} {c : Code} {cA : Nat → ClassId} {ad : Nat → Nat} {D : va_G} {A : Nat → Prop} {Q : Option mm_V → mm_M → Prop} (Z : ZX0_offerChanges p l e s m args below meth c cA ad D A) : ∀ ls st M, qX0_offerChanges_2 (fun v1 v2 v3 M => ∃ j, bX0_offerChanges_2 j v1 v2 v3 M (fun M => Q none M)) ls st M → mm_G p l e (mm_rm 1) s m args below meth c lay_c cA ad D A 8 Q 2 ls st M := by
  intro ls st M h
  have hex : ∃ n, qX0_offerChanges_2 (fun v1 v2 v3 M => bX0_offerChanges_2 n v1 v2 v3 M (fun M => Q none M)) ls st M := by
    unfold qX0_offerChanges_2 at h
    split at h
    · obtain ⟨hb, h⟩ := mm_chk_e h
      cases (Nat.eq_of_beq_eq_true hb)
      obtain ⟨n, h⟩ := h
      exact ⟨n, h⟩
    · exact h.elim
  obtain ⟨n, hex⟩ := hex
  exact okX0_offerChanges_2 Z  n ls st M hex
theorem okX0_offerChanges : mm_Ok lay_c yX0_offerChanges cX0_offerChanges 8 none 1 fX0_offerChanges := by
  refine mm_enter (rt := 0) (by decide +kernel) rfl ?_
  intro p l e s m args below meth c cA ad D A as M Q h C0
  have Z : ZX0_offerChanges p l e s m args below meth c cA ad D A := ⟨C0, flRX0_ok, mm_vt_of (mm_fa1 (mm_coV (n := 2) (ci := 0) C0 okX0_wayIn rfl rfl (mm_one_at (.methodLink RX0 118 yX0_wayIn) 711 (by decide +kernel) rfl) (wX0_wayIn _ (by simp)) (wX0_wayIn _ (by simp [yX0_wayIn])) (wX0_wayIn _ (by simp [yX0_wayIn])) (wX0_wayIn _ (by simp)) (by decide +kernel) (by omega) (by omega)) (mm_fa1 (mm_coV (n := 2) (ci := 5) C0 okX5_offer rfl rfl (mm_one_at (.methodLink RX0 143 yX5_offer) 763 (by decide +kernel) rfl) (wX5_offer _ (by simp)) (wX5_offer _ (by simp [yX5_offer])) (wX5_offer _ (by simp [yX5_offer])) (wX5_offer _ (by simp)) (by decide +kernel) (by omega) (by omega)) (mm_fa0))), mm_vt_of (mm_fa0), kX0_offerChanges_ok, mm_ctok_J ctRX0_ok⟩
  unfold fX0_offerChanges at h
  split at h
  · obtain ⟨hb, h⟩ := mm_chk_e h
    cases (Nat.eq_of_beq_eq_true hb)
    exact ⟨Nat.le_of_ble_eq_true rfl, mm_Zb Z 56 0 [(2, qX0_offerChanges_2 (fun v1 v2 v3 M => ∃ j, bX0_offerChanges_2 j v1 v2 v3 M (fun M => Q none M)))] (mm_fa1 (fun ls st M h => okX0_offerChanges_2x Z  ls st M h) mm_fa0) h⟩
  · exact h.elim
def kX0_spreadFrom : List mm_E := [(0, false, .aload_n 0, []), (1, false, .getfield 30, []), (4, false, .getfield 83, []), (7, false, .iload_n 1, []), (8, false, .if_icmp .ne 4, [12]), (11, false, .return_, []), (12, false, .aload_n 0, []), (13, false, .getfield 30, []), (16, false, .iload_n 1, []), (17, false, .aload_n 0, []), (18, false, .getfield 46, []), (21, false, .invokevirtual 121, []), (24, false, .aload_n 0, []), (25, false, .iconst 0, []), (26, false, .putfield 125, []), (29, false, .iconst 1, []), (30, false, .istore_n 2, []), (31, true, .iload_n 2, []), (32, false, .aload_n 0, []), (33, false, .getfield 46, []), (36, false, .if_icmp .gt 74, [110]), (39, false, .aload_n 0, []), (40, false, .getfield 30, []), (43, false, .getfield 128, []), (46, false, .ifCond .le 64, [110]), (49, false, .iconst 0, []), (50, false, .istore_n 3, []), (51, true, .iload_n 3, []), (52, false, .aload_n 0, []), (53, false, .getfield 30, []), (56, false, .getfield 128, []), (59, false, .if_icmp .ge 23, [82]), (62, false, .aload_n 0, []), (63, false, .aload_n 0, []), (64, false, .getfield 30, []), (67, false, .getfield 131, []), (70, false, .iload_n 3, []), (71, false, .iaload, []), (72, false, .iload_n 2, []), (73, false, .invokevirtual 134, []), (76, false, .iinc 3 1, []), (79, false, .goto (-28), [51]), (82, false, .aload_n 0, []), (83, false, .getfield 30, []), (86, false, .invokevirtual 137, []), (89, false, .aload_n 0, []), (90, false, .getfield 30, []), (93, false, .getfield 128, []), (96, false, .ifCond .le 8, [104]), (99, false, .aload_n 0, []), (100, false, .iload_n 2, []), (101, false, .putfield 125, []), (104, false, .iinc 2 1, []), (107, false, .goto (-76), [31]), (110, false, .aload_n 0, []), (111, false, .invokevirtual 140, []), (114, false, .return_, [])]
set_option maxRecDepth 20000 in
theorem kX0_spreadFrom_ok : mm_cok cX0_spreadFrom RX0 (mm_ctt ctRX0) kX0_spreadFrom := mm_c_of (k := false) ctRX0_ok (by decide +kernel)
set_option maxRecDepth 20000 in
theorem wX0_spreadFrom : ∀ w ∈ ([.instanceMethod yX0_spreadFrom, .selects RX0 yX0_spreadFrom yX0_spreadFrom, .initialized RX0, .code yX0_spreadFrom cX0_spreadFrom 4 none] : List Cond), w ∈ mm_tbl := mm_sub_at _ [752, 753, 109, 754] (by decide +kernel) (by decide +kernel)
def vtX0_spreadFrom : List (Nat × Nat × Nat × mm_F) := [(121, 5, 3, fX5_begin), (140, 0, 1, fX0_countReached), (137, 5, 1, fX5_goOn), (134, 0, 3, fX0_offerChanges)]
def smX0_spreadFrom : List (Nat × Nat × Nat × mm_F) := []
def ZX0_spreadFrom (p : Program) (l : Launch) (e : Env) (s : State) (m : MethodId) (args : Array Value) (below : List Frame) (meth : Method) (c : Code) (cA : Nat → ClassId) (ad : Nat → Nat) (D : va_G) (A : Nat → Prop) : Prop := mm_Z p l e (mm_rm 2) s m args below meth c lay_c cA ad D A RX0 cX0_spreadFrom 4 0 (mm_flt flRX0) (mm_clt (vtX0_spreadFrom)) (mm_clt (smX0_spreadFrom)) (mm_ctt ctRX0) kX0_spreadFrom
def qX0_spreadFrom_51 (P : Int → Int → Int → mm_M → Prop) : mm_K := fun ls st M => match ls, st with
  | [some (.inr (.inr c0)), some (.inl v1), some (.inl v2), some (.inl v3)], [] => mm_chk (Nat.beq c0 115) (P v1 v2 v3 M)
  | _, _ => False
def qX0_spreadFrom_31 (P : Int → Int → mm_M → Prop) : mm_K := fun ls st M => match ls, st with
  | [some (.inr (.inr c0)), some (.inl v1), some (.inl v2), _], [] => mm_chk (Nat.beq c0 115) (P v1 v2 M)
  | _, _ => False
theorem okX0_spreadFrom_51 {p : Program} {l : Launch} {e : Env} {s : State} {m : MethodId} {args : Array Value} {below : List Frame} {meth : Method} {c : Code} {cA : Nat → ClassId} {ad : Nat → Nat} {D : va_G} {A : Nat → Prop} {Q : Option mm_V → mm_M → Prop} (Z : ZX0_spreadFrom p l e s m args below meth c cA ad D A) {K31 : Int → Int → mm_M → Prop} (hk31 : ∀ ls st M, qX0_spreadFrom_31 K31 ls st M → mm_G p l e (mm_rm 2) s m args below meth c lay_c cA ad D A 4 Q 31 ls st M) : ∀ (n : Nat) ls st M, qX0_spreadFrom_51 (fun v1 v2 v3 M => bX0_spreadFrom_51 K31 n v1 v2 v3 M (fun M => Q none M)) ls st M → mm_G p l e (mm_rm 2) s m args below meth c lay_c cA ad D A 4 Q 51 ls st M
  | 0, ls, st, M, h => by
    unfold qX0_spreadFrom_51 at h
    split at h
    · obtain ⟨hb, h⟩ := mm_chk_e h
      cases (Nat.eq_of_beq_eq_true hb)
      exact h.elim
    · exact h.elim
  | n + 1, ls, st, M, h => by
    have ih := okX0_spreadFrom_51 (Q := Q) Z hk31 n
    unfold qX0_spreadFrom_51 at h
    split at h
    · obtain ⟨hb, h⟩ := mm_chk_e h
      cases (Nat.eq_of_beq_eq_true hb)
      exact mm_Zb Z 60 51 [(31, qX0_spreadFrom_31 (K31)), (51, qX0_spreadFrom_51 (fun v1 v2 v3 M => bX0_spreadFrom_51 K31 n v1 v2 v3 M (fun M => Q none M)))] (mm_fa1 hk31 (mm_fa1 ih mm_fa0)) h
    · exact h.elim
theorem okX0_spreadFrom_51x {p : Program} {l : Launch} {e : Env} {s : State} {m : MethodId} {args : Array Value} {below : List Frame} {meth : Method} {c : Code} {cA : Nat → ClassId} {ad : Nat → Nat} {D : va_G} {A : Nat → Prop} {Q : Option mm_V → mm_M → Prop} (Z : ZX0_spreadFrom p l e s m args below meth c cA ad D A) {K31 : Int → Int → mm_M → Prop} (hk31 : ∀ ls st M, qX0_spreadFrom_31 K31 ls st M → mm_G p l e (mm_rm 2) s m args below meth c lay_c cA ad D A 4 Q 31 ls st M) : ∀ ls st M, qX0_spreadFrom_51 (fun v1 v2 v3 M => ∃ j, bX0_spreadFrom_51 K31 j v1 v2 v3 M (fun M => Q none M)) ls st M → mm_G p l e (mm_rm 2) s m args below meth c lay_c cA ad D A 4 Q 51 ls st M := by
  intro ls st M h
  have hex : ∃ n, qX0_spreadFrom_51 (fun v1 v2 v3 M => bX0_spreadFrom_51 K31 n v1 v2 v3 M (fun M => Q none M)) ls st M := by
    unfold qX0_spreadFrom_51 at h
    split at h
    · obtain ⟨hb, h⟩ := mm_chk_e h
      cases (Nat.eq_of_beq_eq_true hb)
      obtain ⟨n, h⟩ := h
      exact ⟨n, h⟩
    · exact h.elim
  obtain ⟨n, hex⟩ := hex
  exact okX0_spreadFrom_51 Z hk31 n ls st M hex
theorem okX0_spreadFrom_31 {p : Program} {l : Launch} {e : Env} {s : State} {m : MethodId} {args : Array Value} {below : List Frame} {meth : Method} {c : Code} {cA : Nat → ClassId} {ad : Nat → Nat} {D : va_G} {A : Nat → Prop} {Q : Option mm_V → mm_M → Prop} (Z : ZX0_spreadFrom p l e s m args below meth c cA ad D A) : ∀ (n : Nat) ls st M, qX0_spreadFrom_31 (fun v1 v2 M => bX0_spreadFrom_31 n v1 v2 M (fun M => Q none M)) ls st M → mm_G p l e (mm_rm 2) s m args below meth c lay_c cA ad D A 4 Q 31 ls st M
  | 0, ls, st, M, h => by
    unfold qX0_spreadFrom_31 at h
    split at h
    · obtain ⟨hb, h⟩ := mm_chk_e h
      cases (Nat.eq_of_beq_eq_true hb)
      exact h.elim
    · exact h.elim
  | n + 1, ls, st, M, h => by
    have ih := okX0_spreadFrom_31 (Q := Q) Z  n
    unfold qX0_spreadFrom_31 at h
    split at h
    · obtain ⟨hb, h⟩ := mm_chk_e h
      cases (Nat.eq_of_beq_eq_true hb)
      exact mm_Zb Z 60 31 [(51, qX0_spreadFrom_51 (fun v1 v2 v3 M => ∃ j, bX0_spreadFrom_51 (fun v1 v2 M => bX0_spreadFrom_31 n v1 v2 M (fun M => Q none M)) j v1 v2 v3 M (fun M => Q none M)))] (mm_fa1 (fun ls st M h => okX0_spreadFrom_51x Z (ih) ls st M h) mm_fa0) h
    · exact h.elim
theorem okX0_spreadFrom_31x {p : Program} {l : Launch} {e : Env} {s : State} {m : MethodId} {args : Array Value} {below : List Frame} {meth : Method} {c : Code} {cA : Nat → ClassId} {ad : Nat → Nat} {D : va_G} {A : Nat → Prop} {Q : Option mm_V → mm_M → Prop} (Z : ZX0_spreadFrom p l e s m args below meth c cA ad D A) : ∀ ls st M, qX0_spreadFrom_31 (fun v1 v2 M => ∃ j, bX0_spreadFrom_31 j v1 v2 M (fun M => Q none M)) ls st M → mm_G p l e (mm_rm 2) s m args below meth c lay_c cA ad D A 4 Q 31 ls st M := by
  intro ls st M h
  have hex : ∃ n, qX0_spreadFrom_31 (fun v1 v2 M => bX0_spreadFrom_31 n v1 v2 M (fun M => Q none M)) ls st M := by
    unfold qX0_spreadFrom_31 at h
    split at h
    · obtain ⟨hb, h⟩ := mm_chk_e h
      cases (Nat.eq_of_beq_eq_true hb)
      obtain ⟨n, h⟩ := h
      exact ⟨n, h⟩
    · exact h.elim
  obtain ⟨n, hex⟩ := hex
  exact okX0_spreadFrom_31 Z  n ls st M hex
theorem okX0_spreadFrom : mm_Ok lay_c yX0_spreadFrom cX0_spreadFrom 4 none 2 fX0_spreadFrom := by
  refine mm_enter (rt := 0) (by decide +kernel) rfl ?_
  intro p l e s m args below meth c cA ad D A as M Q h C0
  have Z : ZX0_spreadFrom p l e s m args below meth c cA ad D A := ⟨C0, flRX0_ok, mm_vt_of (mm_fa1 (mm_coV (n := 2) (ci := 5) C0 okX5_begin rfl rfl (mm_one_at (.methodLink RX0 121 yX5_begin) 755 (by decide +kernel) rfl) (wX5_begin _ (by simp)) (wX5_begin _ (by simp [yX5_begin])) (wX5_begin _ (by simp [yX5_begin])) (wX5_begin _ (by simp)) (by decide +kernel) (by omega) (by omega)) (mm_fa1 (mm_coV (n := 0) (ci := 0) C0 okX0_countReached rfl rfl (mm_one_at (.methodLink RX0 140 yX0_countReached) 771 (by decide +kernel) rfl) (wX0_countReached _ (by simp)) (wX0_countReached _ (by simp [yX0_countReached])) (wX0_countReached _ (by simp [yX0_countReached])) (wX0_countReached _ (by simp)) (by decide +kernel) (by omega) (by omega)) (mm_fa1 (mm_coV (n := 0) (ci := 5) C0 okX5_goOn rfl rfl (mm_one_at (.methodLink RX0 137 yX5_goOn) 767 (by decide +kernel) rfl) (wX5_goOn _ (by simp)) (wX5_goOn _ (by simp [yX5_goOn])) (wX5_goOn _ (by simp [yX5_goOn])) (wX5_goOn _ (by simp)) (by decide +kernel) (by omega) (by omega)) (mm_fa1 (mm_coV (n := 2) (ci := 0) C0 okX0_offerChanges rfl rfl (mm_one_at (.methodLink RX0 134 yX0_offerChanges) 759 (by decide +kernel) rfl) (wX0_offerChanges _ (by simp)) (wX0_offerChanges _ (by simp [yX0_offerChanges])) (wX0_offerChanges _ (by simp [yX0_offerChanges])) (wX0_offerChanges _ (by simp)) (by decide +kernel) (by omega) (by omega)) (mm_fa0))))), mm_vt_of (mm_fa0), kX0_spreadFrom_ok, mm_ctok_J ctRX0_ok⟩
  unfold fX0_spreadFrom at h
  split at h
  · obtain ⟨hb, h⟩ := mm_chk_e h
    cases (Nat.eq_of_beq_eq_true hb)
    exact ⟨Nat.le_of_ble_eq_true rfl, mm_Zb Z 60 0 [(31, qX0_spreadFrom_31 (fun v1 v2 M => ∃ j, bX0_spreadFrom_31 j v1 v2 M (fun M => Q none M)))] (mm_fa1 (fun ls st M h => okX0_spreadFrom_31x Z  ls st M h) mm_fa0) h⟩
  · exact h.elim
def kX1_add : List mm_E := [(0, false, .aload_n 0, []), (1, false, .getfield 9, []), (4, false, .aload_n 0, []), (5, false, .getfield 44, []), (8, false, .iload_n 1, []), (9, false, .iastore, []), (10, false, .aload_n 0, []), (11, false, .getfield 15, []), (14, false, .aload_n 0, []), (15, false, .getfield 44, []), (18, false, .iload_n 2, []), (19, false, .iastore, []), (20, false, .aload_n 0, []), (21, false, .getfield 18, []), (24, false, .aload_n 0, []), (25, false, .getfield 44, []), (28, false, .iload_n 2, []), (29, false, .iconst 1, []), (30, false, .if_icmp .ne 7, [37]), (33, false, .iconst 4, []), (34, false, .goto 13, [47]), (37, false, .iload_n 2, []), (38, false, .iconst 2, []), (39, false, .if_icmp .ne 7, [46]), (42, false, .iconst 2, []), (43, false, .goto 4, [47]), (46, false, .iconst 1, []), (47, false, .iastore, []), (48, false, .aload_n 0, []), (49, false, .dup, []), (50, false, .getfield 44, []), (53, false, .iconst 1, []), (54, false, .iadd, []), (55, false, .putfield 44, []), (58, false, .aload_n 0, []), (59, false, .iconst 0, []), (60, false, .putfield 47, []), (63, false, .return_, [])]
set_option maxRecDepth 20000 in
theorem kX1_add_ok : mm_cok cX1_add RX1 (mm_ctt ctRX1) kX1_add := mm_c_of (k := false) ctRX1_ok (by decide +kernel)
set_option maxRecDepth 20000 in
theorem wX1_add : ∀ w ∈ ([.instanceMethod yX1_add, .selects RX1 yX1_add yX1_add, .initialized RX1, .code yX1_add cX1_add 3 none] : List Cond), w ∈ mm_tbl := mm_sub_at _ [814, 815, 111, 816] (by decide +kernel) (by decide +kernel)
def vtX1_add : List (Nat × Nat × Nat × mm_F) := []
def smX1_add : List (Nat × Nat × Nat × mm_F) := []
def ZX1_add (p : Program) (l : Launch) (e : Env) (s : State) (m : MethodId) (args : Array Value) (below : List Frame) (meth : Method) (c : Code) (cA : Nat → ClassId) (ad : Nat → Nat) (D : va_G) (A : Nat → Prop) : Prop := mm_Z p l e (mm_rm 0) s m args below meth c lay_c cA ad D A RX1 cX1_add 3 0 (mm_flt flRX1) (mm_clt (vtX1_add)) (mm_clt (smX1_add)) (mm_ctt ctRX1) kX1_add
theorem okX1_add : mm_Ok lay_c yX1_add cX1_add 3 none 0 fX1_add := by
  refine mm_enter (rt := 0) (by decide +kernel) rfl ?_
  intro p l e s m args below meth c cA ad D A as M Q h C0
  have Z : ZX1_add p l e s m args below meth c cA ad D A := ⟨C0, flRX1_ok, mm_vt_of (mm_fa0), mm_vt_of (mm_fa0), kX1_add_ok, mm_ctok_J ctRX1_ok⟩
  unfold fX1_add at h
  split at h
  · obtain ⟨hb, h⟩ := mm_chk_e h
    cases (Nat.eq_of_beq_eq_true hb)
    exact ⟨Nat.le_of_ble_eq_true rfl, mm_Zb Z 41 0 [] mm_fa0 h⟩
  · exact h.elim
def kX1_layGround : List mm_E := [(0, false, .iconst 0, []), (1, false, .istore_n 1, []), (2, true, .iload_n 1, []), (3, false, .aload_n 0, []), (4, false, .getfield 44, []), (7, false, .if_icmp .ge 22, [29]), (10, false, .aload_n 0, []), (11, false, .getfield 37, []), (14, false, .iload_n 1, []), (15, false, .aload_n 0, []), (16, false, .getfield 9, []), (19, false, .iload_n 1, []), (20, false, .iaload, []), (21, false, .i2l, []), (22, false, .lastore, []), (23, false, .iinc 1 1, []), (26, false, .goto (-24), [2]), (29, false, .return_, [])]
set_option maxRecDepth 20000 in
theorem kX1_layGround_ok : mm_cok cX1_layGround RX1 (mm_ctt ctRX1) kX1_layGround := mm_c_of (k := false) ctRX1_ok (by decide +kernel)
set_option maxRecDepth 20000 in
theorem wX1_layGround : ∀ w ∈ ([.instanceMethod yX1_layGround, .selects RX1 yX1_layGround yX1_layGround, .initialized RX1, .code yX1_layGround cX1_layGround 2 none] : List Cond), w ∈ mm_tbl := mm_sub_at _ [839, 19, 111, 840] (by decide +kernel) (by decide +kernel)
def vtX1_layGround : List (Nat × Nat × Nat × mm_F) := []
def smX1_layGround : List (Nat × Nat × Nat × mm_F) := []
def ZX1_layGround (p : Program) (l : Launch) (e : Env) (s : State) (m : MethodId) (args : Array Value) (below : List Frame) (meth : Method) (c : Code) (cA : Nat → ClassId) (ad : Nat → Nat) (D : va_G) (A : Nat → Prop) : Prop := mm_Z p l e (mm_rm 0) s m args below meth c lay_c cA ad D A RX1 cX1_layGround 2 0 (mm_flt flRX1) (mm_clt (vtX1_layGround)) (mm_clt (smX1_layGround)) (mm_ctt ctRX1) kX1_layGround
def qX1_layGround_2 (P : Int → mm_M → Prop) : mm_K := fun ls st M => match ls, st with
  | [some (.inr (.inr c0)), some (.inl v1)], [] => mm_chk (Nat.beq c0 125) (P v1 M)
  | _, _ => False
theorem okX1_layGround_2 {p : Program} {l : Launch} {e : Env} {s : State} {m : MethodId} {args : Array Value} {below : List Frame} {meth : Method} {c : Code} {cA : Nat → ClassId} {ad : Nat → Nat} {D : va_G} {A : Nat → Prop} {Q : Option mm_V → mm_M → Prop} (Z : ZX1_layGround p l e s m args below meth c cA ad D A) : ∀ (n : Nat) ls st M, qX1_layGround_2 (fun v1 M => bX1_layGround_2 n v1 M (fun M => Q none M)) ls st M → mm_G p l e (mm_rm 0) s m args below meth c lay_c cA ad D A 2 Q 2 ls st M
  | 0, ls, st, M, h => by
    unfold qX1_layGround_2 at h
    split at h
    · obtain ⟨hb, h⟩ := mm_chk_e h
      cases (Nat.eq_of_beq_eq_true hb)
      exact h.elim
    · exact h.elim
  | n + 1, ls, st, M, h => by
    have ih := okX1_layGround_2 (Q := Q) Z  n
    unfold qX1_layGround_2 at h
    split at h
    · obtain ⟨hb, h⟩ := mm_chk_e h
      cases (Nat.eq_of_beq_eq_true hb)
      exact mm_Zb Z 21 2 [(2, qX1_layGround_2 (fun v1 M => bX1_layGround_2 n v1 M (fun M => Q none M)))] (mm_fa1 ih mm_fa0) h
    · exact h.elim
theorem okX1_layGround_2x {p : Program} {l : Launch} {e : Env} {s : State} {m : MethodId} {args : Array Value} {below : List Frame} {meth : Method} {c : Code} {cA : Nat → ClassId} {ad : Nat → Nat} {D : va_G} {A : Nat → Prop} {Q : Option mm_V → mm_M → Prop} (Z : ZX1_layGround p l e s m args below meth c cA ad D A) : ∀ ls st M, qX1_layGround_2 (fun v1 M => ∃ j, bX1_layGround_2 j v1 M (fun M => Q none M)) ls st M → mm_G p l e (mm_rm 0) s m args below meth c lay_c cA ad D A 2 Q 2 ls st M := by
  intro ls st M h
  have hex : ∃ n, qX1_layGround_2 (fun v1 M => bX1_layGround_2 n v1 M (fun M => Q none M)) ls st M := by
    unfold qX1_layGround_2 at h
    split at h
    · obtain ⟨hb, h⟩ := mm_chk_e h
      cases (Nat.eq_of_beq_eq_true hb)
      obtain ⟨n, h⟩ := h
      exact ⟨n, h⟩
    · exact h.elim
  obtain ⟨n, hex⟩ := hex
  exact okX1_layGround_2 Z  n ls st M hex
theorem okX1_layGround : mm_Ok lay_c yX1_layGround cX1_layGround 2 none 0 fX1_layGround := by
  refine mm_enter (rt := 0) (by decide +kernel) rfl ?_
  intro p l e s m args below meth c cA ad D A as M Q h C0
  have Z : ZX1_layGround p l e s m args below meth c cA ad D A := ⟨C0, flRX1_ok, mm_vt_of (mm_fa0), mm_vt_of (mm_fa0), kX1_layGround_ok, mm_ctok_J ctRX1_ok⟩
  unfold fX1_layGround at h
  split at h
  · obtain ⟨hb, h⟩ := mm_chk_e h
    cases (Nat.eq_of_beq_eq_true hb)
    exact ⟨Nat.le_of_ble_eq_true rfl, mm_Zb Z 21 0 [(2, qX1_layGround_2 (fun v1 M => ∃ j, bX1_layGround_2 j v1 M (fun M => Q none M)))] (mm_fa1 (fun ls st M h => okX1_layGround_2x Z  ls st M h) mm_fa0) h⟩
  · exact h.elim
def kX1_weighOpen : List mm_E := [(0, false, .aload_n 0, []), (1, false, .lconst 0, []), (2, false, .putfield 72, []), (5, false, .aload_n 0, []), (6, false, .lload_n 1, []), (7, false, .putfield 76, []), (10, false, .iconst 0, []), (11, false, .istore_n 3, []), (12, true, .iload_n 3, []), (13, false, .aload_n 0, []), (14, false, .getfield 44, []), (17, false, .if_icmp .ge 57, [74]), (20, false, .aload_n 0, []), (21, false, .getfield 40, []), (24, false, .iload_n 3, []), (25, false, .baload, []), (26, false, .ifCond .eq 42, [68]), (29, false, .aload_n 0, []), (30, false, .dup, []), (31, false, .getfield 72, []), (34, false, .aload_n 0, []), (35, false, .getfield 18, []), (38, false, .iload_n 3, []), (39, false, .iaload, []), (40, false, .i2l, []), (41, false, .ladd, []), (42, false, .putfield 72, []), (45, false, .aload_n 0, []), (46, false, .dup, []), (47, false, .getfield 76, []), (50, false, .aload_n 0, []), (51, false, .getfield 18, []), (54, false, .iload_n 3, []), (55, false, .iaload, []), (56, false, .i2l, []), (57, false, .aload_n 0, []), (58, false, .getfield 37, []), (61, false, .iload_n 3, []), (62, false, .laload, []), (63, false, .lmul, []), (64, false, .ladd, []), (65, false, .putfield 76, []), (68, false, .iinc 3 1, []), (71, false, .goto (-59), [12]), (74, false, .return_, [])]
set_option maxRecDepth 20000 in
theorem kX1_weighOpen_ok : mm_cok cX1_weighOpen RX1 (mm_ctt ctRX1) kX1_weighOpen := mm_c_of (k := false) ctRX1_ok (by decide +kernel)
set_option maxRecDepth 20000 in
theorem wX1_weighOpen : ∀ w ∈ ([.instanceMethod yX1_weighOpen, .selects RX1 yX1_weighOpen yX1_weighOpen, .initialized RX1, .code yX1_weighOpen cX1_weighOpen 4 none] : List Cond), w ∈ mm_tbl := mm_sub_at _ [852, 22, 111, 853] (by decide +kernel) (by decide +kernel)
def vtX1_weighOpen : List (Nat × Nat × Nat × mm_F) := []
def smX1_weighOpen : List (Nat × Nat × Nat × mm_F) := []
def ZX1_weighOpen (p : Program) (l : Launch) (e : Env) (s : State) (m : MethodId) (args : Array Value) (below : List Frame) (meth : Method) (c : Code) (cA : Nat → ClassId) (ad : Nat → Nat) (D : va_G) (A : Nat → Prop) : Prop := mm_Z p l e (mm_rm 0) s m args below meth c lay_c cA ad D A RX1 cX1_weighOpen 4 0 (mm_flt flRX1) (mm_clt (vtX1_weighOpen)) (mm_clt (smX1_weighOpen)) (mm_ctt ctRX1) kX1_weighOpen
def qX1_weighOpen_12 (P : Int → mm_M → Prop) : mm_K := fun ls st M => match ls, st with
  | [some (.inr (.inr c0)), _, none, some (.inl v3)], [] => mm_chk (Nat.beq c0 125) (P v3 M)
  | _, _ => False
theorem okX1_weighOpen_12 {p : Program} {l : Launch} {e : Env} {s : State} {m : MethodId} {args : Array Value} {below : List Frame} {meth : Method} {c : Code} {cA : Nat → ClassId} {ad : Nat → Nat} {D : va_G} {A : Nat → Prop} {Q : Option mm_V → mm_M → Prop} (Z : ZX1_weighOpen p l e s m args below meth c cA ad D A) : ∀ (n : Nat) ls st M, qX1_weighOpen_12 (fun v3 M => bX1_weighOpen_12 n v3 M (fun M => Q none M)) ls st M → mm_G p l e (mm_rm 0) s m args below meth c lay_c cA ad D A 4 Q 12 ls st M
  | 0, ls, st, M, h => by
    unfold qX1_weighOpen_12 at h
    split at h
    · obtain ⟨hb, h⟩ := mm_chk_e h
      cases (Nat.eq_of_beq_eq_true hb)
      exact h.elim
    · exact h.elim
  | n + 1, ls, st, M, h => by
    have ih := okX1_weighOpen_12 (Q := Q) Z  n
    unfold qX1_weighOpen_12 at h
    split at h
    · obtain ⟨hb, h⟩ := mm_chk_e h
      cases (Nat.eq_of_beq_eq_true hb)
      exact mm_Zb Z 48 12 [(12, qX1_weighOpen_12 (fun v3 M => bX1_weighOpen_12 n v3 M (fun M => Q none M)))] (mm_fa1 ih mm_fa0) h
    · exact h.elim
theorem okX1_weighOpen_12x {p : Program} {l : Launch} {e : Env} {s : State} {m : MethodId} {args : Array Value} {below : List Frame} {meth : Method} {c : Code} {cA : Nat → ClassId} {ad : Nat → Nat} {D : va_G} {A : Nat → Prop} {Q : Option mm_V → mm_M → Prop} (Z : ZX1_weighOpen p l e s m args below meth c cA ad D A) : ∀ ls st M, qX1_weighOpen_12 (fun v3 M => ∃ j, bX1_weighOpen_12 j v3 M (fun M => Q none M)) ls st M → mm_G p l e (mm_rm 0) s m args below meth c lay_c cA ad D A 4 Q 12 ls st M := by
  intro ls st M h
  have hex : ∃ n, qX1_weighOpen_12 (fun v3 M => bX1_weighOpen_12 n v3 M (fun M => Q none M)) ls st M := by
    unfold qX1_weighOpen_12 at h
    split at h
    · obtain ⟨hb, h⟩ := mm_chk_e h
      cases (Nat.eq_of_beq_eq_true hb)
      obtain ⟨n, h⟩ := h
      exact ⟨n, h⟩
    · exact h.elim
  obtain ⟨n, hex⟩ := hex
  exact okX1_weighOpen_12 Z  n ls st M hex
theorem okX1_weighOpen : mm_Ok lay_c yX1_weighOpen cX1_weighOpen 4 none 0 fX1_weighOpen := by
  refine mm_enter (rt := 0) (by decide +kernel) rfl ?_
  intro p l e s m args below meth c cA ad D A as M Q h C0
  have Z : ZX1_weighOpen p l e s m args below meth c cA ad D A := ⟨C0, flRX1_ok, mm_vt_of (mm_fa0), mm_vt_of (mm_fa0), kX1_weighOpen_ok, mm_ctok_J ctRX1_ok⟩
  unfold fX1_weighOpen at h
  split at h
  · obtain ⟨hb, h⟩ := mm_chk_e h
    cases (Nat.eq_of_beq_eq_true hb)
    exact ⟨Nat.le_of_ble_eq_true rfl, mm_Zb Z 48 0 [(12, qX1_weighOpen_12 (fun v3 M => ∃ j, bX1_weighOpen_12 j v3 M (fun M => Q none M)))] (mm_fa1 (fun ls st M h => okX1_weighOpen_12x Z  ls st M h) mm_fa0) h⟩
  · exact h.elim
def kX1_shutAbove : List mm_E := [(0, false, .iconst 0, []), (1, false, .istore_n 1, []), (2, false, .iconst 0, []), (3, false, .istore_n 2, []), (4, true, .iload_n 2, []), (5, false, .aload_n 0, []), (6, false, .getfield 44, []), (9, false, .if_icmp .ge 46, [55]), (12, false, .aload_n 0, []), (13, false, .getfield 40, []), (16, false, .iload_n 2, []), (17, false, .baload, []), (18, false, .ifCond .eq 31, [49]), (21, false, .aload_n 0, []), (22, false, .getfield 37, []), (25, false, .iload_n 2, []), (26, false, .laload, []), (27, false, .aload_n 0, []), (28, false, .getfield 72, []), (31, false, .lmul, []), (32, false, .aload_n 0, []), (33, false, .getfield 76, []), (36, false, .lcmp, []), (37, false, .ifCond .le 12, [49]), (40, false, .aload_n 0, []), (41, false, .getfield 40, []), (44, false, .iload_n 2, []), (45, false, .iconst 0, []), (46, false, .bastore, []), (47, false, .iconst 1, []), (48, false, .istore_n 1, []), (49, false, .iinc 2 1, []), (52, false, .goto (-48), [4]), (55, false, .iload_n 1, []), (56, false, .ireturn, [])]
set_option maxRecDepth 20000 in
theorem kX1_shutAbove_ok : mm_cok cX1_shutAbove RX1 (mm_ctt ctRX1) kX1_shutAbove := mm_c_of (k := false) ctRX1_ok (by decide +kernel)
set_option maxRecDepth 20000 in
theorem wX1_shutAbove : ∀ w ∈ ([.instanceMethod yX1_shutAbove, .selects RX1 yX1_shutAbove yX1_shutAbove, .initialized RX1, .code yX1_shutAbove cX1_shutAbove 3 (some .boolean)] : List Cond), w ∈ mm_tbl := mm_sub_at _ [856, 23, 111, 857] (by decide +kernel) (by decide +kernel)
def vtX1_shutAbove : List (Nat × Nat × Nat × mm_F) := []
def smX1_shutAbove : List (Nat × Nat × Nat × mm_F) := []
def ZX1_shutAbove (p : Program) (l : Launch) (e : Env) (s : State) (m : MethodId) (args : Array Value) (below : List Frame) (meth : Method) (c : Code) (cA : Nat → ClassId) (ad : Nat → Nat) (D : va_G) (A : Nat → Prop) : Prop := mm_Z p l e (mm_rm 0) s m args below meth c lay_c cA ad D A RX1 cX1_shutAbove 3 2 (mm_flt flRX1) (mm_clt (vtX1_shutAbove)) (mm_clt (smX1_shutAbove)) (mm_ctt ctRX1) kX1_shutAbove
def qX1_shutAbove_4 (P : Int → Int → mm_M → Prop) : mm_K := fun ls st M => match ls, st with
  | [some (.inr (.inr c0)), some (.inl v1), some (.inl v2)], [] => mm_chk (Nat.beq c0 125) (P v1 v2 M)
  | _, _ => False
theorem okX1_shutAbove_4 {p : Program} {l : Launch} {e : Env} {s : State} {m : MethodId} {args : Array Value} {below : List Frame} {meth : Method} {c : Code} {cA : Nat → ClassId} {ad : Nat → Nat} {D : va_G} {A : Nat → Prop} {Q : Option mm_V → mm_M → Prop} (Z : ZX1_shutAbove p l e s m args below meth c cA ad D A) : ∀ (n : Nat) ls st M, qX1_shutAbove_4 (fun v1 v2 M => bX1_shutAbove_4 n v1 v2 M (fun r M => Q (some (.inl r)) M)) ls st M → mm_G p l e (mm_rm 0) s m args below meth c lay_c cA ad D A 3 Q 4 ls st M
  | 0, ls, st, M, h => by
    unfold qX1_shutAbove_4 at h
    split at h
    · obtain ⟨hb, h⟩ := mm_chk_e h
      cases (Nat.eq_of_beq_eq_true hb)
      exact h.elim
    · exact h.elim
  | n + 1, ls, st, M, h => by
    have ih := okX1_shutAbove_4 (Q := Q) Z  n
    unfold qX1_shutAbove_4 at h
    split at h
    · obtain ⟨hb, h⟩ := mm_chk_e h
      cases (Nat.eq_of_beq_eq_true hb)
      exact mm_Zb Z 38 4 [(4, qX1_shutAbove_4 (fun v1 v2 M => bX1_shutAbove_4 n v1 v2 M (fun r M => Q (some (.inl r)) M)))] (mm_fa1 ih mm_fa0) h
    · exact h.elim
theorem okX1_shutAbove_4x {p : Program} {l : Launch} {e : Env} {s : State} {m : MethodId} {args : Array Value} {below : List Frame} {meth : Method} {c : Code} {cA : Nat → ClassId} {ad : Nat → Nat} {D : va_G} {A : Nat → Prop} {Q : Option mm_V → mm_M → Prop} (Z : ZX1_shutAbove p l e s m args below meth c cA ad D A) : ∀ ls st M, qX1_shutAbove_4 (fun v1 v2 M => ∃ j, bX1_shutAbove_4 j v1 v2 M (fun r M => Q (some (.inl r)) M)) ls st M → mm_G p l e (mm_rm 0) s m args below meth c lay_c cA ad D A 3 Q 4 ls st M := by
  intro ls st M h
  have hex : ∃ n, qX1_shutAbove_4 (fun v1 v2 M => bX1_shutAbove_4 n v1 v2 M (fun r M => Q (some (.inl r)) M)) ls st M := by
    unfold qX1_shutAbove_4 at h
    split at h
    · obtain ⟨hb, h⟩ := mm_chk_e h
      cases (Nat.eq_of_beq_eq_true hb)
      obtain ⟨n, h⟩ := h
      exact ⟨n, h⟩
    · exact h.elim
  obtain ⟨n, hex⟩ := hex
  exact okX1_shutAbove_4 Z  n ls st M hex
theorem okX1_shutAbove : mm_Ok lay_c yX1_shutAbove cX1_shutAbove 3 (some .boolean) 0 fX1_shutAbove := by
  refine mm_enter (rt := 2) (by decide +kernel) rfl ?_
  intro p l e s m args below meth c cA ad D A as M Q h C0
  have Z : ZX1_shutAbove p l e s m args below meth c cA ad D A := ⟨C0, flRX1_ok, mm_vt_of (mm_fa0), mm_vt_of (mm_fa0), kX1_shutAbove_ok, mm_ctok_J ctRX1_ok⟩
  unfold fX1_shutAbove at h
  split at h
  · obtain ⟨hb, h⟩ := mm_chk_e h
    cases (Nat.eq_of_beq_eq_true hb)
    exact ⟨Nat.le_of_ble_eq_true rfl, mm_Zb Z 38 0 [(4, qX1_shutAbove_4 (fun v1 v2 M => ∃ j, bX1_shutAbove_4 j v1 v2 M (fun r M => Q (some (.inl r)) M)))] (mm_fa1 (fun ls st M h => okX1_shutAbove_4x Z  ls st M h) mm_fa0) h⟩
  · exact h.elim
def kX1_pour : List mm_E := [(0, false, .iconst 0, []), (1, false, .istore 6, []), (3, true, .iload 6, []), (5, false, .aload_n 0, []), (6, false, .getfield 44, []), (9, false, .if_icmp .ge 17, [26]), (12, false, .aload_n 0, []), (13, false, .getfield 40, []), (16, false, .iload 6, []), (18, false, .iconst 1, []), (19, false, .bastore, []), (20, false, .iinc 6 1, []), (23, false, .goto (-20), [3]), (26, false, .iconst 1, []), (27, false, .istore 6, []), (29, false, .iconst 0, []), (30, false, .istore 7, []), (32, true, .iload 7, []), (34, false, .aload_n 0, []), (35, false, .getfield 44, []), (38, false, .if_icmp .ge 28, [66]), (41, false, .iload 6, []), (43, false, .ifCond .eq 23, [66]), (46, false, .aload_n 0, []), (47, false, .lload 4, []), (49, false, .lload_n 2, []), (50, false, .lmul, []), (51, false, .invokevirtual 87, []), (54, false, .aload_n 0, []), (55, false, .invokevirtual 91, []), (58, false, .istore 6, []), (60, false, .iinc 7 1, []), (63, false, .goto (-31), [32]), (66, false, .iconst 0, []), (67, false, .istore 7, []), (69, true, .iload 7, []), (71, false, .aload_n 0, []), (72, false, .getfield 44, []), (75, false, .if_icmp .ge 57, [132]), (78, false, .aload_n 0, []), (79, false, .getfield 76, []), (82, false, .aload_n 0, []), (83, false, .getfield 37, []), (86, false, .iload 7, []), (88, false, .laload, []), (89, false, .aload_n 0, []), (90, false, .getfield 72, []), (93, false, .lmul, []), (94, false, .lsub, []), (95, false, .lstore 8, []), (97, false, .aload_n 1, []), (98, false, .iload 7, []), (100, false, .aload_n 0, []), (101, false, .getfield 40, []), (104, false, .iload 7, []), (106, false, .baload, []), (107, false, .ifCond .eq 17, [124]), (110, false, .aload_n 0, []), (111, false, .getfield 18, []), (114, false, .iload 7, []), (116, false, .iaload, []), (117, false, .i2l, []), (118, false, .lload 8, []), (120, false, .lmul, []), (121, false, .goto 4, [125]), (124, false, .lconst 0, []), (125, false, .lastore, []), (126, false, .iinc 7 1, []), (129, false, .goto (-60), [69]), (132, false, .return_, [])]
set_option maxRecDepth 20000 in
theorem kX1_pour_ok : mm_cok cX1_pour RX1 (mm_ctt ctRX1) kX1_pour := mm_c_of (k := false) ctRX1_ok (by decide +kernel)
set_option maxRecDepth 20000 in
theorem wX1_pour : ∀ w ∈ ([.instanceMethod yX1_pour, .selects RX1 yX1_pour yX1_pour, .initialized RX1, .code yX1_pour cX1_pour 10 none] : List Cond), w ∈ mm_tbl := mm_sub_at _ [848, 21, 111, 849] (by decide +kernel) (by decide +kernel)
def vtX1_pour : List (Nat × Nat × Nat × mm_F) := [(87, 1, 2, fX1_weighOpen), (91, 1, 1, fX1_shutAbove)]
def smX1_pour : List (Nat × Nat × Nat × mm_F) := []
def ZX1_pour (p : Program) (l : Launch) (e : Env) (s : State) (m : MethodId) (args : Array Value) (below : List Frame) (meth : Method) (c : Code) (cA : Nat → ClassId) (ad : Nat → Nat) (D : va_G) (A : Nat → Prop) : Prop := mm_Z p l e (mm_rm 1) s m args below meth c lay_c cA ad D A RX1 cX1_pour 10 0 (mm_flt flRX1) (mm_clt (vtX1_pour)) (mm_clt (smX1_pour)) (mm_ctt ctRX1) kX1_pour
def qX1_pour_69 (P : Nat → Int → Int → mm_M → Prop) : mm_K := fun ls st M => match ls, st with
  | [some (.inr (.inr c0)), some (.inr (.inr v1)), _, none, _, none, some (.inl v6), some (.inl v7), _, none], [] => mm_chk (Nat.beq c0 125) (P v1 v6 v7 M)
  | _, _ => False
def qX1_pour_32 (P : Nat → Int → Int → Int → Int → mm_M → Prop) : mm_K := fun ls st M => match ls, st with
  | [some (.inr (.inr c0)), some (.inr (.inr v1)), some (.inr (.inl v2)), none, some (.inr (.inl v4)), none, some (.inl v6), some (.inl v7), none, none], [] => mm_chk (Nat.beq c0 125) (P v1 v2 v4 v6 v7 M)
  | _, _ => False
def qX1_pour_3 (P : Nat → Int → Int → Int → mm_M → Prop) : mm_K := fun ls st M => match ls, st with
  | [some (.inr (.inr c0)), some (.inr (.inr v1)), some (.inr (.inl v2)), none, some (.inr (.inl v4)), none, some (.inl v6), none, none, none], [] => mm_chk (Nat.beq c0 125) (P v1 v2 v4 v6 M)
  | _, _ => False
theorem okX1_pour_69 {p : Program} {l : Launch} {e : Env} {s : State} {m : MethodId} {args : Array Value} {below : List Frame} {meth : Method} {c : Code} {cA : Nat → ClassId} {ad : Nat → Nat} {D : va_G} {A : Nat → Prop} {Q : Option mm_V → mm_M → Prop} (Z : ZX1_pour p l e s m args below meth c cA ad D A) : ∀ (n : Nat) ls st M, qX1_pour_69 (fun v1 v6 v7 M => bX1_pour_69 n v1 v6 v7 M (fun M => Q none M)) ls st M → mm_G p l e (mm_rm 1) s m args below meth c lay_c cA ad D A 10 Q 69 ls st M
  | 0, ls, st, M, h => by
    unfold qX1_pour_69 at h
    split at h
    · obtain ⟨hb, h⟩ := mm_chk_e h
      cases (Nat.eq_of_beq_eq_true hb)
      exact h.elim
    · exact h.elim
  | n + 1, ls, st, M, h => by
    have ih := okX1_pour_69 (Q := Q) Z  n
    unfold qX1_pour_69 at h
    split at h
    · obtain ⟨hb, h⟩ := mm_chk_e h
      cases (Nat.eq_of_beq_eq_true hb)
      exact mm_Zb Z 73 69 [(69, qX1_pour_69 (fun v1 v6 v7 M => bX1_pour_69 n v1 v6 v7 M (fun M => Q none M)))] (mm_fa1 ih mm_fa0) h
    · exact h.elim
theorem okX1_pour_69x {p : Program} {l : Launch} {e : Env} {s : State} {m : MethodId} {args : Array Value} {below : List Frame} {meth : Method} {c : Code} {cA : Nat → ClassId} {ad : Nat → Nat} {D : va_G} {A : Nat → Prop} {Q : Option mm_V → mm_M → Prop} (Z : ZX1_pour p l e s m args below meth c cA ad D A) : ∀ ls st M, qX1_pour_69 (fun v1 v6 v7 M => ∃ j, bX1_pour_69 j v1 v6 v7 M (fun M => Q none M)) ls st M → mm_G p l e (mm_rm 1) s m args below meth c lay_c cA ad D A 10 Q 69 ls st M := by
  intro ls st M h
  have hex : ∃ n, qX1_pour_69 (fun v1 v6 v7 M => bX1_pour_69 n v1 v6 v7 M (fun M => Q none M)) ls st M := by
    unfold qX1_pour_69 at h
    split at h
    · obtain ⟨hb, h⟩ := mm_chk_e h
      cases (Nat.eq_of_beq_eq_true hb)
      obtain ⟨n, h⟩ := h
      exact ⟨n, h⟩
    · exact h.elim
  obtain ⟨n, hex⟩ := hex
  exact okX1_pour_69 Z  n ls st M hex
theorem okX1_pour_32 {p : Program} {l : Launch} {e : Env} {s : State} {m : MethodId} {args : Array Value} {below : List Frame} {meth : Method} {c : Code} {cA : Nat → ClassId} {ad : Nat → Nat} {D : va_G} {A : Nat → Prop} {Q : Option mm_V → mm_M → Prop} (Z : ZX1_pour p l e s m args below meth c cA ad D A) : ∀ (n : Nat) ls st M, qX1_pour_32 (fun v1 v2 v4 v6 v7 M => bX1_pour_32 n v1 v2 v4 v6 v7 M (fun M => Q none M)) ls st M → mm_G p l e (mm_rm 1) s m args below meth c lay_c cA ad D A 10 Q 32 ls st M
  | 0, ls, st, M, h => by
    unfold qX1_pour_32 at h
    split at h
    · obtain ⟨hb, h⟩ := mm_chk_e h
      cases (Nat.eq_of_beq_eq_true hb)
      exact h.elim
    · exact h.elim
  | n + 1, ls, st, M, h => by
    have ih := okX1_pour_32 (Q := Q) Z  n
    unfold qX1_pour_32 at h
    split at h
    · obtain ⟨hb, h⟩ := mm_chk_e h
      cases (Nat.eq_of_beq_eq_true hb)
      exact mm_Zb Z 73 32 [(32, qX1_pour_32 (fun v1 v2 v4 v6 v7 M => bX1_pour_32 n v1 v2 v4 v6 v7 M (fun M => Q none M))), (69, qX1_pour_69 (fun v1 v6 v7 M => ∃ j, bX1_pour_69 j v1 v6 v7 M (fun M => Q none M)))] (mm_fa1 ih (mm_fa1 (fun ls st M h => okX1_pour_69x Z  ls st M h) mm_fa0)) h
    · exact h.elim
theorem okX1_pour_32x {p : Program} {l : Launch} {e : Env} {s : State} {m : MethodId} {args : Array Value} {below : List Frame} {meth : Method} {c : Code} {cA : Nat → ClassId} {ad : Nat → Nat} {D : va_G} {A : Nat → Prop} {Q : Option mm_V → mm_M → Prop} (Z : ZX1_pour p l e s m args below meth c cA ad D A) : ∀ ls st M, qX1_pour_32 (fun v1 v2 v4 v6 v7 M => ∃ j, bX1_pour_32 j v1 v2 v4 v6 v7 M (fun M => Q none M)) ls st M → mm_G p l e (mm_rm 1) s m args below meth c lay_c cA ad D A 10 Q 32 ls st M := by
  intro ls st M h
  have hex : ∃ n, qX1_pour_32 (fun v1 v2 v4 v6 v7 M => bX1_pour_32 n v1 v2 v4 v6 v7 M (fun M => Q none M)) ls st M := by
    unfold qX1_pour_32 at h
    split at h
    · obtain ⟨hb, h⟩ := mm_chk_e h
      cases (Nat.eq_of_beq_eq_true hb)
      obtain ⟨n, h⟩ := h
      exact ⟨n, h⟩
    · exact h.elim
  obtain ⟨n, hex⟩ := hex
  exact okX1_pour_32 Z  n ls st M hex
theorem okX1_pour_3 {p : Program} {l : Launch} {e : Env} {s : State} {m : MethodId} {args : Array Value} {below : List Frame} {meth : Method} {c : Code} {cA : Nat → ClassId} {ad : Nat → Nat} {D : va_G} {A : Nat → Prop} {Q : Option mm_V → mm_M → Prop} (Z : ZX1_pour p l e s m args below meth c cA ad D A) : ∀ (n : Nat) ls st M, qX1_pour_3 (fun v1 v2 v4 v6 M => bX1_pour_3 n v1 v2 v4 v6 M (fun M => Q none M)) ls st M → mm_G p l e (mm_rm 1) s m args below meth c lay_c cA ad D A 10 Q 3 ls st M
  | 0, ls, st, M, h => by
    unfold qX1_pour_3 at h
    split at h
    · obtain ⟨hb, h⟩ := mm_chk_e h
      cases (Nat.eq_of_beq_eq_true hb)
      exact h.elim
    · exact h.elim
  | n + 1, ls, st, M, h => by
    have ih := okX1_pour_3 (Q := Q) Z  n
    unfold qX1_pour_3 at h
    split at h
    · obtain ⟨hb, h⟩ := mm_chk_e h
      cases (Nat.eq_of_beq_eq_true hb)
      exact mm_Zb Z 73 3 [(3, qX1_pour_3 (fun v1 v2 v4 v6 M => bX1_pour_3 n v1 v2 v4 v6 M (fun M => Q none M))), (32, qX1_pour_32 (fun v1 v2 v4 v6 v7 M => ∃ j, bX1_pour_32 j v1 v2 v4 v6 v7 M (fun M => Q none M)))] (mm_fa1 ih (mm_fa1 (fun ls st M h => okX1_pour_32x Z  ls st M h) mm_fa0)) h
    · exact h.elim
theorem okX1_pour_3x {p : Program} {l : Launch} {e : Env} {s : State} {m : MethodId} {args : Array Value} {below : List Frame} {meth : Method} {c : Code} {cA : Nat → ClassId} {ad : Nat → Nat} {D : va_G} {A : Nat → Prop} {Q : Option mm_V → mm_M → Prop} (Z : ZX1_pour p l e s m args below meth c cA ad D A) : ∀ ls st M, qX1_pour_3 (fun v1 v2 v4 v6 M => ∃ j, bX1_pour_3 j v1 v2 v4 v6 M (fun M => Q none M)) ls st M → mm_G p l e (mm_rm 1) s m args below meth c lay_c cA ad D A 10 Q 3 ls st M := by
  intro ls st M h
  have hex : ∃ n, qX1_pour_3 (fun v1 v2 v4 v6 M => bX1_pour_3 n v1 v2 v4 v6 M (fun M => Q none M)) ls st M := by
    unfold qX1_pour_3 at h
    split at h
    · obtain ⟨hb, h⟩ := mm_chk_e h
      cases (Nat.eq_of_beq_eq_true hb)
      obtain ⟨n, h⟩ := h
      exact ⟨n, h⟩
    · exact h.elim
  obtain ⟨n, hex⟩ := hex
  exact okX1_pour_3 Z  n ls st M hex
theorem okX1_pour : mm_Ok lay_c yX1_pour cX1_pour 10 none 1 fX1_pour := by
  refine mm_enter (rt := 0) (by decide +kernel) rfl ?_
  intro p l e s m args below meth c cA ad D A as M Q h C0
  have Z : ZX1_pour p l e s m args below meth c cA ad D A := ⟨C0, flRX1_ok, mm_vt_of (mm_fa1 (mm_coV (n := 1) (ci := 1) C0 okX1_weighOpen rfl rfl (mm_one_at (.methodLink RX1 87 yX1_weighOpen) 850 (by decide +kernel) rfl) (wX1_weighOpen _ (by simp)) (wX1_weighOpen _ (by simp [yX1_weighOpen])) (wX1_weighOpen _ (by simp [yX1_weighOpen])) (wX1_weighOpen _ (by simp)) (by decide +kernel) (by omega) (by omega)) (mm_fa1 (mm_coV (n := 0) (ci := 1) C0 okX1_shutAbove rfl rfl (mm_one_at (.methodLink RX1 91 yX1_shutAbove) 854 (by decide +kernel) rfl) (wX1_shutAbove _ (by simp)) (wX1_shutAbove _ (by simp [yX1_shutAbove])) (wX1_shutAbove _ (by simp [yX1_shutAbove])) (wX1_shutAbove _ (by simp)) (by decide +kernel) (by omega) (by omega)) (mm_fa0))), mm_vt_of (mm_fa0), kX1_pour_ok, mm_ctok_J ctRX1_ok⟩
  unfold fX1_pour at h
  split at h
  · obtain ⟨hb, h⟩ := mm_chk_e h
    cases (Nat.eq_of_beq_eq_true hb)
    exact ⟨Nat.le_of_ble_eq_true rfl, mm_Zb Z 73 0 [(3, qX1_pour_3 (fun v1 v2 v4 v6 M => ∃ j, bX1_pour_3 j v1 v2 v4 v6 M (fun M => Q none M)))] (mm_fa1 (fun ls st M h => okX1_pour_3x Z  ls st M h) mm_fa0) h⟩
  · exact h.elim
def kX1_partEven : List mm_E := [(0, false, .aload_n 0, []), (1, false, .aload_n 0, []), (2, false, .getfield 30, []), (5, false, .iconst 0, []), (6, false, .aaload, []), (7, false, .aload_n 0, []), (8, false, .getfield 21, []), (11, false, .i2l, []), (12, false, .ldc2_w 66, []), (15, false, .invokevirtual 68, []), (18, false, .aload_n 0, []), (19, false, .getfield 33, []), (22, false, .iconst 0, []), (23, false, .ldc2_w 66, []), (26, false, .aload_n 0, []), (27, false, .getfield 72, []), (30, false, .lmul, []), (31, false, .lastore, []), (32, false, .aload_n 0, []), (33, false, .aload_n 0, []), (34, false, .getfield 76, []), (37, false, .putfield 79, []), (40, false, .aload_n 0, []), (41, false, .aload_n 0, []), (42, false, .getfield 72, []), (45, false, .putfield 82, []), (48, false, .return_, [])]
set_option maxRecDepth 20000 in
theorem kX1_partEven_ok : mm_cok cX1_partEven RX1 (mm_ctt ctRX1) kX1_partEven := mm_c_of (k := false) ctRX1_ok (by decide +kernel)
set_option maxRecDepth 20000 in
theorem wX1_partEven : ∀ w ∈ ([.instanceMethod yX1_partEven, .selects RX1 yX1_partEven yX1_partEven, .initialized RX1, .code yX1_partEven cX1_partEven 1 none] : List Cond), w ∈ mm_tbl := mm_sub_at _ [843, 20, 111, 844] (by decide +kernel) (by decide +kernel)
def vtX1_partEven : List (Nat × Nat × Nat × mm_F) := [(68, 1, 4, fX1_pour)]
def smX1_partEven : List (Nat × Nat × Nat × mm_F) := []
def ZX1_partEven (p : Program) (l : Launch) (e : Env) (s : State) (m : MethodId) (args : Array Value) (below : List Frame) (meth : Method) (c : Code) (cA : Nat → ClassId) (ad : Nat → Nat) (D : va_G) (A : Nat → Prop) : Prop := mm_Z p l e (mm_rm 2) s m args below meth c lay_c cA ad D A RX1 cX1_partEven 1 0 (mm_flt flRX1) (mm_clt (vtX1_partEven)) (mm_clt (smX1_partEven)) (mm_ctt ctRX1) kX1_partEven
theorem okX1_partEven : mm_Ok lay_c yX1_partEven cX1_partEven 1 none 2 fX1_partEven := by
  refine mm_enter (rt := 0) (by decide +kernel) rfl ?_
  intro p l e s m args below meth c cA ad D A as M Q h C0
  have Z : ZX1_partEven p l e s m args below meth c cA ad D A := ⟨C0, flRX1_ok, mm_vt_of (mm_fa1 (mm_coV (n := 3) (ci := 1) C0 okX1_pour rfl rfl (mm_one_at (.methodLink RX1 68 yX1_pour) 846 (by decide +kernel) rfl) (wX1_pour _ (by simp)) (wX1_pour _ (by simp [yX1_pour])) (wX1_pour _ (by simp [yX1_pour])) (wX1_pour _ (by simp)) (by decide +kernel) (by omega) (by omega)) (mm_fa0)), mm_vt_of (mm_fa0), kX1_partEven_ok, mm_ctok_J ctRX1_ok⟩
  unfold fX1_partEven at h
  split at h
  · obtain ⟨hb, h⟩ := mm_chk_e h
    cases (Nat.eq_of_beq_eq_true hb)
    exact ⟨Nat.le_of_ble_eq_true rfl, mm_Zb Z 30 0 [] mm_fa0 h⟩
  · exact h.elim
def kX1_partWise : List mm_E := [(0, false, .aload_n 0, []), (1, false, .aload_n 0, []), (2, false, .getfield 30, []), (5, false, .iconst 1, []), (6, false, .aaload, []), (7, false, .aload_n 0, []), (8, false, .getfield 21, []), (11, false, .i2l, []), (12, false, .ldc2_w 85, []), (15, false, .invokevirtual 68, []), (18, false, .aload_n 0, []), (19, false, .getfield 33, []), (22, false, .iconst 1, []), (23, false, .ldc2_w 85, []), (26, false, .aload_n 0, []), (27, false, .getfield 72, []), (30, false, .lmul, []), (31, false, .lastore, []), (32, false, .return_, [])]
set_option maxRecDepth 20000 in
theorem kX1_partWise_ok : mm_cok cX1_partWise RX1 (mm_ctt ctRX1) kX1_partWise := mm_c_of (k := false) ctRX1_ok (by decide +kernel)
set_option maxRecDepth 20000 in
theorem wX1_partWise : ∀ w ∈ ([.instanceMethod yX1_partWise, .selects RX1 yX1_partWise yX1_partWise, .initialized RX1, .code yX1_partWise cX1_partWise 1 none] : List Cond), w ∈ mm_tbl := mm_sub_at _ [860, 24, 111, 861] (by decide +kernel) (by decide +kernel)
def vtX1_partWise : List (Nat × Nat × Nat × mm_F) := [(68, 1, 4, fX1_pour)]
def smX1_partWise : List (Nat × Nat × Nat × mm_F) := []
def ZX1_partWise (p : Program) (l : Launch) (e : Env) (s : State) (m : MethodId) (args : Array Value) (below : List Frame) (meth : Method) (c : Code) (cA : Nat → ClassId) (ad : Nat → Nat) (D : va_G) (A : Nat → Prop) : Prop := mm_Z p l e (mm_rm 2) s m args below meth c lay_c cA ad D A RX1 cX1_partWise 1 0 (mm_flt flRX1) (mm_clt (vtX1_partWise)) (mm_clt (smX1_partWise)) (mm_ctt ctRX1) kX1_partWise
theorem okX1_partWise : mm_Ok lay_c yX1_partWise cX1_partWise 1 none 2 fX1_partWise := by
  refine mm_enter (rt := 0) (by decide +kernel) rfl ?_
  intro p l e s m args below meth c cA ad D A as M Q h C0
  have Z : ZX1_partWise p l e s m args below meth c cA ad D A := ⟨C0, flRX1_ok, mm_vt_of (mm_fa1 (mm_coV (n := 3) (ci := 1) C0 okX1_pour rfl rfl (mm_one_at (.methodLink RX1 68 yX1_pour) 846 (by decide +kernel) rfl) (wX1_pour _ (by simp)) (wX1_pour _ (by simp [yX1_pour])) (wX1_pour _ (by simp [yX1_pour])) (wX1_pour _ (by simp)) (by decide +kernel) (by omega) (by omega)) (mm_fa0)), mm_vt_of (mm_fa0), kX1_partWise_ok, mm_ctok_J ctRX1_ok⟩
  unfold fX1_partWise at h
  split at h
  · obtain ⟨hb, h⟩ := mm_chk_e h
    cases (Nat.eq_of_beq_eq_true hb)
    exact ⟨Nat.le_of_ble_eq_true rfl, mm_Zb Z 22 0 [] mm_fa0 h⟩
  · exact h.elim
def kX1_dearestOpenByWise : List mm_E := [(0, false, .iconst 0, []), (1, false, .istore_n 1, []), (2, false, .ldc2_w 107, []), (5, false, .lstore_n 2, []), (6, false, .iconst 0, []), (7, false, .istore 4, []), (9, true, .iload 4, []), (11, false, .aload_n 0, []), (12, false, .getfield 44, []), (15, false, .if_icmp .ge 68, [83]), (18, false, .aload_n 0, []), (19, false, .getfield 9, []), (22, false, .iload 4, []), (24, false, .iaload, []), (25, false, .i2l, []), (26, false, .aload_n 0, []), (27, false, .getfield 33, []), (30, false, .iconst 1, []), (31, false, .laload, []), (32, false, .lmul, []), (33, false, .aload_n 0, []), (34, false, .getfield 15, []), (37, false, .iload 4, []), (39, false, .iaload, []), (40, false, .i2l, []), (41, false, .aload_n 0, []), (42, false, .getfield 30, []), (45, false, .iconst 1, []), (46, false, .aaload, []), (47, false, .iload 4, []), (49, false, .laload, []), (50, false, .lmul, []), (51, false, .ladd, []), (52, false, .lstore 5, []), (54, false, .aload_n 0, []), (55, false, .getfield 40, []), (58, false, .iload 4, []), (60, false, .baload, []), (61, false, .ifCond .eq 16, [77]), (64, false, .lload 5, []), (66, false, .lload_n 2, []), (67, false, .lcmp, []), (68, false, .ifCond .le 9, [77]), (71, false, .lload 5, []), (73, false, .lstore_n 2, []), (74, false, .iload 4, []), (76, false, .istore_n 1, []), (77, false, .iinc 4 1, []), (80, false, .goto (-71), [9]), (83, false, .iload_n 1, []), (84, false, .ireturn, [])]
set_option maxRecDepth 20000 in
theorem kX1_dearestOpenByWise_ok : mm_cok cX1_dearestOpenByWise RX1 (mm_ctt ctRX1) kX1_dearestOpenByWise := mm_c_of (k := false) ctRX1_ok (by decide +kernel)
set_option maxRecDepth 20000 in
theorem wX1_dearestOpenByWise : ∀ w ∈ ([.instanceMethod yX1_dearestOpenByWise, .selects RX1 yX1_dearestOpenByWise yX1_dearestOpenByWise, .initialized RX1, .code yX1_dearestOpenByWise cX1_dearestOpenByWise 7 (some .int)] : List Cond), w ∈ mm_tbl := mm_sub_at _ [870, 26, 111, 871] (by decide +kernel) (by decide +kernel)
def vtX1_dearestOpenByWise : List (Nat × Nat × Nat × mm_F) := []
def smX1_dearestOpenByWise : List (Nat × Nat × Nat × mm_F) := []
def ZX1_dearestOpenByWise (p : Program) (l : Launch) (e : Env) (s : State) (m : MethodId) (args : Array Value) (below : List Frame) (meth : Method) (c : Code) (cA : Nat → ClassId) (ad : Nat → Nat) (D : va_G) (A : Nat → Prop) : Prop := mm_Z p l e (mm_rm 0) s m args below meth c lay_c cA ad D A RX1 cX1_dearestOpenByWise 7 1 (mm_flt flRX1) (mm_clt (vtX1_dearestOpenByWise)) (mm_clt (smX1_dearestOpenByWise)) (mm_ctt ctRX1) kX1_dearestOpenByWise
def qX1_dearestOpenByWise_9 (P : Int → Int → Int → mm_M → Prop) : mm_K := fun ls st M => match ls, st with
  | [some (.inr (.inr c0)), some (.inl v1), some (.inr (.inl v2)), none, some (.inl v4), _, none], [] => mm_chk (Nat.beq c0 125) (P v1 v2 v4 M)
  | _, _ => False
theorem okX1_dearestOpenByWise_9 {p : Program} {l : Launch} {e : Env} {s : State} {m : MethodId} {args : Array Value} {below : List Frame} {meth : Method} {c : Code} {cA : Nat → ClassId} {ad : Nat → Nat} {D : va_G} {A : Nat → Prop} {Q : Option mm_V → mm_M → Prop} (Z : ZX1_dearestOpenByWise p l e s m args below meth c cA ad D A) : ∀ (n : Nat) ls st M, qX1_dearestOpenByWise_9 (fun v1 v2 v4 M => bX1_dearestOpenByWise_9 n v1 v2 v4 M (fun r M => Q (some (.inl r)) M)) ls st M → mm_G p l e (mm_rm 0) s m args below meth c lay_c cA ad D A 7 Q 9 ls st M
  | 0, ls, st, M, h => by
    unfold qX1_dearestOpenByWise_9 at h
    split at h
    · obtain ⟨hb, h⟩ := mm_chk_e h
      cases (Nat.eq_of_beq_eq_true hb)
      exact h.elim
    · exact h.elim
  | n + 1, ls, st, M, h => by
    have ih := okX1_dearestOpenByWise_9 (Q := Q) Z  n
    unfold qX1_dearestOpenByWise_9 at h
    split at h
    · obtain ⟨hb, h⟩ := mm_chk_e h
      cases (Nat.eq_of_beq_eq_true hb)
      exact mm_Zb Z 54 9 [(9, qX1_dearestOpenByWise_9 (fun v1 v2 v4 M => bX1_dearestOpenByWise_9 n v1 v2 v4 M (fun r M => Q (some (.inl r)) M)))] (mm_fa1 ih mm_fa0) h
    · exact h.elim
theorem okX1_dearestOpenByWise_9x {p : Program} {l : Launch} {e : Env} {s : State} {m : MethodId} {args : Array Value} {below : List Frame} {meth : Method} {c : Code} {cA : Nat → ClassId} {ad : Nat → Nat} {D : va_G} {A : Nat → Prop} {Q : Option mm_V → mm_M → Prop} (Z : ZX1_dearestOpenByWise p l e s m args below meth c cA ad D A) : ∀ ls st M, qX1_dearestOpenByWise_9 (fun v1 v2 v4 M => ∃ j, bX1_dearestOpenByWise_9 j v1 v2 v4 M (fun r M => Q (some (.inl r)) M)) ls st M → mm_G p l e (mm_rm 0) s m args below meth c lay_c cA ad D A 7 Q 9 ls st M := by
  intro ls st M h
  have hex : ∃ n, qX1_dearestOpenByWise_9 (fun v1 v2 v4 M => bX1_dearestOpenByWise_9 n v1 v2 v4 M (fun r M => Q (some (.inl r)) M)) ls st M := by
    unfold qX1_dearestOpenByWise_9 at h
    split at h
    · obtain ⟨hb, h⟩ := mm_chk_e h
      cases (Nat.eq_of_beq_eq_true hb)
      obtain ⟨n, h⟩ := h
      exact ⟨n, h⟩
    · exact h.elim
  obtain ⟨n, hex⟩ := hex
  exact okX1_dearestOpenByWise_9 Z  n ls st M hex
theorem okX1_dearestOpenByWise : mm_Ok lay_c yX1_dearestOpenByWise cX1_dearestOpenByWise 7 (some .int) 0 fX1_dearestOpenByWise := by
  refine mm_enter (rt := 1) (by decide +kernel) rfl ?_
  intro p l e s m args below meth c cA ad D A as M Q h C0
  have Z : ZX1_dearestOpenByWise p l e s m args below meth c cA ad D A := ⟨C0, flRX1_ok, mm_vt_of (mm_fa0), mm_vt_of (mm_fa0), kX1_dearestOpenByWise_ok, mm_ctok_J ctRX1_ok⟩
  unfold fX1_dearestOpenByWise at h
  split at h
  · obtain ⟨hb, h⟩ := mm_chk_e h
    cases (Nat.eq_of_beq_eq_true hb)
    exact ⟨Nat.le_of_ble_eq_true rfl, mm_Zb Z 54 0 [(9, qX1_dearestOpenByWise_9 (fun v1 v2 v4 M => ∃ j, bX1_dearestOpenByWise_9 j v1 v2 v4 M (fun r M => Q (some (.inl r)) M)))] (mm_fa1 (fun ls st M h => okX1_dearestOpenByWise_9x Z  ls st M h) mm_fa0) h⟩
  · exact h.elim
def kJ9_min_f86c9 : List mm_E := [(0, false, .lload_n 0, []), (1, false, .lload_n 2, []), (2, false, .lcmp, []), (3, false, .ifCond .gt 7, [10]), (6, false, .lload_n 0, []), (7, false, .goto 4, [11]), (10, false, .lload_n 2, []), (11, false, .lreturn, [])]
set_option maxRecDepth 20000 in
theorem kJ9_min_f86c9_ok : mm_cok cJ9_min_f86c9 RJ9 (mm_ctt ctRJ9) kJ9_min_f86c9 := mm_c_of (k := false) ctRJ9_ok (by decide +kernel)
set_option maxRecDepth 20000 in
theorem wJ9_min_f86c9 : ∀ w ∈ ([.static yJ9_min_f86c9, .initialized RJ9, .code yJ9_min_f86c9 cJ9_min_f86c9 4 (some .long)] : List Cond), w ∈ mm_tbl := mm_sub_at _ [874, 113, 875] (by decide +kernel) (by decide +kernel)
def vtJ9_min_f86c9 : List (Nat × Nat × Nat × mm_F) := []
def smJ9_min_f86c9 : List (Nat × Nat × Nat × mm_F) := []
def ZJ9_min_f86c9 (p : Program) (l : Launch) (e : Env) (s : State) (m : MethodId) (args : Array Value) (below : List Frame) (meth : Method) (c : Code) (cA : Nat → ClassId) (ad : Nat → Nat) (D : va_G) (A : Nat → Prop) : Prop := mm_Z p l e (mm_rm 0) s m args below meth c lay_c cA ad D A RJ9 cJ9_min_f86c9 4 3 (mm_flt flRJ9) (mm_clt (vtJ9_min_f86c9)) (mm_clt (smJ9_min_f86c9)) (mm_ctt ctRJ9) kJ9_min_f86c9
theorem okJ9_min_f86c9 : mm_Ok lay_c yJ9_min_f86c9 cJ9_min_f86c9 4 (some .long) 0 fJ9_min_f86c9 := by
  refine mm_enterF (rt := 3) (by decide +kernel) rfl ?_
  intro p l e s m args below meth c cA ad D A as M Q h C0
  have Z : ZJ9_min_f86c9 p l e s m args below meth c cA ad D A := ⟨C0, flRJ9_ok, mm_vt_of (mm_fa0), mm_vt_of (mm_fa0), kJ9_min_f86c9_ok, mm_ctok_J ctRJ9_ok⟩
  unfold fJ9_min_f86c9 at h
  split at h
  · skip
    exact ⟨Nat.le_of_ble_eq_true rfl, mm_Zb Z 11 0 [] mm_fa0 h⟩
  · exact h.elim
def kX1_partLeaders : List mm_E := [(0, false, .aload_n 0, []), (1, false, .getfield 33, []), (4, false, .iconst 3, []), (5, false, .ldc2_w 95, []), (8, false, .aload_n 0, []), (9, false, .getfield 33, []), (12, false, .iconst 1, []), (13, false, .laload, []), (14, false, .lmul, []), (15, false, .lastore, []), (16, false, .aload_n 0, []), (17, false, .getfield 33, []), (20, false, .iconst 1, []), (21, false, .laload, []), (22, false, .aload_n 0, []), (23, false, .getfield 25, []), (26, false, .i2l, []), (27, false, .lmul, []), (28, false, .aload_n 0, []), (29, false, .getfield 21, []), (32, false, .i2l, []), (33, false, .lmul, []), (34, false, .lstore_n 1, []), (35, false, .iconst 0, []), (36, false, .istore_n 3, []), (37, true, .iload_n 3, []), (38, false, .aload_n 0, []), (39, false, .getfield 44, []), (42, false, .if_icmp .ge 16, [58]), (45, false, .aload_n 0, []), (46, false, .getfield 40, []), (49, false, .iload_n 3, []), (50, false, .iconst 1, []), (51, false, .bastore, []), (52, false, .iinc 3 1, []), (55, false, .goto (-18), [37]), (58, false, .iconst 0, []), (59, false, .istore_n 3, []), (60, true, .iload_n 3, []), (61, false, .aload_n 0, []), (62, false, .getfield 44, []), (65, false, .if_icmp .ge 58, [123]), (68, false, .aload_n 0, []), (69, false, .invokevirtual 97, []), (72, false, .istore 4, []), (74, false, .lload_n 1, []), (75, false, .ldc2_w 95, []), (78, false, .aload_n 0, []), (79, false, .getfield 30, []), (82, false, .iconst 1, []), (83, false, .aaload, []), (84, false, .iload 4, []), (86, false, .laload, []), (87, false, .lmul, []), (88, false, .invokestatic 101, []), (91, false, .lstore 5, []), (93, false, .aload_n 0, []), (94, false, .getfield 30, []), (97, false, .iconst 3, []), (98, false, .aaload, []), (99, false, .iload 4, []), (101, false, .lload 5, []), (103, false, .lastore, []), (104, false, .lload_n 1, []), (105, false, .lload 5, []), (107, false, .lsub, []), (108, false, .lstore_n 1, []), (109, false, .aload_n 0, []), (110, false, .getfield 40, []), (113, false, .iload 4, []), (115, false, .iconst 0, []), (116, false, .bastore, []), (117, false, .iinc 3 1, []), (120, false, .goto (-60), [60]), (123, false, .return_, [])]
set_option maxRecDepth 20000 in
theorem kX1_partLeaders_ok : mm_cok cX1_partLeaders RX1 (mm_ctt ctRX1) kX1_partLeaders := mm_c_of (k := false) ctRX1_ok (by decide +kernel)
set_option maxRecDepth 20000 in
theorem wX1_partLeaders : ∀ w ∈ ([.instanceMethod yX1_partLeaders, .selects RX1 yX1_partLeaders yX1_partLeaders, .initialized RX1, .code yX1_partLeaders cX1_partLeaders 7 none] : List Cond), w ∈ mm_tbl := mm_sub_at _ [865, 25, 111, 866] (by decide +kernel) (by decide +kernel)
def vtX1_partLeaders : List (Nat × Nat × Nat × mm_F) := [(97, 1, 1, fX1_dearestOpenByWise)]
def smX1_partLeaders : List (Nat × Nat × Nat × mm_F) := [(101, 0, 2, fJ9_min_f86c9)]
def ZX1_partLeaders (p : Program) (l : Launch) (e : Env) (s : State) (m : MethodId) (args : Array Value) (below : List Frame) (meth : Method) (c : Code) (cA : Nat → ClassId) (ad : Nat → Nat) (D : va_G) (A : Nat → Prop) : Prop := mm_Z p l e (mm_rm 1) s m args below meth c lay_c cA ad D A RX1 cX1_partLeaders 7 0 (mm_flt flRX1) (mm_clt (vtX1_partLeaders)) (mm_clt (smX1_partLeaders)) (mm_ctt ctRX1) kX1_partLeaders
def qX1_partLeaders_60 (P : Int → Int → mm_M → Prop) : mm_K := fun ls st M => match ls, st with
  | [some (.inr (.inr c0)), some (.inr (.inl v1)), none, some (.inl v3), _, _, none], [] => mm_chk (Nat.beq c0 125) (P v1 v3 M)
  | _, _ => False
def qX1_partLeaders_37 (P : Int → Int → mm_M → Prop) : mm_K := fun ls st M => match ls, st with
  | [some (.inr (.inr c0)), some (.inr (.inl v1)), none, some (.inl v3), none, none, none], [] => mm_chk (Nat.beq c0 125) (P v1 v3 M)
  | _, _ => False
theorem okX1_partLeaders_60 {p : Program} {l : Launch} {e : Env} {s : State} {m : MethodId} {args : Array Value} {below : List Frame} {meth : Method} {c : Code} {cA : Nat → ClassId} {ad : Nat → Nat} {D : va_G} {A : Nat → Prop} {Q : Option mm_V → mm_M → Prop} (Z : ZX1_partLeaders p l e s m args below meth c cA ad D A) : ∀ (n : Nat) ls st M, qX1_partLeaders_60 (fun v1 v3 M => bX1_partLeaders_60 n v1 v3 M (fun M => Q none M)) ls st M → mm_G p l e (mm_rm 1) s m args below meth c lay_c cA ad D A 7 Q 60 ls st M
  | 0, ls, st, M, h => by
    unfold qX1_partLeaders_60 at h
    split at h
    · obtain ⟨hb, h⟩ := mm_chk_e h
      cases (Nat.eq_of_beq_eq_true hb)
      exact h.elim
    · exact h.elim
  | n + 1, ls, st, M, h => by
    have ih := okX1_partLeaders_60 (Q := Q) Z  n
    unfold qX1_partLeaders_60 at h
    split at h
    · obtain ⟨hb, h⟩ := mm_chk_e h
      cases (Nat.eq_of_beq_eq_true hb)
      exact mm_Zb Z 78 60 [(60, qX1_partLeaders_60 (fun v1 v3 M => bX1_partLeaders_60 n v1 v3 M (fun M => Q none M)))] (mm_fa1 ih mm_fa0) h
    · exact h.elim
theorem okX1_partLeaders_60x {p : Program} {l : Launch} {e : Env} {s : State} {m : MethodId} {args : Array Value} {below : List Frame} {meth : Method} {c : Code} {cA : Nat → ClassId} {ad : Nat → Nat} {D : va_G} {A : Nat → Prop} {Q : Option mm_V → mm_M → Prop} (Z : ZX1_partLeaders p l e s m args below meth c cA ad D A) : ∀ ls st M, qX1_partLeaders_60 (fun v1 v3 M => ∃ j, bX1_partLeaders_60 j v1 v3 M (fun M => Q none M)) ls st M → mm_G p l e (mm_rm 1) s m args below meth c lay_c cA ad D A 7 Q 60 ls st M := by
  intro ls st M h
  have hex : ∃ n, qX1_partLeaders_60 (fun v1 v3 M => bX1_partLeaders_60 n v1 v3 M (fun M => Q none M)) ls st M := by
    unfold qX1_partLeaders_60 at h
    split at h
    · obtain ⟨hb, h⟩ := mm_chk_e h
      cases (Nat.eq_of_beq_eq_true hb)
      obtain ⟨n, h⟩ := h
      exact ⟨n, h⟩
    · exact h.elim
  obtain ⟨n, hex⟩ := hex
  exact okX1_partLeaders_60 Z  n ls st M hex
theorem okX1_partLeaders_37 {p : Program} {l : Launch} {e : Env} {s : State} {m : MethodId} {args : Array Value} {below : List Frame} {meth : Method} {c : Code} {cA : Nat → ClassId} {ad : Nat → Nat} {D : va_G} {A : Nat → Prop} {Q : Option mm_V → mm_M → Prop} (Z : ZX1_partLeaders p l e s m args below meth c cA ad D A) : ∀ (n : Nat) ls st M, qX1_partLeaders_37 (fun v1 v3 M => bX1_partLeaders_37 n v1 v3 M (fun M => Q none M)) ls st M → mm_G p l e (mm_rm 1) s m args below meth c lay_c cA ad D A 7 Q 37 ls st M
  | 0, ls, st, M, h => by
    unfold qX1_partLeaders_37 at h
    split at h
    · obtain ⟨hb, h⟩ := mm_chk_e h
      cases (Nat.eq_of_beq_eq_true hb)
      exact h.elim
    · exact h.elim
  | n + 1, ls, st, M, h => by
    have ih := okX1_partLeaders_37 (Q := Q) Z  n
    unfold qX1_partLeaders_37 at h
    split at h
    · obtain ⟨hb, h⟩ := mm_chk_e h
      cases (Nat.eq_of_beq_eq_true hb)
      exact mm_Zb Z 78 37 [(37, qX1_partLeaders_37 (fun v1 v3 M => bX1_partLeaders_37 n v1 v3 M (fun M => Q none M))), (60, qX1_partLeaders_60 (fun v1 v3 M => ∃ j, bX1_partLeaders_60 j v1 v3 M (fun M => Q none M)))] (mm_fa1 ih (mm_fa1 (fun ls st M h => okX1_partLeaders_60x Z  ls st M h) mm_fa0)) h
    · exact h.elim
theorem okX1_partLeaders_37x {p : Program} {l : Launch} {e : Env} {s : State} {m : MethodId} {args : Array Value} {below : List Frame} {meth : Method} {c : Code} {cA : Nat → ClassId} {ad : Nat → Nat} {D : va_G} {A : Nat → Prop} {Q : Option mm_V → mm_M → Prop} (Z : ZX1_partLeaders p l e s m args below meth c cA ad D A) : ∀ ls st M, qX1_partLeaders_37 (fun v1 v3 M => ∃ j, bX1_partLeaders_37 j v1 v3 M (fun M => Q none M)) ls st M → mm_G p l e (mm_rm 1) s m args below meth c lay_c cA ad D A 7 Q 37 ls st M := by
  intro ls st M h
  have hex : ∃ n, qX1_partLeaders_37 (fun v1 v3 M => bX1_partLeaders_37 n v1 v3 M (fun M => Q none M)) ls st M := by
    unfold qX1_partLeaders_37 at h
    split at h
    · obtain ⟨hb, h⟩ := mm_chk_e h
      cases (Nat.eq_of_beq_eq_true hb)
      obtain ⟨n, h⟩ := h
      exact ⟨n, h⟩
    · exact h.elim
  obtain ⟨n, hex⟩ := hex
  exact okX1_partLeaders_37 Z  n ls st M hex
theorem okX1_partLeaders : mm_Ok lay_c yX1_partLeaders cX1_partLeaders 7 none 1 fX1_partLeaders := by
  refine mm_enter (rt := 0) (by decide +kernel) rfl ?_
  intro p l e s m args below meth c cA ad D A as M Q h C0
  have Z : ZX1_partLeaders p l e s m args below meth c cA ad D A := ⟨C0, flRX1_ok, mm_vt_of (mm_fa1 (mm_coV (n := 0) (ci := 1) C0 okX1_dearestOpenByWise rfl rfl (mm_one_at (.methodLink RX1 97 yX1_dearestOpenByWise) 868 (by decide +kernel) rfl) (wX1_dearestOpenByWise _ (by simp)) (wX1_dearestOpenByWise _ (by simp [yX1_dearestOpenByWise])) (wX1_dearestOpenByWise _ (by simp [yX1_dearestOpenByWise])) (wX1_dearestOpenByWise _ (by simp)) (by decide +kernel) (by omega) (by omega)) (mm_fa0)), mm_vt_of (mm_fa1 (mm_coS (n := 2) C0 okJ9_min_f86c9 (mm_one_at (.methodLink RX1 101 yJ9_min_f86c9) 873 (by decide +kernel) rfl) (wJ9_min_f86c9 _ (by simp)) (wJ9_min_f86c9 _ (by simp [yJ9_min_f86c9])) (wJ9_min_f86c9 _ (by simp)) (by decide +kernel) (by omega) (by omega)) (mm_fa0)), kX1_partLeaders_ok, mm_ctok_J ctRX1_ok⟩
  unfold fX1_partLeaders at h
  split at h
  · obtain ⟨hb, h⟩ := mm_chk_e h
    cases (Nat.eq_of_beq_eq_true hb)
    exact ⟨Nat.le_of_ble_eq_true rfl, mm_Zb Z 78 0 [(37, qX1_partLeaders_37 (fun v1 v3 M => ∃ j, bX1_partLeaders_37 j v1 v3 M (fun M => Q none M)))] (mm_fa1 (fun ls st M h => okX1_partLeaders_37x Z  ls st M h) mm_fa0) h⟩
  · exact h.elim
def kX1_partLed : List mm_E := [(0, false, .aload_n 0, []), (1, false, .getfield 33, []), (4, false, .iconst 3, []), (5, false, .laload, []), (6, false, .lstore_n 1, []), (7, false, .iconst 0, []), (8, false, .istore_n 3, []), (9, true, .iload_n 3, []), (10, false, .aload_n 0, []), (11, false, .getfield 44, []), (14, false, .if_icmp .ge 41, [55]), (17, false, .aload_n 0, []), (18, false, .getfield 37, []), (21, false, .iload_n 3, []), (22, false, .aload_n 0, []), (23, false, .getfield 9, []), (26, false, .iload_n 3, []), (27, false, .iaload, []), (28, false, .i2l, []), (29, false, .lload_n 1, []), (30, false, .lmul, []), (31, false, .aload_n 0, []), (32, false, .getfield 15, []), (35, false, .iload_n 3, []), (36, false, .iaload, []), (37, false, .i2l, []), (38, false, .aload_n 0, []), (39, false, .getfield 30, []), (42, false, .iconst 3, []), (43, false, .aaload, []), (44, false, .iload_n 3, []), (45, false, .laload, []), (46, false, .lmul, []), (47, false, .ladd, []), (48, false, .lastore, []), (49, false, .iinc 3 1, []), (52, false, .goto (-43), [9]), (55, false, .aload_n 0, []), (56, false, .aload_n 0, []), (57, false, .getfield 30, []), (60, false, .iconst 2, []), (61, false, .aaload, []), (62, false, .aload_n 0, []), (63, false, .getfield 33, []), (66, false, .iconst 1, []), (67, false, .laload, []), (68, false, .bipush 10, []), (70, false, .aload_n 0, []), (71, false, .getfield 25, []), (74, false, .isub, []), (75, false, .i2l, []), (76, false, .lmul, []), (77, false, .aload_n 0, []), (78, false, .getfield 21, []), (81, false, .i2l, []), (82, false, .lmul, []), (83, false, .ldc2_w 66, []), (86, false, .invokevirtual 68, []), (89, false, .aload_n 0, []), (90, false, .getfield 33, []), (93, false, .iconst 2, []), (94, false, .ldc2_w 66, []), (97, false, .aload_n 0, []), (98, false, .getfield 72, []), (101, false, .lmul, []), (102, false, .lload_n 1, []), (103, false, .lmul, []), (104, false, .lastore, []), (105, false, .iconst 0, []), (106, false, .istore_n 3, []), (107, true, .iload_n 3, []), (108, false, .aload_n 0, []), (109, false, .getfield 44, []), (112, false, .if_icmp .ge 37, [149]), (115, false, .aload_n 0, []), (116, false, .getfield 30, []), (119, false, .iconst 2, []), (120, false, .aaload, []), (121, false, .iload_n 3, []), (122, false, .dup2, []), (123, false, .laload, []), (124, false, .ldc2_w 66, []), (127, false, .aload_n 0, []), (128, false, .getfield 72, []), (131, false, .lmul, []), (132, false, .aload_n 0, []), (133, false, .getfield 30, []), (136, false, .iconst 3, []), (137, false, .aaload, []), (138, false, .iload_n 3, []), (139, false, .laload, []), (140, false, .lmul, []), (141, false, .ladd, []), (142, false, .lastore, []), (143, false, .iinc 3 1, []), (146, false, .goto (-39), [107]), (149, false, .return_, [])]
set_option maxRecDepth 20000 in
theorem kX1_partLed_ok : mm_cok cX1_partLed RX1 (mm_ctt ctRX1) kX1_partLed := mm_c_of (k := false) ctRX1_ok (by decide +kernel)
set_option maxRecDepth 20000 in
theorem wX1_partLed : ∀ w ∈ ([.instanceMethod yX1_partLed, .selects RX1 yX1_partLed yX1_partLed, .initialized RX1, .code yX1_partLed cX1_partLed 4 none] : List Cond), w ∈ mm_tbl := mm_sub_at _ [878, 27, 111, 879] (by decide +kernel) (by decide +kernel)
def vtX1_partLed : List (Nat × Nat × Nat × mm_F) := [(68, 1, 4, fX1_pour)]
def smX1_partLed : List (Nat × Nat × Nat × mm_F) := []
def ZX1_partLed (p : Program) (l : Launch) (e : Env) (s : State) (m : MethodId) (args : Array Value) (below : List Frame) (meth : Method) (c : Code) (cA : Nat → ClassId) (ad : Nat → Nat) (D : va_G) (A : Nat → Prop) : Prop := mm_Z p l e (mm_rm 2) s m args below meth c lay_c cA ad D A RX1 cX1_partLed 4 0 (mm_flt flRX1) (mm_clt (vtX1_partLed)) (mm_clt (smX1_partLed)) (mm_ctt ctRX1) kX1_partLed
def qX1_partLed_107 (P : Int → mm_M → Prop) : mm_K := fun ls st M => match ls, st with
  | [some (.inr (.inr c0)), _, none, some (.inl v3)], [] => mm_chk (Nat.beq c0 125) (P v3 M)
  | _, _ => False
def qX1_partLed_9 (P : Int → Int → mm_M → Prop) : mm_K := fun ls st M => match ls, st with
  | [some (.inr (.inr c0)), some (.inr (.inl v1)), none, some (.inl v3)], [] => mm_chk (Nat.beq c0 125) (P v1 v3 M)
  | _, _ => False
set_option maxRecDepth 100000 in
theorem okX1_partLed_107 {p : Program} {l : Launch} {e : Env} {s : State} {m : MethodId} {args : Array Value} {below : List Frame} {meth : Method} {c : Code} {cA : Nat → ClassId} {ad : Nat → Nat} {D : va_G} {A : Nat → Prop} {Q : Option mm_V → mm_M → Prop} (Z : ZX1_partLed p l e s m args below meth c cA ad D A) : ∀ (n : Nat) ls st M, qX1_partLed_107 (fun v3 M => bX1_partLed_107 n v3 M (fun M => Q none M)) ls st M → mm_G p l e (mm_rm 2) s m args below meth c lay_c cA ad D A 4 Q 107 ls st M
  | 0, ls, st, M, h => by
    unfold qX1_partLed_107 at h
    split at h
    · obtain ⟨hb, h⟩ := mm_chk_e h
      cases (Nat.eq_of_beq_eq_true hb)
      exact h.elim
    · exact h.elim
  | n + 1, ls, st, M, h => by
    have ih := okX1_partLed_107 (Q := Q) Z  n
    unfold qX1_partLed_107 at h
    split at h
    · obtain ⟨hb, h⟩ := mm_chk_e h
      cases (Nat.eq_of_beq_eq_true hb)
      exact mm_Zb Z 100 107 [(107, qX1_partLed_107 (fun v3 M => bX1_partLed_107 n v3 M (fun M => Q none M)))] (mm_fa1 ih mm_fa0) h
    · exact h.elim
set_option maxRecDepth 100000 in
theorem okX1_partLed_107x {p : Program} {l : Launch} {e : Env} {s : State} {m : MethodId} {args : Array Value} {below : List Frame} {meth : Method} {c : Code} {cA : Nat → ClassId} {ad : Nat → Nat} {D : va_G} {A : Nat → Prop} {Q : Option mm_V → mm_M → Prop} (Z : ZX1_partLed p l e s m args below meth c cA ad D A) : ∀ ls st M, qX1_partLed_107 (fun v3 M => ∃ j, bX1_partLed_107 j v3 M (fun M => Q none M)) ls st M → mm_G p l e (mm_rm 2) s m args below meth c lay_c cA ad D A 4 Q 107 ls st M := by
  intro ls st M h
  have hex : ∃ n, qX1_partLed_107 (fun v3 M => bX1_partLed_107 n v3 M (fun M => Q none M)) ls st M := by
    unfold qX1_partLed_107 at h
    split at h
    · obtain ⟨hb, h⟩ := mm_chk_e h
      cases (Nat.eq_of_beq_eq_true hb)
      obtain ⟨n, h⟩ := h
      exact ⟨n, h⟩
    · exact h.elim
  obtain ⟨n, hex⟩ := hex
  exact okX1_partLed_107 Z  n ls st M hex
set_option maxRecDepth 100000 in
theorem okX1_partLed_9 {p : Program} {l : Launch} {e : Env} {s : State} {m : MethodId} {args : Array Value} {below : List Frame} {meth : Method} {c : Code} {cA : Nat → ClassId} {ad : Nat → Nat} {D : va_G} {A : Nat → Prop} {Q : Option mm_V → mm_M → Prop} (Z : ZX1_partLed p l e s m args below meth c cA ad D A) : ∀ (n : Nat) ls st M, qX1_partLed_9 (fun v1 v3 M => bX1_partLed_9 n v1 v3 M (fun M => Q none M)) ls st M → mm_G p l e (mm_rm 2) s m args below meth c lay_c cA ad D A 4 Q 9 ls st M
  | 0, ls, st, M, h => by
    unfold qX1_partLed_9 at h
    split at h
    · obtain ⟨hb, h⟩ := mm_chk_e h
      cases (Nat.eq_of_beq_eq_true hb)
      exact h.elim
    · exact h.elim
  | n + 1, ls, st, M, h => by
    have ih := okX1_partLed_9 (Q := Q) Z  n
    unfold qX1_partLed_9 at h
    split at h
    · obtain ⟨hb, h⟩ := mm_chk_e h
      cases (Nat.eq_of_beq_eq_true hb)
      exact mm_Zb Z 100 9 [(9, qX1_partLed_9 (fun v1 v3 M => bX1_partLed_9 n v1 v3 M (fun M => Q none M))), (107, qX1_partLed_107 (fun v3 M => ∃ j, bX1_partLed_107 j v3 M (fun M => Q none M)))] (mm_fa1 ih (mm_fa1 (fun ls st M h => okX1_partLed_107x Z  ls st M h) mm_fa0)) h
    · exact h.elim
set_option maxRecDepth 100000 in
theorem okX1_partLed_9x {p : Program} {l : Launch} {e : Env} {s : State} {m : MethodId} {args : Array Value} {below : List Frame} {meth : Method} {c : Code} {cA : Nat → ClassId} {ad : Nat → Nat} {D : va_G} {A : Nat → Prop} {Q : Option mm_V → mm_M → Prop} (Z : ZX1_partLed p l e s m args below meth c cA ad D A) : ∀ ls st M, qX1_partLed_9 (fun v1 v3 M => ∃ j, bX1_partLed_9 j v1 v3 M (fun M => Q none M)) ls st M → mm_G p l e (mm_rm 2) s m args below meth c lay_c cA ad D A 4 Q 9 ls st M := by
  intro ls st M h
  have hex : ∃ n, qX1_partLed_9 (fun v1 v3 M => bX1_partLed_9 n v1 v3 M (fun M => Q none M)) ls st M := by
    unfold qX1_partLed_9 at h
    split at h
    · obtain ⟨hb, h⟩ := mm_chk_e h
      cases (Nat.eq_of_beq_eq_true hb)
      obtain ⟨n, h⟩ := h
      exact ⟨n, h⟩
    · exact h.elim
  obtain ⟨n, hex⟩ := hex
  exact okX1_partLed_9 Z  n ls st M hex
set_option maxRecDepth 100000 in
theorem okX1_partLed : mm_Ok lay_c yX1_partLed cX1_partLed 4 none 2 fX1_partLed := by
  refine mm_enter (rt := 0) (by decide +kernel) rfl ?_
  intro p l e s m args below meth c cA ad D A as M Q h C0
  have Z : ZX1_partLed p l e s m args below meth c cA ad D A := ⟨C0, flRX1_ok, mm_vt_of (mm_fa1 (mm_coV (n := 3) (ci := 1) C0 okX1_pour rfl rfl (mm_one_at (.methodLink RX1 68 yX1_pour) 846 (by decide +kernel) rfl) (wX1_pour _ (by simp)) (wX1_pour _ (by simp [yX1_pour])) (wX1_pour _ (by simp [yX1_pour])) (wX1_pour _ (by simp)) (by decide +kernel) (by omega) (by omega)) (mm_fa0)), mm_vt_of (mm_fa0), kX1_partLed_ok, mm_ctok_J ctRX1_ok⟩
  unfold fX1_partLed at h
  split at h
  · obtain ⟨hb, h⟩ := mm_chk_e h
    cases (Nat.eq_of_beq_eq_true hb)
    exact ⟨Nat.le_of_ble_eq_true rfl, mm_Zb Z 100 0 [(9, qX1_partLed_9 (fun v1 v3 M => ∃ j, bX1_partLed_9 j v1 v3 M (fun M => Q none M)))] (mm_fa1 (fun ls st M h => okX1_partLed_9x Z  ls st M h) mm_fa0) h⟩
  · exact h.elim
def kX1_partAll : List mm_E := [(0, false, .aload_n 0, []), (1, false, .getfield 47, []), (4, false, .ifCond .ne 10, [14]), (7, false, .aload_n 0, []), (8, false, .getfield 44, []), (11, false, .ifCond .ne 4, [15]), (14, false, .return_, []), (15, false, .aload_n 0, []), (16, false, .invokevirtual 51, []), (19, false, .aload_n 0, []), (20, false, .invokevirtual 54, []), (23, false, .aload_n 0, []), (24, false, .invokevirtual 57, []), (27, false, .aload_n 0, []), (28, false, .invokevirtual 60, []), (31, false, .aload_n 0, []), (32, false, .invokevirtual 63, []), (35, false, .aload_n 0, []), (36, false, .iconst 1, []), (37, false, .putfield 47, []), (40, false, .return_, [])]
set_option maxRecDepth 20000 in
theorem kX1_partAll_ok : mm_cok cX1_partAll RX1 (mm_ctt ctRX1) kX1_partAll := mm_c_of (k := false) ctRX1_ok (by decide +kernel)
set_option maxRecDepth 20000 in
theorem wX1_partAll : ∀ w ∈ ([.instanceMethod yX1_partAll, .selects RX1 yX1_partAll yX1_partAll, .initialized RX1, .code yX1_partAll cX1_partAll 1 none] : List Cond), w ∈ mm_tbl := mm_sub_at _ [834, 835, 111, 836] (by decide +kernel) (by decide +kernel)
def vtX1_partAll : List (Nat × Nat × Nat × mm_F) := [(51, 1, 1, fX1_layGround), (54, 1, 1, fX1_partEven), (57, 1, 1, fX1_partWise), (60, 1, 1, fX1_partLeaders), (63, 1, 1, fX1_partLed)]
def smX1_partAll : List (Nat × Nat × Nat × mm_F) := []
def ZX1_partAll (p : Program) (l : Launch) (e : Env) (s : State) (m : MethodId) (args : Array Value) (below : List Frame) (meth : Method) (c : Code) (cA : Nat → ClassId) (ad : Nat → Nat) (D : va_G) (A : Nat → Prop) : Prop := mm_Z p l e (mm_rm 3) s m args below meth c lay_c cA ad D A RX1 cX1_partAll 1 0 (mm_flt flRX1) (mm_clt (vtX1_partAll)) (mm_clt (smX1_partAll)) (mm_ctt ctRX1) kX1_partAll
theorem okX1_partAll : mm_Ok lay_c yX1_partAll cX1_partAll 1 none 3 fX1_partAll := by
  refine mm_enter (rt := 0) (by decide +kernel) rfl ?_
  intro p l e s m args below meth c cA ad D A as M Q h C0
  have Z : ZX1_partAll p l e s m args below meth c cA ad D A := ⟨C0, flRX1_ok, mm_vt_of (mm_fa1 (mm_coV (n := 0) (ci := 1) C0 okX1_layGround rfl rfl (mm_one_at (.methodLink RX1 51 yX1_layGround) 837 (by decide +kernel) rfl) (wX1_layGround _ (by simp)) (wX1_layGround _ (by simp [yX1_layGround])) (wX1_layGround _ (by simp [yX1_layGround])) (wX1_layGround _ (by simp)) (by decide +kernel) (by omega) (by omega)) (mm_fa1 (mm_coV (n := 0) (ci := 1) C0 okX1_partEven rfl rfl (mm_one_at (.methodLink RX1 54 yX1_partEven) 841 (by decide +kernel) rfl) (wX1_partEven _ (by simp)) (wX1_partEven _ (by simp [yX1_partEven])) (wX1_partEven _ (by simp [yX1_partEven])) (wX1_partEven _ (by simp)) (by decide +kernel) (by omega) (by omega)) (mm_fa1 (mm_coV (n := 0) (ci := 1) C0 okX1_partWise rfl rfl (mm_one_at (.methodLink RX1 57 yX1_partWise) 858 (by decide +kernel) rfl) (wX1_partWise _ (by simp)) (wX1_partWise _ (by simp [yX1_partWise])) (wX1_partWise _ (by simp [yX1_partWise])) (wX1_partWise _ (by simp)) (by decide +kernel) (by omega) (by omega)) (mm_fa1 (mm_coV (n := 0) (ci := 1) C0 okX1_partLeaders rfl rfl (mm_one_at (.methodLink RX1 60 yX1_partLeaders) 863 (by decide +kernel) rfl) (wX1_partLeaders _ (by simp)) (wX1_partLeaders _ (by simp [yX1_partLeaders])) (wX1_partLeaders _ (by simp [yX1_partLeaders])) (wX1_partLeaders _ (by simp)) (by decide +kernel) (by omega) (by omega)) (mm_fa1 (mm_coV (n := 0) (ci := 1) C0 okX1_partLed rfl rfl (mm_one_at (.methodLink RX1 63 yX1_partLed) 876 (by decide +kernel) rfl) (wX1_partLed _ (by simp)) (wX1_partLed _ (by simp [yX1_partLed])) (wX1_partLed _ (by simp [yX1_partLed])) (wX1_partLed _ (by simp)) (by decide +kernel) (by omega) (by omega)) (mm_fa0)))))), mm_vt_of (mm_fa0), kX1_partAll_ok, mm_ctok_J ctRX1_ok⟩
  unfold fX1_partAll at h
  split at h
  · obtain ⟨hb, h⟩ := mm_chk_e h
    cases (Nat.eq_of_beq_eq_true hb)
    exact ⟨Nat.le_of_ble_eq_true rfl, mm_Zb Z 24 0 [] mm_fa0 h⟩
  · exact h.elim
def kX1_thousandths : List mm_E := [(0, false, .aload_n 0, []), (1, false, .getfield 33, []), (4, false, .iload_n 1, []), (5, false, .laload, []), (6, false, .lstore_n 2, []), (7, false, .lconst 0, []), (8, false, .lstore 4, []), (10, false, .iconst 0, []), (11, false, .istore 6, []), (13, true, .iload 6, []), (15, false, .aload_n 0, []), (16, false, .getfield 44, []), (19, false, .if_icmp .ge 50, [69]), (22, false, .aload_n 0, []), (23, false, .getfield 30, []), (26, false, .iload_n 1, []), (27, false, .aaload, []), (28, false, .iload 6, []), (30, false, .laload, []), (31, false, .lstore 7, []), (33, false, .lload 4, []), (35, false, .lload 7, []), (37, false, .aload_n 0, []), (38, false, .getfield 9, []), (41, false, .iload 6, []), (43, false, .iaload, []), (44, false, .i2l, []), (45, false, .lload_n 2, []), (46, false, .lmul, []), (47, false, .aload_n 0, []), (48, false, .getfield 15, []), (51, false, .iload 6, []), (53, false, .iaload, []), (54, false, .i2l, []), (55, false, .lload 7, []), (57, false, .lmul, []), (58, false, .ladd, []), (59, false, .lmul, []), (60, false, .ladd, []), (61, false, .lstore 4, []), (63, false, .iinc 6 1, []), (66, false, .goto (-53), [13]), (69, false, .lload_n 2, []), (70, false, .lconst 0, []), (71, false, .lcmp, []), (72, false, .ifCond .ne 7, [79]), (75, false, .lconst 0, []), (76, false, .goto 13, [89]), (79, false, .ldc2_w 109, []), (82, false, .lload 4, []), (84, false, .lmul, []), (85, false, .lload_n 2, []), (86, false, .lload_n 2, []), (87, false, .lmul, []), (88, false, .ldiv, []), (89, false, .lreturn, [])]
set_option maxRecDepth 20000 in
theorem kX1_thousandths_ok : mm_cok cX1_thousandths RX1 (mm_ctt ctRX1) kX1_thousandths := mm_c_of (k := false) ctRX1_ok (by decide +kernel)
set_option maxRecDepth 20000 in
theorem wX1_thousandths : ∀ w ∈ ([.instanceMethod yX1_thousandths, .selects RX1 yX1_thousandths yX1_thousandths, .initialized RX1, .code yX1_thousandths cX1_thousandths 9 (some .long)] : List Cond), w ∈ mm_tbl := mm_sub_at _ [889, 890, 111, 891] (by decide +kernel) (by decide +kernel)
def vtX1_thousandths : List (Nat × Nat × Nat × mm_F) := []
def smX1_thousandths : List (Nat × Nat × Nat × mm_F) := []
def ZX1_thousandths (p : Program) (l : Launch) (e : Env) (s : State) (m : MethodId) (args : Array Value) (below : List Frame) (meth : Method) (c : Code) (cA : Nat → ClassId) (ad : Nat → Nat) (D : va_G) (A : Nat → Prop) : Prop := mm_Z p l e (mm_rm 0) s m args below meth c lay_c cA ad D A RX1 cX1_thousandths 9 3 (mm_flt flRX1) (mm_clt (vtX1_thousandths)) (mm_clt (smX1_thousandths)) (mm_ctt ctRX1) kX1_thousandths
def qX1_thousandths_13 (P : Int → Int → Int → Int → mm_M → Prop) : mm_K := fun ls st M => match ls, st with
  | [some (.inr (.inr c0)), some (.inl v1), some (.inr (.inl v2)), none, some (.inr (.inl v4)), none, some (.inl v6), _, none], [] => mm_chk (Nat.beq c0 125) (P v1 v2 v4 v6 M)
  | _, _ => False
theorem okX1_thousandths_13 {p : Program} {l : Launch} {e : Env} {s : State} {m : MethodId} {args : Array Value} {below : List Frame} {meth : Method} {c : Code} {cA : Nat → ClassId} {ad : Nat → Nat} {D : va_G} {A : Nat → Prop} {Q : Option mm_V → mm_M → Prop} (Z : ZX1_thousandths p l e s m args below meth c cA ad D A) : ∀ (n : Nat) ls st M, qX1_thousandths_13 (fun v1 v2 v4 v6 M => bX1_thousandths_13 n v1 v2 v4 v6 M (fun r M => Q (some (.inr (.inl r))) M)) ls st M → mm_G p l e (mm_rm 0) s m args below meth c lay_c cA ad D A 9 Q 13 ls st M
  | 0, ls, st, M, h => by
    unfold qX1_thousandths_13 at h
    split at h
    · obtain ⟨hb, h⟩ := mm_chk_e h
      cases (Nat.eq_of_beq_eq_true hb)
      exact h.elim
    · exact h.elim
  | n + 1, ls, st, M, h => by
    have ih := okX1_thousandths_13 (Q := Q) Z  n
    unfold qX1_thousandths_13 at h
    split at h
    · obtain ⟨hb, h⟩ := mm_chk_e h
      cases (Nat.eq_of_beq_eq_true hb)
      exact mm_Zb Z 59 13 [(13, qX1_thousandths_13 (fun v1 v2 v4 v6 M => bX1_thousandths_13 n v1 v2 v4 v6 M (fun r M => Q (some (.inr (.inl r))) M)))] (mm_fa1 ih mm_fa0) h
    · exact h.elim
theorem okX1_thousandths_13x {p : Program} {l : Launch} {e : Env} {s : State} {m : MethodId} {args : Array Value} {below : List Frame} {meth : Method} {c : Code} {cA : Nat → ClassId} {ad : Nat → Nat} {D : va_G} {A : Nat → Prop} {Q : Option mm_V → mm_M → Prop} (Z : ZX1_thousandths p l e s m args below meth c cA ad D A) : ∀ ls st M, qX1_thousandths_13 (fun v1 v2 v4 v6 M => ∃ j, bX1_thousandths_13 j v1 v2 v4 v6 M (fun r M => Q (some (.inr (.inl r))) M)) ls st M → mm_G p l e (mm_rm 0) s m args below meth c lay_c cA ad D A 9 Q 13 ls st M := by
  intro ls st M h
  have hex : ∃ n, qX1_thousandths_13 (fun v1 v2 v4 v6 M => bX1_thousandths_13 n v1 v2 v4 v6 M (fun r M => Q (some (.inr (.inl r))) M)) ls st M := by
    unfold qX1_thousandths_13 at h
    split at h
    · obtain ⟨hb, h⟩ := mm_chk_e h
      cases (Nat.eq_of_beq_eq_true hb)
      obtain ⟨n, h⟩ := h
      exact ⟨n, h⟩
    · exact h.elim
  obtain ⟨n, hex⟩ := hex
  exact okX1_thousandths_13 Z  n ls st M hex
theorem okX1_thousandths : mm_Ok lay_c yX1_thousandths cX1_thousandths 9 (some .long) 0 fX1_thousandths := by
  refine mm_enter (rt := 3) (by decide +kernel) rfl ?_
  intro p l e s m args below meth c cA ad D A as M Q h C0
  have Z : ZX1_thousandths p l e s m args below meth c cA ad D A := ⟨C0, flRX1_ok, mm_vt_of (mm_fa0), mm_vt_of (mm_fa0), kX1_thousandths_ok, mm_ctok_J ctRX1_ok⟩
  unfold fX1_thousandths at h
  split at h
  · obtain ⟨hb, h⟩ := mm_chk_e h
    cases (Nat.eq_of_beq_eq_true hb)
    exact ⟨Nat.le_of_ble_eq_true rfl, mm_Zb Z 59 0 [(13, qX1_thousandths_13 (fun v1 v2 v4 v6 M => ∃ j, bX1_thousandths_13 j v1 v2 v4 v6 M (fun r M => Q (some (.inr (.inl r))) M)))] (mm_fa1 (fun ls st M h => okX1_thousandths_13x Z  ls st M h) mm_fa0) h⟩
  · exact h.elim
def kX2_becomeLike : List mm_E := [(0, false, .aload_n 0, []), (1, false, .aload_n 1, []), (2, false, .getfield 27, []), (5, false, .putfield 27, []), (8, false, .aload_n 0, []), (9, false, .aload_n 1, []), (10, false, .getfield 31, []), (13, false, .putfield 31, []), (16, false, .iconst 0, []), (17, false, .istore_n 2, []), (18, true, .iload_n 2, []), (19, false, .aload_n 0, []), (20, false, .getfield 31, []), (23, false, .if_icmp .ge 64, [87]), (26, false, .aload_n 0, []), (27, false, .getfield 9, []), (30, false, .iload_n 2, []), (31, false, .aload_n 1, []), (32, false, .getfield 9, []), (35, false, .iload_n 2, []), (36, false, .iaload, []), (37, false, .iastore, []), (38, false, .aload_n 0, []), (39, false, .getfield 15, []), (42, false, .iload_n 2, []), (43, false, .aload_n 1, []), (44, false, .getfield 15, []), (47, false, .iload_n 2, []), (48, false, .iaload, []), (49, false, .iastore, []), (50, false, .aload_n 0, []), (51, false, .getfield 18, []), (54, false, .iload_n 2, []), (55, false, .aload_n 1, []), (56, false, .getfield 18, []), (59, false, .iload_n 2, []), (60, false, .iaload, []), (61, false, .iastore, []), (62, false, .aload_n 0, []), (63, false, .getfield 21, []), (66, false, .iload_n 2, []), (67, false, .aload_n 1, []), (68, false, .getfield 21, []), (71, false, .iload_n 2, []), (72, false, .iaload, []), (73, false, .iastore, []), (74, false, .aload_n 0, []), (75, false, .getfield 24, []), (78, false, .iload_n 2, []), (79, false, .iconst 0, []), (80, false, .iastore, []), (81, false, .iinc 2 1, []), (84, false, .goto (-66), [18]), (87, false, .return_, [])]
set_option maxRecDepth 20000 in
theorem kX2_becomeLike_ok : mm_cok cX2_becomeLike RX2 (mm_ctt ctRX2) kX2_becomeLike := mm_c_of (k := false) ctRX2_ok (by decide +kernel)
set_option maxRecDepth 20000 in
theorem wX2_becomeLike : ∀ w ∈ ([.instanceMethod yX2_becomeLike, .selects RX2 yX2_becomeLike yX2_becomeLike, .initialized RX2, .code yX2_becomeLike cX2_becomeLike 3 none] : List Cond), w ∈ mm_tbl := mm_sub_at _ [532, 533, 106, 534] (by decide +kernel) (by decide +kernel)
def vtX2_becomeLike : List (Nat × Nat × Nat × mm_F) := []
def smX2_becomeLike : List (Nat × Nat × Nat × mm_F) := []
def ZX2_becomeLike (p : Program) (l : Launch) (e : Env) (s : State) (m : MethodId) (args : Array Value) (below : List Frame) (meth : Method) (c : Code) (cA : Nat → ClassId) (ad : Nat → Nat) (D : va_G) (A : Nat → Prop) : Prop := mm_Z p l e (mm_rm 0) s m args below meth c lay_c cA ad D A RX2 cX2_becomeLike 3 0 (mm_flt flRX2) (mm_clt (vtX2_becomeLike)) (mm_clt (smX2_becomeLike)) (mm_ctt ctRX2) kX2_becomeLike
def qX2_becomeLike_18 (P : Int → mm_M → Prop) : mm_K := fun ls st M => match ls, st with
  | [some (.inr (.inr c0)), some (.inr (.inr c1)), some (.inl v2)], [] => mm_chk (Nat.beq c0 10 && Nat.beq c1 3) (P v2 M)
  | _, _ => False
theorem okX2_becomeLike_18 {p : Program} {l : Launch} {e : Env} {s : State} {m : MethodId} {args : Array Value} {below : List Frame} {meth : Method} {c : Code} {cA : Nat → ClassId} {ad : Nat → Nat} {D : va_G} {A : Nat → Prop} {Q : Option mm_V → mm_M → Prop} (Z : ZX2_becomeLike p l e s m args below meth c cA ad D A) : ∀ (n : Nat) ls st M, qX2_becomeLike_18 (fun v2 M => bX2_becomeLike_18 n v2 M (fun M => Q none M)) ls st M → mm_G p l e (mm_rm 0) s m args below meth c lay_c cA ad D A 3 Q 18 ls st M
  | 0, ls, st, M, h => by
    unfold qX2_becomeLike_18 at h
    split at h
    · obtain ⟨hb, h⟩ := mm_chk_e h
      simp only [Bool.and_eq_true] at hb
      obtain ⟨x0, x1⟩ := hb
      cases (Nat.eq_of_beq_eq_true x0)
      cases (Nat.eq_of_beq_eq_true x1)
      exact h.elim
    · exact h.elim
  | n + 1, ls, st, M, h => by
    have ih := okX2_becomeLike_18 (Q := Q) Z  n
    unfold qX2_becomeLike_18 at h
    split at h
    · obtain ⟨hb, h⟩ := mm_chk_e h
      simp only [Bool.and_eq_true] at hb
      obtain ⟨x0, x1⟩ := hb
      cases (Nat.eq_of_beq_eq_true x0)
      cases (Nat.eq_of_beq_eq_true x1)
      exact mm_Zb Z 57 18 [(18, qX2_becomeLike_18 (fun v2 M => bX2_becomeLike_18 n v2 M (fun M => Q none M)))] (mm_fa1 ih mm_fa0) h
    · exact h.elim
theorem okX2_becomeLike_18x {p : Program} {l : Launch} {e : Env} {s : State} {m : MethodId} {args : Array Value} {below : List Frame} {meth : Method} {c : Code} {cA : Nat → ClassId} {ad : Nat → Nat} {D : va_G} {A : Nat → Prop} {Q : Option mm_V → mm_M → Prop} (Z : ZX2_becomeLike p l e s m args below meth c cA ad D A) : ∀ ls st M, qX2_becomeLike_18 (fun v2 M => ∃ j, bX2_becomeLike_18 j v2 M (fun M => Q none M)) ls st M → mm_G p l e (mm_rm 0) s m args below meth c lay_c cA ad D A 3 Q 18 ls st M := by
  intro ls st M h
  have hex : ∃ n, qX2_becomeLike_18 (fun v2 M => bX2_becomeLike_18 n v2 M (fun M => Q none M)) ls st M := by
    unfold qX2_becomeLike_18 at h
    split at h
    · obtain ⟨hb, h⟩ := mm_chk_e h
      simp only [Bool.and_eq_true] at hb
      obtain ⟨x0, x1⟩ := hb
      cases (Nat.eq_of_beq_eq_true x0)
      cases (Nat.eq_of_beq_eq_true x1)
      obtain ⟨n, h⟩ := h
      exact ⟨n, h⟩
    · exact h.elim
  obtain ⟨n, hex⟩ := hex
  exact okX2_becomeLike_18 Z  n ls st M hex
theorem okX2_becomeLike : mm_Ok lay_c yX2_becomeLike cX2_becomeLike 3 none 0 fX2_becomeLike := by
  refine mm_enter (rt := 0) (by decide +kernel) rfl ?_
  intro p l e s m args below meth c cA ad D A as M Q h C0
  have Z : ZX2_becomeLike p l e s m args below meth c cA ad D A := ⟨C0, flRX2_ok, mm_vt_of (mm_fa0), mm_vt_of (mm_fa0), kX2_becomeLike_ok, mm_ctok_J ctRX2_ok⟩
  unfold fX2_becomeLike at h
  split at h
  · obtain ⟨hb, h⟩ := mm_chk_e h
    simp only [Bool.and_eq_true] at hb
    obtain ⟨x0, x1⟩ := hb
    cases (Nat.eq_of_beq_eq_true x0)
    cases (Nat.eq_of_beq_eq_true x1)
    exact ⟨Nat.le_of_ble_eq_true rfl, mm_Zb Z 57 0 [(18, qX2_becomeLike_18 (fun v2 M => ∃ j, bX2_becomeLike_18 j v2 M (fun M => Q none M)))] (mm_fa1 (fun ls st M h => okX2_becomeLike_18x Z  ls st M h) mm_fa0) h⟩
  · exact h.elim
def kX7_within : List mm_E := [(0, false, .iload_n 0, []), (1, false, .iload_n 1, []), (2, false, .if_icmp .lt 12, [14]), (5, false, .iload_n 0, []), (6, false, .iload_n 2, []), (7, false, .if_icmp .gt 7, [14]), (10, false, .iconst 1, []), (11, false, .goto 4, [15]), (14, false, .iconst 0, []), (15, false, .ireturn, [])]
set_option maxRecDepth 20000 in
theorem kX7_within_ok : mm_cok cX7_within RX7 (mm_ctt ctRX7) kX7_within := mm_c_of (k := false) ctRX7_ok (by decide +kernel)
set_option maxRecDepth 20000 in
theorem wX7_within : ∀ w ∈ ([.static yX7_within, .initialized RX7, .code yX7_within cX7_within 3 (some .boolean)] : List Cond), w ∈ mm_tbl := mm_sub_at _ [476, 104, 477] (by decide +kernel) (by decide +kernel)
def vtX7_within : List (Nat × Nat × Nat × mm_F) := []
def smX7_within : List (Nat × Nat × Nat × mm_F) := []
def ZX7_within (p : Program) (l : Launch) (e : Env) (s : State) (m : MethodId) (args : Array Value) (below : List Frame) (meth : Method) (c : Code) (cA : Nat → ClassId) (ad : Nat → Nat) (D : va_G) (A : Nat → Prop) : Prop := mm_Z p l e (mm_rm 0) s m args below meth c lay_c cA ad D A RX7 cX7_within 3 2 (mm_flt flRX7) (mm_clt (vtX7_within)) (mm_clt (smX7_within)) (mm_ctt ctRX7) kX7_within
theorem okX7_within : mm_Ok lay_c yX7_within cX7_within 3 (some .boolean) 0 fX7_within := by
  refine mm_enter (rt := 2) (by decide +kernel) rfl ?_
  intro p l e s m args below meth c cA ad D A as M Q h C0
  have Z : ZX7_within p l e s m args below meth c cA ad D A := ⟨C0, flRX7_ok, mm_vt_of (mm_fa0), mm_vt_of (mm_fa0), kX7_within_ok, mm_ctok_J ctRX7_ok⟩
  unfold fX7_within at h
  split at h
  · skip
    exact ⟨Nat.le_of_ble_eq_true rfl, mm_Zb Z 13 0 [] mm_fa0 h⟩
  · exact h.elim
def kX3_readNodes : List mm_E := [(0, false, .iload_n 1, []), (1, false, .iconst 2, []), (2, false, .bipush 6, []), (4, false, .invokestatic 39, []), (7, false, .ifCond .ne 5, [12]), (10, false, .iconst (-1), []), (11, false, .ireturn, []), (12, false, .aload_n 0, []), (13, false, .getfield 18, []), (16, false, .iload_n 1, []), (17, false, .putfield 26, []), (20, false, .iconst 1, []), (21, false, .ireturn, [])]
set_option maxRecDepth 20000 in
theorem kX3_readNodes_ok : mm_cok cX3_readNodes RX3 (mm_ctt ctRX3) kX3_readNodes := mm_c_of (k := false) ctRX3_ok (by decide +kernel)
set_option maxRecDepth 20000 in
theorem wX3_readNodes : ∀ w ∈ ([.instanceMethod yX3_readNodes, .selects RX3 yX3_readNodes yX3_readNodes, .initialized RX3, .code yX3_readNodes cX3_readNodes 2 (some .int)] : List Cond), w ∈ mm_tbl := mm_sub_at _ [497, 1, 105, 498] (by decide +kernel) (by decide +kernel)
def vtX3_readNodes : List (Nat × Nat × Nat × mm_F) := []
def smX3_readNodes : List (Nat × Nat × Nat × mm_F) := [(39, 0, 3, fX7_within)]
def ZX3_readNodes (p : Program) (l : Launch) (e : Env) (s : State) (m : MethodId) (args : Array Value) (below : List Frame) (meth : Method) (c : Code) (cA : Nat → ClassId) (ad : Nat → Nat) (D : va_G) (A : Nat → Prop) : Prop := mm_Z p l e (mm_rm 1) s m args below meth c lay_c cA ad D A RX3 cX3_readNodes 2 1 (mm_flt flRX3) (mm_clt (vtX3_readNodes)) (mm_clt (smX3_readNodes)) (mm_ctt ctRX3) kX3_readNodes
theorem okX3_readNodes : mm_Ok lay_c yX3_readNodes cX3_readNodes 2 (some .int) 1 fX3_readNodes := by
  refine mm_enter (rt := 1) (by decide +kernel) rfl ?_
  intro p l e s m args below meth c cA ad D A as M Q h C0
  have Z : ZX3_readNodes p l e s m args below meth c cA ad D A := ⟨C0, flRX3_ok, mm_vt_of (mm_fa0), mm_vt_of (mm_fa1 (mm_coN (n := 3) (host := "SelfishWays") C0 okX7_within (List.mem_filter.mpr ⟨List.mem_of_getElem? (i := 494) (by decide +kernel), rfl⟩) (wX7_within _ (by simp)) (wX7_within _ (by simp [yX7_within])) (wX7_within _ (by simp)) (by decide +kernel) (by omega) (by omega)) (mm_fa0)), kX3_readNodes_ok, mm_ctok_J ctRX3_ok⟩
  unfold fX3_readNodes at h
  split at h
  · obtain ⟨hb, h⟩ := mm_chk_e h
    cases (Nat.eq_of_beq_eq_true hb)
    exact ⟨Nat.le_of_ble_eq_true rfl, mm_Zb Z 16 0 [] mm_fa0 h⟩
  · exact h.elim
def kX3_readFrom : List mm_E := [(0, false, .iload_n 1, []), (1, false, .iconst 0, []), (2, false, .aload_n 0, []), (3, false, .getfield 18, []), (6, false, .getfield 26, []), (9, false, .iconst 1, []), (10, false, .isub, []), (11, false, .invokestatic 39, []), (14, false, .ifCond .ne 5, [19]), (17, false, .iconst (-1), []), (18, false, .ireturn, []), (19, false, .aload_n 0, []), (20, false, .getfield 18, []), (23, false, .getfield 61, []), (26, false, .aload_n 0, []), (27, false, .getfield 18, []), (30, false, .getfield 29, []), (33, false, .iload_n 1, []), (34, false, .iastore, []), (35, false, .iconst 3, []), (36, false, .ireturn, [])]
set_option maxRecDepth 20000 in
theorem kX3_readFrom_ok : mm_cok cX3_readFrom RX3 (mm_ctt ctRX3) kX3_readFrom := mm_c_of (k := false) ctRX3_ok (by decide +kernel)
set_option maxRecDepth 20000 in
theorem wX3_readFrom : ∀ w ∈ ([.instanceMethod yX3_readFrom, .selects RX3 yX3_readFrom yX3_readFrom, .initialized RX3, .code yX3_readFrom cX3_readFrom 2 (some .int)] : List Cond), w ∈ mm_tbl := mm_sub_at _ [501, 2, 105, 502] (by decide +kernel) (by decide +kernel)
def vtX3_readFrom : List (Nat × Nat × Nat × mm_F) := []
def smX3_readFrom : List (Nat × Nat × Nat × mm_F) := [(39, 0, 3, fX7_within)]
def ZX3_readFrom (p : Program) (l : Launch) (e : Env) (s : State) (m : MethodId) (args : Array Value) (below : List Frame) (meth : Method) (c : Code) (cA : Nat → ClassId) (ad : Nat → Nat) (D : va_G) (A : Nat → Prop) : Prop := mm_Z p l e (mm_rm 1) s m args below meth c lay_c cA ad D A RX3 cX3_readFrom 2 1 (mm_flt flRX3) (mm_clt (vtX3_readFrom)) (mm_clt (smX3_readFrom)) (mm_ctt ctRX3) kX3_readFrom
theorem okX3_readFrom : mm_Ok lay_c yX3_readFrom cX3_readFrom 2 (some .int) 1 fX3_readFrom := by
  refine mm_enter (rt := 1) (by decide +kernel) rfl ?_
  intro p l e s m args below meth c cA ad D A as M Q h C0
  have Z : ZX3_readFrom p l e s m args below meth c cA ad D A := ⟨C0, flRX3_ok, mm_vt_of (mm_fa0), mm_vt_of (mm_fa1 (mm_coN (n := 3) (host := "SelfishWays") C0 okX7_within (List.mem_filter.mpr ⟨List.mem_of_getElem? (i := 494) (by decide +kernel), rfl⟩) (wX7_within _ (by simp)) (wX7_within _ (by simp [yX7_within])) (wX7_within _ (by simp)) (by decide +kernel) (by omega) (by omega)) (mm_fa0)), kX3_readFrom_ok, mm_ctok_J ctRX3_ok⟩
  unfold fX3_readFrom at h
  split at h
  · obtain ⟨hb, h⟩ := mm_chk_e h
    cases (Nat.eq_of_beq_eq_true hb)
    exact ⟨Nat.le_of_ble_eq_true rfl, mm_Zb Z 24 0 [] mm_fa0 h⟩
  · exact h.elim
def kX3_readTo : List mm_E := [(0, false, .iload_n 1, []), (1, false, .iconst 0, []), (2, false, .aload_n 0, []), (3, false, .getfield 18, []), (6, false, .getfield 26, []), (9, false, .iconst 1, []), (10, false, .isub, []), (11, false, .invokestatic 39, []), (14, false, .ifCond .eq 22, [36]), (17, false, .iload_n 1, []), (18, false, .aload_n 0, []), (19, false, .getfield 18, []), (22, false, .getfield 61, []), (25, false, .aload_n 0, []), (26, false, .getfield 18, []), (29, false, .getfield 29, []), (32, false, .iaload, []), (33, false, .if_icmp .ne 5, [38]), (36, false, .iconst (-1), []), (37, false, .ireturn, []), (38, false, .aload_n 0, []), (39, false, .getfield 18, []), (42, false, .getfield 64, []), (45, false, .aload_n 0, []), (46, false, .getfield 18, []), (49, false, .getfield 29, []), (52, false, .iload_n 1, []), (53, false, .iastore, []), (54, false, .iconst 5, []), (55, false, .ireturn, [])]
set_option maxRecDepth 20000 in
theorem kX3_readTo_ok : mm_cok cX3_readTo RX3 (mm_ctt ctRX3) kX3_readTo := mm_c_of (k := false) ctRX3_ok (by decide +kernel)
set_option maxRecDepth 20000 in
theorem wX3_readTo : ∀ w ∈ ([.instanceMethod yX3_readTo, .selects RX3 yX3_readTo yX3_readTo, .initialized RX3, .code yX3_readTo cX3_readTo 2 (some .int)] : List Cond), w ∈ mm_tbl := mm_sub_at _ [505, 3, 105, 506] (by decide +kernel) (by decide +kernel)
def vtX3_readTo : List (Nat × Nat × Nat × mm_F) := []
def smX3_readTo : List (Nat × Nat × Nat × mm_F) := [(39, 0, 3, fX7_within)]
def ZX3_readTo (p : Program) (l : Launch) (e : Env) (s : State) (m : MethodId) (args : Array Value) (below : List Frame) (meth : Method) (c : Code) (cA : Nat → ClassId) (ad : Nat → Nat) (D : va_G) (A : Nat → Prop) : Prop := mm_Z p l e (mm_rm 1) s m args below meth c lay_c cA ad D A RX3 cX3_readTo 2 1 (mm_flt flRX3) (mm_clt (vtX3_readTo)) (mm_clt (smX3_readTo)) (mm_ctt ctRX3) kX3_readTo
theorem okX3_readTo : mm_Ok lay_c yX3_readTo cX3_readTo 2 (some .int) 1 fX3_readTo := by
  refine mm_enter (rt := 1) (by decide +kernel) rfl ?_
  intro p l e s m args below meth c cA ad D A as M Q h C0
  have Z : ZX3_readTo p l e s m args below meth c cA ad D A := ⟨C0, flRX3_ok, mm_vt_of (mm_fa0), mm_vt_of (mm_fa1 (mm_coN (n := 3) (host := "SelfishWays") C0 okX7_within (List.mem_filter.mpr ⟨List.mem_of_getElem? (i := 494) (by decide +kernel), rfl⟩) (wX7_within _ (by simp)) (wX7_within _ (by simp [yX7_within])) (wX7_within _ (by simp)) (by decide +kernel) (by omega) (by omega)) (mm_fa0)), kX3_readTo_ok, mm_ctok_J ctRX3_ok⟩
  unfold fX3_readTo at h
  split at h
  · obtain ⟨hb, h⟩ := mm_chk_e h
    cases (Nat.eq_of_beq_eq_true hb)
    exact ⟨Nat.le_of_ble_eq_true rfl, mm_Zb Z 33 0 [] mm_fa0 h⟩
  · exact h.elim
