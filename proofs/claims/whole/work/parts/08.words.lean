/-! words by their places; links; tables of calls; checks of code -/
theorem mm_sub_at (ws : List Cond) (ps : List Nat) (h : ps.map (fun i => lw_tbl[i]?) = ws.map some) (hg : ws.all goodWord = true) : ∀ w ∈ ws, w ∈ mm_tbl := by
  intro w hw
  refine mm_tbl_in ?_ (List.all_eq_true.mp hg w hw)
  have h1 : some w ∈ ws.map some := List.mem_map.mpr ⟨w, hw, rfl⟩
  rw [← h] at h1
  obtain ⟨i, -, hi⟩ := List.mem_map.mp h1
  exact List.mem_of_getElem? hi
theorem mm_one_at (w : Cond) (i : Nat) (h : lw_tbl[i]? = some w) (hg : goodWord w = true) : w ∈ mm_tbl := mm_tbl_in (List.mem_of_getElem? h) hg
def mm_flt (L : List (Nat × Nat × Nat × Nat)) : mm_Fl := fun n => match L with
  | [] => none
  | e :: tl => match Nat.beq e.1 n with
    | true => some e.2
    | false => mm_flt tl n
def mm_ctt (L : List (Nat × Int)) : mm_Ct := fun n => match L with
  | [] => none
  | e :: tl => match Nat.beq e.1 n with
    | true => some e.2
    | false => mm_ctt tl n
def mm_clt (L : List (Nat × Nat × Nat × mm_F)) : mm_Cl := fun n => match L with
  | [] => none
  | e :: tl => match Nat.beq e.1 n with
    | true => some e.2
    | false => mm_clt tl n
def mm_kk (L : List (Nat × mm_K)) : Nat → mm_K := fun n => match L with
  | [] => fun _ _ _ => False
  | e :: tl => match Nat.beq e.1 n with
    | true => e.2
    | false => mm_kk tl n
theorem mm_flt_e {L : List (Nat × Nat × Nat × Nat)} {n : Nat} {x : Nat × Nat × Nat} (h : mm_flt L n = some x) : (n, x) ∈ L := by
  induction L with
  | nil => cases h
  | cons e tl ih =>
    unfold mm_flt at h
    split at h
    · rename_i hb
      cases h
      rw [← Nat.eq_of_beq_eq_true hb]
      exact List.mem_cons_self
    · exact List.mem_cons_of_mem _ (ih h)
theorem mm_ctt_e {L : List (Nat × Int)} {n : Nat} {x : Int} (h : mm_ctt L n = some x) : (n, x) ∈ L := by
  induction L with
  | nil => cases h
  | cons e tl ih =>
    unfold mm_ctt at h
    split at h
    · rename_i hb
      cases h
      rw [← Nat.eq_of_beq_eq_true hb]
      exact List.mem_cons_self
    · exact List.mem_cons_of_mem _ (ih h)
theorem mm_clt_e {L : List (Nat × Nat × Nat × mm_F)} {n : Nat} {x : Nat × Nat × mm_F} (h : mm_clt L n = some x) : (n, x) ∈ L := by
  induction L with
  | nil => cases h
  | cons e tl ih =>
    unfold mm_clt at h
    split at h
    · rename_i hb
      cases h
      rw [← Nat.eq_of_beq_eq_true hb]
      exact List.mem_cons_self
    · exact List.mem_cons_of_mem _ (ih h)
theorem mm_kk_e {L : List (Nat × mm_K)} {P : Nat → mm_K} (hL : ∀ x ∈ L, ∀ ls st M, x.2 ls st M → P x.1 ls st M) : ∀ pc ls st M, mm_kk L pc ls st M → P pc ls st M := by
  induction L with
  | nil => intro pc ls st M h; exact h.elim
  | cons e tl ih =>
    intro pc ls st M h
    unfold mm_kk at h
    cases hb : Nat.beq e.1 pc with
    | true =>
      rw [hb] at h
      rw [← Nat.eq_of_beq_eq_true hb]
      exact hL e List.mem_cons_self ls st M h
    | false =>
      rw [hb] at h
      exact ih (fun x hx => hL x (List.mem_cons_of_mem _ hx)) pc ls st M h
def mm_flw (own : String) (e : Nat × Nat × Nat × Nat) : Cond := match vwCl[e.2.1]? with
  | some q => .fieldLink own e.1 (q.2.1 e.2.2.1).1 (q.2.1 e.2.2.1).2.1 (q.2.1 e.2.2.1).2.2.1
  | none => .count 0
theorem mm_flok_of {own : String} (L : List (Nat × Nat × Nat × Nat)) (ps : List Nat) (hcl : ∀ ci, ci < 9 → mm_clok ci) (h0 : L.all (fun e => Nat.blt e.2.1 9) = true) (h1 : L.all (fun e => decide ((mm_fts e.2.1)[e.2.2.1]? = some e.2.2.2)) = true) (h2 : ps.map (fun i => lw_tbl[i]?) = (L.map (mm_flw own)).map some) (h3 : (L.map (mm_flw own)).all goodWord = true) : mm_flok own (mm_flt L) := by
  intro n ci k t h
  have hm := mm_flt_e h
  refine ⟨of_decide_eq_true (List.all_eq_true.mp h1 _ hm), hcl ci (Nat.blt_eq.mp (List.all_eq_true.mp h0 _ hm)), fun q hq => ?_⟩
  have h4 := mm_sub_at _ ps h2 h3 (mm_flw own (n, ci, k, t)) (List.mem_map.mpr ⟨_, hm, rfl⟩)
  unfold mm_flw at h4
  simp only [hq] at h4
  exact h4
def mm_ctI (own : String) (ct : mm_Ct) : Prop := ∀ n z, ct n = some z → mm_R z ∧ Cond.constant own n (Int32.ofInt z) ∈ mm_tbl
def mm_ctJ (own : String) (ct : mm_Ct) : Prop := ∀ n z, ct n = some z → mm_RL z ∧ Cond.constantLong own n (Int64.ofInt z) ∈ mm_tbl
theorem mm_ctJ_of {own : String} (L : List (Nat × Int)) (ps : List Nat) (h0 : L.all (fun e => decide (-9223372036854775808 ≤ e.2 ∧ e.2 < 9223372036854775808)) = true) (h2 : ps.map (fun i => lw_tbl[i]?) = (L.map (fun e => Cond.constantLong own e.1 (Int64.ofInt e.2))).map some) (h3 : (L.map (fun e => Cond.constantLong own e.1 (Int64.ofInt e.2))).all goodWord = true) : mm_ctJ own (mm_ctt L) := fun n z h =>
  ⟨(of_decide_eq_true (List.all_eq_true.mp h0 _ (mm_ctt_e h)) : _ ∧ _), mm_sub_at _ ps h2 h3 _ (List.mem_map.mpr ⟨(n, z), mm_ctt_e h, rfl⟩)⟩
theorem mm_ctI_of {own : String} (L : List (Nat × Int)) (ps : List Nat) (h0 : L.all (fun e => decide (-2147483648 ≤ e.2 ∧ e.2 < 2147483648)) = true) (h2 : ps.map (fun i => lw_tbl[i]?) = (L.map (fun e => Cond.constant own e.1 (Int32.ofInt e.2))).map some) (h3 : (L.map (fun e => Cond.constant own e.1 (Int32.ofInt e.2))).all goodWord = true) : mm_ctI own (mm_ctt L) := fun n z h =>
  ⟨(of_decide_eq_true (List.all_eq_true.mp h0 _ (mm_ctt_e h)) : _ ∧ _), mm_sub_at _ ps h2 h3 _ (List.mem_map.mpr ⟨(n, z), mm_ctt_e h, rfl⟩)⟩
theorem mm_ctok_J {own : String} {ct : mm_Ct} (h : mm_ctJ own ct) : mm_ctok own ct := fun n z q => Or.inr (h n z q)
theorem mm_ctok_I {own : String} {ct : mm_Ct} (h : mm_ctI own ct) : mm_ctok own ct := fun n z q => Or.inl (h n z q)
/-- the check of a method's code; k: its constants are ints -/
def mm_eB (k : Bool) (b : ByteArray) (e : mm_E) : Bool := (match decode b e.1 with
  | .ok (j, n) => decide (j = e.2.2.1) && (mm_sw e.2.2.1 || Nat.beq n (mm_ln e.2.2.1))
  | _ => false) && (match e.2.2.1 with
  | .goto o | .ifCond _ o | .if_icmp _ o => (match e.2.2.2 with
    | [t] => decide ((e.1 : Int) + o = (t : Int))
    | _ => false)
  | .tableswitch d lo hi os => decide ((d :: os.toList).map (fun o => (e.1 : Int) + o) = e.2.2.2.map (fun t : Nat => (t : Int))) && decide (hi - lo + 1 = (os.toList.length : Int))
  | .lookupswitch d ps => decide ((d :: ps.toList.map (·.2)).map (fun o => (e.1 : Int) + o) = e.2.2.2.map (fun t : Nat => (t : Int))) && (ps.toList.zip (ps.toList.drop 1)).all (fun (a, next) => a.1 < next.1)
  | .ldc _ => k
  | .ldc2_w _ => !k
  | _ => true)
def mm_cB (k : Bool) (b : ByteArray) : List mm_E → Bool
  | [] => true
  | e :: tl => mm_eB k b e && ((match tl with
    | [] => true
    | e2 :: _ => mm_sw e.2.2.1 || Nat.beq e2.1 (e.1 + mm_ln e.2.2.1)) && mm_cB k b tl)
theorem mm_dec_of {b : ByteArray} {pc n : Nat} {i : Instr} (h : decode b pc = .ok (i, n)) (h2 : mm_sw i = true ∨ n = mm_ln i) : mm_dec b pc i := by
  cases i <;> first | exact ⟨n, h⟩ | (have z := h2.resolve_left (fun q => Bool.false_ne_true q); subst z; exact h)
theorem mm_e_of {k : Bool} {b : ByteArray} {own : String} {ct : mm_Ct} (hk : if k = true then mm_ctI own ct else mm_ctJ own ct) {e : mm_E} (h : mm_eB k b e = true) : mm_eok b own ct e := by
  obtain ⟨pc, cut, i, ts⟩ := e
  unfold mm_eB at h
  rw [Bool.and_eq_true] at h
  obtain ⟨h1, h2⟩ := h
  have hd : mm_dec b pc i := by
    split at h1
    · rename_i j n hdj
      rw [Bool.and_eq_true, Bool.or_eq_true] at h1
      have := of_decide_eq_true h1.1
      subst this
      exact mm_dec_of hdj (h1.2.imp id Nat.eq_of_beq_eq_true)
    · cases h1
  refine ⟨hd, ?_, ?_⟩
  · show mm_tg pc i ts
    cases i <;> first
      | trivial
      | (simp only at h2
         split at h2
         · rename_i t
           intro t' ht
           cases ht
           exact of_decide_eq_true h2
         · cases h2)
      | (simp only [Bool.and_eq_true] at h2
         exact ⟨of_decide_eq_true h2.1, of_decide_eq_true h2.2⟩)
      | (simp only [Bool.and_eq_true] at h2
         exact ⟨of_decide_eq_true h2.1, h2.2⟩)
  · clear h1 hd
    simp only
    cases i <;> first
      | trivial
      | (simp only at h2
         subst h2
         intro z hz
         exact hk _ z hz)
      | (simp only at h2
         cases k
         · intro z hz
           exact hk _ z hz
         · cases h2)
theorem mm_c_of {k : Bool} {b : ByteArray} {own : String} {ct : mm_Ct} (hk : if k = true then mm_ctI own ct else mm_ctJ own ct) : ∀ {L : List mm_E}, mm_cB k b L = true → mm_cok b own ct L
  | [], _ => trivial
  | [e], h => by
    unfold mm_cB at h
    rw [Bool.and_eq_true, Bool.and_eq_true] at h
    exact ⟨mm_e_of hk h.1, trivial, trivial⟩
  | e :: e2 :: tl, h => by
    unfold mm_cB at h
    rw [Bool.and_eq_true, Bool.and_eq_true] at h
    refine ⟨mm_e_of hk h.1, ?_, mm_c_of hk h.2.2⟩
    have h3 := h.2.1
    rw [Bool.or_eq_true] at h3
    exact h3.imp id Nat.eq_of_beq_eq_true
/-! all that a walk needs of its method -/
def mm_Z (p : Program) (l : Launch) (e : Env) (R : Room) (s : State) (m : MethodId) (args : Array Value) (below : List Frame) (meth : Method) (c : Code) (lay : List mm_S) (cA : Nat → ClassId) (ad : Nat → Nat) (D : va_G) (A : Nat → Prop) (own : String) (cc : ByteArray) (nL rt : Nat) (fl : mm_Fl) (vt sm : mm_Cl) (ct : mm_Ct) (code : List mm_E) : Prop :=
  mm_Cx p s m args meth c lay cA ad D A own cc nL rt ∧ mm_flok own fl ∧ (∀ k ci n f, vt k = some (ci, n, f) → mm_CO p l e R s m args below meth c lay cA ad D A cc nL (.invokevirtual k) n (mm_rcv lay ci) f) ∧ (∀ k ci n f, sm k = some (ci, n, f) → mm_CO p l e R s m args below meth c lay cA ad D A cc nL (.invokestatic k) n (fun _ => true) f) ∧ mm_cok cc own ct code ∧ mm_ctok own ct
theorem mm_Zb {p : Program} {l : Launch} {e : Env} {R : Room} {s : State} {m : MethodId} {args : Array Value} {below : List Frame} {meth : Method} {c : Code} {lay : List mm_S} {cA : Nat → ClassId} {ad : Nat → Nat} {D : va_G} {A : Nat → Prop} {own : String} {cc : ByteArray} {nL rt : Nat} {fl : mm_Fl} {vt sm : mm_Cl} {ct : mm_Ct} {code : List mm_E} {Q : Option mm_V → mm_M → Prop} (Z : mm_Z p l e R s m args below meth c lay cA ad D A own cc nL rt fl vt sm ct code) (n pc : Nat) (L : List (Nat × mm_K)) (hL : ∀ x ∈ L, ∀ ls st M, x.2 ls st M → mm_G p l e R s m args below meth c lay cA ad D A nL Q x.1 ls st M) {ls : mm_L} {st : List mm_V} {M : mm_M} (h : mm_bk lay fl vt sm ct rt code (mm_kk L) Q n pc ls st M) : mm_G p l e R s m args below meth c lay cA ad D A nL Q pc ls st M :=
  mm_bk_ok Z.1 Z.2.1 Z.2.2.1 Z.2.2.2.1 Z.2.2.2.2.1 Z.2.2.2.2.2 (mm_kk_e hL) h
theorem mm_fa0 {α : Type} {P : α → Prop} : ∀ x ∈ ([] : List α), P x := fun _ h => absurd h List.not_mem_nil
theorem mm_fa1 {α : Type} {P : α → Prop} {a : α} {l : List α} (h : P a) (hl : ∀ x ∈ l, P x) : ∀ x ∈ a :: l, P x := List.forall_mem_cons.mpr ⟨h, hl⟩
theorem mm_vt_of {L : List (Nat × Nat × Nat × mm_F)} {P : Nat → Nat → Nat → mm_F → Prop} (h : ∀ x ∈ L, P x.1 x.2.1 x.2.2.1 x.2.2.2) : ∀ k ci n f, mm_clt L k = some (ci, n, f) → P k ci n f := fun k ci n f q => h _ (mm_clt_e q)
set_option maxRecDepth 20000 in
theorem clX0 : mm_clok 0 := ⟨RX0, TX0, 19, tyX0, rfl, mm_sub_at _ [346, 348, 350, 352, 354, 356, 358, 360, 362, 364, 366, 368, 370, 372, 374, 376, 378, 380, 382] (by decide +kernel) (by decide +kernel), tyX0_ok, nmX0, rfl, by
  intro k t h
  have hk : k < 19 := (List.getElem?_eq_some_iff.mp h).1
  revert k t
  have hh : ∀ k, k < 19 → (mm_fts 0)[k]? = some 2 ∨ ((TX0 k).2.2.2 = false ∧ (((mm_fts 0)[k]? = some 0 ∧ tyX0 k = .int) ∨ ((mm_fts 0)[k]? = some 1 ∧ tyX0 k = .long) ∨ ((mm_fts 0)[k]? = some 3 ∧ tyX0 k = .array .int) ∨ ((mm_fts 0)[k]? = some 4 ∧ tyX0 k = .boolean))) := by decide +kernel
  intro k t h hk
  rcases hh k hk with q | ⟨q, ⟨q1, q2⟩ | ⟨q1, q2⟩ | ⟨q1, q2⟩ | ⟨q1, q2⟩⟩
  · exact Or.inl (Option.some.inj (h.symm.trans q))
  · cases h.symm.trans q1; exact Or.inr ⟨q, q2⟩
  · cases h.symm.trans q1; exact Or.inr ⟨q, q2⟩
  · cases h.symm.trans q1; exact Or.inr ⟨q, q2⟩
  · cases h.symm.trans q1; exact Or.inr ⟨q, q2⟩⟩
set_option maxRecDepth 20000 in
theorem clX1 : mm_clok 1 := ⟨RX1, TX1, 15, tyX1, rfl, mm_sub_at _ [416, 418, 420, 422, 424, 426, 428, 430, 432, 434, 436, 438, 440, 442, 444] (by decide +kernel) (by decide +kernel), tyX1_ok, nmX1, rfl, by
  intro k t h
  have hk : k < 15 := (List.getElem?_eq_some_iff.mp h).1
  revert k t
  have hh : ∀ k, k < 15 → (mm_fts 1)[k]? = some 2 ∨ ((TX1 k).2.2.2 = false ∧ (((mm_fts 1)[k]? = some 0 ∧ tyX1 k = .int) ∨ ((mm_fts 1)[k]? = some 1 ∧ tyX1 k = .long) ∨ ((mm_fts 1)[k]? = some 3 ∧ tyX1 k = .array .int) ∨ ((mm_fts 1)[k]? = some 4 ∧ tyX1 k = .boolean))) := by decide +kernel
  intro k t h hk
  rcases hh k hk with q | ⟨q, ⟨q1, q2⟩ | ⟨q1, q2⟩ | ⟨q1, q2⟩ | ⟨q1, q2⟩⟩
  · exact Or.inl (Option.some.inj (h.symm.trans q))
  · cases h.symm.trans q1; exact Or.inr ⟨q, q2⟩
  · cases h.symm.trans q1; exact Or.inr ⟨q, q2⟩
  · cases h.symm.trans q1; exact Or.inr ⟨q, q2⟩
  · cases h.symm.trans q1; exact Or.inr ⟨q, q2⟩⟩
set_option maxRecDepth 20000 in
theorem clX2 : mm_clok 2 := ⟨RX2, TX2, 7, tyX2, rfl, mm_sub_at _ [162, 164, 166, 168, 170, 172, 174] (by decide +kernel) (by decide +kernel), tyX2_ok, nmX2, rfl, by
  intro k t h
  have hk : k < 7 := (List.getElem?_eq_some_iff.mp h).1
  revert k t
  have hh : ∀ k, k < 7 → (mm_fts 2)[k]? = some 2 ∨ ((TX2 k).2.2.2 = false ∧ (((mm_fts 2)[k]? = some 0 ∧ tyX2 k = .int) ∨ ((mm_fts 2)[k]? = some 1 ∧ tyX2 k = .long) ∨ ((mm_fts 2)[k]? = some 3 ∧ tyX2 k = .array .int) ∨ ((mm_fts 2)[k]? = some 4 ∧ tyX2 k = .boolean))) := by decide +kernel
  intro k t h hk
  rcases hh k hk with q | ⟨q, ⟨q1, q2⟩ | ⟨q1, q2⟩ | ⟨q1, q2⟩ | ⟨q1, q2⟩⟩
  · exact Or.inl (Option.some.inj (h.symm.trans q))
  · cases h.symm.trans q1; exact Or.inr ⟨q, q2⟩
  · cases h.symm.trans q1; exact Or.inr ⟨q, q2⟩
  · cases h.symm.trans q1; exact Or.inr ⟨q, q2⟩
  · cases h.symm.trans q1; exact Or.inr ⟨q, q2⟩⟩
set_option maxRecDepth 20000 in
theorem clX3 : mm_clok 3 := ⟨RX3, TX3, 4, tyX3, rfl, mm_sub_at _ [185, 187, 189, 191] (by decide +kernel) (by decide +kernel), tyX3_ok, nmX3, rfl, by
  intro k t h
  have hk : k < 4 := (List.getElem?_eq_some_iff.mp h).1
  revert k t
  have hh : ∀ k, k < 4 → (mm_fts 3)[k]? = some 2 ∨ ((TX3 k).2.2.2 = false ∧ (((mm_fts 3)[k]? = some 0 ∧ tyX3 k = .int) ∨ ((mm_fts 3)[k]? = some 1 ∧ tyX3 k = .long) ∨ ((mm_fts 3)[k]? = some 3 ∧ tyX3 k = .array .int) ∨ ((mm_fts 3)[k]? = some 4 ∧ tyX3 k = .boolean))) := by decide +kernel
  intro k t h hk
  rcases hh k hk with q | ⟨q, ⟨q1, q2⟩ | ⟨q1, q2⟩ | ⟨q1, q2⟩ | ⟨q1, q2⟩⟩
  · exact Or.inl (Option.some.inj (h.symm.trans q))
  · cases h.symm.trans q1; exact Or.inr ⟨q, q2⟩
  · cases h.symm.trans q1; exact Or.inr ⟨q, q2⟩
  · cases h.symm.trans q1; exact Or.inr ⟨q, q2⟩
  · cases h.symm.trans q1; exact Or.inr ⟨q, q2⟩⟩
set_option maxRecDepth 20000 in
theorem clX4 : mm_clok 4 := ⟨RX4, TX4, 8, tyX4, rfl, mm_sub_at _ [234, 236, 238, 240, 242, 244, 246, 248] (by decide +kernel) (by decide +kernel), tyX4_ok, nmX4, rfl, by
  intro k t h
  have hk : k < 8 := (List.getElem?_eq_some_iff.mp h).1
  revert k t
  have hh : ∀ k, k < 8 → (mm_fts 4)[k]? = some 2 ∨ ((TX4 k).2.2.2 = false ∧ (((mm_fts 4)[k]? = some 0 ∧ tyX4 k = .int) ∨ ((mm_fts 4)[k]? = some 1 ∧ tyX4 k = .long) ∨ ((mm_fts 4)[k]? = some 3 ∧ tyX4 k = .array .int) ∨ ((mm_fts 4)[k]? = some 4 ∧ tyX4 k = .boolean))) := by decide +kernel
  intro k t h hk
  rcases hh k hk with q | ⟨q, ⟨q1, q2⟩ | ⟨q1, q2⟩ | ⟨q1, q2⟩ | ⟨q1, q2⟩⟩
  · exact Or.inl (Option.some.inj (h.symm.trans q))
  · cases h.symm.trans q1; exact Or.inr ⟨q, q2⟩
  · cases h.symm.trans q1; exact Or.inr ⟨q, q2⟩
  · cases h.symm.trans q1; exact Or.inr ⟨q, q2⟩
  · cases h.symm.trans q1; exact Or.inr ⟨q, q2⟩⟩
set_option maxRecDepth 20000 in
theorem clX5 : mm_clok 5 := ⟨RX5, TX5, 6, tyX5, rfl, mm_sub_at _ [302, 304, 306, 308, 310, 312] (by decide +kernel) (by decide +kernel), tyX5_ok, nmX5, rfl, by
  intro k t h
  have hk : k < 6 := (List.getElem?_eq_some_iff.mp h).1
  revert k t
  have hh : ∀ k, k < 6 → (mm_fts 5)[k]? = some 2 ∨ ((TX5 k).2.2.2 = false ∧ (((mm_fts 5)[k]? = some 0 ∧ tyX5 k = .int) ∨ ((mm_fts 5)[k]? = some 1 ∧ tyX5 k = .long) ∨ ((mm_fts 5)[k]? = some 3 ∧ tyX5 k = .array .int) ∨ ((mm_fts 5)[k]? = some 4 ∧ tyX5 k = .boolean))) := by decide +kernel
  intro k t h hk
  rcases hh k hk with q | ⟨q, ⟨q1, q2⟩ | ⟨q1, q2⟩ | ⟨q1, q2⟩ | ⟨q1, q2⟩⟩
  · exact Or.inl (Option.some.inj (h.symm.trans q))
  · cases h.symm.trans q1; exact Or.inr ⟨q, q2⟩
  · cases h.symm.trans q1; exact Or.inr ⟨q, q2⟩
  · cases h.symm.trans q1; exact Or.inr ⟨q, q2⟩
  · cases h.symm.trans q1; exact Or.inr ⟨q, q2⟩⟩
set_option maxRecDepth 20000 in
theorem clX6 : mm_clok 6 := ⟨RX6, TX6, 7, tyX6, rfl, mm_sub_at _ [266, 268, 270, 272, 274, 276, 278] (by decide +kernel) (by decide +kernel), tyX6_ok, nmX6, rfl, by
  intro k t h
  have hk : k < 7 := (List.getElem?_eq_some_iff.mp h).1
  revert k t
  have hh : ∀ k, k < 7 → (mm_fts 6)[k]? = some 2 ∨ ((TX6 k).2.2.2 = false ∧ (((mm_fts 6)[k]? = some 0 ∧ tyX6 k = .int) ∨ ((mm_fts 6)[k]? = some 1 ∧ tyX6 k = .long) ∨ ((mm_fts 6)[k]? = some 3 ∧ tyX6 k = .array .int) ∨ ((mm_fts 6)[k]? = some 4 ∧ tyX6 k = .boolean))) := by decide +kernel
  intro k t h hk
  rcases hh k hk with q | ⟨q, ⟨q1, q2⟩ | ⟨q1, q2⟩ | ⟨q1, q2⟩ | ⟨q1, q2⟩⟩
  · exact Or.inl (Option.some.inj (h.symm.trans q))
  · cases h.symm.trans q1; exact Or.inr ⟨q, q2⟩
  · cases h.symm.trans q1; exact Or.inr ⟨q, q2⟩
  · cases h.symm.trans q1; exact Or.inr ⟨q, q2⟩
  · cases h.symm.trans q1; exact Or.inr ⟨q, q2⟩⟩
set_option maxRecDepth 20000 in
theorem clX7 : mm_clok 7 := ⟨RX7, TX7, 7, tyX7, rfl, mm_sub_at _ [456, 458, 460, 462, 464, 466, 468] (by decide +kernel) (by decide +kernel), tyX7_ok, nmX7, rfl, by
  intro k t h
  have hk : k < 7 := (List.getElem?_eq_some_iff.mp h).1
  revert k t
  have hh : ∀ k, k < 7 → (mm_fts 7)[k]? = some 2 ∨ ((TX7 k).2.2.2 = false ∧ (((mm_fts 7)[k]? = some 0 ∧ tyX7 k = .int) ∨ ((mm_fts 7)[k]? = some 1 ∧ tyX7 k = .long) ∨ ((mm_fts 7)[k]? = some 3 ∧ tyX7 k = .array .int) ∨ ((mm_fts 7)[k]? = some 4 ∧ tyX7 k = .boolean))) := by decide +kernel
  intro k t h hk
  rcases hh k hk with q | ⟨q, ⟨q1, q2⟩ | ⟨q1, q2⟩ | ⟨q1, q2⟩ | ⟨q1, q2⟩⟩
  · exact Or.inl (Option.some.inj (h.symm.trans q))
  · cases h.symm.trans q1; exact Or.inr ⟨q, q2⟩
  · cases h.symm.trans q1; exact Or.inr ⟨q, q2⟩
  · cases h.symm.trans q1; exact Or.inr ⟨q, q2⟩
  · cases h.symm.trans q1; exact Or.inr ⟨q, q2⟩⟩
set_option maxRecDepth 20000 in
theorem clX8 : mm_clok 8 := ⟨RX8, TX8, 57, tyX8, rfl, mm_sub_at _ [1004, 1006, 1008, 1010, 1012, 1014, 1016, 1018, 1020, 1022, 1024, 1026, 1028, 1030, 1032, 1034, 1036, 1038, 1040, 1042, 1044, 1046, 1048, 1050, 1052, 1054, 1056, 1058, 1060, 1062, 1064, 1066, 1068, 1070, 1072, 1074, 1076, 1078, 1080, 1082, 1084, 1086, 1088, 1090, 1092, 1094, 1096, 1098, 1100, 1102, 1104, 1106, 1108, 1110, 1112, 1114, 1116] (by decide +kernel) (by decide +kernel), tyX8_ok, nmX8, rfl, by
  intro k t h
  have hk : k < 57 := (List.getElem?_eq_some_iff.mp h).1
  revert k t
  have hh : ∀ k, k < 57 → (mm_fts 8)[k]? = some 2 ∨ ((TX8 k).2.2.2 = false ∧ (((mm_fts 8)[k]? = some 0 ∧ tyX8 k = .int) ∨ ((mm_fts 8)[k]? = some 1 ∧ tyX8 k = .long) ∨ ((mm_fts 8)[k]? = some 3 ∧ tyX8 k = .array .int) ∨ ((mm_fts 8)[k]? = some 4 ∧ tyX8 k = .boolean))) := by decide +kernel
  intro k t h hk
  rcases hh k hk with q | ⟨q, ⟨q1, q2⟩ | ⟨q1, q2⟩ | ⟨q1, q2⟩ | ⟨q1, q2⟩⟩
  · exact Or.inl (Option.some.inj (h.symm.trans q))
  · cases h.symm.trans q1; exact Or.inr ⟨q, q2⟩
  · cases h.symm.trans q1; exact Or.inr ⟨q, q2⟩
  · cases h.symm.trans q1; exact Or.inr ⟨q, q2⟩
  · cases h.symm.trans q1; exact Or.inr ⟨q, q2⟩⟩
theorem cl_all : ∀ ci, ci < 9 → mm_clok ci
  | 0, _ => clX0
  | 1, _ => clX1
  | 2, _ => clX2
  | 3, _ => clX3
  | 4, _ => clX4
  | 5, _ => clX5
  | 6, _ => clX6
  | 7, _ => clX7
  | 8, _ => clX8
  | n + 9, h => absurd h (by omega)
def flRX0 : List (Nat × Nat × Nat × Nat) := [(9, 0, 3, 2), (15, 0, 4, 2), (18, 0, 5, 2), (21, 0, 6, 2), (24, 0, 7, 2), (30, 0, 15, 2), (46, 0, 1, 0), (50, 6, 2, 0), (51, 0, 2, 0), (54, 6, 1, 2), (57, 4, 2, 0), (83, 5, 0, 0), (86, 0, 0, 4), (90, 0, 12, 0), (93, 0, 13, 0), (96, 0, 11, 0), (99, 0, 14, 0), (102, 0, 8, 0), (109, 0, 9, 0), (112, 0, 10, 0), (125, 0, 18, 0), (128, 5, 3, 0), (131, 5, 2, 3), (146, 0, 16, 0), (152, 0, 17, 0)]
set_option maxRecDepth 20000 in
theorem flRX0_ok : mm_flok RX0 (mm_flt flRX0) := mm_flok_of _ [319, 320, 321, 322, 323, 339, 317, 257, 318, 254, 219, 294, 315, 333, 335, 331, 337, 325, 327, 329, 344, 299, 297, 340, 342] cl_all (by decide +kernel) (by decide +kernel) (by decide +kernel) (by decide +kernel)
def flRX1 : List (Nat × Nat × Nat × Nat) := [(9, 1, 0, 2), (15, 1, 1, 2), (18, 1, 2, 2), (21, 1, 4, 0), (25, 1, 5, 0), (30, 1, 7, 2), (33, 1, 8, 2), (37, 1, 11, 2), (40, 1, 12, 2), (44, 1, 3, 0), (47, 1, 6, 4), (72, 1, 13, 1), (76, 1, 14, 1), (79, 1, 9, 1), (82, 1, 10, 1)]
set_option maxRecDepth 20000 in
theorem flRX1_ok : mm_flok RX1 (mm_flt flRX1) := mm_flok_of _ [393, 394, 395, 398, 400, 404, 406, 412, 413, 396, 402, 414, 415, 408, 410] cl_all (by decide +kernel) (by decide +kernel) (by decide +kernel) (by decide +kernel)
def flRX2 : List (Nat × Nat × Nat × Nat) := [(9, 2, 2, 2), (15, 2, 3, 2), (18, 2, 4, 2), (21, 2, 5, 2), (24, 2, 6, 2), (27, 2, 0, 0), (31, 2, 1, 0)]
set_option maxRecDepth 20000 in
theorem flRX2_ok : mm_flok RX2 (mm_flt flRX2) := mm_flok_of _ [143, 147, 151, 155, 159, 134, 138] cl_all (by decide +kernel) (by decide +kernel) (by decide +kernel) (by decide +kernel)
def flRX3 : List (Nat × Nat × Nat × Nat) := [(9, 3, 0, 2), (18, 3, 2, 2), (22, 3, 3, 0), (26, 2, 0, 0), (29, 2, 1, 0), (32, 3, 1, 0), (61, 2, 2, 2), (64, 2, 3, 2), (67, 2, 4, 2), (70, 2, 5, 2)]
set_option maxRecDepth 20000 in
theorem flRX3_ok : mm_flok RX3 (mm_flt flRX3) := mm_flok_of _ [178, 182, 184, 135, 139, 181, 145, 149, 154, 158] cl_all (by decide +kernel) (by decide +kernel) (by decide +kernel) (by decide +kernel)
def flRX4 : List (Nat × Nat × Nat × Nat) := [(9, 4, 4, 2), (15, 4, 5, 2), (20, 4, 6, 2), (23, 4, 7, 2), (26, 4, 2, 0), (30, 4, 3, 0), (33, 2, 0, 0), (38, 4, 0, 0), (45, 4, 1, 0), (52, 2, 1, 0), (54, 2, 3, 2), (56, 2, 2, 2)]
set_option maxRecDepth 20000 in
theorem flRX4_ok : mm_flok RX4 (mm_flt flRX4) := mm_flok_of _ [225, 228, 230, 233, 218, 222, 136, 212, 215, 141, 148, 144] cl_all (by decide +kernel) (by decide +kernel) (by decide +kernel) (by decide +kernel)
def flRX5 : List (Nat × Nat × Nat × Nat) := [(9, 5, 0, 0), (15, 5, 1, 2), (19, 5, 2, 3), (22, 5, 4, 3), (25, 5, 3, 0), (28, 5, 5, 0)]
set_option maxRecDepth 20000 in
theorem flRX5_ok : mm_flok RX5 (mm_flt flRX5) := mm_flok_of _ [293, 295, 296, 300, 298, 301] cl_all (by decide +kernel) (by decide +kernel) (by decide +kernel) (by decide +kernel)
def flRX6 : List (Nat × Nat × Nat × Nat) := [(12, 6, 0, 2), (20, 6, 1, 2), (24, 6, 4, 2), (30, 6, 5, 2), (33, 6, 6, 2), (41, 6, 2, 0), (48, 2, 1, 0), (51, 2, 4, 2), (54, 6, 3, 0), (57, 2, 6, 2), (60, 2, 5, 2), (63, 4, 0, 0), (66, 4, 1, 0), (72, 4, 2, 0), (86, 4, 4, 2), (89, 4, 3, 0), (92, 4, 6, 2), (94, 4, 5, 2)]
set_option maxRecDepth 20000 in
theorem flRX6_ok : mm_flok RX6 (mm_flt flRX6) := mm_flok_of _ [251, 253, 261, 263, 265, 256, 140, 152, 259, 160, 156, 213, 216, 220, 226, 223, 231, 229] cl_all (by decide +kernel) (by decide +kernel) (by decide +kernel) (by decide +kernel)
def flRX7 : List (Nat × Nat × Nat × Nat) := [(12, 7, 0, 2), (19, 7, 1, 2), (26, 7, 2, 2), (33, 7, 3, 2), (37, 7, 4, 0), (41, 7, 5, 0), (44, 7, 6, 0), (51, 3, 1, 0), (54, 3, 0, 2), (66, 3, 2, 2), (74, 0, 0, 4), (78, 6, 0, 2), (81, 2, 1, 0), (89, 2, 0, 0), (92, 6, 3, 0), (114, 6, 4, 2), (117, 2, 2, 2), (120, 2, 3, 2), (123, 2, 4, 2), (126, 2, 5, 2), (129, 2, 6, 2), (132, 6, 5, 2), (139, 6, 2, 0), (150, 6, 1, 2), (154, 4, 0, 0), (158, 4, 1, 0), (160, 4, 2, 0), (163, 4, 3, 0), (177, 4, 4, 2), (180, 4, 6, 2), (193, 0, 8, 0), (196, 0, 9, 0), (199, 0, 10, 0), (202, 0, 11, 0), (205, 0, 14, 0), (208, 0, 13, 0), (211, 0, 7, 2), (222, 0, 12, 0), (238, 0, 16, 0), (241, 0, 17, 0), (244, 0, 18, 0), (256, 1, 3, 0), (261, 1, 6, 4), (262, 1, 4, 0), (265, 1, 5, 0), (271, 1, 7, 2), (275, 1, 8, 2), (279, 1, 9, 1), (283, 1, 10, 1)]
set_option maxRecDepth 20000 in
theorem flRX7_ok : mm_flok RX7 (mm_flt flRX7) := mm_flok_of _ [449, 450, 451, 452, 453, 454, 455, 180, 179, 183, 316, 252, 142, 137, 260, 262, 146, 150, 153, 157, 161, 264, 258, 255, 214, 217, 221, 224, 227, 232, 326, 328, 330, 332, 338, 336, 324, 334, 341, 343, 345, 397, 403, 399, 401, 405, 407, 409, 411] cl_all (by decide +kernel) (by decide +kernel) (by decide +kernel) (by decide +kernel)
def flRX8 : List (Nat × Nat × Nat × Nat) := [(7, 8, 2, 2), (13, 8, 3, 2), (16, 8, 4, 2), (19, 8, 5, 2), (22, 8, 6, 2), (25, 8, 10, 2), (28, 8, 11, 2), (31, 8, 12, 2), (34, 8, 13, 2), (37, 8, 14, 2), (40, 8, 15, 2), (43, 8, 19, 2), (46, 8, 20, 2), (49, 8, 21, 0), (53, 8, 22, 0), (56, 8, 24, 2), (59, 8, 28, 2), (62, 8, 29, 2), (65, 8, 30, 2), (68, 8, 31, 2), (71, 8, 32, 2), (74, 8, 33, 2), (77, 8, 34, 2), (80, 8, 42, 2), (83, 8, 43, 2), (86, 8, 44, 2), (89, 8, 47, 2), (93, 8, 48, 2), (96, 8, 50, 2), (99, 8, 52, 2), (102, 8, 54, 2), (109, 8, 23, 0), (112, 8, 25, 0), (115, 8, 26, 0), (118, 8, 27, 0), (142, 8, 0, 0), (145, 8, 1, 0), (148, 8, 9, 0), (151, 8, 8, 0), (162, 8, 7, 0), (226, 8, 16, 0), (242, 8, 17, 0), (245, 8, 35, 0), (248, 8, 36, 0), (251, 8, 37, 0), (254, 8, 40, 0), (257, 8, 38, 0), (260, 8, 39, 0), (263, 8, 41, 0), (323, 8, 18, 0), (331, 8, 45, 1), (335, 8, 46, 1), (345, 8, 49, 1), (350, 8, 51, 1), (365, 8, 55, 1), (374, 8, 53, 1), (411, 8, 56, 1)]
set_option maxRecDepth 20000 in
theorem flRX8_ok : mm_flok RX8 (mm_flt flRX8) := mm_flok_of _ [949, 950, 951, 952, 953, 957, 958, 959, 960, 961, 962, 966, 967, 968, 969, 971, 975, 976, 977, 978, 979, 980, 981, 989, 990, 991, 994, 995, 997, 999, 1001, 970, 972, 973, 974, 947, 948, 956, 955, 954, 963, 964, 982, 983, 984, 987, 985, 986, 988, 965, 992, 993, 996, 998, 1002, 1000, 1003] cl_all (by decide +kernel) (by decide +kernel) (by decide +kernel) (by decide +kernel)
def ctRX0 : List (Nat × Int) := []
set_option maxRecDepth 20000 in
theorem ctRX0_ok : mm_ctJ RX0 (mm_ctt ctRX0) := mm_ctJ_of _ [] (by decide +kernel) (by decide +kernel) (by decide +kernel)
def ctRX1 : List (Nat × Int) := [(66, 4), (85, 8), (95, 10), (107, -1), (109, 1000)]
set_option maxRecDepth 20000 in
theorem ctRX1_ok : mm_ctJ RX1 (mm_ctt ctRX1) := mm_ctJ_of _ [845, 862, 867, 872, 892] (by decide +kernel) (by decide +kernel) (by decide +kernel)
def ctRX2 : List (Nat × Int) := []
set_option maxRecDepth 20000 in
theorem ctRX2_ok : mm_ctJ RX2 (mm_ctt ctRX2) := mm_ctJ_of _ [] (by decide +kernel) (by decide +kernel) (by decide +kernel)
def ctRX3 : List (Nat × Int) := []
set_option maxRecDepth 20000 in
theorem ctRX3_ok : mm_ctJ RX3 (mm_ctt ctRX3) := mm_ctJ_of _ [] (by decide +kernel) (by decide +kernel) (by decide +kernel)
def ctRX4 : List (Nat × Int) := []
set_option maxRecDepth 20000 in
theorem ctRX4_ok : mm_ctJ RX4 (mm_ctt ctRX4) := mm_ctJ_of _ [] (by decide +kernel) (by decide +kernel) (by decide +kernel)
def ctRX5 : List (Nat × Int) := []
set_option maxRecDepth 20000 in
theorem ctRX5_ok : mm_ctJ RX5 (mm_ctt ctRX5) := mm_ctJ_of _ [] (by decide +kernel) (by decide +kernel) (by decide +kernel)
def ctRX6 : List (Nat × Int) := [(101, 1000000)]
set_option maxRecDepth 20000 in
theorem ctRX6_ok : mm_ctI RX6 (mm_ctt ctRX6) := mm_ctI_of _ [792] (by decide +kernel) (by decide +kernel) (by decide +kernel)
def ctRX7 : List (Nat × Int) := [(290, 10000), (292, 1543), (317, 31)]
set_option maxRecDepth 20000 in
theorem ctRX7_ok : mm_ctJ RX7 (mm_ctt ctRX7) := mm_ctJ_of _ [897, 906, 915] (by decide +kernel) (by decide +kernel) (by decide +kernel)
def ctRX8 : List (Nat × Int) := [(326, 4), (348, 8), (363, 10), (399, 1000), (404, 10000), (409, 31), (421, 1543)]
set_option maxRecDepth 20000 in
theorem ctRX8_ok : mm_ctJ RX8 (mm_ctt ctRX8) := mm_ctJ_of _ [1456, 1465, 1474, 1511, 1516, 1538, 1529] (by decide +kernel) (by decide +kernel) (by decide +kernel)
theorem flRJ9_ok : mm_flok RJ9 (mm_flt []) := fun n ci k t h => by cases h
def flRJ9 : List (Nat × Nat × Nat × Nat) := []
def ctRJ9 : List (Nat × Int) := []
set_option maxRecDepth 20000 in
theorem ctRJ9_ok : mm_ctJ RJ9 (mm_ctt ctRJ9) := mm_ctJ_of _ [] (by decide +kernel) (by decide +kernel) (by decide +kernel)
