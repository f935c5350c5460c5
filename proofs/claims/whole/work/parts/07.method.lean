/-! runs of the small machine between the cuts of a method; a method's contract; calls -/
abbrev mm_E : Type := Nat × Bool × Instr × List Nat
def mm_from (code : List mm_E) (t : Nat) : List mm_E := match code with
  | [] => []
  | e :: tl => match Nat.beq e.1 t with
    | true => e :: tl
    | false => mm_from tl t
def mm_go (lay : List mm_S) (fl : mm_Fl) (vt sm : mm_Cl) (ct : mm_Ct) (rt : Nat) (code : List mm_E) (K : Nat → mm_K) (Q : Option mm_V → mm_M → Prop) : Nat → List mm_E → mm_K
  | 0, _ => fun _ _ _ => False
  | _ + 1, [] => fun _ _ _ => False
  | n + 1, e :: tl => fun ls st M => match e.2.1 with
    | true => K e.1 ls st M
    | false => mm_in lay fl vt sm ct rt Q e.2.2.1 e.2.2.2 ls st M (mm_go lay fl vt sm ct rt code K Q n tl) (fun t => mm_go lay fl vt sm ct rt code K Q n (mm_from code t))
/-- from a place, its own cut apart -/
def mm_bk (lay : List mm_S) (fl : mm_Fl) (vt sm : mm_Cl) (ct : mm_Ct) (rt : Nat) (code : List mm_E) (K : Nat → mm_K) (Q : Option mm_V → mm_M → Prop) (n pc : Nat) : mm_K := fun ls st M => match mm_from code pc with
  | [] => False
  | e :: tl => mm_in lay fl vt sm ct rt Q e.2.2.1 e.2.2.2 ls st M (mm_go lay fl vt sm ct rt code K Q n tl) (fun t => mm_go lay fl vt sm ct rt code K Q n (mm_from code t))
def mm_sw (i : Instr) : Bool := match i with
  | .tableswitch _ _ _ _ | .lookupswitch _ _ => true
  | _ => false
def mm_eok (b : ByteArray) (own : String) (ct : mm_Ct) (e : mm_E) : Prop := mm_dec b e.1 e.2.2.1 ∧ mm_tg e.1 e.2.2.1 e.2.2.2 ∧ match e.2.2.1 with
  | .ldc n => ∀ z, ct n = some z → mm_R z ∧ Cond.constant own n (Int32.ofInt z) ∈ mm_tbl
  | .ldc2_w n => ∀ z, ct n = some z → mm_RL z ∧ Cond.constantLong own n (Int64.ofInt z) ∈ mm_tbl
  | _ => True
def mm_cok (b : ByteArray) (own : String) (ct : mm_Ct) : List mm_E → Prop
  | [] => True
  | e :: tl => mm_eok b own ct e ∧ (match tl with
    | [] => True
    | e2 :: _ => mm_sw e.2.2.1 = true ∨ e2.1 = e.1 + mm_ln e.2.2.1) ∧ mm_cok b own ct tl
theorem mm_from_e {code : List mm_E} {t : Nat} {e : mm_E} {tl : List mm_E} (h : mm_from code t = e :: tl) : e.1 = t := by
  induction code with
  | nil => cases h
  | cons a cs ih =>
    unfold mm_from at h
    split at h
    · rename_i hb
      cases h
      exact Nat.eq_of_beq_eq_true hb
    · exact ih h
theorem mm_from_ok {b : ByteArray} {own : String} {ct : mm_Ct} {code : List mm_E} {t : Nat} (h : mm_cok b own ct code) : mm_cok b own ct (mm_from code t) := by
  induction code with
  | nil => exact h
  | cons a cs ih =>
    unfold mm_from
    split
    · exact h
    · exact ih h.2.2
section MMM
variable {p : Program} {l : Launch} {e : Env} {R : Room} {s : State} {m : MethodId} {args : Array Value} {below : List Frame} {meth : Method} {c : Code}
variable {lay : List mm_S} {cA : Nat → ClassId} {ad : Nat → Nat} {D : va_G} {A : Nat → Prop} {own : String} {cc : ByteArray} {nL rt : Nat} {Q : Option mm_V → mm_M → Prop}
variable {fl : mm_Fl} {vt sm : mm_Cl} {ct : mm_Ct} {code : List mm_E} {K : Nat → mm_K}
theorem mm_in_sw {i : Instr} {ts : List Nat} {ls : mm_L} {st : List mm_V} {M : mm_M} {nx nx2 : mm_K} {jp : Nat → mm_K} (hs : mm_sw i = true) (h : mm_in lay fl vt sm ct rt Q i ts ls st M nx jp) : mm_in lay fl vt sm ct rt Q i ts ls st M nx2 jp := by
  cases i <;> first | exact absurd hs Bool.false_ne_true | exact h
theorem mm_go_ok (C0 : mm_Cx p s m args meth c lay cA ad D A own cc nL rt) (hfl : mm_flok own fl)
    (hvt : ∀ k ci n f, vt k = some (ci, n, f) → mm_CO p l e R s m args below meth c lay cA ad D A cc nL (.invokevirtual k) n (mm_rcv lay ci) f)
    (hsm : ∀ k ci n f, sm k = some (ci, n, f) → mm_CO p l e R s m args below meth c lay cA ad D A cc nL (.invokestatic k) n (fun _ => true) f)
    (hc : mm_cok cc own ct code) (hct : mm_ctok own ct) (hK : ∀ pc ls st M, K pc ls st M → mm_G p l e R s m args below meth c lay cA ad D A nL Q pc ls st M) :
    ∀ (n : Nat) (L : List mm_E) (ls : mm_L) (st : List mm_V) (M : mm_M), mm_cok cc own ct L → mm_go lay fl vt sm ct rt code K Q n L ls st M → ∃ x tl, L = x :: tl ∧ mm_G p l e R s m args below meth c lay cA ad D A nL Q x.1 ls st M
  | 0, L, ls, st, M, _, h => by unfold mm_go at h; exact h.elim
  | n + 1, [], ls, st, M, _, h => by unfold mm_go at h; exact h.elim
  | n + 1, x :: tl, ls, st, M, hL, h => by
    refine ⟨x, tl, rfl, ?_⟩
    unfold mm_go at h
    split at h
    · exact hK _ _ _ _ h
    · obtain ⟨⟨hd, htg, hcc⟩, hnext, htl⟩ := hL
      have hj : ∀ t ls st M, mm_go lay fl vt sm ct rt code K Q n (mm_from code t) ls st M → mm_G p l e R s m args below meth c lay cA ad D A nL Q t ls st M := fun t ls st M h => by
        obtain ⟨y, tl2, e1, h2⟩ := mm_go_ok C0 hfl hvt hsm hc hct hK n (mm_from code t) ls st M (mm_from_ok hc) h
        rw [mm_from_e e1] at h2
        exact h2
      by_cases hs : mm_sw x.2.2.1 = true
      · exact mm_sound1 (nx := fun _ _ _ => False) C0 hfl hct hcc hvt hsm hd htg (fun _ _ _ z => z.elim) hj (mm_in_sw hs h)
      · refine mm_sound1 C0 hfl hct hcc hvt hsm hd htg (fun ls st M h => ?_) hj h
        obtain ⟨y, tl2, e1, h2⟩ := mm_go_ok C0 hfl hvt hsm hc hct hK n tl ls st M htl h
        subst e1
        rcases hnext with hz | hz
        · exact absurd hz hs
        · rw [← hz]; exact h2
theorem mm_bk_ok (C0 : mm_Cx p s m args meth c lay cA ad D A own cc nL rt) (hfl : mm_flok own fl)
    (hvt : ∀ k ci n f, vt k = some (ci, n, f) → mm_CO p l e R s m args below meth c lay cA ad D A cc nL (.invokevirtual k) n (mm_rcv lay ci) f)
    (hsm : ∀ k ci n f, sm k = some (ci, n, f) → mm_CO p l e R s m args below meth c lay cA ad D A cc nL (.invokestatic k) n (fun _ => true) f)
    (hc : mm_cok cc own ct code) (hct : mm_ctok own ct) (hK : ∀ pc ls st M, K pc ls st M → mm_G p l e R s m args below meth c lay cA ad D A nL Q pc ls st M)
    {n pc : Nat} {ls : mm_L} {st : List mm_V} {M : mm_M} (h : mm_bk lay fl vt sm ct rt code K Q n pc ls st M) : mm_G p l e R s m args below meth c lay cA ad D A nL Q pc ls st M := by
  unfold mm_bk at h
  split at h
  · exact h.elim
  · rename_i x tl hx
    have hL : mm_cok cc own ct (x :: tl) := by rw [← hx]; exact mm_from_ok hc
    have hp := mm_from_e hx
    subst hp
    obtain ⟨⟨hd, htg, hcc⟩, hnext, htl⟩ := hL
    have hj : ∀ t ls st M, mm_go lay fl vt sm ct rt code K Q n (mm_from code t) ls st M → mm_G p l e R s m args below meth c lay cA ad D A nL Q t ls st M := fun t ls st M h => by
      obtain ⟨y, tl2, e1, h2⟩ := mm_go_ok C0 hfl hvt hsm hc hct hK n (mm_from code t) ls st M (mm_from_ok hc) h
      rw [mm_from_e e1] at h2
      exact h2
    by_cases hs : mm_sw x.2.2.1 = true
    · exact mm_sound1 (nx := fun _ _ _ => False) C0 hfl hct hcc hvt hsm hd htg (fun _ _ _ z => z.elim) hj (mm_in_sw hs h)
    · refine mm_sound1 C0 hfl hct hcc hvt hsm hd htg (fun ls st M h => ?_) hj h
      obtain ⟨y, tl2, e1, h2⟩ := mm_go_ok C0 hfl hvt hsm hc hct hK n tl ls st M htl h
      subst e1
      rcases hnext with hz | hz
      · exact absurd hz hs
      · rw [← hz]; exact h2
end MMM
/-! a method's contract -/
def mm_rm (d : Nat) : Room := { frames := d, cells := 0, slots := 0, locals := 64 * d }
def mm_B (lay : List mm_S) (cA : Nat → ClassId) (ad : Nat → Nat) (D : va_G) (sz : Nat) (as : List mm_V) (M : mm_M) (U : State) : Prop := U.heap.size = sz ∧ va_P D vwCl (mm_W lay cA ad M) U.heap ∧ va_K D vwCl (mm_tys cA) U ∧ (∀ w ∈ mm_nest, va_Nw w U) ∧ va_D (fun _ => True) (mm_W lay cA ad M) ∧ (∀ v ∈ as, mm_N v) ∧ mm_NM lay M
def mm_Ok (lay : List mm_S) (y : MethodName) (b : ByteArray) (nL : Nat) (ret : Option FieldType) (d : Nat) (f : mm_F) : Prop :=
  ∀ (l : Launch) (D : va_G) (cA : Nat → ClassId) (ad : Nat → Nat) (sz : Nat) (as : List mm_V) (M : mm_M) (Q : Option mm_V → mm_M → Prop), f as M Q → Met l y (.code y b nL ret :: mm_tbl) (mm_rm d) (va_Pc (as.map (mm_rv ad)) (mm_B lay cA ad D sz as M)) (mm_Qc lay cA ad D Q (va_A (mm_W lay cA ad M) sz)) 0 0 (va_A (mm_W lay cA ad M) sz)
def mm_args : List mm_V → mm_L
  | [] => []
  | .inr (.inl z) :: vs => some (.inr (.inl z)) :: none :: mm_args vs
  | v :: vs => some v :: mm_args vs
def mm_loc (as : List mm_V) (n : Nat) : mm_L := mm_args as ++ List.replicate (n - (mm_args as).length) none
theorem mm_args_lg (ad : Nat → Nat) : ∀ as : List mm_V, (lg_sl (as.map (mm_rv ad))).length = (mm_args as).length
  | [] => rfl
  | .inl z :: vs => by
    show ([Slot.val (.int (Int32.ofInt z))] ++ lg_sl (vs.map (mm_rv ad))).length = (mm_args vs).length + 1
    rw [List.length_append, mm_args_lg ad vs]; simp; omega
  | .inr (.inl z) :: vs => by
    show ([Slot.val (.long (Int64.ofInt z)), Slot.second] ++ lg_sl (vs.map (mm_rv ad))).length = (mm_args vs).length + 1 + 1
    rw [List.length_append, mm_args_lg ad vs]; simp; omega
  | .inr (.inr z) :: vs => by
    show ([Slot.val (.ref (ad z))] ++ lg_sl (vs.map (mm_rv ad))).length = (mm_args vs).length + 1
    rw [List.length_append, mm_args_lg ad vs]; simp; omega
theorem mm_args_lv (ad : Nat → Nat) : ∀ (as : List mm_V) (i k : Nat) (v : mm_V), (mm_args as)[k]? = some (some v) → (i + k, mm_rv ad v) ∈ lv_args i (as.map (mm_rv ad))
  | [], i, k, v, h => by simp [mm_args] at h
  | .inl z :: vs, i, 0, v, h => by
    cases (Option.some.inj (Option.some.inj h) : (Sum.inl z : mm_V) = v)
    exact List.mem_cons_self
  | .inl z :: vs, i, k + 1, v, h => by
    have h2 := mm_args_lv ad vs (i + 1) k v h
    rw [show i + 1 + k = i + (k + 1) by omega] at h2
    exact List.mem_cons_of_mem _ h2
  | .inr (.inr z) :: vs, i, 0, v, h => by
    cases (Option.some.inj (Option.some.inj h) : (Sum.inr (Sum.inr z) : mm_V) = v)
    exact List.mem_cons_self
  | .inr (.inr z) :: vs, i, k + 1, v, h => by
    have h2 := mm_args_lv ad vs (i + 1) k v h
    rw [show i + 1 + k = i + (k + 1) by omega] at h2
    exact List.mem_cons_of_mem _ h2
  | .inr (.inl z) :: vs, i, 0, v, h => by
    cases (Option.some.inj (Option.some.inj h) : (Sum.inr (Sum.inl z) : mm_V) = v)
    exact List.mem_cons_self
  | .inr (.inl z) :: vs, i, 1, v, h => by cases (Option.some.inj h : (none : Option mm_V) = some v)
  | .inr (.inl z) :: vs, i, k + 2, v, h => by
    have h2 := mm_args_lv ad vs (i + 2) k v h
    rw [show i + 2 + k = i + (k + 2) by omega] at h2
    exact List.mem_cons_of_mem _ h2
theorem mm_args_N : ∀ (as : List mm_V) (k : Nat) (v : mm_V), (mm_args as)[k]? = some (some v) → v ∈ as
  | [], k, v, h => by simp [mm_args] at h
  | .inl z :: vs, 0, v, h => by
    cases (Option.some.inj (Option.some.inj h) : (Sum.inl z : mm_V) = v)
    exact List.mem_cons_self
  | .inl z :: vs, k + 1, v, h => List.mem_cons_of_mem _ (mm_args_N vs k v h)
  | .inr (.inr z) :: vs, 0, v, h => by
    cases (Option.some.inj (Option.some.inj h) : (Sum.inr (Sum.inr z) : mm_V) = v)
    exact List.mem_cons_self
  | .inr (.inr z) :: vs, k + 1, v, h => List.mem_cons_of_mem _ (mm_args_N vs k v h)
  | .inr (.inl z) :: vs, 0, v, h => by
    cases (Option.some.inj (Option.some.inj h) : (Sum.inr (Sum.inl z) : mm_V) = v)
    exact List.mem_cons_self
  | .inr (.inl z) :: vs, 1, v, h => by cases (Option.some.inj h : (none : Option mm_V) = some v)
  | .inr (.inl z) :: vs, k + 2, v, h => List.mem_cons_of_mem _ (mm_args_N vs k v h)
theorem mm_loc_e {as : List mm_V} {n k : Nat} {v : mm_V} (h : (mm_loc as n)[k]? = some (some v)) : (mm_args as)[k]? = some (some v) := by
  unfold mm_loc at h
  rw [List.getElem?_append] at h
  split at h
  · exact h
  · rw [List.getElem?_replicate] at h
    split at h <;> cases h
theorem mm_blind {lay : List mm_S} {cA : Nat → ClassId} {ad : Nat → Nat} {D : va_G} {sz : Nat} {as : List mm_V} {M : mm_M} {av : List Value} : FrameBlind (va_Pc av (mm_B lay cA ad D sz as M)) := fun a U g mk q => by
  obtain ⟨q0, q1, q2, q3, q4, q5⟩ := q
  refine ⟨q0, q1, q2, va_K.moved (u := U) (U := U.calling g mk a) (Vm.Alike.refl U.vm) q3, fun w hw => ?_, q5⟩
  have hz := (List.mem_filter.mp hw).2
  cases w <;> first | exact absurd hz Bool.false_ne_true | exact va_Nw.same (u := U) (U := U.calling g mk a) rfl rfl (q4 _ hw)
theorem mm_enter {lay : List mm_S} {y : MethodName} {b : ByteArray} {nL rt : Nat} {ret : Option FieldType} {d : Nat} {f : mm_F} (hy : plainName y.cls = true) (hret : mm_rt rt ret)
    (hb : ∀ (p : Program) (l : Launch) (e : Env) (s : State) (m : MethodId) (args : Array Value) (below : List Frame) (meth : Method) (c : Code) (cA : Nat → ClassId) (ad : Nat → Nat) (D : va_G) (A : Nat → Prop) (as : List mm_V) (M : mm_M) (Q : Option mm_V → mm_M → Prop), f as M Q → mm_Cx p s m args meth c lay cA ad D A y.cls b nL rt → (mm_args as).length ≤ nL ∧ mm_G p l e (mm_rm d) s m args below meth c lay cA ad D A nL Q 0 (mm_loc as nL) [] M) : mm_Ok lay y b nL ret d f := by
  intro l D cA ad sz as M Q h
  refine Met.ofW (cc := b) (maxL := nL) (ret := ret) hy rfl ?_
  intro p e s m args below meth c s₁ B hml hv
  obtain ⟨rfl, hsz, hP, hK, hN, hD0, hN1, hN2⟩ := hv
  have hts := atoms_spec (ws := .code y b nL ret :: mm_tbl) B.pre
  have hown : s.vm.findClass y.cls = some m.cls := findClass_of_methodNamed B.named
  subst hsz
  have hD := hD0.self (sz := s.heap.size)
  have hA : ∀ q : Nat, s.heap.size ≤ q → va_A (mm_W lay cA ad M) s.heap.size q := fun q h => Or.inr h
  have hr := B.returns
  obtain ⟨h1, h2⟩ := hb p l e s m _ below meth c cA ad D (va_A (mm_W lay cA ad M) s.heap.size) as M Q h ⟨B.exec, B.bytes, hml, hown, fun w hw => hts w (List.mem_cons_of_mem _ hw), hK, hN, B.notSynchronized, by rw [hr]; exact hret, hA, fun M' => mm_D_of M' hD⟩
  have hl := lv_entry (as.map (mm_rv ad)) (n := nL) (by rw [mm_args_lg]; exact h1)
  rw [lg_entry_eq]
  refine h2 s.heap [] _ ⟨hP, va_S.rf, ⟨hl.1, hl.2.1, fun q hq => ?_⟩, ?_, fun v hv => (by cases hv), fun k v hk => hN1 v (mm_args_N as k v (mm_loc_e hk)), hN2⟩
  · obtain ⟨k, w⟩ := q
    obtain ⟨v, hv, rfl⟩ := mm_lv_mem.mp hq
    have h3 := mm_args_lv ad as 0 k v (mm_loc_e hv)
    rw [Nat.zero_add] at h3
    exact hl.2.2 _ h3
  · unfold mm_loc
    rw [List.length_append, List.length_replicate]
    omega
theorem mm_enterF {lay : List mm_S} {y : MethodName} {b : ByteArray} {nL rt : Nat} {ret : Option FieldType} {d : Nat} {f : mm_F} (hy : plainFor y = true) (hret : mm_rt rt ret)
    (hb : ∀ (p : Program) (l : Launch) (e : Env) (s : State) (m : MethodId) (args : Array Value) (below : List Frame) (meth : Method) (c : Code) (cA : Nat → ClassId) (ad : Nat → Nat) (D : va_G) (A : Nat → Prop) (as : List mm_V) (M : mm_M) (Q : Option mm_V → mm_M → Prop), f as M Q → mm_Cx p s m args meth c lay cA ad D A y.cls b nL rt → (mm_args as).length ≤ nL ∧ mm_G p l e (mm_rm d) s m args below meth c lay cA ad D A nL Q 0 (mm_loc as nL) [] M) : mm_Ok lay y b nL ret d f := by
  intro l D cA ad sz as M Q h
  refine va_MetF (cc := b) (maxL := nL) (ret := ret) hy rfl ?_
  intro p e s m args below meth c s₁ B hml hv
  obtain ⟨rfl, hsz, hP, hK, hN, hD0, hN1, hN2⟩ := hv
  have hts := atoms_spec (ws := .code y b nL ret :: mm_tbl) B.pre
  have hown : s.vm.findClass y.cls = some m.cls := findClass_of_methodNamed B.named
  subst hsz
  have hD := hD0.self (sz := s.heap.size)
  have hA : ∀ q : Nat, s.heap.size ≤ q → va_A (mm_W lay cA ad M) s.heap.size q := fun q h => Or.inr h
  have hr := B.returns
  obtain ⟨h1, h2⟩ := hb p l e s m _ below meth c cA ad D (va_A (mm_W lay cA ad M) s.heap.size) as M Q h ⟨B.exec, B.bytes, hml, hown, fun w hw => hts w (List.mem_cons_of_mem _ hw), hK, hN, B.notSynchronized, by rw [hr]; exact hret, hA, fun M' => mm_D_of M' hD⟩
  have hl := lv_entry (as.map (mm_rv ad)) (n := nL) (by rw [mm_args_lg]; exact h1)
  rw [lg_entry_eq]
  refine h2 s.heap [] _ ⟨hP, va_S.rf, ⟨hl.1, hl.2.1, fun q hq => ?_⟩, ?_, fun v hv => (by cases hv), fun k v hk => hN1 v (mm_args_N as k v (mm_loc_e hk)), hN2⟩
  · obtain ⟨k, w⟩ := q
    obtain ⟨v, hv, rfl⟩ := mm_lv_mem.mp hq
    have h3 := mm_args_lv ad as 0 k v (mm_loc_e hv)
    rw [Nat.zero_add] at h3
    exact hl.2.2 _ h3
  · unfold mm_loc
    rw [List.length_append, List.length_replicate]
    omega
section MMC
variable {p : Program} {l : Launch} {e : Env} {s : State} {m : MethodId} {args : Array Value} {below : List Frame} {meth : Method} {c : Code}
variable {lay : List mm_S} {cA : Nat → ClassId} {ad : Nat → Nat} {D : va_G} {A : Nat → Prop} {own : String} {cc : ByteArray} {nL rt : Nat}
theorem mm_pre (C0 : mm_Cx p s m args meth c lay cA ad D A own cc nL rt) {H : Heap} {as : List mm_V} {M : mm_M} (hP : va_P D vwCl (mm_W lay cA ad M) H) (hN1 : ∀ v ∈ as, mm_N v) (hN2 : mm_NM lay M) : ∀ U : State, U.heap = H → s.WarmedH U.vm → va_Pc (as.map (mm_rv ad)) (mm_B lay cA ad D H.size as M) (as.map (mm_rv ad)).toArray U := fun U hU hW => by
  obtain ⟨hx, hb, hml, hown, hts, hK, hne, hlk, hrt, hA, hD⟩ := C0
  refine ⟨rfl, by rw [hU], by rw [hU]; exact hP, va_K.moved hW.alike hK, fun w hw => ?_, (hD M).weaken (fun _ _ _ _ => trivial), hN1, hN2⟩
  have hz := (List.mem_filter.mp hw).2
  have h1 := hne w hw
  cases w <;> first | exact absurd hz Bool.false_ne_true | exact va_Nw.warmM hW h1
theorem mm_coV {y : MethodName} {b : ByteArray} {mL d d2 n idx ci : Nat} {ret : Option FieldType} {f : mm_F} {qc : vw_C} (C0 : mm_Cx p s m args meth c lay cA ad D A own cc nL rt) (hO : mm_Ok lay y b mL ret d f)
    (hcl : vwCl[ci]? = some qc) (hyc : y.cls = qc.1) (h1 : Cond.methodLink own idx y ∈ mm_tbl) (h2 : Cond.instanceMethod y ∈ mm_tbl) (h3 : Cond.selects y.cls y y ∈ mm_tbl) (h4 : Cond.initialized y.cls ∈ mm_tbl) (h5 : Cond.code y b mL ret ∈ mm_tbl)
    (hd : y.cls ≠ "java/lang/invoke/MethodHandle" ∧ y.cls ≠ "java/lang/invoke/VarHandle" ∧ (parseMethodDescriptor y.desc).map (fun d => d.parameters.length) = some n) (hdd : d + 1 ≤ d2) (hmL : mL ≤ 40) :
    mm_CO p l e (mm_rm d2) s m args below meth c lay cA ad D A cc nL (.invokevirtual idx) (n + 1) (mm_rcv lay ci) f := by
  obtain ⟨hx, hb, hml, hown, hts, hK, hne, hlk, hrt, hA, hD⟩ := id C0
  intro pc la H locs as rest M Q1 hf hn hrc hP hS hN1 hN2 hla hcs hdg
  unfold mm_rcv at hrc
  split at hrc
  · rename_i q as'
    have hs := mm_kd_e hrc
    have hG : GoodIn mm_tbl (wsV own idx y.cls y (.code y b mL ret :: mm_tbl)) := fun w hw => by
      refine mm_tbl_good w ?_
      unfold wsV at hw
      rcases List.mem_append.mp hw with hw | hw
      · simp only [List.mem_cons, List.not_mem_nil, or_false] at hw
        rcases hw with rfl | rfl | rfl | rfl <;> assumption
      · rcases List.mem_cons.mp hw with rfl | hw
        · exact h5
        · exact hw
    have hp := mm_pre C0 (as := .inr (.inr q) :: as') hP hN1 hN2
    have hrun := va_runV (l := l) (e := e) (below := below) (meth := meth) (locs := locs) (cells := 0) (slots := 0) (As := as'.map (mm_rv ad)) (rest := rest.map (mm_rv ad)) (b := ad q) (g := F0 m pc la (((Sum.inr (Sum.inr q) :: as').reverse ++ rest).map (mm_rv ad))) ⟨hx, hb, hml, hown, hts⟩ (hO l D cA ad H.size _ M Q1 hf)
      (cwV (R := mm_rm d2) n hts hG rfl rfl rfl ⟨rfl, hd⟩ ⟨hdd, by show 8 + (mL + 11) + 64 * d ≤ 64 * d2; omega⟩)
      ⟨mm_blind, by rw [hyc]; exact va_recv hK hP hcl (mm_W_get hs), hp⟩ rfl (by rw [List.length_map]; simpa using hn) hla (by simp [List.map_append, mm_rv]) (lv_room (by rw [mm_cs_eq]; exact hcs)) hdg ⟨Nat.le_refl _, Nat.le_refl _⟩
    exact hrun
  · cases hrc
theorem mm_coS {y : MethodName} {b : ByteArray} {mL d d2 n idx : Nat} {ret : Option FieldType} {f : mm_F} (C0 : mm_Cx p s m args meth c lay cA ad D A own cc nL rt) (hO : mm_Ok lay y b mL ret d f)
    (h1 : Cond.methodLink own idx y ∈ mm_tbl) (h2 : Cond.static y ∈ mm_tbl) (h4 : Cond.initialized y.cls ∈ mm_tbl) (h5 : Cond.code y b mL ret ∈ mm_tbl)
    (hd : y.cls ≠ "java/lang/invoke/MethodHandle" ∧ y.cls ≠ "java/lang/invoke/VarHandle" ∧ (parseMethodDescriptor y.desc).map (fun d => d.parameters.length) = some n) (hdd : d + 1 ≤ d2) (hmL : mL ≤ 40) :
    mm_CO p l e (mm_rm d2) s m args below meth c lay cA ad D A cc nL (.invokestatic idx) n (fun _ => true) f := by
  obtain ⟨hx, hb, hml, hown, hts, hK, hne, hlk, hrt, hA, hD⟩ := id C0
  intro pc la H locs as rest M Q1 hf hn hrc hP hS hN1 hN2 hla hcs hdg
  have hG : GoodIn mm_tbl (va_wsS own idx y (.code y b mL ret :: mm_tbl)) := fun w hw => by
    refine mm_tbl_good w ?_
    unfold va_wsS at hw
    rcases List.mem_append.mp hw with hw | hw
    · simp only [List.mem_cons, List.not_mem_nil, or_false] at hw
      rcases hw with rfl | rfl | rfl <;> assumption
    · rcases List.mem_cons.mp hw with rfl | hw
      · exact h5
      · exact hw
  have hp := mm_pre C0 (as := as) hP hN1 hN2
  exact va_runS (l := l) (e := e) (below := below) (meth := meth) (locs := locs) (cells := 0) (slots := 0) (As := as.map (mm_rv ad)) (rest := rest.map (mm_rv ad)) (g := F0 m pc la ((as.reverse ++ rest).map (mm_rv ad))) ⟨hx, hb, hml, hown, hts⟩ (hO l D cA ad H.size _ M Q1 hf)
      (va_cwS (R := mm_rm d2) n hts hG rfl rfl rfl hd ⟨hdd, by show 8 + (mL + 11) + 64 * d ≤ 64 * d2; omega⟩)
      ⟨mm_blind, hp⟩ rfl (by rw [List.length_map]; exact hn) hla (by simp [List.map_append]) (lv_room (by rw [mm_cs_eq]; exact hcs)) hdg ⟨Nat.le_refl _, Nat.le_refl _⟩
theorem mm_coN {y : MethodName} {b : ByteArray} {mL d d2 n idx : Nat} {ret : Option FieldType} {host : String} {f : mm_F} (C0 : mm_Cx p s m args meth c lay cA ad D A own cc nL rt) (hO : mm_Ok lay y b mL ret d f)
    (h1 : Cond.methodLinkNest own idx y host ∈ mm_nest) (h2 : Cond.static y ∈ mm_tbl) (h4 : Cond.initialized y.cls ∈ mm_tbl) (h5 : Cond.code y b mL ret ∈ mm_tbl)
    (hd : y.cls ≠ "java/lang/invoke/MethodHandle" ∧ y.cls ≠ "java/lang/invoke/VarHandle" ∧ (parseMethodDescriptor y.desc).map (fun d => d.parameters.length) = some n) (hdd : d + 1 ≤ d2) (hmL : mL ≤ 40) :
    mm_CO p l e (mm_rm d2) s m args below meth c lay cA ad D A cc nL (.invokestatic idx) n (fun _ => true) f := by
  obtain ⟨hx, hb, hml, hown, hts, hK, hne, hlk, hrt, hA, hD⟩ := id C0
  intro pc la H locs as rest M Q1 hf hn hrc hP hS hN1 hN2 hla hcs hdg
  have hG : GoodIn mm_tbl (.code y b mL ret :: mm_tbl) := fun w hw => by
    refine mm_tbl_good w ?_
    rcases List.mem_cons.mp hw with rfl | hw
    · exact h5
    · exact hw
  have hp := mm_pre C0 (as := as) hP hN1 hN2
  exact va_runSN (l := l) (e := e) (below := below) (meth := meth) (locs := locs) (cells := 0) (slots := 0) (As := as.map (mm_rv ad)) (rest := rest.map (mm_rv ad)) (g := F0 m pc la ((as.reverse ++ rest).map (mm_rv ad))) ⟨hx, hb, hml, hown, hts⟩ (hO l D cA ad H.size _ M Q1 hf)
      ⟨va_cnB (R := mm_rm d2) n hts hG rfl rfl rfl (hne _ h1) (hts _ h4) hd ⟨hdd, by show 8 + (mL + 11) + 64 * d ≤ 64 * d2; omega⟩, hts _ h2, trivial⟩
      ⟨mm_blind, hp⟩ rfl (by rw [List.length_map]; exact hn) hla (by simp [List.map_append]) (lv_room (by rw [mm_cs_eq]; exact hcs)) hdg ⟨Nat.le_refl _, Nat.le_refl _⟩
end MMC
