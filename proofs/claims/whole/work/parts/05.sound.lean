/-! that one instruction of the small machine is the machine's -/
def mm_tbl : List Cond := lw_tbl.filter goodWord
def mm_isN : Cond → Bool
  | .methodLinkNest .. => true
  | _ => false
def mm_nest : List Cond := lw_tbl.filter mm_isN
theorem mm_tbl_in {w : Cond} (h : w ∈ lw_tbl) (hg : goodWord w = true) : w ∈ mm_tbl := List.mem_filter.mpr ⟨h, hg⟩
theorem mm_tbl_good : GoodIn mm_tbl mm_tbl := fun w hw => ⟨hw, good_of_word (List.mem_filter.mp hw).2⟩
def mm_ln (i : Instr) : Nat := match i with
  | .aload _ | .iload _ | .lload _ | .astore _ | .istore _ | .lstore _ | .bipush _ | .ldc _ => 2
  | .sipush _ | .ldc2_w _ | .iinc _ _ | .goto _ | .ifCond _ _ | .if_icmp _ _ | .getfield _ | .putfield _ | .invokevirtual _ | .invokestatic _ => 3
  | _ => 1
def mm_dec (b : ByteArray) (pc : Nat) (i : Instr) : Prop := match i with
  | .tableswitch _ _ _ _ | .lookupswitch _ _ => ∃ n, decode b pc = .ok (i, n)
  | _ => decode b pc = .ok (i, mm_ln i)
def mm_tg (pc : Nat) (i : Instr) (ts : List Nat) : Prop := match i with
  | .goto o | .ifCond _ o | .if_icmp _ o => ∀ t, ts = [t] → (pc : Int) + o = (t : Int)
  | .tableswitch d lo hi os => (d :: os.toList).map (fun o => (pc : Int) + o) = ts.map (fun t : Nat => (t : Int)) ∧ hi - lo + 1 = (os.toList.length : Int)
  | .lookupswitch d ps => (d :: ps.toList.map (·.2)).map (fun o => (pc : Int) + o) = ts.map (fun t : Nat => (t : Int)) ∧ (ps.toList.zip (ps.toList.drop 1)).all (fun (a, next) => a.1 < next.1) = true
  | _ => True
def mm_tys (cA : Nat → ClassId) : List (ClassId × FieldType) := [(cA 0, .int), (cA 1, .long), (cA 2, .boolean), (cA 3, .object "SelfishWays$Player"), (cA 4, .array .int), (cA 5, .array .long)]
def mm_rt (rt : Nat) (ty : Option FieldType) : Prop := match rt with
  | 0 => ty = none
  | 1 => ty = some .int
  | 2 => ty = some .boolean
  | _ => ty = some .long
def mm_tyk (t : Nat) (ty : FieldType) : Prop := match t with
  | 0 => ty = .int
  | 1 => ty = .long
  | 3 => ty = .array .int
  | 4 => ty = .boolean
  | _ => False
def mm_clok (ci : Nat) : Prop := ∃ (C : String) (T : u_T) (N : Nat) (ty0 : Nat → FieldType), vwCl[ci]? = some (C, T, N) ∧ (∀ w ∈ u_ws C T N, w ∈ mm_tbl) ∧ (∀ k, k < N → parseFieldDescriptor (T k).2.2.1 = some (ty0 k)) ∧ (∀ a, a < N → ∀ b, b < N → a ≠ b → (T a).2.1 ≠ (T b).2.1) ∧ (mm_fts ci).length = N ∧ ∀ (k t : Nat), (mm_fts ci)[k]? = some t → t = 2 ∨ ((T k).2.2.2 = false ∧ mm_tyk t (ty0 k))
/-- the links of a class's fields -/
def mm_flok (own : String) (fl : mm_Fl) : Prop := ∀ (n ci k t : Nat), fl n = some (ci, k, t) → (mm_fts ci)[k]? = some t ∧ mm_clok ci ∧ ∀ q : vw_C, vwCl[ci]? = some q → Cond.fieldLink own n (q.2.1 k).1 (q.2.1 k).2.1 (q.2.1 k).2.2.1 ∈ mm_tbl
def mm_ctok (own : String) (ct : mm_Ct) : Prop := ∀ n z, ct n = some z → (mm_R z ∧ Cond.constant own n (Int32.ofInt z) ∈ mm_tbl) ∨ (mm_RL z ∧ Cond.constantLong own n (Int64.ofInt z) ∈ mm_tbl)
def mm_Qa (lay : List mm_S) (cA : Nat → ClassId) (ad : Nat → Nat) (D : va_G) (Q : Option mm_V → mm_M → Prop) (A1 : Nat → Prop) : State → Outcome → State → Prop := fun st oc t =>
  (∃ (r : Option mm_V) (M' : mm_M), oc = .returned (r.map (mm_rv ad)) ∧ Q r M' ∧ (∀ v, r = some v → mm_N v) ∧ mm_NM lay M' ∧ va_P D vwCl (mm_W lay cA ad M') t.heap) ∧ va_F A1 st t
def mm_Qc (lay : List mm_S) (cA : Nat → ClassId) (ad : Nat → Nat) (D : va_G) (Q : Option mm_V → mm_M → Prop) (A1 : Nat → Prop) : Array Value → State → Outcome → State → Prop := fun _ => mm_Qa lay cA ad D Q A1
section MMS
variable {p : Program} {l : Launch} {e : Env} {R : Room} {s : State} {m : MethodId} {args : Array Value} {below : List Frame} {meth : Method} {c : Code}
variable {lay : List mm_S} {cA : Nat → ClassId} {ad : Nat → Nat} {D : va_G} {A : Nat → Prop} {own : String} {cc : ByteArray} {nL rt : Nat} {Q : Option mm_V → mm_M → Prop}
def mm_Cx (p : Program) (s : State) (m : MethodId) (args : Array Value) (meth : Method) (c : Code) (lay : List mm_S) (cA : Nat → ClassId) (ad : Nat → Nat) (D : va_G) (A : Nat → Prop) (own : String) (cc : ByteArray) (nL rt : Nat) : Prop :=
  p.tables.exec = Jvm.exec ∧ c.code = cc ∧ c.maxLocals = nL ∧ s.vm.findClass own = some m.cls ∧ (∀ w ∈ mm_tbl, w.before args s = true) ∧ va_K D vwCl (mm_tys cA) s ∧ (∀ w ∈ mm_nest, va_Nw w s) ∧ meth.locks = false ∧ mm_rt rt meth.sig.returnType ∧ (∀ q, s.heap.size ≤ q → A q) ∧ ∀ M, va_D A (mm_W lay cA ad M)
def mm_T (lay : List mm_S) (cA : Nat → ClassId) (ad : Nat → Nat) (D : va_G) (A : Nat → Prop) (s : State) (nL : Nat) (H : Heap) (locs : List Loc) (la : Array Slot) (ls : mm_L) (st : List mm_V) (M : mm_M) : Prop :=
  va_P D vwCl (mm_W lay cA ad M) H ∧ va_S A s.heap H locs ∧ lv_has la nL (mm_lv ad ls) ∧ ls.length = nL ∧ (∀ v ∈ st, mm_N v) ∧ (∀ (k : Nat) (v : mm_V), ls[k]? = some (some v) → mm_N v) ∧ mm_NM lay M
def mm_G (p : Program) (l : Launch) (e : Env) (R : Room) (s : State) (m : MethodId) (args : Array Value) (below : List Frame) (meth : Method) (c : Code) (lay : List mm_S) (cA : Nat → ClassId) (ad : Nat → Nat) (D : va_G) (A : Nat → Prop) (nL : Nat) (Q : Option mm_V → mm_M → Prop) (pc : Nat) : mm_K := fun ls st M =>
  ∀ (H : Heap) (locs : List Loc) (la : Array Slot), mm_T lay cA ad D A s nL H locs la ls st M → W p l e R s m args below meth c H locs 0 0 (MQ below (mm_Qc lay cA ad D Q A) args s 0 0 A) (F0 m pc la (st.map (mm_rv ad)))
theorem mm_T.st {H : Heap} {locs : List Loc} {la : Array Slot} {ls : mm_L} {st st' : List mm_V} {M : mm_M} (t : mm_T lay cA ad D A s nL H locs la ls st M) (h : ∀ v ∈ st', mm_N v) : mm_T lay cA ad D A s nL H locs la ls st' M := ⟨t.1, t.2.1, t.2.2.1, t.2.2.2.1, h, t.2.2.2.2.2⟩
theorem mm_n1 {v : mm_V} {st : List mm_V} (hv : mm_N v) (h : ∀ v ∈ st, mm_N v) : ∀ w ∈ v :: st, mm_N w := fun w hw => by
  rcases List.mem_cons.mp hw with rfl | hw
  · exact hv
  · exact h w hw
theorem mm_n2 {v : mm_V} {st : List mm_V} (h : ∀ w ∈ v :: st, mm_N w) : mm_N v ∧ ∀ w ∈ st, mm_N w := ⟨h v List.mem_cons_self, fun w hw => h w (List.mem_cons_of_mem _ hw)⟩
theorem mm_T.set1 {H : Heap} {locs : List Loc} {la la' : Array Slot} {ls : mm_L} {st st' : List mm_V} {M : mm_M} {k : Nat} {v : mm_V} (t : mm_T lay cA ad D A s nL H locs la ls st M) (hst : ∀ w ∈ st', mm_N w) (hv : mm_N v) (hn : mm_nl ls k = true) (h : lv_has la' nL ((k, mm_rv ad v) :: (mm_lv ad ls).filter (fun q => !(q.1 == k) && !(q.1 + 1 == k && q.2.category == 2)))) : mm_T lay cA ad D A s nL H locs la' (ls.set k (some v)) st' M := by
  obtain ⟨t1, t2, t3, t4, t5, t6, t7⟩ := t
  refine ⟨t1, t2, mm_lv_set1 hn h, by rw [List.length_set]; exact t4, hst, fun i w hw => ?_, t7⟩
  rw [List.getElem?_set] at hw
  split at hw
  · split at hw
    · cases hw; exact hv
    · cases hw
  · exact t6 i w hw
theorem mm_T.set2 {H : Heap} {locs : List Loc} {la la' : Array Slot} {ls : mm_L} {st st' : List mm_V} {M : mm_M} {k : Nat} {v : mm_V} (t : mm_T lay cA ad D A s nL H locs la ls st M) (hst : ∀ w ∈ st', mm_N w) (hv : mm_N v) (hn : mm_nl ls k = true) (h : lv_has la' nL ((k, mm_rv ad v) :: (mm_lv ad ls).filter (fun q => !(q.1 == k) && (!(q.1 == k + 1) && !(q.1 + 1 == k && q.2.category == 2))))) : mm_T lay cA ad D A s nL H locs la' ((ls.set (k + 1) none).set k (some v)) st' M := by
  obtain ⟨t1, t2, t3, t4, t5, t6, t7⟩ := t
  refine ⟨t1, t2, mm_lv_set2 hn h, by rw [List.length_set, List.length_set]; exact t4, hst, fun i w hw => ?_, t7⟩
  rw [List.getElem?_set] at hw
  split at hw
  · split at hw
    · cases hw; exact hv
    · cases hw
  · rw [List.getElem?_set] at hw
    split at hw
    · split at hw <;> cases hw
    · exact t6 i w hw
theorem mm_bt_e {cd : Jvm.ClassFile.Cond} {x y : Int} {X Y : Prop} (h : mm_bt cd x y X Y) (hx : mm_R x) (hy : mm_R y) : match cd with
  | .eq => (Int32.ofInt x = Int32.ofInt y → X) ∧ (¬ Int32.ofInt x = Int32.ofInt y → Y)
  | .ne => (¬ Int32.ofInt x = Int32.ofInt y → X) ∧ (Int32.ofInt x = Int32.ofInt y → Y)
  | .lt => (Int32.ofInt x < Int32.ofInt y → X) ∧ (¬ Int32.ofInt x < Int32.ofInt y → Y)
  | .ge => (Int32.ofInt y ≤ Int32.ofInt x → X) ∧ (¬ Int32.ofInt y ≤ Int32.ofInt x → Y)
  | .gt => (Int32.ofInt y < Int32.ofInt x → X) ∧ (¬ Int32.ofInt y < Int32.ofInt x → Y)
  | .le => (Int32.ofInt x ≤ Int32.ofInt y → X) ∧ (¬ Int32.ofInt x ≤ Int32.ofInt y → Y) := by
  cases cd
  · exact ⟨fun q => h.1 ((mm_eq hx hy).mp q), fun q => h.2 (fun z => q ((mm_eq hx hy).mpr z))⟩
  · exact ⟨fun q => h.1 (fun z => q ((mm_eq hx hy).mpr z)), fun q => h.2 ((mm_eq hx hy).mp q)⟩
  · exact ⟨fun q => h.1 ((mm_lt hx hy).mp q), fun q => h.2 (Int.not_lt.mp fun z => q ((mm_lt hx hy).mpr z))⟩
  · exact ⟨fun q => h.1 ((mm_le hy hx).mp q), fun q => h.2 (Int.not_le.mp fun z => q ((mm_le hy hx).mpr z))⟩
  · exact ⟨fun q => h.1 ((mm_lt hy hx).mp q), fun q => h.2 (Int.not_lt.mp fun z => q ((mm_lt hy hx).mpr z))⟩
  · exact ⟨fun q => h.1 ((mm_le hx hy).mp q), fun q => h.2 (Int.not_le.mp fun z => q ((mm_le hx hy).mpr z))⟩
/-- behind a call -/
theorem mm_callk {H : Heap} {locs : List Loc} {pc : Nat} {la : Array Slot} {st0 rest : List Value} {Q1 : Option mm_V → mm_M → Prop} {A1 free : Nat → Prop} {Qw : State → Prop} (hr : va_Run p l e R s m args below meth c H locs 0 0 0 0 (F0 m pc la st0) rest (mm_Qa lay cA ad D Q1 A1) free) (hS : va_S A s.heap H locs) (hA : ∀ q, q < H.size → A1 q → A q) (hf : ∀ q, free q → A q)
    (kk : ∀ (r : Option mm_V) (M' : mm_M) (H1 : Heap) (locs1 : List Loc), Q1 r M' → (∀ v, r = some v → mm_N v) → mm_NM lay M' → va_P D vwCl (mm_W lay cA ad M') H1 → va_S A s.heap H1 locs1 → W p l e R s m args below meth c H1 locs1 0 0 Qw (F0 m (pc + 3) la ((r.map (mm_rv ad)).toList ++ rest))) : W p l e R s m args below meth c H locs 0 0 Qw (F0 m pc la st0) := by
  intro T hT X
  obtain ⟨v, st₀, t, T', L, h0, X', hL, e1, e2, ⟨⟨r, M', hv, hq, hn, hnm, hP⟩, hz, hk⟩, st⟩ := hr T hT X
  cases hv
  rw [h0] at hz hk
  obtain ⟨t2, a1, b1⟩ := kk r M' T'.heap (locs ++ L) hq hn hnm (by rw [e1]; exact hP)
    ⟨Nat.le_trans hS.1 (by rw [e1]; exact hz), fun q h1 h2 => by rw [e1, hk q (Nat.lt_of_lt_of_le h1 hS.1) (fun z => h2 (hA q (Nat.lt_of_lt_of_le h1 hS.1) z))]; exact hS.2.1 q h1 h2, fun q hq => by
      rcases List.mem_append.mp hq with h | h
      · exact hS.2.2 q h
      · exact hf _ (hL q h)⟩ T' rfl X'
  exact ⟨t2, st t2 a1, b1⟩
/-- a call that may be made -/
def mm_CO (p : Program) (l : Launch) (e : Env) (R : Room) (s : State) (m : MethodId) (args : Array Value) (below : List Frame) (meth : Method) (c : Code) (lay : List mm_S) (cA : Nat → ClassId) (ad : Nat → Nat) (D : va_G) (A : Nat → Prop) (cc : ByteArray) (nL : Nat) (i : Instr) (n : Nat) (b : List mm_V → Bool) (f : mm_F) : Prop :=
  ∀ (pc : Nat) (la : Array Slot) (H : Heap) (locs : List Loc) (as rest : List mm_V) (M : mm_M) (Q1 : Option mm_V → mm_M → Prop), f as M Q1 → as.length = n → b as = true → va_P D vwCl (mm_W lay cA ad M) H → va_S A s.heap H locs → (∀ v ∈ as, mm_N v) → mm_NM lay M → la.size = nL → mm_cs rest ≤ 8 → decode cc pc = .ok (i, 3) →
    va_Run p l e R s m args below meth c H locs 0 0 0 0 (F0 m pc la ((as.reverse ++ rest).map (mm_rv ad))) (rest.map (mm_rv ad)) (mm_Qa lay cA ad D Q1 (va_A (mm_W lay cA ad M) H.size)) (va_A (mm_W lay cA ad M) H.size)
theorem mm_inv_ok {i : Instr} {n pc : Nat} {b : List mm_V → Bool} {f : mm_F} {ls : mm_L} {st : List mm_V} {M : mm_M} {nx : mm_K} (C0 : mm_Cx p s m args meth c lay cA ad D A own cc nL rt) (hc : mm_CO p l e R s m args below meth c lay cA ad D A cc nL i n b f) (hd : decode cc pc = .ok (i, 3)) (hnx : ∀ ls st M, nx ls st M → mm_G p l e R s m args below meth c lay cA ad D A nL Q (pc + 3) ls st M) (h : mm_inv n b f ls st M nx) : mm_G p l e R s m args below meth c lay cA ad D A nL Q pc ls st M := by
  obtain ⟨hx, hb, hml, hown, hts, hK, hne, hlk, hrt, hA, hD⟩ := C0
  unfold mm_inv at h
  obtain ⟨h1, h2⟩ := mm_chk_e h
  rw [Bool.and_eq_true, Bool.and_eq_true] at h1
  obtain ⟨g1, g2, g3⟩ := h1
  have g1 := Nat.le_of_ble_eq_true g1
  have g2 := Nat.le_of_ble_eq_true g2
  intro H locs la t
  obtain ⟨t1, t2, t3, t4, t5, t6, t7⟩ := id t
  have hst : st = ((st.take n).reverse).reverse ++ st.drop n := by rw [List.reverse_reverse, List.take_append_drop]
  have hN : ∀ v ∈ (st.take n).reverse, mm_N v := fun v hv => t5 v (List.mem_of_mem_take (List.mem_reverse.mp hv))
  have hr := hc pc la H locs (st.take n).reverse (st.drop n) M _ h2 (by rw [List.length_reverse, List.length_take]; omega) g3 t1 t2 hN t7 t3.1 g2 hd
  rw [← hst] at hr
  have hfA : ∀ q, va_A (mm_W lay cA ad M) H.size q → A q := fun q hq => by
    rcases hq with ⟨k, e, hq⟩ | hq
    · exact (hD M).2 k _ hq
    · exact hA q (Nat.le_trans t2.1 hq)
  refine mm_callk hr t2 (fun q _ => hfA q) hfA (fun r M' H1 locs1 hq hn hnm hP hS => ?_)
  have hm : (r.map (mm_rv ad)).toList ++ (st.drop n).map (mm_rv ad) = (r.toList ++ st.drop n).map (mm_rv ad) := by
    cases r <;> simp
  rw [hm]
  refine hnx _ _ _ hq H1 locs1 la ⟨hP, hS, t3, t4, fun v hv => ?_, t6, hnm⟩
  rcases List.mem_append.mp hv with hv | hv
  · cases r with
    | none => cases hv
    | some w =>
      rw [show (some w).toList = [w] from rfl, List.mem_singleton] at hv
      subst hv
      exact hn v rfl
  · exact t5 v (List.mem_of_mem_drop hv)
end MMS
