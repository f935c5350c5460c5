/-! the law's rows: what holds between two calls; a call of the class, a call of the model -/
def lwC (p : Program) (R : Room) (s : State) (m : MethodId) (args : Array Value) (c : Code) (b L : Nat) (xs : Nat → Int32) (D : va_G) (cA : Nat → ClassId) (cells slots : Nat) : Prop :=
  p.tables.exec = Jvm.exec ∧ c.code = cL_law ∧ c.maxLocals = 4 ∧ s.vm.findClass RL = some m.cls ∧ (∀ w ∈ mm_tbl, w.before args s = true) ∧ kE D cA s ∧ va_X b L xs s s.heap ∧ b < s.heap.size ∧ L ≤ 2048 ∧ 2048 ≤ R.frames ∧ 84000 ≤ R.locals ∧ cells ≤ R.cells ∧ slots ≤ R.slots
def adC (B : Nat) : Nat → Nat := adK pmC B (B + 1)
def adM (B : Nat) : Nat → Nat := adK pmM (B + 137) (B + 138)
set_option maxRecDepth 100000 in
theorem pmC_lt : ∀ i, i < 137 → pmC.getD i 0 < 136 := by decide +kernel
theorem adC_r {B q : Nat} (h : q < 137) : B ≤ adC B q ∧ adC B q < B + 137 := by
  have h2 := pmC_lt q h
  unfold adC adK
  split <;> omega
theorem adM_r (B q : Nat) : B + 137 ≤ adM B q := by
  unfold adM adK
  split <;> omega
theorem adC_M {B i j : Nat} (hi : i < lay_c.length) : adC B i ≠ adM B j := by
  have h1 := (adC_r (B := B) (q := i) hi).2
  have h2 := adM_r B j
  omega
theorem adC_D {A : Nat → Prop} {B : Nat} {cA : Nat → ClassId} {M : mm_M} (h : ∀ q, B ≤ q → A q) : va_D A (mm_W lay_c cA (adC B) M) := adK_D (n := 136) (Nat.lt_succ_self _) rfl pmC_i (h _ (Nat.le_refl _)) (fun q hq => h q (by omega))
theorem adM_D {A : Nat → Prop} {B : Nat} {cA : Nat → ClassId} {M : mm_M} (h : ∀ q, B ≤ q → A q) : va_D A (mm_W lay_m cA (adM B) M) := adK_D (n := 29) (Nat.lt_succ_self _) rfl pmM_i (h _ (by omega)) (fun q hq => h q (by omega))
def lwT (D : va_G) (cA : Nat → ClassId) (s : State) (C M : mm_M) (H : Heap) (locs : List Loc) : Prop :=
  va_P D vwCl (mm_W lay_c cA (adC s.heap.size) C) H ∧ va_P D vwCl (mm_W lay_m cA (adM s.heap.size) M) H ∧ mm_NM lay_c C ∧ mm_NM lay_m M ∧ va_S (fun q => s.heap.size ≤ q) s.heap H locs
theorem l_other {D : va_G} {cA : Nat → ClassId} {lay lay2 : List mm_S} {ad ad2 : Nat → Nat} {M M2 : mm_M} {H H1 : Heap} (h : va_P D vwCl (mm_W lay2 cA ad2 M2) H) (hk : ∀ q : Nat, q < H.size → ¬ va_A (mm_W lay cA ad M) H.size q → H1[q]? = H[q]?) (hne : ∀ i j, i < lay.length → j < lay2.length → ad i ≠ ad2 j) : va_P D vwCl (mm_W lay2 cA ad2 M2) H1 := fun k q hq => by
  have ha := h k q hq
  refine ha.kept (hk _ ha.lt (fun g => ?_))
  obtain ⟨s2, g2, e2⟩ := mm_W_ex hq
  rcases g with ⟨i, x, g⟩ | g
  · obtain ⟨s1, g1, e1⟩ := mm_W_ex g
    have e3 : q.1 = ad i := (Prod.mk.inj e1).1
    have e4 : q.1 = ad2 k := by rw [e2]
    exact hne i k (List.getElem?_eq_some_iff.mp g1).1 (List.getElem?_eq_some_iff.mp g2).1 (e3.symm.trans e4)
  · exact Nat.not_le.mpr ha.lt g
section S76
variable {p : Program} {l : Launch} {e : Env} {R : Room} {s : State} {m : MethodId} {args : Array Value} {below : List Frame} {meth : Method} {c : Code} {H : Heap} {locs : List Loc} {cells slots : Nat} {Q : State → Prop}
variable {pc : Nat} {ls : Array Slot} {rest : List Value} {D : va_G} {cA : Nat → ClassId} {b L : Nat} {xs : Nat → Int32} {C M : mm_M}
theorem l_run {lay : List mm_S} {ad : Nat → Nat} {Q1 : Option mm_V → mm_M → Prop} {A1 A0 free : Nat → Prop} {st0 : List Value} (hr : va_Run p l e R s m args below meth c H locs cells slots 0 0 (F0 m pc ls st0) rest (mm_Qa lay cA ad D Q1 A1) free) (hS : va_S A0 s.heap H locs) (hA : ∀ q, q < H.size → A1 q → A0 q) (hf : ∀ q, free q → A0 q)
    (kk : ∀ (r : Option mm_V) (M' : mm_M) (H1 : Heap) (locs1 : List Loc), Q1 r M' → mm_NM lay M' → va_P D vwCl (mm_W lay cA ad M') H1 → (∀ q : Nat, q < H.size → ¬ A1 q → H1[q]? = H[q]?) → va_S A0 s.heap H1 locs1 → W p l e R s m args below meth c H1 locs1 cells slots Q (F0 m (pc + 3) ls ((r.map (mm_rv ad)).toList ++ rest))) : W p l e R s m args below meth c H locs cells slots Q (F0 m pc ls st0) := by
  intro T hT X
  obtain ⟨v, st₀, t, T', L, h0, X', hL, e1, e2, ⟨⟨r, M', hv, hq, -, hnm, hP⟩, hz, hk⟩, st⟩ := hr T hT X
  cases hv
  rw [h0] at hz hk
  obtain ⟨t2, a1, b1⟩ := kk r M' T'.heap (locs ++ L) hq hnm (by rw [e1]; exact hP) (fun q h1 h2 => by rw [e1]; exact hk q h1 h2)
    ⟨Nat.le_trans hS.1 (by rw [e1]; exact hz), fun q h1 h2 => by rw [e1, hk q (Nat.lt_of_lt_of_le h1 hS.1) (fun z => h2 (hA q (Nat.lt_of_lt_of_le h1 hS.1) z))]; exact hS.2.1 q h1 h2, fun q hq => by
      rcases List.mem_append.mp hq with h | h
      · exact hS.2.2 q h
      · exact hf _ (hL q h)⟩ T' rfl X'
  exact ⟨t2, st t2 a1, b1⟩
/-- a call on the first cell of a world -/
theorem l_call {lay : List mm_S} {ad : Nat → Nat} {y : MethodName} {bc : ByteArray} {mL d n idx ci : Nat} {ret : Option FieldType} {f : mm_F} {qc : vw_C} {K : mm_M} (C0 : lwC p R s m args c b L xs D cA cells slots) (hO : mm_Ok lay y bc mL ret d f)
    (hP : va_P D vwCl (mm_W lay cA ad K) H) (hNM : mm_NM lay K) (hS : va_S (fun q => s.heap.size ≤ q) s.heap H locs) (hD : ∀ A : Nat → Prop, (∀ q, s.heap.size ≤ q → A q) → va_D A (mm_W lay cA ad K)) (hs : lay[0]? = some (.inl ci))
    (hcl : vwCl[ci]? = some qc) (hyc : y.cls = qc.1) (h1 : Cond.methodLink RL idx y ∈ mm_tbl) (h2 : Cond.instanceMethod y ∈ mm_tbl) (h3 : Cond.selects y.cls y y ∈ mm_tbl) (h4 : Cond.initialized y.cls ∈ mm_tbl) (h5 : Cond.code y bc mL ret ∈ mm_tbl)
    (hd : y.cls ≠ "java/lang/invoke/MethodHandle" ∧ y.cls ≠ "java/lang/invoke/VarHandle" ∧ (parseMethodDescriptor y.desc).map (fun d => d.parameters.length) = some n) (hdd : d ≤ 100) (hmL : mL ≤ 40)
    {as : List mm_V} (hN : ∀ v ∈ as, mm_N v) (hn : as.length = n) {Q1 : Option mm_V → mm_M → Prop} (hf : f (.inr (.inr 0) :: as) K Q1) (hla : ls.size = 4) (hcs : (rest.map fun v => v.category).sum ≤ 8) (hdg : decode cL_law pc = .ok (.invokevirtual idx, 3))
    (kk : ∀ (r : Option mm_V) (K' : mm_M) (H1 : Heap) (locs1 : List Loc), Q1 r K' → mm_NM lay K' → va_P D vwCl (mm_W lay cA ad K') H1 → (∀ q : Nat, q < H.size → ¬ va_A (mm_W lay cA ad K) H.size q → H1[q]? = H[q]?) → va_S (fun q => s.heap.size ≤ q) s.heap H1 locs1 → W p l e R s m args below meth c H1 locs1 cells slots Q (F0 m (pc + 3) ls ((r.map (mm_rv ad)).toList ++ rest))) : W p l e R s m args below meth c H locs cells slots Q (F0 m pc ls ((as.map (mm_rv ad)).reverse ++ .ref (ad 0) :: rest)) := by
  obtain ⟨hx, hb, hml, hown, hts, hE, hX, hbl, hL, hfr, hlo, hc1, hc2⟩ := id C0
  have hG : GoodIn mm_tbl (wsV RL idx y.cls y (.code y bc mL ret :: mm_tbl)) := fun w hw => by
    refine mm_tbl_good w ?_
    unfold wsV at hw
    rcases List.mem_append.mp hw with hw | hw
    · simp only [List.mem_cons, List.not_mem_nil, or_false] at hw
      rcases hw with rfl | rfl | rfl | rfl <;> assumption
    · rcases List.mem_cons.mp hw with rfl | hw
      · exact h5
      · exact hw
  have hp : ∀ U : State, U.heap = H → s.WarmedH U.vm → va_Pc ((.inr (.inr 0) :: as : List mm_V).map (mm_rv ad)) (mm_B lay cA ad D H.size (.inr (.inr 0) :: as) K) ((.inr (.inr 0) :: as : List mm_V).map (mm_rv ad)).toArray U := fun U hU hW => by
    have hE2 := hE.warm hW
    refine ⟨rfl, by rw [hU], by rw [hU]; exact hP, hE2.1, hE2.2.1, hD _ (fun _ _ => trivial), fun v hv => ?_, hNM⟩
    rcases List.mem_cons.mp hv with rfl | hv
    · trivial
    · exact hN v hv
  have hA : ∀ q, va_A (mm_W lay cA ad K) H.size q → s.heap.size ≤ q := fun q hq => by
    rcases hq with ⟨k, x, hq⟩ | hq
    · exact (hD (fun q => s.heap.size ≤ q) (fun _ h => h)).2 k _ hq
    · exact Nat.le_trans hS.1 hq
  have hrun := va_runV (R := R) (l := l) (e := e) (below := below) (meth := meth) (locs := locs) (cells := cells) (slots := slots) (As := as.map (mm_rv ad)) (rest := rest) (b := ad 0) (g := F0 m pc ls ((as.map (mm_rv ad)).reverse ++ .ref (ad 0) :: rest)) ⟨hx, hb, hml, hown, hts⟩ (hO l D cA ad H.size _ K Q1 hf)
    (cwV (R := R) n hts hG rfl rfl rfl ⟨rfl, hd⟩ ⟨by show d + 1 ≤ R.frames; omega, by show 8 + (mL + 11) + 64 * d ≤ R.locals; omega⟩)
    ⟨mm_blind, by rw [hyc]; exact va_recv hE.1 hP hcl (mm_W_get hs), hp⟩ rfl (by rw [List.length_map]; exact hn) hla rfl (lv_room hcs) hdg ⟨hc1, hc2⟩
  exact l_run hrun hS (fun q _ hq => hA q hq) hA kk
end S76
