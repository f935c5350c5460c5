/-! an array of arrays is made at once -/
/-- the class of arrays of arrays is there -/
def mn_ao (ty : FieldType) (U : State) : Prop := ∃ (cB cA : ClassId) (kA : Class), U.vm.findClass (FieldType.array ty).toString = some cB ∧ U.vm.classes[cA]? = some kA ∧ kA.kind = .array cB (.array ty) ∧ U.vm.findClass ("[" ++ (FieldType.array ty).toString) = some cA
theorem mn_ao.of {ty : FieldType} {args : Array Value} {U : State} (h : (Cond.arrayOver (.array ty)).before args U = true) : mn_ao ty U := by
  obtain ⟨cB, cA, kA, h1, -, h2, h3, h4⟩ := arrayOverA_spec h
  exact ⟨cB, cA, kA, h1, h2, h3, h4⟩
theorem mn_ao.moved {ty : FieldType} {u U : State} (hvm : u.vm.Alike U.vm) (h : mn_ao ty u) : mn_ao ty U := by
  obtain ⟨cB, cA, kA, h1, h2, h3, h4⟩ := h
  obtain ⟨k', hk', he⟩ := hvm.2.2 _ _ h2
  exact ⟨cB, cA, k', by rw [hvm.findClass]; exact h1, hk', by rw [he]; exact h3, by rw [hvm.findClass]; exact h4⟩
/-- what the outer row holds when i inner ones are there -/
def mn_f (h i : Nat) : Nat → Value := fun j => if j < i then .ref (h + 1 + j) else .null
def mn_st (T : State) (cA cB : ClassId) (N K : Nat) (z : Value) : Nat → State
  | 0 => T.pushCell (arrV cA N (mn_f T.heap.size 0))
  | i + 1 => ((mn_st T cA cB N K z i).pushCell (arrV cB K (fun _ => z))).setCell T.heap.size (arrV cA N (mn_f T.heap.size (i + 1)))
theorem mn_f_up (h i : Nat) : updV (mn_f h i) i (.ref (h + 1 + i)) = mn_f h (i + 1) := by
  funext j
  unfold updV mn_f
  by_cases e : j = i
  · subst e; rw [if_pos rfl, if_pos (by omega)]
  · rw [if_neg e]
    by_cases e2 : j < i
    · rw [if_pos e2, if_pos (by omega)]
    · rw [if_neg e2, if_neg (by omega)]
theorem mn_f_full {h N : Nat} (c : ClassId) : arrV c N (mn_f h N) = arrV c N (fun j => .ref (h + 1 + j)) := by
  show ({ cls := c, slots := Array.ofFn (n := N) fun j => mn_f h N j.val, vm := .none } : Cell) = ({ cls := c, slots := Array.ofFn (n := N) fun j => .ref (h + 1 + j.val), vm := .none } : Cell)
  have e : (fun j : Fin N => mn_f h N j.val) = fun j : Fin N => Value.ref (h + 1 + j.val) := by
    funext j
    exact if_pos j.isLt
  rw [e]
section S68
variable {cA cB : ClassId} {N K : Nat} {z : Value}
theorem mn_sz (T : State) : ∀ i, (mn_st T cA cB N K z i).heap.size = T.heap.size + 1 + i ∧ (mn_st T cA cB N K z i).heap[T.heap.size]? = some (arrV cA N (mn_f T.heap.size i)) ∧ (mn_st T cA cB N K z i).vm = T.vm ∧ (mn_st T cA cB N K z i).slotsUsed = T.slotsUsed + N + i * K
  | 0 => ⟨by simp [mn_st], by simp [mn_st], rfl, by simp [mn_st, arrV_size]⟩
  | i + 1 => by
    obtain ⟨a, b, d, u⟩ := mn_sz T i
    have hl : T.heap.size < (mn_st T cA cB N K z i).heap.size := by omega
    have hb : ((mn_st T cA cB N K z i).pushCell (arrV cB K (fun _ => z))).heap[T.heap.size]? = some (arrV cA N (mn_f T.heap.size i)) := by rw [State.heap_pushCell_of_lt (h := hl)]; exact b
    refine ⟨?_, State.heap_setCell_self hb, by simp [mn_st, d], ?_⟩
    · simp [mn_st, State.setCell, a]; omega
    · simp [mn_st, u, arrV_size, Nat.succ_mul]; omega
theorem mn_old (T : State) {q : Addr} (hq : q < T.heap.size) : ∀ i, (mn_st T cA cB N K z i).heap[q]? = T.heap[q]?
  | 0 => State.heap_pushCell_of_lt _ _ hq
  | i + 1 => by
    have a := (mn_sz (cA := cA) (cB := cB) (N := N) (K := K) (z := z) T i).1
    have hl : q < (mn_st T cA cB N K z i).heap.size := Nat.lt_of_lt_of_le hq (by omega)
    show (((mn_st T cA cB N K z i).pushCell (arrV cB K (fun _ => z))).setCell T.heap.size _).heap[q]? = _
    rw [State.heap_setCell_other (Nat.ne_of_gt hq), State.heap_pushCell_of_lt (h := hl)]
    exact mn_old T hq i
theorem mn_in (T : State) : ∀ i j, j < i → (mn_st T cA cB N K z i).heap[T.heap.size + 1 + j]? = some (arrV cB K (fun _ => z))
  | 0, _, h => absurd h (Nat.not_lt_zero _)
  | i + 1, j, h => by
    have a := (mn_sz (cA := cA) (cB := cB) (N := N) (K := K) (z := z) T i).1
    show (((mn_st T cA cB N K z i).pushCell (arrV cB K (fun _ => z))).setCell T.heap.size _).heap[T.heap.size + 1 + j]? = _
    rw [State.heap_setCell_other (show T.heap.size ≠ T.heap.size + 1 + j by omega)]
    by_cases e : j = i
    · subst e
      rw [← a]
      exact State.heap_pushCell_size _ _
    · have hl : T.heap.size + 1 + j < (mn_st T cA cB N K z i).heap.size := by omega
      rw [State.heap_pushCell_of_lt (h := hl)]
      exact mn_in T i j (by omega)
theorem mn_top (T : State) (f : JFrame) : ∀ i, mn_st (T.setTop f) cA cB N K z i = (mn_st T cA cB N K z i).setTop f
  | 0 => rfl
  | i + 1 => by simp only [mn_st, mn_top T f i, State.heap_setTop, State.pushCell_setTop, State.setCell_setTop]
end S68
section S68b
variable {E : CtlPost} {e : Env} {d : Bool} {acts : List Action} {s : State}
theorem mn_new {c comp : ClassId} {k : Class} {ty : FieldType} {n : Nat} {z : Value} (hk : s.vm.classes[c]? = some k) (hkind : k.kind = .array comp ty) (hlim : ¬ n > e.platform.arrayLengthLimit) (hheap : ¬ n * componentBytes ty > e.platform.maxHeapBytes) (hfit : fits ty z = true) (hdef : z.isDefault = true)
    (h1 : s.heap.size < e.platform.maxCells) (h2 : s.slotsUsed + n ≤ e.platform.maxSlots) {Q : Addr → Pre} (hq : Q s.heap.size d acts (s.pushCell (arrV c n (fun _ => z)))) : wp (Jvm.newArray c n z) Q E e d acts s := by
  have hall : ∀ i v, (Array.replicate n z)[i]? = some v → s.fitsSlot c .none i v = true := fun i v hv => by
    rw [Array.getElem?_replicate] at hv
    split at hv
    · cases hv; simp [State.fitsSlot, State.slotType?, hk, hkind, hfit]
    · cases hv
  have hact : allocActs (Array.replicate n z) s.heap.size acts = acts := by
    have hd : ((Array.replicate n z).all (·.isDefault)) = true := by
      rw [Array.all_replicate]; split <;> simp [hdef]
    unfold allocActs; rw [if_pos hd]
  rw [← arrV_new] at hq
  simp only [Jvm.newArray, Jvm.arrayFits, wp_bind', W.ask, W.ite, hlim, if_false, wp_pure', W.theClass, hk, hkind, hheap, W.alloc, W.stop, Option.some.injEq, exists_eq_left', Array.size_replicate, hact]
  rw [if_neg (by omega)]
  exact ⟨h1, h2, hall, hq⟩
theorem mn_make {cA cB cc : ClassId} {kA kB : Class} {ty : FieldType} {n k : Int32} (hkA : s.vm.classes[cA]? = some kA) (hkindA : kA.kind = .array cB (.array ty)) (hkB : s.vm.classes[cB]? = some kB) (hkindB : kB.kind = .array cc ty) (hn : ¬ n < 0) (hk : ¬ k < 0)
    (hl1 : ¬ n.toNatClampNeg > e.platform.arrayLengthLimit) (hh1 : ¬ n.toNatClampNeg * componentBytes (.array ty) > e.platform.maxHeapBytes) (hl2 : ¬ k.toNatClampNeg > e.platform.arrayLengthLimit) (hh2 : ¬ k.toNatClampNeg * componentBytes ty > e.platform.maxHeapBytes)
    (hdf : fits ty (defaultValue ty) = true) (hdd : (defaultValue ty).isDefault = true) (hc : s.heap.size + 1 + n.toNatClampNeg ≤ e.platform.maxCells) (hs : s.slotsUsed + n.toNatClampNeg + n.toNatClampNeg * k.toNatClampNeg ≤ e.platform.maxSlots)
    {Q : Addr → Pre} (hq : ∀ d' acts', Q s.heap.size d' acts' (mn_st s cA cB n.toNatClampNeg k.toNatClampNeg (defaultValue ty) n.toNatClampNeg)) : wp (multianewarray.make cA [n, k]) Q E e d acts s := by
  generalize hN : n.toNatClampNeg = N at *
  generalize hK : k.toNatClampNeg = K at *
  have hfind : ([k].find? (· < 0)) = none := by simp [hk]
  have e0 : (fun _ => Value.null) = mn_f s.heap.size 0 := funext (fun j => (if_neg (Nat.not_lt_zero j)).symm)
  rw [multianewarray.make]
  simp only [wp_bind', W.ite, hn, if_false, wp_pure', W.theClass, hkA, hkindA, Option.some.injEq, exists_eq_left', hN]
  refine mn_new hkA hkindA hl1 hh1 rfl rfl (by omega) (by omega) ?_
  simp only [hfind, hN]
  rw [ite_self, wp_bind', Std.Legacy.Range.forIn_eq_forIn_range', show ([:N] : Std.Legacy.Range).size = N by simp [Std.Legacy.Range.size]]
  show wp (forIn (List.range' 0 N 1) PUnit.unit _) _ E e d acts _
  rw [e0]
  refine wp_forIn_inv (fun todo u => ∃ i, i ≤ N ∧ todo = List.range' i (N - i) ∧ u = mn_st s cA cB N K (defaultValue ty) i) _ _ ⟨0, Nat.zero_le _, rfl, rfl⟩ ?_ ?_
  · rintro x todo u d' acts' Q' ⟨i, hi, hl, rfl⟩ nx
    have hlt : i < N := by
      rcases Nat.lt_or_ge i N with g | g
      · exact g
      · rw [show N - i = 0 by omega] at hl; cases hl
    rw [show N - i = (N - (i + 1)) + 1 by omega, List.range'_succ] at hl
    obtain ⟨rfl, hr⟩ := List.cons.inj hl
    obtain ⟨f1, f2, f3, f4⟩ := mn_sz (cA := cA) (cB := cB) (N := N) (K := K) (z := defaultValue ty) s x
    have hmul : x * K + K ≤ N * K := by
      have := Nat.mul_le_mul_right K (show x + 1 ≤ N from hlt)
      rw [Nat.succ_mul] at this; exact this
    have hl0 : s.heap.size < (mn_st s cA cB N K (defaultValue ty) x).heap.size := by omega
    simp only [wp_bind']
    rw [multianewarray.make]
    simp only [wp_bind', W.ite, hk, if_false, wp_pure', W.theClass, f3, hkB, hkindB, Option.some.injEq, exists_eq_left', hK]
    refine mn_new (by rw [f3]; exact hkB) hkindB hl2 hh2 hdf hdd (by omega) (by omega) ?_
    simp only [wp_bind', W.writeLoc, wp_pure']
    refine ⟨arrV cA N (mn_f s.heap.size x), by rw [State.heap_pushCell_of_lt (h := hl0)]; exact f2, (fun h => by cases h), by rw [arrV_size]; exact hlt, ?_, nx _ _ _ ⟨x + 1, hlt, hr, ?_⟩⟩
    · show State.fitsSlot _ cA .none x _ = true
      simp [State.fitsSlot, State.slotType?, f3, hkA, hkindA, fits]
    · rw [f1, arrV_store, mn_f_up]; rfl
  · rintro u d' acts' ⟨i, hi, hl, rfl⟩
    have e1 : i = N := by
      rcases Nat.lt_or_ge i N with g | g
      · rw [show N - i = (N - (i + 1)) + 1 by omega, List.range'_succ] at hl; cases hl
      · omega
    subst e1
    simp only [wp_pure']
    exact hq _ _
end S68b
section S68c
variable {p : Program} {l : Launch} {e : Env} {R : Room} {s : State} {m : MethodId} {args : Array Value} {below : List Frame} {meth : Method} {c : Code} {T : State} {H : Heap} {locs : List Loc} {cells slots : Nat} {Q : State → Prop} {cc : ByteArray} {pc : Nat} {ls : Array Slot} {rest : List Value}
theorem mn_stand (X : Stand p l e R s m args below meth c T locs cells slots) (cA cB : ClassId) (N K : Nat) (z : Value) : ∀ i, ∃ L : List Loc, (∀ q ∈ L, q.base = T.heap.size) ∧ Stand p l e R s m args below meth c (mn_st T cA cB N K z i) (locs ++ L) (cells + 1 + i) (slots + N + i * K)
  | 0 => by
    have h := X.pushed (arrV cA N (mn_f T.heap.size 0))
    rw [arrV_size] at h
    exact ⟨[], (fun q hq => by cases hq), by rw [List.append_nil, Nat.zero_mul, Nat.add_zero, Nat.add_zero]; exact h⟩
  | i + 1 => by
    obtain ⟨L, hL, Xi⟩ := mn_stand X cA cB N K z i
    obtain ⟨f1, f2, f3, f4⟩ := mn_sz (cA := cA) (cB := cB) (N := N) (K := K) (z := z) T i
    have hl0 : T.heap.size < (mn_st T cA cB N K z i).heap.size := by omega
    have hcell : ((mn_st T cA cB N K z i).pushCell (arrV cB K (fun _ => z))).heap[T.heap.size]? = some (arrV cA N (mn_f T.heap.size i)) := by rw [State.heap_pushCell_of_lt (h := hl0)]; exact f2
    have h := (Xi.pushed (arrV cB K (fun _ => z))).stored hcell i (.ref (T.heap.size + 1 + i))
    rw [arrV_size, arrV_store, mn_f_up] at h
    refine ⟨L ++ [⟨T.heap.size, i⟩], fun q hq => ?_, ?_⟩
    · rcases List.mem_append.mp hq with g | g
      · exact hL q g
      · rw [List.mem_singleton.mp g]
    · rw [← List.append_assoc, show slots + N + (i + 1) * K = slots + N + i * K + K by rw [Nat.succ_mul]; omega]
      exact h
/-- multianewarray of two dimensions -/
theorem mn_row (hexec : p.tables.exec = Jvm.exec) (hb : c.code = cc) {own : String} {index : Nat} {ty : FieldType} (hown : s.vm.findClass own = some m.cls) (hclink : (Cond.classLink own index ("[" ++ (FieldType.array ty).toString)).before args s = true) (hover : mn_ao ty s) (harr : (Cond.arrayClass ty).before args s = true)
    {n k : Int32} {N K : Nat} (hn : ¬ n < 0) (hk : ¬ k < 0) (hN : n.toNatClampNeg = N) (hK : k.toNatClampNeg = K) (hb1 : N * 4 ≤ 536870912) (hb2 : K * componentBytes ty ≤ 536870912) (hb3 : K ≤ 536870912) (hdf : fits ty (defaultValue ty) = true) (hdd : (defaultValue ty).isDefault = true)
    (hcells : cells + (1 + N) ≤ R.cells) (hslots : slots + (N + N * K) ≤ R.slots) (hdg : decode cc pc = .ok (.multianewarray index 2, 4))
    (kk : ∀ (H1 : Heap) (L : List Loc) (cA cB : ClassId), s.vm.findClass ("[" ++ (FieldType.array ty).toString) = some cA → s.vm.findClass (FieldType.array ty).toString = some cB → (∀ q ∈ L, q.base = H.size) → H1.size = H.size + 1 + N → (∀ q, q < H.size → H1[q]? = H[q]?) →
      H1[H.size]? = some (arrV cA N (fun j => .ref (H.size + 1 + j))) → (∀ j, j < N → H1[H.size + 1 + j]? = some (arrV cB K (fun _ => defaultValue ty))) → W p l e R s m args below meth c H1 (locs ++ L) (cells + 1 + N) (slots + N + N * K) Q (F0 m (pc + 4) ls (.ref H.size :: rest))) :
    W p l e R s m args below meth c H locs cells slots Q (F0 m pc ls (.int k :: .int n :: rest)) := by
  intro T hT X
  subst hT
  subst hb
  have hpl : e.platform.magicAccessors = ({} : Platform).magicAccessors := by rw [X.admits.platform]
  obtain ⟨cB, cA, kA, hcB, hkA, hkindA, hcA⟩ := hover
  obtain ⟨cB', kB, cc, hcB', hkB, hkindB⟩ := Cond.arrayClass_spec harr
  cases hcB'.symm.trans hcB
  obtain ⟨c0, hc0, hcl⟩ := Cond.classLink_spec hown hclink e.platform hpl
  cases hcA.symm.trans hc0
  obtain ⟨hg1, hw1, hr1⟩ := State.classEntry (e := e) X.warmed hcl
  generalize T.vm.noted m.cls index (.cls cA) = vm1 at hg1 hw1 hr1
  obtain ⟨kA1, hkA1, heA⟩ := hw1.alike.2.2 _ _ hkA
  obtain ⟨kB1, hkB1, heB⟩ := hw1.alike.2.2 _ _ hkB
  have hkindA1 : kA1.kind = .array cB (.array ty) := by rw [heA]; exact hkindA
  have hkindB1 : kB1.kind = .array cc ty := by rw [heB]; exact hkindB
  obtain ⟨hc1, hc2⟩ := X.roomAbove hcells hslots
  obtain ⟨L, hL, XF⟩ := mn_stand (X.noted hw1) cA cB N K (defaultValue ty) N
  obtain ⟨f1, f2, f3, f4⟩ := mn_sz (cA := cA) (cB := cB) (N := N) (K := K) (z := defaultValue ty) (T.setVm vm1) N
  obtain ⟨t, a1, b1⟩ := kk (mn_st (T.setVm vm1) cA cB N K (defaultValue ty) N).heap L cA cB hcA hcB hL f1 (fun q hq => mn_old (T.setVm vm1) hq N) (by rw [← mn_f_full]; exact f2) (fun j hj => mn_in (T.setVm vm1) N j hj) _ rfl XF
  refine ⟨t, ?_, b1⟩
  have hl1 : ¬ N > e.platform.arrayLengthLimit := by rw [Launch.admits_arrayLengthLimit X.admits]; omega
  have hh1 : ¬ N * componentBytes (.array ty) > e.platform.maxHeapBytes := by
    rw [Launch.admits_maxHeapBytes X.admits]; show ¬ N * 4 > 536870912; omega
  have hl2 : ¬ K > e.platform.arrayLengthLimit := by rw [Launch.admits_arrayLengthLimit X.admits]; omega
  have hh2 : ¬ K * componentBytes ty > e.platform.maxHeapBytes := by rw [Launch.admits_maxHeapBytes X.admits]; omega
  subst hN
  subst hK
  jvm_step X.here [hexec, hdg]
  simp only [multianewarray.sem, wp_bind', W.resolveClassAt_links (State.method?_setTop (F0 m pc ls (.int k :: .int n :: rest)) X.here.top) hg1]
  rw [W.popN, if_neg (by decide)]
  refine ⟨F0 m pc ls (.int k :: .int n :: rest), State.topJava?_setTop' (s := T.setVm vm1) _ X.here.top, [.int n, .int k], rest, rfl, rfl, ?_⟩
  simp only [List.mapM_cons, List.mapM_nil, wp_bind', wp_pure']
  refine mn_make hkA1 hkindA1 hkB1 hkindB1 hn hk hl1 hh1 hl2 hh2 hdf hdd (by show T.heap.size + 1 + _ ≤ _; omega) (by show T.slotsUsed + _ + _ ≤ _; omega) (fun d' acts' => ?_)
  have eS : ((T.setTop (F0 m pc ls (.int k :: .int n :: rest))).setVm vm1).setTop { (F0 m pc ls (.int k :: .int n :: rest)) with stack := rest } = (T.setVm vm1).setTop { (F0 m pc ls (.int k :: .int n :: rest)) with stack := rest } := by
    show ((T.setVm vm1).setTop _).setTop _ = _
    rw [State.setTop_setTop]
  rw [eS, mn_top]
  simp only [wp_bind', W.mark, W.pushRef, State.topJava?_setTop' _ XF.here.top, Option.some.injEq, exists_eq_left', State.setTop_setTop, State.heap_setTop]
  intro acts
  simp [jvm, XF.here.top]
  exact a1
end S68c
