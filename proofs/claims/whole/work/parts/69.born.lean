/-! rows for constructors: one object at h0, and the cells that it makes, one behind the other from sz on -/
def blk (b : Nat) (es : List va_E) : va_W := es.mapIdx (fun i x => (b + i, x))
theorem blk_get (b : Nat) (es : List va_E) (i : Nat) : (blk b es)[i]? = (es[i]?).map (fun x => (b + i, x)) := by
  simp [blk, List.getElem?_mapIdx]
theorem blk_at {b : Nat} {es : List va_E} {i : Nat} {x : va_E} (h : es[i]? = some x) : (blk b es)[i]? = some (b + i, x) := by rw [blk_get, h]; rfl
theorem blk_ex {b : Nat} {es : List va_E} {i : Nat} {q : Nat × va_E} (h : (blk b es)[i]? = some q) : ∃ x, es[i]? = some x ∧ q = (b + i, x) := by
  rw [blk_get] at h
  cases hx : es[i]? with
  | none => rw [hx] at h; cases h
  | some x => rw [hx] at h; cases h; exact ⟨x, rfl, rfl⟩
def kE (D : va_G) (cA : Nat → ClassId) (U : State) : Prop := va_K D vwCl (mm_tys cA) U ∧ (∀ w ∈ mm_nest, va_Nw w U) ∧ va_AO "SelfishWays$Player" U ∧ mn_ao .int U ∧ mn_ao .long U
theorem kE.warm {D : va_G} {cA : Nat → ClassId} {s U : State} (hW : s.WarmedH U.vm) (h : kE D cA s) : kE D cA U := by
  obtain ⟨h1, h2, h3, h4, h5⟩ := h
  refine ⟨va_K.moved hW.alike h1, fun w hw => ?_, h3.moved hW.alike, h4.moved hW.alike, h5.moved hW.alike⟩
  have hz := (List.mem_filter.mp hw).2
  have h6 := h2 w hw
  cases w <;> first | exact absurd hz Bool.false_ne_true | exact va_Nw.warmM hW h6
theorem kE.blind {D : va_G} {cA : Nat → ClassId} {U : State} {g : JFrame} {mk : MethodId} {a : Array Value} (h : kE D cA U) : kE D cA (U.calling g mk a) := by
  obtain ⟨h1, h2, h3, h4, h5⟩ := h
  have hv : U.vm.Alike (U.calling g mk a).vm := Vm.Alike.refl U.vm
  refine ⟨va_K.moved (u := U) hv h1, fun w hw => ?_, h3.moved hv, h4.moved hv, h5.moved hv⟩
  have hz := (List.mem_filter.mp hw).2
  cases w <;> first | exact absurd hz Bool.false_ne_true | exact va_Nw.same (u := U) (U := U.calling g mk a) rfl rfl (h2 _ hw)
def kA (h0 sz : Nat) : Nat → Prop := fun q => q = h0 ∨ sz ≤ q
def kS (D : va_G) (h0 : Nat) (x : va_E) (sz : Nat) (es : List va_E) (H : Heap) : Prop := H.size = sz + es.length ∧ va_P D vwCl ((h0, x) :: blk sz es) H
theorem kDD {h0 sz : Nat} (h : h0 < sz) (x : va_E) (es : List va_E) : va_D (kA h0 sz) ((h0, x) :: blk sz es) := by
  refine ⟨fun i j p q hp hq e => ?_, fun k q hq => ?_⟩
  · cases i with
    | zero =>
      cases j with
      | zero => rfl
      | succ j =>
        rw [List.getElem?_cons_zero] at hp
        rw [List.getElem?_cons_succ] at hq
        obtain ⟨y, -, rfl⟩ := blk_ex hq
        cases hp
        simp at e
        omega
    | succ i =>
      rw [List.getElem?_cons_succ] at hp
      obtain ⟨y, -, rfl⟩ := blk_ex hp
      cases j with
      | zero =>
        rw [List.getElem?_cons_zero] at hq
        cases hq
        simp at e
        omega
      | succ j =>
        rw [List.getElem?_cons_succ] at hq
        obtain ⟨z, -, rfl⟩ := blk_ex hq
        simp at e
        omega
  · cases k with
    | zero => rw [List.getElem?_cons_zero] at hq; cases hq; exact Or.inl rfl
    | succ k =>
      rw [List.getElem?_cons_succ] at hq
      obtain ⟨y, -, rfl⟩ := blk_ex hq
      exact Or.inr (Nat.le_add_right _ _)
theorem kS.o {D : va_G} {h0 sz : Nat} {x : va_E} {es : List va_E} {H : Heap} (h : kS D h0 x sz es H) : va_at D vwCl (h0, x) H := h.2 0 _ rfl
theorem kS.b {D : va_G} {h0 sz : Nat} {x : va_E} {es : List va_E} {H : Heap} (h : kS D h0 x sz es H) {i : Nat} {y : va_E} (hy : es[i]? = some y) : va_at D vwCl (sz + i, y) H := h.2 (i + 1) _ (by rw [List.getElem?_cons_succ]; exact blk_at hy)
theorem kS.mk {D : va_G} {h0 sz : Nat} {x : va_E} {es : List va_E} {H : Heap} (h1 : H.size = sz + es.length) (h2 : va_at D vwCl (h0, x) H) (h3 : ∀ i y, es[i]? = some y → va_at D vwCl (sz + i, y) H) : kS D h0 x sz es H := ⟨h1, fun k q hq => by
  cases k with
  | zero => rw [List.getElem?_cons_zero] at hq; cases hq; exact h2
  | succ k =>
    rw [List.getElem?_cons_succ] at hq
    obtain ⟨y, hy, rfl⟩ := blk_ex hq
    exact h3 k y hy⟩
/-- some cells more, behind all others -/
theorem kS.more {D : va_G} {h0 sz : Nat} {x : va_E} {es fs : List va_E} {H H1 : Heap} (h : kS D h0 x sz es H) (hz : H1.size = H.size + fs.length) (ho : ∀ q, q < H.size → H1[q]? = H[q]?) (hf : ∀ i y, fs[i]? = some y → va_at D vwCl (H.size + i, y) H1) : kS D h0 x sz (es ++ fs) H1 := by
  refine kS.mk (by rw [hz, h.1, List.length_append]; omega) (h.o.kept (ho _ h.o.lt)) (fun i y hy => ?_)
  by_cases hl : i < es.length
  · rw [List.getElem?_append_left hl] at hy
    have := h.b hy
    exact this.kept (ho _ this.lt)
  · rw [List.getElem?_append_right (by omega)] at hy
    have := hf _ y hy
    rw [h.1, show sz + es.length + (i - es.length) = sz + i by omega] at this
    exact this
def kT (D : va_G) (h0 : Nat) (x : va_E) (sz : Nat) (es : List va_E) (H0 H : Heap) (locs : List Loc) : Prop := kS D h0 x sz es H ∧ va_S (kA h0 sz) H0 H locs
theorem kT.more {D : va_G} {h0 sz : Nat} {x : va_E} {es fs : List va_E} {H0 H H1 : Heap} {locs L : List Loc} (h : kT D h0 x sz es H0 H locs) (hs : H0.size = sz) (hz : H1.size = H.size + fs.length) (ho : ∀ q, q < H.size → H1[q]? = H[q]?) (hf : ∀ i y, fs[i]? = some y → va_at D vwCl (H.size + i, y) H1) (hL : ∀ q ∈ L, sz ≤ q.base) : kT D h0 x sz (es ++ fs) H0 H1 (locs ++ L) := by
  refine ⟨h.1.more hz ho hf, Nat.le_trans h.2.1 (by omega), fun q h1 h2 => (ho q (Nat.lt_of_lt_of_le h1 h.2.1)).trans (h.2.2.1 q h1 h2), fun q hq => ?_⟩
  rcases List.mem_append.mp hq with g | g
  · exact h.2.2.2 q g
  · exact Or.inr (hL q g)
/-- what a constructor's walk stands on -/
def kC (p : Program) (s : State) (m : MethodId) (args : Array Value) (meth : Method) (c : Code) (cc : ByteArray) (own : String) (nL : Nat) (D : va_G) (cA : Nat → ClassId) (h0 sz : Nat) : Prop :=
  p.tables.exec = Jvm.exec ∧ c.code = cc ∧ c.maxLocals = nL ∧ s.vm.findClass own = some m.cls ∧ (∀ w ∈ mm_tbl, w.before args s = true) ∧ kE D cA s ∧ meth.locks = false ∧ meth.sig.returnType = none ∧ meth.name = "<init>" ∧ s.heap.size = sz ∧ h0 < sz
abbrev k_i (cA : Nat → ClassId) (N : Nat) : va_E := .inl (cA 0, N, .inl (fun _ => 0))
abbrev k_l (cA : Nat → ClassId) (N : Nat) : va_E := .inl (cA 1, N, .inr (.inl (fun _ => 0)))
abbrev k_z (cA : Nat → ClassId) (N : Nat) : va_E := .inl (cA 2, N, .inl (fun _ => 0))
abbrev k_g (cA : Nat → ClassId) (t N b : Nat) : va_E := .inl (cA t, N, .inr (.inr (.inr (.inr (fun j => some (b + j))))))
section S69
variable {p : Program} {l : Launch} {e : Env} {R : Room} {s : State} {m : MethodId} {args : Array Value} {below : List Frame} {meth : Method} {c : Code} {H : Heap} {locs : List Loc} {cells slots : Nat} {Q : State → Prop}
variable {cc : ByteArray} {own : String} {nL pc : Nat} {ls : Array Slot} {rest : List Value} {D : va_G} {cA : Nat → ClassId} {h0 sz : Nat} {x : va_E} {es : List va_E}
theorem k_one {y : va_E} {H1 : Heap} (hf : va_at D vwCl (H.size, y) H1) : ∀ i z, [y][i]? = some z → va_at D vwCl (H.size + i, z) H1 := fun i z hz => by
  have hi : i < 1 := (List.getElem?_eq_some_iff.mp hz).1
  have : i = 0 := by omega
  subst this
  cases hz
  exact hf
theorem k_newi (C0 : kC p s m args meth c cc own nL D cA h0 sz) (t : kT D h0 x sz es s.heap H locs) (hw : Cond.arrayClass .int ∈ mm_tbl) {n : Int32} {N : Nat} (hn : ¬ n < 0) (hN : n.toNatClampNeg = N) (hb4 : N * 4 ≤ 536870912) (hcells : cells + 1 ≤ R.cells) (hslots : slots + N ≤ R.slots) (hdg : decode cc pc = .ok (.newarray .int, 2))
    (kk : ∀ H1, kT D h0 x sz (es ++ [k_i cA N]) s.heap H1 locs → W p l e R s m args below meth c H1 locs (cells + 1) (slots + N) Q (F0 m (pc + 2) ls (.ref (sz + es.length) :: rest))) : W p l e R s m args below meth c H locs cells slots Q (F0 m pc ls (.int n :: rest)) := by
  obtain ⟨hx, hb, hml, hown, hts, hE, -, -, -, hsz, -⟩ := C0
  refine va_newaK hx hb (atype := .int) (hts _ hw) rfl hdg rfl hn hN hb4 hcells hslots t.1.1 fun H1 c1 e1 z1 o1 hAr hNm => ?_
  have hc : c1 = cA 0 := Option.some.inj (hNm.symm.trans (hE.1.2 0 _ rfl).2)
  subst hc
  rw [← t.1.1] at e1 z1 o1
  have h := t.more (fs := [k_i cA N]) (L := []) hsz z1 o1 (k_one e1) (fun q hq => by cases hq)
  rw [List.append_nil] at h
  exact kk H1 h
theorem k_newl (C0 : kC p s m args meth c cc own nL D cA h0 sz) (t : kT D h0 x sz es s.heap H locs) (hw : Cond.arrayClass .long ∈ mm_tbl) {n : Int32} {N : Nat} (hn : ¬ n < 0) (hN : n.toNatClampNeg = N) (hb4 : N * 8 ≤ 536870912) (hcells : cells + 1 ≤ R.cells) (hslots : slots + N ≤ R.slots) (hdg : decode cc pc = .ok (.newarray .long, 2))
    (kk : ∀ H1, kT D h0 x sz (es ++ [k_l cA N]) s.heap H1 locs → W p l e R s m args below meth c H1 locs (cells + 1) (slots + N) Q (F0 m (pc + 2) ls (.ref (sz + es.length) :: rest))) : W p l e R s m args below meth c H locs cells slots Q (F0 m pc ls (.int n :: rest)) := by
  obtain ⟨hx, hb, hml, hown, hts, hE, -, -, -, hsz, -⟩ := C0
  refine va_newaK hx hb (atype := .long) (hts _ hw) rfl hdg rfl hn hN hb4 hcells hslots t.1.1 fun H1 c1 e1 z1 o1 hAr hNm => ?_
  have hc : c1 = cA 1 := Option.some.inj (hNm.symm.trans (hE.1.2 1 _ rfl).2)
  subst hc
  rw [← t.1.1] at e1 z1 o1
  have h := t.more (fs := [k_l cA N]) (L := []) hsz z1 o1 (k_one e1) (fun q hq => by cases hq)
  rw [List.append_nil] at h
  exact kk H1 h
theorem k_newz (C0 : kC p s m args meth c cc own nL D cA h0 sz) (t : kT D h0 x sz es s.heap H locs) (hw : Cond.arrayClass .boolean ∈ mm_tbl) {n : Int32} {N : Nat} (hn : ¬ n < 0) (hN : n.toNatClampNeg = N) (hb4 : N * 1 ≤ 536870912) (hcells : cells + 1 ≤ R.cells) (hslots : slots + N ≤ R.slots) (hdg : decode cc pc = .ok (.newarray .boolean, 2))
    (kk : ∀ H1, kT D h0 x sz (es ++ [k_z cA N]) s.heap H1 locs → W p l e R s m args below meth c H1 locs (cells + 1) (slots + N) Q (F0 m (pc + 2) ls (.ref (sz + es.length) :: rest))) : W p l e R s m args below meth c H locs cells slots Q (F0 m pc ls (.int n :: rest)) := by
  obtain ⟨hx, hb, hml, hown, hts, hE, -, -, -, hsz, -⟩ := C0
  refine va_newaK hx hb (atype := .boolean) (hts _ hw) rfl hdg rfl hn hN hb4 hcells hslots t.1.1 fun H1 c1 e1 z1 o1 hAr hNm => ?_
  have hc : c1 = cA 2 := Option.some.inj (hNm.symm.trans (hE.1.2 2 _ rfl).2)
  subst hc
  rw [← t.1.1] at e1 z1 o1
  have h := t.more (fs := [k_z cA N]) (L := []) hsz z1 o1 (k_one e1) (fun q hq => by cases hq)
  rw [List.append_nil] at h
  exact kk H1 h
theorem k_multi {ty : FieldType} {t1 t2 : Nat} {zf : va_E} (C0 : kC p s m args meth c cc own nL D cA h0 sz) (t : kT D h0 x sz es s.heap H locs) {index : Nat} (hcl : Cond.classLink own index ("[" ++ (FieldType.array ty).toString) ∈ mm_tbl) (hw : Cond.arrayClass ty ∈ mm_tbl) (hao : mn_ao ty s)
    (n1 : va_RA s (cA t1) (.array ty) → s.vm.findClass ("[" ++ (FieldType.array ty).toString) = some (cA t1)) (k1 : (mm_tys cA)[t1]? = some (cA t1, .array ty)) (n2 : va_RA s (cA t2) ty → s.vm.findClass (FieldType.array ty).toString = some (cA t2)) (k2 : (mm_tys cA)[t2]? = some (cA t2, ty))
    {n k : Int32} {N K : Nat} (hn : ¬ n < 0) (hk : ¬ k < 0) (hN : n.toNatClampNeg = N) (hK : k.toNatClampNeg = K) (hb1 : N * 4 ≤ 536870912) (hb2 : K * componentBytes ty ≤ 536870912) (hb3 : K ≤ 536870912) (hdf : fits ty (defaultValue ty) = true) (hdd : (defaultValue ty).isDefault = true)
    (hzf : ∀ (a : Nat) (H1 : Heap), H1[a]? = some (arrV (cA t2) K (fun _ => defaultValue ty)) → va_at D vwCl (a, zf) H1)
    (hcells : cells + (1 + N) ≤ R.cells) (hslots : slots + (N + N * K) ≤ R.slots) (hdg : decode cc pc = .ok (.multianewarray index 2, 4))
    (kk : ∀ H1 locs1, kT D h0 x sz (es ++ (k_g cA t1 N (sz + es.length + 1) :: List.replicate N zf)) s.heap H1 locs1 → W p l e R s m args below meth c H1 locs1 (cells + 1 + N) (slots + N + N * K) Q (F0 m (pc + 4) ls (.ref (sz + es.length) :: rest))) : W p l e R s m args below meth c H locs cells slots Q (F0 m pc ls (.int k :: .int n :: rest)) := by
  obtain ⟨hx, hb, hml, hown, hts, hE, -, -, -, hsz, -⟩ := C0
  refine mn_row hx hb hown (hts _ hcl) hao (hts _ hw) hn hk hN hK hb1 hb2 hb3 hdf hdd hcells hslots hdg (fun H1 L c1 c2 f1 f2 hL z1 o1 g1 g2 => ?_)
  have e1 : c1 = cA t1 := Option.some.inj (f1.symm.trans (n1 (hE.1.2 t1 _ k1).2))
  have e2 : c2 = cA t2 := Option.some.inj (f2.symm.trans (n2 (hE.1.2 t2 _ k2).2))
  subst e1
  subst e2
  have hH := t.1.1
  have g3 : H1[H.size]? = some (arrV (cA t1) N fun j => .ref (sz + es.length + 1 + j)) := by rw [g1, hH]
  have hm : ∀ i y, (k_g cA t1 N (sz + es.length + 1) :: List.replicate N zf)[i]? = some y → va_at D vwCl (H.size + i, y) H1 := fun i y hy => by
    cases i with
    | zero => cases hy; exact g3
    | succ i =>
      rw [List.getElem?_cons_succ, List.getElem?_replicate] at hy
      split at hy
      · cases hy
        rw [show H.size + (i + 1) = H.size + 1 + i by omega]
        exact hzf _ _ (g2 i (by assumption))
      · cases hy
  rw [hH]
  exact kk H1 _ (t.more hsz (by rw [z1, List.length_cons, List.length_replicate]; omega) o1 hm (fun q hq => by rw [hL q hq, hH]; exact Nat.le_add_right _ _))
theorem k_newq (C0 : kC p s m args meth c cc own nL D cA h0 sz) (t : kT D h0 x sz es s.heap H locs) {index : Nat} (hcl : Cond.classLink own index "SelfishWays$Player" ∈ mm_tbl) {n : Int32} {N : Nat} (hn : ¬ n < 0) (hN : n.toNatClampNeg = N) (hb4 : N * 4 ≤ 536870912) (hcells : cells + 1 ≤ R.cells) (hslots : slots + N ≤ R.slots) (hdg : decode cc pc = .ok (.anewarray index, 3))
    (kk : ∀ H1, kT D h0 x sz (es ++ [.inl (cA 3, N, .inr (.inr (.inr (.inr (fun _ => none)))))]) s.heap H1 locs → W p l e R s m args below meth c H1 locs (cells + 1) (slots + N) Q (F0 m (pc + 3) ls (.ref (sz + es.length) :: rest))) : W p l e R s m args below meth c H locs cells slots Q (F0 m pc ls (.int n :: rest)) := by
  obtain ⟨hx, hb, hml, hown, hts, hE, -, -, -, hsz, -⟩ := C0
  subst hN
  refine W.anew hx hb hown (hts _ hcl) (va_AO.use hE.2.2.1) rfl hdg rfl hn hb4 hcells hslots fun c1 kA comp f1 f2 f3 f4 => ?_
  obtain ⟨kA', comp', g1, g2, g3, g4⟩ := (hE.1.2 3 _ rfl).2
  have e1 : c1 = cA 3 := Option.some.inj (f1.symm.trans g4)
  subst e1
  generalize hH1 : H.push ({ cls := cA 3, slots := Array.replicate n.toNatClampNeg .null, vm := .none } : Cell) = H1
  have z1 : H1.size = H.size + 1 := by rw [← hH1, Array.size_push]
  have a1 : H1[H.size]? = some (arrV (cA 3) n.toNatClampNeg (fun _ => .null)) := by rw [← hH1, Array.getElem?_push_size, ← arrV_new]
  have o1 : ∀ q : Nat, q < H.size → H1[q]? = H[q]? := fun q hq => by rw [← hH1, Array.getElem?_push, if_neg (Nat.ne_of_lt hq)]
  have h := t.more (fs := [.inl (cA 3, n.toNatClampNeg, .inr (.inr (.inr (.inr (fun _ => none)))))]) (L := []) hsz z1 o1 (k_one a1) (fun q hq => by cases hq)
  rw [List.append_nil] at h
  have k := kk H1 h
  rw [← t.1.1] at k
  exact k
theorem k_new (C0 : kC p s m args meth c cc own nL D cA h0 sz) (t : kT D h0 x sz es s.heap H locs) {C : String} {T : u_T} {N ci index : Nat} (hin : ∀ w ∈ u_ws C T N, w ∈ mm_tbl) (ty : Nat → FieldType) (hty : ∀ k, k < N → parseFieldDescriptor (T k).2.2.1 = some (ty k)) (w1 : Cond.classLink own index C ∈ mm_tbl) (w2 : Cond.instantiable C N ∈ mm_tbl) (w3 : Cond.initialized C ∈ mm_tbl)
    (hc : vwCl[ci]? = some (C, T, N)) {fs : List Value} (hfs : ∀ j, j < N → defaultValue (ty j) = vp_V fs j) (hcells : cells + 1 ≤ R.cells) (hslots : slots + N ≤ R.slots) (hdg : decode cc pc = .ok (.new index, 3))
    (kk : ∀ H1, kT D h0 x sz (es ++ [.inr (ci, fs)]) s.heap H1 locs → W p l e R s m args below meth c H1 locs (cells + 1) (slots + N) Q (F0 m (pc + 3) ls (.ref (sz + es.length) :: rest))) : W p l e R s m args below meth c H locs cells slots Q (F0 m pc ls rest) := by
  obtain ⟨hx, hb, hml, hown, hts, hE, -, -, -, hsz, -⟩ := C0
  have hKn := hE.1.1 ci _ hc
  refine W.newcK hx hb hown (hts _ w1) (hts _ w2) (hts _ w3) rfl hdg hcells hslots hKn.2.1 t.1.1 fun H1 kC hkC e1 z1 o1 => ?_
  rw [← t.1.1] at e1 z1 o1
  have h := t.more (fs := [.inr (ci, fs)]) (L := []) hsz z1 o1 (k_one ⟨_, hc, (u_born ty hts hin hKn hkC e1 hty).to hfs⟩) (fun q hq => by cases hq)
  rw [List.append_nil] at h
  exact kk H1 h
theorem k_putF {ci : Nat} {fs : List Value} (C0 : kC p s m args meth c cc own nL D cA h0 sz) (t : kT D h0 (.inr (ci, fs)) sz es s.heap H locs) {T : u_T} {N index : Nat} (hin : ∀ w ∈ u_ws own T N, w ∈ mm_tbl) (ty0 : Nat → FieldType) (hty : ∀ k, k < N → parseFieldDescriptor (T k).2.2.1 = some (ty0 k)) (hnm : ∀ a, a < N → ∀ b, b < N → a ≠ b → (T a).2.1 ≠ (T b).2.1)
    (hc : vwCl[ci]? = some (own, T, N)) (k : Nat) (hk : k < N) (w1 : Cond.fieldLink own index own (T k).2.1 (T k).2.2.1 ∈ mm_tbl) (hdecl : (T k).1 = own) (hfin : (T k).2.2.2 = true) {v : Value} (hn : narrow (ty0 k) v = v) (hfit : fits (ty0 k) v = true) (hl : k < fs.length) (hdg : decode cc pc = .ok (.putfield index, 3))
    (kk : ∀ H1 locs1, kT D h0 (.inr (ci, fs.set k v)) sz es s.heap H1 locs1 → W p l e R s m args below meth c H1 locs1 cells slots Q (F0 m (pc + 3) ls rest)) : W p l e R s m args below meth c H locs cells slots Q (F0 m pc ls (v :: .ref h0 :: rest)) := by
  obtain ⟨hx, hb, hml, hown, hts, hE, -, -, hi, hsz, hlt⟩ := C0
  have hap := va_apart (own := own) hts hin ty0 hty hnm hE.1 hc
  obtain ⟨r, h1, cell, q1, q2, q3, q4⟩ := t.1.o
  cases Option.some.inj (h1.symm.trans hc)
  obtain ⟨hSl, hfc, kC, hkC, hkind⟩ := hE.1.1 ci _ hc
  obtain ⟨cf, kf, fi, f, hf, hsl⟩ := hSl k hk
  have hlay := hts _ (hin _ (u_in_lay hk))
  unfold u_lay at hlay
  rw [if_pos hfin] at hlay
  have hst := (u_facts hfc hkC (u_lays hts hin hk) hf).1
  have hcf : m.cls = cf := by
    obtain ⟨_, _, c', _, _, _, -, -, hf', -, -, -, hown2, -⟩ := Cond.laysFinal_spec hlay
    have e1 : c' = cf := by have := hf.symm.trans hf'; simp at this; exact this.1.symm
    rw [hdecl] at hown2
    rw [← e1]; exact Option.some.inj (hown.symm.trans hown2)
  have h6 := u_fits hfc hkC hkind (Or.inr hlay) hf (hty k hk) hn hfit
  refine W.putFinK hx hb hown (hts _ w1) (by rw [hdecl] at hf; exact hf) hst hcf hi (by rw [q2]; exact h6) q1 q3 (by rw [hsl]; exact k2_hasslot (q4 k hk)) rfl rfl hdg fun H1 e1 e2 e3 => ?_
  rw [hsl] at e1 ⊢
  refine kk H1 _ ⟨⟨by rw [e2]; exact t.1.1, t.1.2.set (kDD hlt _ es) (p := 0) rfl ⟨_, hc, t_OB.to (V := updV (vp_V fs) k v) ⟨_, e1, q2, q3, t_set q4 hap hk v⟩ (fun j _ => vp_updV_set hl v j)⟩ e3⟩, t.2.put e2 e3 (Or.inl rfl)⟩
theorem k_put {ci : Nat} {fs : List Value} (C0 : kC p s m args meth c cc own nL D cA h0 sz) (t : kT D h0 (.inr (ci, fs)) sz es s.heap H locs) {T : u_T} {N index : Nat} (hin : ∀ w ∈ u_ws own T N, w ∈ mm_tbl) (ty0 : Nat → FieldType) (hty : ∀ k, k < N → parseFieldDescriptor (T k).2.2.1 = some (ty0 k)) (hnm : ∀ a, a < N → ∀ b, b < N → a ≠ b → (T a).2.1 ≠ (T b).2.1)
    (hc : vwCl[ci]? = some (own, T, N)) (k : Nat) (hk : k < N) (w1 : Cond.fieldLink own index own (T k).2.1 (T k).2.2.1 ∈ mm_tbl) (hdecl : (T k).1 = own) (hfin : (T k).2.2.2 = false) {v : Value} (hn : narrow (ty0 k) v = v) (hfit : fits (ty0 k) v = true) (hl : k < fs.length) (hdg : decode cc pc = .ok (.putfield index, 3))
    (kk : ∀ H1 locs1, kT D h0 (.inr (ci, fs.set k v)) sz es s.heap H1 locs1 → W p l e R s m args below meth c H1 locs1 cells slots Q (F0 m (pc + 3) ls rest)) : W p l e R s m args below meth c H locs cells slots Q (F0 m pc ls (v :: .ref h0 :: rest)) := by
  obtain ⟨hx, hb, hml, hown, hts, hE, -, -, hi, hsz, hlt⟩ := C0
  have hap := va_apart (own := own) hts hin ty0 hty hnm hE.1 hc
  obtain ⟨r, h1, cell, q1, q2, q3, q4⟩ := t.1.o
  cases Option.some.inj (h1.symm.trans hc)
  obtain ⟨hSl, hfc, kC, hkC, hkind⟩ := hE.1.1 ci _ hc
  obtain ⟨cf, kf, fi, f, hf, hsl⟩ := hSl k hk
  have hlay := hts _ (hin _ (u_in_lay hk))
  unfold u_lay at hlay
  rw [if_neg (by rw [hfin]; decide)] at hlay
  have hst := (u_facts hfc hkC (u_lays hts hin hk) hf).1
  have h6 := u_store hfc hkC hkind hlay hf (hty k hk) hn hfit
  refine W.putK hx hb (f := f) ⟨hown, hts _ w1, ⟨_, _, _, by rw [hdecl] at hf; exact hf⟩, hst⟩ (by rw [q2]; exact h6) q1 q3 (by rw [hsl]; exact k2_hasslot (q4 k hk)) rfl rfl hdg fun H1 e1 e2 e3 => ?_
  rw [hsl] at e1 ⊢
  refine kk H1 _ ⟨⟨by rw [e2]; exact t.1.1, t.1.2.set (kDD hlt _ es) (p := 0) rfl ⟨_, hc, t_OB.to (V := updV (vp_V fs) k v) ⟨_, e1, q2, q3, t_set q4 hap hk v⟩ (fun j _ => vp_updV_set hl v j)⟩ e3⟩, t.2.put e2 e3 (Or.inl rfl)⟩
end S69
