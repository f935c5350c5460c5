/-! a constructor's contract: entry, end, calls -/
def kRm (fr lc n sl : Nat) : Room := { frames := fr, cells := n, slots := sl, locals := lc }
def kQ (D : va_G) (h0 : Nat) (x : va_E) (sz : Nat) (es : List va_E) : Array Value → State → Outcome → State → Prop := va_Qv (fun _ : Unit => True) (fun _ t => kS D h0 x sz es t.heap) (kA h0 sz)
def kB (D : va_G) (cA : Nat → ClassId) (h0 : Nat) (x : va_E) (sz : Nat) (U : State) : Prop := U.heap.size = sz ∧ va_at D vwCl (h0, x) U.heap ∧ kE D cA U
def kMet (y : MethodName) (b : ByteArray) (nL fr lc ci : Nat) (fs0 : List Value) (n sl : Nat) (fsF : Nat → List Value) (esF : (Nat → ClassId) → Nat → List va_E) : Prop :=
  ∀ (l : Launch) (D : va_G) (cA : Nat → ClassId) (h0 sz : Nat), h0 < sz → Met l y (.code y b nL none :: mm_tbl) (kRm fr lc n sl) (va_Pc [.ref h0] (kB D cA h0 (.inr (ci, fs0)) sz)) (kQ D h0 (.inr (ci, fsF sz)) sz (esF cA sz)) n sl (kA h0 sz)
theorem kB_blind {D : va_G} {cA : Nat → ClassId} {h0 sz : Nat} {x : va_E} {av : List Value} : FrameBlind (va_Pc av (kB D cA h0 x sz)) := fun a U g mk q => by
  obtain ⟨q0, q1, q2, q3⟩ := q
  exact ⟨q0, q1, q2, q3.blind⟩
theorem k_enter {y : MethodName} {b : ByteArray} {nL fr lc ci : Nat} {fs0 : List Value} {n sl : Nat} {fsF : Nat → List Value} {esF : (Nat → ClassId) → Nat → List va_E} (hy : plainName y.cls = true) (hyi : y.name = "<init>") (hnL : 1 ≤ nL)
    (hb : ∀ (p : Program) (l : Launch) (e : Env) (s : State) (m : MethodId) (args : Array Value) (below : List Frame) (meth : Method) (c : Code) (D : va_G) (cA : Nat → ClassId) (h0 sz : Nat) (ls : Array Slot), kC p s m args meth c b y.cls nL D cA h0 sz → kT D h0 (.inr (ci, fs0)) sz [] s.heap s.heap [] → lv_has ls nL [(0, .ref h0)] →
      W p l e (kRm fr lc n sl) s m args below meth c s.heap [] 0 0 (MQ below (kQ D h0 (.inr (ci, fsF sz)) sz (esF cA sz)) args s n sl (kA h0 sz)) (F0 m 0 ls [])) : kMet y b nL fr lc ci fs0 n sl fsF esF := by
  intro l D cA h0 sz hlt
  refine Met.ofW (cc := b) (maxL := nL) (ret := none) hy rfl ?_
  intro p e s m args below meth c s₁ B hml hv
  obtain ⟨rfl, hsz, ha, hE⟩ := hv
  have hts := atoms_spec (ws := .code y b nL none :: mm_tbl) B.pre
  have hown : s.vm.findClass y.cls = some m.cls := findClass_of_methodNamed B.named
  have hin : meth.name = "<init>" := ((name_of_methodNamed B.named B.method).1).trans hyi
  have hl := lv_entry ([.ref h0]) (n := nL) hnL
  rw [lg_entry_eq]
  exact hb p l e s m _ below meth c D cA h0 sz _ ⟨B.exec, B.bytes, hml, hown, fun w hw => hts w (List.mem_cons_of_mem _ hw), hE, B.notSynchronized, B.returns, hin, hsz, hlt⟩ ⟨kS.mk hsz ha (fun i y hy => by simp at hy), va_S.rf⟩ hl
section S70
variable {p : Program} {l : Launch} {e : Env} {R : Room} {s : State} {m : MethodId} {args : Array Value} {below : List Frame} {meth : Method} {c : Code} {H : Heap} {locs : List Loc} {cells slots : Nat} {Q : State → Prop}
variable {cc : ByteArray} {own : String} {nL pc : Nat} {ls : Array Slot} {rest : List Value} {D : va_G} {cA : Nat → ClassId} {h0 sz : Nat} {x : va_E} {es : List va_E}
theorem k_ret (C0 : kC p s m args meth c cc own nL D cA h0 sz) (t : kT D h0 x sz es s.heap H locs) (hdg : decode cc pc = .ok (.return_, 1)) : W p l e R s m args below meth c H locs cells slots (MQ below (kQ D h0 x sz es) args s cells slots (kA h0 sz)) (F0 m pc ls []) := by
  obtain ⟨hx, hb, hml, hown, hts, hE, hlk, hr, -, hsz, hlt⟩ := C0
  exact W.vret hx hb hr (fun u hu _ => ⟨⟨(), rfl, trivial, (by show kS D h0 x sz es u.heap; rw [hu]; exact t.1)⟩, t.2.F hu⟩) t.2.2.2 hdg hlk
theorem k_obj (C0 : kC p s m args meth c cc own nL D cA h0 sz) {idx : Nat} (w1 : Cond.methodLink own idx objectInit ∈ mm_tbl) (w2 : Cond.instanceMethod objectInit ∈ mm_tbl) (w3 : Cond.code objectInit ⟨#[0xb1]⟩ 1 none ∈ mm_tbl) {lv : List (Nat × Value)} (hl : lv_has ls nL lv) {a : Nat} (hdg : decode cc pc = .ok (.invokespecial idx, 3)) (hf : 1 ≤ R.frames) (hlo : 12 ≤ R.locals)
    (kk : W p l e R s m args below meth c H locs cells slots Q (F0 m (pc + 3) ls [])) : W p l e R s m args below meth c H locs cells slots Q (F0 m pc ls [.ref a]) := by
  obtain ⟨hx, hb, hml, hown, hts, -⟩ := C0
  exact W.objInit hx hb hown (hts _ w1) (hts _ w2) (hts _ w3) rfl (by rw [hml]; exact hl.1) rfl hdg hf (by show 2 * 0 + 0 + 12 ≤ _; omega) kk
/-- behind a constructor's call on the cell that was made last -/
theorem k_back {ci : Nat} {fs0 fs : List Value} {es1 : List va_E} {H1 : Heap} {locs1 : List Loc} (hlt : h0 < sz) (t : kT D h0 x sz (es ++ [.inr (ci, fs0)]) s.heap H locs) (hB : kS D (sz + es.length) (.inr (ci, fs)) (sz + es.length + 1) es1 H1) (hk : ∀ q : Nat, q < H.size → ¬ kA (sz + es.length) (sz + es.length + 1) q → H1[q]? = H[q]?) (hS : va_S (kA h0 sz) s.heap H1 locs1) : kT D h0 x sz (es ++ .inr (ci, fs) :: es1) s.heap H1 locs1 := by
  have hz := t.1.1
  rw [List.length_append] at hz
  have hz : H.size = sz + es.length + 1 := hz
  have ho : ∀ q, q < sz + es.length → H1[q]? = H[q]? := fun q hq => hk q (by omega) (fun g => by unfold kA at g; omega)
  refine ⟨kS.mk (by rw [hB.1, List.length_append, List.length_cons]; omega) (t.1.o.kept (ho _ (by show h0 < _; omega))) (fun i y hy => ?_), hS⟩
  by_cases hl : i < es.length
  · rw [List.getElem?_append_left hl] at hy
    exact (t.1.b (i := i) (by rw [List.getElem?_append_left hl]; exact hy)).kept (ho _ (by show sz + i < _; omega))
  · rw [List.getElem?_append_right (by omega)] at hy
    cases hd : i - es.length with
    | zero =>
      rw [hd] at hy
      cases hy
      rw [show sz + i = sz + es.length by omega]
      exact hB.o
    | succ j =>
      rw [hd, List.getElem?_cons_succ] at hy
      have := hB.b hy
      rw [show sz + es.length + 1 + j = sz + i by omega] at this
      exact this
theorem k_good {y : MethodName} {b : ByteArray} {mL : Nat} (h5 : Cond.code y b mL none ∈ mm_tbl) : GoodIn mm_tbl (.code y b mL none :: mm_tbl) := fun w hw => by
  refine mm_tbl_good w ?_
  rcases List.mem_cons.mp hw with rfl | hw
  · exact h5
  · exact hw
theorem k_callN {y : MethodName} {b : ByteArray} {mL fr lc ci : Nat} {fs0 : List Value} {n sl : Nat} {fsF : Nat → List Value} {esF : (Nat → ClassId) → Nat → List va_E} {idx : Nat} {host : String} (hM : kMet y b mL fr lc ci fs0 n sl fsF esF) (C0 : kC p s m args meth c cc own nL D cA h0 sz) (t : kT D h0 x sz (es ++ [.inr (ci, fs0)]) s.heap H locs)
    (h1 : Cond.methodLinkNest own idx y host ∈ mm_nest) (h2 : Cond.instanceMethod y ∈ mm_tbl) (h4 : Cond.initialized y.cls ∈ mm_tbl) (h5 : Cond.code y b mL none ∈ mm_tbl) (hyi : y.name = "<init>") (hd : y.cls ≠ "java/lang/invoke/MethodHandle" ∧ y.cls ≠ "java/lang/invoke/VarHandle" ∧ (parseMethodDescriptor y.desc).map (fun d => d.parameters.length) = some 0)
    {lv : List (Nat × Value)} (hl : lv_has ls nL lv) (hfr : fr + 1 ≤ R.frames) (hlo : 8 + (mL + 11) + lc ≤ R.locals) (hcs : (rest.map fun v => v.category).sum ≤ 8) (hdg : decode cc pc = .ok (.invokespecial idx, 3)) (hcells : cells + n ≤ R.cells) (hslots : slots + sl ≤ R.slots)
    (kk : ∀ H1 locs1, kT D h0 x sz (es ++ .inr (ci, fsF (sz + es.length + 1)) :: esF cA (sz + es.length + 1)) s.heap H1 locs1 → W p l e R s m args below meth c H1 locs1 (cells + n) (slots + sl) Q (F0 m (pc + 3) ls rest)) : W p l e R s m args below meth c H locs cells slots Q (F0 m pc ls (.ref (sz + es.length) :: rest)) := by
  obtain ⟨hx, hb, hml, hown, hts, hE, -, -, -, hsz, hlt⟩ := id C0
  have hz := t.1.1
  rw [List.length_append] at hz
  have hz : H.size = sz + es.length + 1 := hz
  have ha := t.1.b (i := es.length) (y := .inr (ci, fs0)) (by rw [List.getElem?_append_right (Nat.le_refl _), Nat.sub_self]; rfl)
  refine va_callv (va_runIN (As := []) (rest := rest) ⟨hx, hb, hml, hown, hts⟩ (hM l D cA (sz + es.length) (sz + es.length + 1) (Nat.lt_succ_self _)) ⟨va_cnB 0 hts (k_good h5) rfl rfl rfl (hE.2.1 _ h1) (hts _ h4) hd ⟨hfr, hlo⟩, hyi, hts _ h2⟩ ⟨kB_blind, fun U hU hW => ⟨rfl, by rw [hU]; exact hz, by rw [hU]; exact ha, hE.warm hW⟩⟩ rfl rfl hl.1 rfl (lv_room hcs) hdg ⟨hcells, hslots⟩) t.2 (fun q _ g => Or.inr (by unfold kA at g; omega)) (fun q g => Or.inr (by unfold kA at g; omega)) (fun u t1 H1 locs1 ht hvm hp hB hz1 hk1 hS => ?_)
  rw [ht] at hB
  exact kk H1 locs1 (k_back hlt t hB hk1 hS)
theorem k_callI {y : MethodName} {b : ByteArray} {mL fr lc ci : Nat} {fs0 : List Value} {n sl : Nat} {fsF : Nat → List Value} {esF : (Nat → ClassId) → Nat → List va_E} {idx : Nat} (hM : kMet y b mL fr lc ci fs0 n sl fsF esF) (C0 : kC p s m args meth c cc own nL D cA h0 sz) (t : kT D h0 x sz (es ++ [.inr (ci, fs0)]) s.heap H locs)
    (h1 : Cond.methodLink own idx y ∈ mm_tbl) (h2 : Cond.instanceMethod y ∈ mm_tbl) (h4 : Cond.initialized y.cls ∈ mm_tbl) (h5 : Cond.code y b mL none ∈ mm_tbl) (hyi : y.name = "<init>") (hd : y.cls ≠ "java/lang/invoke/MethodHandle" ∧ y.cls ≠ "java/lang/invoke/VarHandle" ∧ (parseMethodDescriptor y.desc).map (fun d => d.parameters.length) = some 0)
    {lv : List (Nat × Value)} (hl : lv_has ls nL lv) (hfr : fr + 1 ≤ R.frames) (hlo : 8 + (mL + 11) + lc ≤ R.locals) (hcs : (rest.map fun v => v.category).sum ≤ 8) (hdg : decode cc pc = .ok (.invokespecial idx, 3)) (hcells : cells + n ≤ R.cells) (hslots : slots + sl ≤ R.slots)
    (kk : ∀ H1 locs1, kT D h0 x sz (es ++ .inr (ci, fsF (sz + es.length + 1)) :: esF cA (sz + es.length + 1)) s.heap H1 locs1 → W p l e R s m args below meth c H1 locs1 (cells + n) (slots + sl) Q (F0 m (pc + 3) ls rest)) : W p l e R s m args below meth c H locs cells slots Q (F0 m pc ls (.ref (sz + es.length) :: rest)) := by
  obtain ⟨hx, hb, hml, hown, hts, hE, -, -, -, hsz, hlt⟩ := id C0
  have hz := t.1.1
  rw [List.length_append] at hz
  have hz : H.size = sz + es.length + 1 := hz
  have ha := t.1.b (i := es.length) (y := .inr (ci, fs0)) (by rw [List.getElem?_append_right (Nat.le_refl _), Nat.sub_self]; rfl)
  refine va_callv (va_runI (As := []) (rest := rest) ⟨hx, hb, hml, hown, hts⟩ (hM l D cA (sz + es.length) (sz + es.length + 1) (Nat.lt_succ_self _)) (cwI 0 hts (k_good h5) rfl rfl rfl (hts _ h4) (hts _ h1) (hts _ h2) hyi hd ⟨hfr, hlo⟩) ⟨kB_blind, fun U hU hW => ⟨rfl, by rw [hU]; exact hz, by rw [hU]; exact ha, hE.warm hW⟩⟩ rfl rfl hl.1 rfl (lv_room hcs) hdg ⟨hcells, hslots⟩) t.2 (fun q _ g => Or.inr (by unfold kA at g; omega)) (fun q g => Or.inr (by unfold kA at g; omega)) (fun u t1 H1 locs1 ht hvm hp hB hz1 hk1 hS => ?_)
  rw [ht] at hB
  exact kk H1 locs1 (k_back hlt t hB hk1 hS)
/-- a player is put into the row of players -/
theorem k_ast (C0 : kC p s m args meth c cc own nL D cA h0 sz) (t : kT D h0 x sz es s.heap H locs) {i0 j0 n : Nat} {vs : List Value} {f : Nat → Option Nat} (ha : es[i0]? = some (.inl (cA 3, n, .inr (.inr (.inr (.inr f)))))) (hv : es[j0]? = some (.inr (4, vs))) {i : Int32} (hin : vp_in i n) {n0 : Nat} (hn0 : i.toNatClampNeg = n0) (hdg : decode cc pc = .ok (.aastore, 1))
    (kk : ∀ H1 locs1, kT D h0 x sz (es.set i0 (.inl (cA 3, n, .inr (.inr (.inr (.inr (va_up f n0 (some (sz + j0))))))))) s.heap H1 locs1 → W p l e R s m args below meth c H1 locs1 cells slots Q (F0 m (pc + 1) ls rest)) : W p l e R s m args below meth c H locs cells slots Q (F0 m pc ls (.ref (sz + j0) :: .int i :: .ref (sz + i0) :: rest)) := by
  obtain ⟨hx, hb, hml, hown, hts, hE, -, -, -, hsz, hltz⟩ := C0
  subst hn0
  have hlt : i.toNatClampNeg < n := Nat.not_le.mp fun q => hin (Or.inr q)
  have hi0 : ¬ i < 0 := fun q => hin (Or.inl q)
  have hA := t.1.b ha
  obtain ⟨r', hr', cellV, g1, g2, g3, -⟩ := t.1.b hv
  have hcls := (hE.1.1 4 (RX4, TX4, 8) rfl).2
  obtain ⟨kA1, comp, k1, k2, k3, -⟩ := (hE.1.2 3 _ rfl).2
  have hcomp : comp = D.1 4 := Option.some.inj (k3.symm.trans hcls.1)
  subst hcomp
  obtain ⟨kC1, hkC, -⟩ := hcls.2
  refine W.aast hx hb hA (fun q h => by cases h) (fun h => by cases h) k1 k2 rfl hkC ⟨hi0, by show _ < (arrV _ _ _).slots.size; rw [arrV_size]; exact hlt⟩ g1 (fun q h => by rw [g3] at h; cases h) (by rw [g2]; exact hkC) (by rw [g2]; exact va_assign hcls) rfl rfl hdg fun H1 e1 z1 oq => ?_
  have hl0 : i0 < es.length := (List.getElem?_eq_some_iff.mp ha).1
  refine kk H1 _ ⟨kS.mk (by rw [z1, t.1.1, List.length_set]) (t.1.o.kept (oq _ (by show h0 ≠ sz + i0; omega))) (fun k y hy => ?_), t.2.put z1 oq (Or.inr (Nat.le_add_right _ _))⟩
  by_cases hk : k = i0
  · subst hk
    rw [List.getElem?_set_self hl0] at hy
    cases hy
    show H1[sz + k]? = some (vp_cell _ _)
    rw [e1, vp_cell_q, vp_cell_q, arrV_store]
    congr 2
    funext q
    by_cases hq : q = i.toNatClampNeg
    · subst hq
      simp [updV, va_up, va_rf]
    · simp [updV, va_up, hq]
  · rw [List.getElem?_set_ne (Ne.symm hk)] at hy
    exact (t.1.b hy).kept (oq _ (by show sz + k ≠ sz + i0; omega))
end S70
