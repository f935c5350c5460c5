/-! one step of the law: both calls with the same ints of the script, the answers compared -/
def lwL (s : State) (b i : Nat) : List (Nat × Value) := [(3, .int (nI i)), (2, .ref (s.heap.size + 137)), (1, .ref s.heap.size), (0, .ref b)]
def lwM (lay : List mm_S) (Cn : String) (y : MethodName) (idx n : Nat) (f : mm_F) : Prop := ∃ (bc : ByteArray) (mL d : Nat) (ret : Option FieldType), mm_Ok lay y bc mL ret d f ∧ y.cls = Cn ∧ Cond.methodLink RL idx y ∈ mm_tbl ∧ Cond.instanceMethod y ∈ mm_tbl ∧ Cond.selects y.cls y y ∈ mm_tbl ∧ Cond.initialized y.cls ∈ mm_tbl ∧ Cond.code y bc mL ret ∈ mm_tbl ∧
  (y.cls ≠ "java/lang/invoke/MethodHandle" ∧ y.cls ≠ "java/lang/invoke/VarHandle" ∧ (parseMethodDescriptor y.desc).map (fun d => d.parameters.length) = some n) ∧ d ≤ 100 ∧ mL ≤ 40
abbrev l_rd (pc k : Nat) : Prop := decode cL_law pc = .ok (.aload_n 0, 1) ∧ decode cL_law (pc + 1) = .ok (.iload_n 3, 1) ∧ decode cL_law (pc + 2) = .ok (.iconst (k : Int), 1) ∧ decode cL_law (pc + 3) = .ok (.iadd, 1) ∧ decode cL_law (pc + 4) = .ok (.iaload, 1)
def qI (fm : mm_F) (as : List mm_V) (M : mm_M) : Option mm_V → mm_M → Prop := fun o C' => match o with
  | some (.inl r) => fm as M (fun o' M' => match o' with
    | some (.inl r') => r = r' ∧ Inv C' M'
    | _ => False)
  | _ => False
def qL (fm : mm_F) (as : List mm_V) (M : mm_M) : Option mm_V → mm_M → Prop := fun o C' => match o with
  | some (.inr (.inl r)) => fm as M (fun o' M' => match o' with
    | some (.inr (.inl r')) => r = r' ∧ Inv C' M'
    | _ => False)
  | _ => False
def qI2 (r : Int) (C' : mm_M) : Option mm_V → mm_M → Prop := fun o' M' => match o' with
    | some (.inl r') => r = r' ∧ Inv C' M'
    | _ => False
def qL2 (r : Int) (C' : mm_M) : Option mm_V → mm_M → Prop := fun o' M' => match o' with
    | some (.inr (.inl r')) => r = r' ∧ Inv C' M'
    | _ => False
theorem qI_e {fm : mm_F} {as : List mm_V} {M C' : mm_M} {o : Option mm_V} (h : qI fm as M o C') : ∃ r, o = some (.inl r) ∧ fm as M (qI2 r C') := by
  match o, h with
  | some (.inl r), h => exact ⟨r, rfl, h⟩
theorem qL_e {fm : mm_F} {as : List mm_V} {M C' : mm_M} {o : Option mm_V} (h : qL fm as M o C') : ∃ r, o = some (.inr (.inl r)) ∧ fm as M (qL2 r C') := by
  match o, h with
  | some (.inr (.inl r)), h => exact ⟨r, rfl, h⟩
theorem qI2_e {r : Int} {C' M' : mm_M} {o : Option mm_V} (h : qI2 r C' o M') : o = some (.inl r) ∧ Inv C' M' := by
  match o, h with
  | some (.inl r'), h => exact ⟨by rw [h.1], h.2⟩
theorem qL2_e {r : Int} {C' M' : mm_M} {o : Option mm_V} (h : qL2 r C' o M') : o = some (.inr (.inl r)) ∧ Inv C' M' := by
  match o, h with
  | some (.inr (.inl r')), h => exact ⟨by rw [h.1], h.2⟩
theorem lg_cmp_self (x : Int64) : lg_cmp x x = 0 := by
  simp [lg_cmp]
section S77
variable {p : Program} {l : Launch} {e : Env} {R : Room} {s : State} {m : MethodId} {args : Array Value} {below : List Frame} {meth : Method} {c : Code} {H : Heap} {locs : List Loc} {cells slots : Nat} {Q : State → Prop}
variable {pc : Nat} {ls : Array Slot} {rest : List Value} {D : va_G} {cA : Nat → ClassId} {b L i : Nat} {xs : Nat → Int32} {C M : mm_M}
theorem l_arg (C0 : lwC p R s m args c b L xs D cA cells slots) (t : lwT D cA s C M H locs) (hl : lv_has ls 4 (lwL s b i)) {k : Nat} (hk : i + k < L) (hd : l_rd pc k)
    (kk : W p l e R s m args below meth c H locs cells slots Q (F0 m (pc + 5) ls (.int (Int32.ofInt (xs (i + k)).toInt) :: rest))) : W p l e R s m args below meth c H locs cells slots Q (F0 m pc ls rest) := by
  obtain ⟨hx, hb, hml, hown, hts, hE, hX, hbl, hL, -⟩ := C0
  obtain ⟨d0, d1, d2, d3, d4⟩ := hd
  refine lv_aload_n hx hb d0 rfl (lv_at hl 3 rfl) ?_
  refine lv_iload_n hx hb d1 rfl (lv_at hl 0 rfl) ?_
  refine lv_iconst (v := nI k) hx hb d2 rfl ?_
  refine lv_iadd hx hb d3 ?_
  rw [nI_add]
  refine va_sld hx hb hX hbl (Nat.not_le.mpr hbl) t.2.2.2.2 (vp_in_nI hk (by omega)) d4 ?_
  rw [nI_clamp (by omega)]
  rw [Int32.ofInt_toInt] at kk
  exact kk
abbrev lwA (xs : Nat → Int32) (i : Nat) (ks : List Nat) : List mm_V := ks.map (fun k => .inl (xs (i + k)).toInt)
theorem l_args (ad : Nat → Nat) (C0 : lwC p R s m args c b L xs D cA cells slots) (t : lwT D cA s C M H locs) (hl : lv_has ls 4 (lwL s b i)) : ∀ (ks : List Nat) (pc : Nat) (rest : List Value), (∀ k ∈ ks, i + k < L) → (∀ j, j < ks.length → l_rd (pc + 5 * j) (ks.getD j 0)) →
    W p l e R s m args below meth c H locs cells slots Q (F0 m (pc + 5 * ks.length) ls (((lwA xs i ks).map (mm_rv ad)).reverse ++ rest)) → W p l e R s m args below meth c H locs cells slots Q (F0 m pc ls rest)
  | [], pc, rest, _, _, kk => kk
  | k :: ks, pc, rest, h1, h2, kk => by
    refine l_arg C0 t hl (h1 k List.mem_cons_self) (h2 0 (Nat.succ_pos _)) ?_
    refine l_args ad C0 t hl ks (pc + 5) _ (fun q hq => h1 q (List.mem_cons_of_mem _ hq)) (fun j hj => ?_) ?_
    · have h3 := h2 (j + 1) (Nat.succ_lt_succ hj)
      rw [show pc + 5 * (j + 1) = pc + 5 + 5 * j by omega] at h3
      exact h3
    · rw [show pc + 5 + 5 * ks.length = pc + 5 * (k :: ks).length by simp; omega]
      have e1 : ((lwA xs i (k :: ks)).map (mm_rv ad)).reverse ++ rest = ((lwA xs i ks).map (mm_rv ad)).reverse ++ (.int (Int32.ofInt (xs (i + k)).toInt) :: rest) := by
        simp [lwA, mm_rv]
      rw [e1] at kk
      exact kk
theorem l_callC {y : MethodName} {n idx : Nat} {f : mm_F} (C0 : lwC p R s m args c b L xs D cA cells slots) (t : lwT D cA s C M H locs) (hM : lwM lay_c RX7 y idx n f) {as : List mm_V} (hN : ∀ v ∈ as, mm_N v) (hn : as.length = n) {Q1 : Option mm_V → mm_M → Prop} (hf : f (.inr (.inr 0) :: as) C Q1) (hla : ls.size = 4) (hcs : (rest.map fun v => v.category).sum ≤ 8) (hdg : decode cL_law pc = .ok (.invokevirtual idx, 3))
    (kk : ∀ (r : Option mm_V) (C' : mm_M) (H1 : Heap) (locs1 : List Loc), Q1 r C' → lwT D cA s C' M H1 locs1 → W p l e R s m args below meth c H1 locs1 cells slots Q (F0 m (pc + 3) ls ((r.map (mm_rv (adC s.heap.size))).toList ++ rest))) : W p l e R s m args below meth c H locs cells slots Q (F0 m pc ls ((as.map (mm_rv (adC s.heap.size))).reverse ++ .ref s.heap.size :: rest)) := by
  obtain ⟨bc, mL, d, ret, hO, hyc, h1, h2, h3, h4, h5, hd, hdd, hmL⟩ := hM
  obtain ⟨t1, t2, t3, t4, t5⟩ := t
  exact l_call (ad := adC s.heap.size) (ci := 7) (qc := (RX7, TX7, 7)) C0 hO t1 t3 t5 (fun A hA => adC_D hA) rfl rfl hyc h1 h2 h3 h4 h5 hd hdd hmL hN hn hf hla hcs hdg (fun r C' H1 locs1 q1 q2 q3 q4 q5 => kk r C' H1 locs1 q1 ⟨q3, l_other t2 q4 (fun i j hi _ => adC_M hi), q2, t4, q5⟩)
theorem l_callM {y : MethodName} {n idx : Nat} {f : mm_F} (C0 : lwC p R s m args c b L xs D cA cells slots) (t : lwT D cA s C M H locs) (hM : lwM lay_m RX8 y idx n f) {as : List mm_V} (hN : ∀ v ∈ as, mm_N v) (hn : as.length = n) {Q1 : Option mm_V → mm_M → Prop} (hf : f (.inr (.inr 0) :: as) M Q1) (hla : ls.size = 4) (hcs : (rest.map fun v => v.category).sum ≤ 8) (hdg : decode cL_law pc = .ok (.invokevirtual idx, 3))
    (kk : ∀ (r : Option mm_V) (M' : mm_M) (H1 : Heap) (locs1 : List Loc), Q1 r M' → lwT D cA s C M' H1 locs1 → W p l e R s m args below meth c H1 locs1 cells slots Q (F0 m (pc + 3) ls ((r.map (mm_rv (adM s.heap.size))).toList ++ rest))) : W p l e R s m args below meth c H locs cells slots Q (F0 m pc ls ((as.map (mm_rv (adM s.heap.size))).reverse ++ .ref (s.heap.size + 137) :: rest)) := by
  obtain ⟨bc, mL, d, ret, hO, hyc, h1, h2, h3, h4, h5, hd, hdd, hmL⟩ := hM
  obtain ⟨t1, t2, t3, t4, t5⟩ := t
  exact l_call (ad := adM s.heap.size) (ci := 8) (qc := (RX8, TX8, 57)) C0 hO t2 t4 t5 (fun A hA => adM_D hA) rfl rfl hyc h1 h2 h3 h4 h5 hd hdd hmL hN hn hf hla hcs hdg (fun r M' H1 locs1 q1 q2 q3 q4 q5 => kk r M' H1 locs1 q1 ⟨l_other t1 q4 (fun i j _ hj => (adC_M hj).symm), q3, t3, q2, q5⟩)
theorem lwA_N (ks : List Nat) : ∀ v ∈ lwA xs i ks, mm_N v := fun v hv => by
  obtain ⟨k, -, rfl⟩ := List.mem_map.mp hv
  exact mm_toR _
/-- an int's step -/
theorem l_case (ks : List Nat) {n idc idm : Nat} {off : Int} {yc ym : MethodName} {fc fm : mm_F} (C0 : lwC p R s m args c b L xs D cA cells slots) (t : lwT D cA s C M H locs) (hl : lv_has ls 4 (lwL s b i)) (hk : ∀ k ∈ ks, i + k < L) (hn : ks.length = n) (hc : lwM lay_c RX7 yc idc n fc) (hm : lwM lay_m RX8 ym idm n fm)
    (hz : fc (.inr (.inr 0) :: lwA xs i ks) C (qI fm (.inr (.inr 0) :: lwA xs i ks) M))
    (d0 : decode cL_law pc = .ok (.aload_n 1, 1)) (d1 : ∀ j, j < ks.length → l_rd (pc + 1 + 5 * j) (ks.getD j 0)) (d2 : decode cL_law (pc + 1 + 5 * ks.length) = .ok (.invokevirtual idc, 3)) (d3 : decode cL_law (pc + 1 + 5 * ks.length + 3) = .ok (.aload_n 2, 1)) (d4 : ∀ j, j < ks.length → l_rd (pc + 1 + 5 * ks.length + 3 + 1 + 5 * j) (ks.getD j 0)) (d5 : decode cL_law (pc + 1 + 5 * ks.length + 3 + 1 + 5 * ks.length) = .ok (.invokevirtual idm, 3)) (d6 : decode cL_law (pc + 1 + 5 * ks.length + 3 + 1 + 5 * ks.length + 3) = .ok (.if_icmp .eq off, 3)) (d7 : ((pc + 1 + 5 * ks.length + 3 + 1 + 5 * ks.length + 3 : Nat) : Int) + off = ((1054 : Nat) : Int))
    (kk : ∀ (C' M' : mm_M) (H1 : Heap) (locs1 : List Loc), Inv C' M' → lwT D cA s C' M' H1 locs1 → W p l e R s m args below meth c H1 locs1 cells slots Q (F0 m 1054 ls [])) : W p l e R s m args below meth c H locs cells slots Q (F0 m pc ls []) := by
  obtain ⟨hx, hb, -⟩ := id C0
  refine lv_aload_n hx hb d0 rfl (lv_at hl 2 rfl) ?_
  refine l_args (adC s.heap.size) C0 t hl ks (pc + 1) _ hk d1 ?_
  refine l_callC C0 t hc (lwA_N ks) (by rw [List.length_map]; exact hn) hz hl.1 (Nat.zero_le _) d2 (fun o C' H1 locs1 hq t1 => ?_)
  obtain ⟨r, rfl, hq⟩ := qI_e hq
  show W p l e R s m args below meth c H1 locs1 cells slots Q (F0 m (pc + 1 + 5 * ks.length + 3) ls [.int (Int32.ofInt r)])
  refine lv_aload_n hx hb d3 rfl (lv_at hl 1 rfl) ?_
  refine l_args (adM s.heap.size) C0 t1 hl ks _ _ hk d4 ?_
  refine l_callM C0 t1 hm (lwA_N ks) (by rw [List.length_map]; exact hn) hq hl.1 (by simp [Value.category]) d5 (fun o M' H2 locs2 hq t2 => ?_)
  obtain ⟨rfl, hi⟩ := qI2_e hq
  show W p l e R s m args below meth c H2 locs2 cells slots Q (F0 m (pc + 1 + 5 * ks.length + 3 + 1 + 5 * ks.length + 3) ls [.int (Int32.ofInt r), .int (Int32.ofInt r)])
  exact lv_icmp_eq hx hb d6 d7 (fun _ => kk C' M' H2 locs2 hi t2) (fun h => absurd rfl h)
/-- a long's step, with no ints -/
theorem l_caseL {idc idm : Nat} {off : Int} {yc ym : MethodName} {fc fm : mm_F} (C0 : lwC p R s m args c b L xs D cA cells slots) (t : lwT D cA s C M H locs) (hl : lv_has ls 4 (lwL s b i)) (hc : lwM lay_c RX7 yc idc 0 fc) (hm : lwM lay_m RX8 ym idm 0 fm)
    (hz : fc [.inr (.inr 0)] C (qL fm [.inr (.inr 0)] M))
    (d0 : decode cL_law pc = .ok (.aload_n 1, 1)) (d2 : decode cL_law (pc + 1) = .ok (.invokevirtual idc, 3)) (d3 : decode cL_law (pc + 1 + 3) = .ok (.aload_n 2, 1)) (d5 : decode cL_law (pc + 1 + 3 + 1) = .ok (.invokevirtual idm, 3)) (d6 : decode cL_law (pc + 1 + 3 + 1 + 3) = .ok (.lcmp, 1)) (d7 : decode cL_law (pc + 1 + 3 + 1 + 3 + 1) = .ok (.ifCond .eq off, 3)) (d8 : ((pc + 1 + 3 + 1 + 3 + 1 : Nat) : Int) + off = ((1054 : Nat) : Int))
    (kk : ∀ (C' M' : mm_M) (H1 : Heap) (locs1 : List Loc), Inv C' M' → lwT D cA s C' M' H1 locs1 → W p l e R s m args below meth c H1 locs1 cells slots Q (F0 m 1054 ls [])) : W p l e R s m args below meth c H locs cells slots Q (F0 m pc ls []) := by
  obtain ⟨hx, hb, -⟩ := id C0
  refine lv_aload_n hx hb d0 rfl (lv_at hl 2 rfl) ?_
  refine l_callC (as := []) C0 t hc (fun v hv => by cases hv) rfl hz hl.1 (Nat.zero_le _) d2 (fun o C' H1 locs1 hq t1 => ?_)
  obtain ⟨r, rfl, hq⟩ := qL_e hq
  show W p l e R s m args below meth c H1 locs1 cells slots Q (F0 m (pc + 1 + 3) ls [.long (Int64.ofInt r)])
  refine lv_aload_n hx hb d3 rfl (lv_at hl 1 rfl) ?_
  refine l_callM (as := []) C0 t1 hm (fun v hv => by cases hv) rfl hq hl.1 (by simp [Value.category]) d5 (fun o M' H2 locs2 hq t2 => ?_)
  obtain ⟨rfl, hi⟩ := qL2_e hq
  show W p l e R s m args below meth c H2 locs2 cells slots Q (F0 m (pc + 1 + 3 + 1 + 3) ls [.long (Int64.ofInt r), .long (Int64.ofInt r)])
  refine W.lcmp hx hb d6 ?_
  rw [lg_cmp_self]
  exact lv_if_eq hx hb d7 d8 (fun _ => kk C' M' H2 locs2 hi t2) (fun h => absurd rfl h)
end S77
