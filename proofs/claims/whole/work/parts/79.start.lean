/-! the law's start: the known classes; the two constructors; the loop (by program, gen79.py) -/
theorem liX0 : Cond.instantiable RX0 19 ∈ mm_tbl := mm_one_at _ 282 (by decide +kernel) rfl
theorem liX1 : Cond.instantiable RX1 15 ∈ mm_tbl := mm_one_at _ 386 (by decide +kernel) rfl
theorem liX2 : Cond.instantiable RX2 7 ∈ mm_tbl := mm_one_at _ 129 (by decide +kernel) rfl
theorem liX3 : Cond.instantiable RX3 4 ∈ mm_tbl := mm_one_at _ 123 (by decide +kernel) rfl
theorem liX4 : Cond.instantiable RX4 8 ∈ mm_tbl := mm_one_at _ 206 (by decide +kernel) rfl
theorem liX5 : Cond.instantiable RX5 6 ∈ mm_tbl := mm_one_at _ 288 (by decide +kernel) rfl
theorem liX6 : Cond.instantiable RX6 7 ∈ mm_tbl := mm_one_at _ 195 (by decide +kernel) rfl
theorem liX7 : Cond.instantiable RX7 7 ∈ mm_tbl := mm_one_at _ 115 (by decide +kernel) rfl
theorem liX8 : Cond.instantiable RX8 57 ∈ mm_tbl := mm_one_at _ 942 (by decide +kernel) rfl
theorem l_ac {s : State} {args : Array Value} {ty : FieldType} (h : (Cond.arrayClass ty).before args s = true) : ∃ c : ClassId, ArrOfT s c ty ∧ s.vm.findClass ("[" ++ ty.toString) = some c := by
  obtain ⟨c, k, comp, h1, h2, h3⟩ := Cond.arrayClass_spec h
  exact ⟨c, fun n z => ⟨fun k h => (by cases h), k, h2, comp, h3⟩, h1⟩
theorem l_ao {s : State} {args : Array Value} {C : String} (h : (Cond.arrayOver (.object C)).before args s = true) : ∃ c : ClassId, ArrOfT s c (.object C) ∧ va_RA s c (.object C) := by
  obtain ⟨comp, c, k, h1, -, h3, h4, h5⟩ := Cond.arrayOver_spec h
  exact ⟨c, fun n z => ⟨fun k h => (by cases h), k, h3, comp, h4⟩, k, comp, h3, h4, h1, h5⟩
theorem l_aa {s : State} {args : Array Value} {ty : FieldType} (h : (Cond.arrayOver (.array ty)).before args s = true) : ∃ c : ClassId, ArrOfT s c (.array ty) ∧ va_RA s c (.array ty) := by
  obtain ⟨comp, c, k, h1, -, h3, h4, h5⟩ := arrayOverA_spec h
  exact ⟨c, fun n z => ⟨fun k h => (by cases h), k, h3, comp, h4⟩, h5⟩
theorem lw_sub {s : State} {args : Array Value} (hts : ∀ w ∈ lw_tbl, w.before args s = true) : ∀ w ∈ mm_tbl, w.before args s = true := fun w hw => hts w (List.mem_filter.mp hw).1
theorem l_kE {s : State} {args : Array Value} (hts : ∀ w ∈ lw_tbl, w.before args s = true) : ∃ (D : va_G) (cA : Nat → ClassId), kE D cA s := by
  have ht := lw_sub hts
  obtain ⟨c0, i0, k0⟩ := u_known ht uwX0 (ht _ liX0)
  obtain ⟨c1, i1, k1⟩ := u_known ht uwX1 (ht _ liX1)
  obtain ⟨c2, i2, k2⟩ := u_known ht uwX2 (ht _ liX2)
  obtain ⟨c3, i3, k3⟩ := u_known ht uwX3 (ht _ liX3)
  obtain ⟨c4, i4, k4⟩ := u_known ht uwX4 (ht _ liX4)
  obtain ⟨c5, i5, k5⟩ := u_known ht uwX5 (ht _ liX5)
  obtain ⟨c6, i6, k6⟩ := u_known ht uwX6 (ht _ liX6)
  obtain ⟨c7, i7, k7⟩ := u_known ht uwX7 (ht _ liX7)
  obtain ⟨c8, i8, k8⟩ := u_known ht uwX8 (ht _ liX8)
  obtain ⟨a0, f0, g0⟩ := l_ac (ty := .int) (hts (.arrayClass .int) (List.mem_of_getElem? (i := 177) (by decide +kernel)))
  obtain ⟨a1, f1, g1⟩ := l_ac (ty := .long) (hts (.arrayClass .long) (List.mem_of_getElem? (i := 447) (by decide +kernel)))
  obtain ⟨a2, f2, g2⟩ := l_ac (ty := .boolean) (hts (.arrayClass .boolean) (List.mem_of_getElem? (i := 448) (by decide +kernel)))
  have w3 := hts (.arrayOver (.object "SelfishWays$Player")) (List.mem_of_getElem? (i := 203) (by decide +kernel))
  have w4 := hts (.arrayOver (.array .int)) (List.mem_of_getElem? (i := 205) (by decide +kernel))
  have w5 := hts (.arrayOver (.array .long)) (List.mem_of_getElem? (i := 392) (by decide +kernel))
  obtain ⟨a3, f3, g3⟩ := l_ao w3
  obtain ⟨a4, f4, g4⟩ := l_aa w4
  obtain ⟨a5, f5, g5⟩ := l_aa w5
  refine ⟨(fun k => [c0, c1, c2, c3, c4, c5, c6, c7, c8].getD k c0, fun k => [i0, i1, i2, i3, i4, i5, i6, i7, i8].getD k i0), fun k => [a0, a1, a2, a3, a4, a5].getD k a0, ⟨fun c q hq => ?_, fun k q hq => ?_⟩, fun w hw => ?_, va_AO.of w3, mn_ao.of w4, mn_ao.of w5⟩
  · have hl : c < 9 := (List.getElem?_eq_some_iff.mp hq).1
    rcases (show c = 0 ∨ c = 1 ∨ c = 2 ∨ c = 3 ∨ c = 4 ∨ c = 5 ∨ c = 6 ∨ c = 7 ∨ c = 8 by omega) with rfl | rfl | rfl | rfl | rfl | rfl | rfl | rfl | rfl
    · cases hq; exact k0
    · cases hq; exact k1
    · cases hq; exact k2
    · cases hq; exact k3
    · cases hq; exact k4
    · cases hq; exact k5
    · cases hq; exact k6
    · cases hq; exact k7
    · cases hq; exact k8
  · have hl : k < 6 := (List.getElem?_eq_some_iff.mp hq).1
    rcases (show k = 0 ∨ k = 1 ∨ k = 2 ∨ k = 3 ∨ k = 4 ∨ k = 5 by omega) with rfl | rfl | rfl | rfl | rfl | rfl
    · cases hq; exact ⟨f0, g0⟩
    · cases hq; exact ⟨f1, g1⟩
    · cases hq; exact ⟨f2, g2⟩
    · cases hq; exact ⟨f3, g3⟩
    · cases hq; exact ⟨f4, g4⟩
    · cases hq; exact ⟨f5, g5⟩
  · have hz := (List.mem_filter.mp hw).2
    have h6 := hts w (List.mem_filter.mp hw).1
    cases w <;> first | exact absurd hz Bool.false_ne_true | exact va_Nw.of rfl h6
section S79
variable {p : Program} {l : Launch} {e : Env} {R : Room} {s : State} {m : MethodId} {args : Array Value} {below : List Frame} {meth : Method} {c : Code} {H : Heap} {locs : List Loc} {cells slots ce sl : Nat} {Q : State → Prop}
variable {pc : Nat} {ls : Array Slot} {rest : List Value} {D : va_G} {cA : Nat → ClassId} {b L : Nat} {xs : Nat → Int32}
theorem l_new (C0 : lwC p R s m args c b L xs D cA ce sl) (hS : va_S (fun q => s.heap.size ≤ q) s.heap H locs) {Cn : String} {T : u_T} {N ci index : Nat} (hin : ∀ w ∈ u_ws Cn T N, w ∈ mm_tbl) (ty : Nat → FieldType) (hty : ∀ k, k < N → parseFieldDescriptor (T k).2.2.1 = some (ty k)) (w1 : Cond.classLink RL index Cn ∈ mm_tbl) (w2 : Cond.instantiable Cn N ∈ mm_tbl) (w3 : Cond.initialized Cn ∈ mm_tbl)
    (hc : vwCl[ci]? = some (Cn, T, N)) {fs : List Value} (hfs : ∀ j, j < N → defaultValue (ty j) = vp_V fs j) (hcells : cells + 1 ≤ R.cells) (hslots : slots + N ≤ R.slots) (hdg : decode cL_law pc = .ok (.new index, 3)) {h : Nat} (hh : H.size = h)
    (kk : ∀ H1 : Heap, va_at D vwCl (h, .inr (ci, fs)) H1 → H1.size = h + 1 → (∀ q, q < h → H1[q]? = H[q]?) → va_S (fun q => s.heap.size ≤ q) s.heap H1 locs → W p l e R s m args below meth c H1 locs (cells + 1) (slots + N) Q (F0 m (pc + 3) ls (.ref h :: rest))) : W p l e R s m args below meth c H locs cells slots Q (F0 m pc ls rest) := by
  obtain ⟨hx, hb, hml, hown, hts, hE, -⟩ := C0
  have hKn := hE.1.1 ci _ hc
  subst hh
  refine W.newcK hx hb hown (hts _ w1) (hts _ w2) (hts _ w3) rfl hdg hcells hslots hKn.2.1 rfl fun H1 kC hkC e1 z1 o1 => ?_
  exact kk H1 ⟨_, hc, (u_born ty hts hin hKn hkC e1 hty).to hfs⟩ z1 o1 ⟨by rw [z1]; exact Nat.le_succ_of_le hS.1, fun q h1 h2 => (o1 q (Nat.lt_of_lt_of_le h1 hS.1)).trans (hS.2.1 q h1 h2), hS.2.2⟩
theorem l_init {y : MethodName} {bc : ByteArray} {mL fr lc ci : Nat} {fs0 : List Value} {n sn : Nat} {fsF : Nat → List Value} {esF : (Nat → ClassId) → Nat → List va_E} {idx h : Nat} (hM : kMet y bc mL fr lc ci fs0 n sn fsF esF) (C0 : lwC p R s m args c b L xs D cA ce sl) (hS : va_S (fun q => s.heap.size ≤ q) s.heap H locs) (hz : H.size = h + 1) (hB : s.heap.size ≤ h) (ha : va_at D vwCl (h, .inr (ci, fs0)) H)
    (h1 : Cond.methodLink RL idx y ∈ mm_tbl) (h2 : Cond.instanceMethod y ∈ mm_tbl) (h4 : Cond.initialized y.cls ∈ mm_tbl) (h5 : Cond.code y bc mL none ∈ mm_tbl) (hyi : y.name = "<init>") (hd : y.cls ≠ "java/lang/invoke/MethodHandle" ∧ y.cls ≠ "java/lang/invoke/VarHandle" ∧ (parseMethodDescriptor y.desc).map (fun d => d.parameters.length) = some 0)
    (hla : ls.size = 4) (hfr : fr + 1 ≤ R.frames) (hlo : 8 + (mL + 11) + lc ≤ R.locals) (hcs : (rest.map fun v => v.category).sum ≤ 8) (hdg : decode cL_law pc = .ok (.invokespecial idx, 3)) (hcells : cells + n ≤ R.cells) (hslots : slots + sn ≤ R.slots)
    (kk : ∀ H1 locs1, kS D h (.inr (ci, fsF (h + 1))) (h + 1) (esF cA (h + 1)) H1 → (∀ q : Nat, q < h → H1[q]? = H[q]?) → va_S (fun q => s.heap.size ≤ q) s.heap H1 locs1 → W p l e R s m args below meth c H1 locs1 (cells + n) (slots + sn) Q (F0 m (pc + 3) ls rest)) : W p l e R s m args below meth c H locs cells slots Q (F0 m pc ls (.ref h :: rest)) := by
  obtain ⟨hx, hb, hml, hown, hts, hE, -⟩ := id C0
  refine va_callv (va_runI (As := []) (rest := rest) ⟨hx, hb, hml, hown, hts⟩ (hM l D cA h (h + 1) (Nat.lt_succ_self _)) (cwI 0 hts (k_good h5) rfl rfl rfl (hts _ h4) (hts _ h1) (hts _ h2) hyi hd ⟨hfr, hlo⟩) ⟨kB_blind, fun U hU hW => ⟨rfl, by rw [hU]; exact hz, by rw [hU]; exact ha, hE.warm hW⟩⟩ rfl rfl hla rfl (lv_room hcs) hdg ⟨hcells, hslots⟩) hS (fun q _ g => by unfold kA at g; show s.heap.size ≤ q; omega) (fun q g => by unfold kA at g; show s.heap.size ≤ q; omega) (fun u t1 H1 locs1 ht hvm hp hB2 hz1 hk1 hS1 => ?_)
  rw [ht] at hB2
  exact kk H1 locs1 hB2 (fun q hq => hk1 q (by omega) (fun g => by unfold kA at g; omega)) hS1
theorem l_end {i : Nat} (hL : L ≤ 2048) (hi : i ≤ L) (h : ¬ Int32.ofNat L - 4 < nI i) : i + 4 ≤ L := by
  rw [Int32.lt_iff_toInt_lt, Int32.toInt_sub, nI_toInt (by omega), show (Int32.ofNat L).toInt = (L : Int) from nI_toInt (by omega), show (4 : Int32).toInt = 4 from rfl, Int.bmod_eq_of_le (by omega) (by omega)] at h
  omega
theorem l_iter (C0 : lwC p R s m args c b L xs D cA cells slots) (kE1 : ∀ H locs ls, va_S (fun q => s.heap.size ≤ q) s.heap H locs → W p l e R s m args below meth c H locs cells slots Q (F0 m 1060 ls [])) {i : Nat} {C M : mm_M} (hi : Inv C M) (t : lwT D cA s C M H locs) (hl : lv_has ls 4 (lwL s b i)) (hiL : i ≤ L)
    (kn : ∀ (C' M' : mm_M) (H1 : Heap) (locs1 : List Loc) (ls1 : Array Slot), Inv C' M' → lwT D cA s C' M' H1 locs1 → lv_has ls1 4 (lwL s b (i + 4)) → i + 4 ≤ L → W p l e R s m args below meth c H1 locs1 cells slots Q (F0 m 18 ls1 [])) : W p l e R s m args below meth c H locs cells slots Q (F0 m 18 ls []) := by
  obtain ⟨hx, hb, hml, hown, hts, hE, hX, hbl, hL, -⟩ := id C0
  refine lv_iload_n hx hb (by decide +kernel : decode cL_law 18 = .ok (.iload_n 3, 1)) rfl (lv_at hl 0 rfl) ?_
  refine lv_aload_n hx hb (by decide +kernel : decode cL_law 19 = .ok (.aload_n 0, 1)) rfl (lv_at hl 3 rfl) ?_
  refine va_slen hx hb hX hbl (Nat.not_le.mpr hbl) t.2.2.2.2 (by decide +kernel : decode cL_law 20 = .ok (.arraylength, 1)) ?_
  refine lv_iconst (v := 4) hx hb (by decide +kernel : decode cL_law 21 = .ok (.iconst 4, 1)) rfl ?_
  refine lv_isub hx hb (by decide +kernel : decode cL_law 22 = .ok (.isub, 1)) ?_
  refine lv_icmp_gt (tgt := 1060) hx hb (by decide +kernel : decode cL_law 23 = .ok (.if_icmp .gt 1037, 3)) rfl (fun _ => kE1 H locs ls t.2.2.2.2) (fun hlt => ?_)
  have h4 := l_end hL hiL hlt
  refine lv_aload_n hx hb (by decide +kernel : decode cL_law 26 = .ok (.aload_n 0, 1)) rfl (lv_at hl 3 rfl) ?_
  refine lv_iload_n hx hb (by decide +kernel : decode cL_law 27 = .ok (.iload_n 3, 1)) rfl (lv_at hl 0 rfl) ?_
  refine va_sld hx hb hX hbl (Nat.not_le.mpr hbl) t.2.2.2.2 (vp_in_nI (by omega) (by omega)) (by decide +kernel : decode cL_law 28 = .ok (.iaload, 1)) ?_
  refine lv_bipush (v := 63) hx hb (by decide +kernel : decode cL_law 29 = .ok (.bipush 63, 2)) rfl ?_
  refine lv_iand hx hb (by decide +kernel : decode cL_law 31 = .ok (.iand, 1)) ?_
  refine l_step C0 hi t hl h4 (fun C' M' H1 locs1 hi1 t1 => ?_)
  refine lv_iinc (v := nI (i + 4)) (lv' := lwL s b (i + 4)) hx hb (by decide +kernel : decode cL_law 1054 = .ok (.iinc 3 4, 3)) hl (k := 0) rfl (nI_add i 4) (by decide) rfl (fun ls1 hl1 => ?_)
  refine lv_goto (tgt := 18) hx hb (by decide +kernel : decode cL_law 1057 = .ok (.goto (-1039), 3)) rfl ?_
  exact kn C' M' H1 locs1 ls1 hi1 t1 hl1 h4
theorem l_loop (C0 : lwC p R s m args c b L xs D cA cells slots) (kE1 : ∀ H locs ls, va_S (fun q => s.heap.size ≤ q) s.heap H locs → W p l e R s m args below meth c H locs cells slots Q (F0 m 1060 ls [])) (n : Nat) :
    ∀ (i : Nat) (C M : mm_M) (H : Heap) (locs : List Loc) (ls : Array Slot), Inv C M → lwT D cA s C M H locs → lv_has ls 4 (lwL s b i) → i ≤ L → L - i ≤ n → W p l e R s m args below meth c H locs cells slots Q (F0 m 18 ls []) := by
  induction n with
  | zero => exact fun i C M H locs ls hi t hl hiL hn => l_iter C0 kE1 hi t hl hiL (fun C' M' H1 locs1 ls1 _ _ _ h4 => absurd hn (by omega))
  | succ n ih => exact fun i C M H locs ls hi t hl hiL hn => l_iter C0 kE1 hi t hl hiL (fun C' M' H1 locs1 ls1 q1 q2 q3 h4 => ih (i + 4) C' M' H1 locs1 ls1 q1 q2 q3 h4 (by omega))
theorem l_first (C0 : lwC p R s m args c b L xs D cA 167 9998) (hl : lv_has ls 4 [(0, .ref b)]) (kE1 : ∀ H locs ls, va_S (fun q => s.heap.size ≤ q) s.heap H locs → W p l e R s m args below meth c H locs 167 9998 Q (F0 m 1060 ls [])) : W p l e R s m args below meth c s.heap [] 0 0 Q (F0 m 0 ls []) := by
  obtain ⟨hx, hb, hml, hown, hts, hE, hX, hbl, hL, hfr, hlo, hc1, hc2⟩ := id C0
  refine l_new (ci := 7) (fs := [.null, .null, .null, .null, .int 0, .int 0, .int 0]) C0 va_S.rf uwX7 tyX7 tyX7_ok (mm_one_at (.classLink RL 7 RX7) 114 (by decide +kernel) rfl) liX7 (mm_one_at (.initialized RX7) 104 (by decide +kernel) rfl) rfl dfX7 (by omega) (by omega) (by decide +kernel : decode cL_law 0 = .ok (.new 7, 3)) rfl (fun H1 a1 z1 o1 S1 => ?_)
  refine lv_dup hx hb (by decide +kernel : decode cL_law 3 = .ok (.dup, 1)) rfl ?_
  refine l_init bX7_init C0 S1 z1 (Nat.le_refl _) a1 (mm_one_at (.methodLink RL 9 yX7_init) 116 (by decide +kernel) rfl) (mm_one_at (.instanceMethod yX7_init) 117 (by decide +kernel) rfl) (mm_one_at (.initialized RX7) 104 (by decide +kernel) rfl) (mm_one_at (.code yX7_init cX7_init 1 none) 118 (by decide +kernel) rfl) rfl (by decide +kernel) hl.1 (by omega) (by omega) (by simp [Value.category]) (by decide +kernel : decode cL_law 4 = .ok (.invokespecial 9, 3)) (by omega) (by omega) (fun H2 locs2 k2 o2 S2 => ?_)
  refine lv_astore_n (lv' := [(1, .ref s.heap.size), (0, .ref b)]) hx hb (by decide +kernel : decode cL_law 7 = .ok (.astore_n 1, 1)) rfl hl (by decide) rfl (fun ls1 hl1 => ?_)
  have z2 : H2.size = s.heap.size + 137 := by rw [k2.1, show (eX7_init cA (s.heap.size + 1)).length = 136 from rfl]
  refine l_new (ci := 8) (fs := [.int 0, .int 0, .null, .null, .null, .null, .null, .int 0, .int 0, .int 0, .null, .null, .null, .null, .null, .null, .int 0, .int 0, .int 0, .null, .null, .int 0, .int 0, .int 0, .null, .int 0, .int 0, .int 0, .null, .null, .null, .null, .null, .null, .null, .int 0, .int 0, .int 0, .int 0, .int 0, .int 0, .int 0, .null, .null, .null, .long 0, .long 0, .null, .null, .long 0, .null, .long 0, .null, .long 0, .null, .long 0, .long 0]) C0 S2 uwX8 tyX8 tyX8_ok (mm_one_at (.classLink RL 10 RX8) 941 (by decide +kernel) rfl) liX8 (mm_one_at (.initialized RX8) 112 (by decide +kernel) rfl) rfl dfX8 (by omega) (by omega) (by decide +kernel : decode cL_law 8 = .ok (.new 10, 3)) z2 (fun H3 a3 z3 o3 S3 => ?_)
  refine lv_dup hx hb (by decide +kernel : decode cL_law 11 = .ok (.dup, 1)) rfl ?_
  refine l_init bX8_init C0 S3 z3 (by omega) a3 (mm_one_at (.methodLink RL 12 yX8_init) 943 (by decide +kernel) rfl) (mm_one_at (.instanceMethod yX8_init) 944 (by decide +kernel) rfl) (mm_one_at (.initialized RX8) 112 (by decide +kernel) rfl) (mm_one_at (.code yX8_init cX8_init 1 none) 945 (by decide +kernel) rfl) rfl (by decide +kernel) hl1.1 (by omega) (by omega) (by simp [Value.category]) (by decide +kernel : decode cL_law 12 = .ok (.invokespecial 12, 3)) (by omega) (by omega) (fun H4 locs4 k4 o4 S4 => ?_)
  refine lv_astore_n (lv' := [(2, .ref (s.heap.size + 137)), (1, .ref s.heap.size), (0, .ref b)]) hx hb (by decide +kernel : decode cL_law 15 = .ok (.astore_n 2, 1)) rfl hl1 (by decide) rfl (fun ls2 hl2 => ?_)
  refine lv_iconst (v := nI 0) hx hb (by decide +kernel : decode cL_law 16 = .ok (.iconst 0, 1)) rfl ?_
  refine lv_istore_n (lv' := lwL s b 0) hx hb (by decide +kernel : decode cL_law 17 = .ok (.istore_n 3, 1)) rfl hl2 (by decide) rfl (fun ls3 hl3 => ?_)
  have pC : va_P D vwCl (mm_W lay_c cA (adC s.heap.size) M0c) H4 := fun k q hq => by
    have h2 := wdC k2 k q hq
    have h3 : q.1 < s.heap.size + 137 := by rw [← z2]; exact h2.lt
    exact h2.kept ((o4 _ h3).trans (o3 _ h3))
  exact l_loop C0 kE1 L 0 M0c M0m H4 locs4 ls3 inv0 ⟨pC, wdM k4, M0c_N, M0m_N, S4⟩ hl3 (Nat.zero_le _) (Nat.le_refl _)
end S79
