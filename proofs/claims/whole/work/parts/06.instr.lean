section MMI
variable {p : Program} {l : Launch} {e : Env} {R : Room} {s : State} {m : MethodId} {args : Array Value} {below : List Frame} {meth : Method} {c : Code}
variable {lay : List mm_S} {cA : Nat → ClassId} {ad : Nat → Nat} {D : va_G} {A : Nat → Prop} {own : String} {cc : ByteArray} {nL rt : Nat} {Q : Option mm_V → mm_M → Prop}
theorem mm_aald {H : Heap} {locs : List Loc} {cells slots pc : Nat} {Qw : State → Prop} {ls : Array Slot} {rest : List Value} {cl : List vw_C} {tys : List (ClassId × FieldType)} {ws : va_W} {a : Nat} (hexec : p.tables.exec = Jvm.exec) (hb : c.code = cc) (hK : va_K D cl tys s) (hP : va_P D cl ws H) (q0 t0 : Nat) {cB : ClassId} {ty : FieldType} {n : Nat} {f : Nat → Option Nat} (ha : ws[q0]? = some (a, .inl (cB, n, .inr (.inr (.inr (.inr f)))))) (ht : tys[t0]? = some (cB, ty)) (hty : ty.isReference = true) {i : Int32} (hin : vp_in i n) (hdg : decode cc pc = .ok (.aaload, 1))
    (kk : W p l e R s m args below meth c H locs cells slots Qw (F0 m (pc + 1) ls (va_rf (f i.toNatClampNeg) :: rest))) : W p l e R s m args below meth c H locs cells slots Qw (F0 m pc ls (.int i :: .ref a :: rest)) := by
  have hlt : i.toNatClampNeg < n := Nat.not_le.mp fun q => hin (Or.inr q)
  exact W.aald (v := va_rf (f i.toNatClampNeg)) (ty := ty) hexec hb (hP q0 _ ha) ((hK.2 t0 _ ht).1 n (fun j => va_rf (f j))) hty (fun q => by cases q) (by show ¬ (i < 0 ∨ (arrV _ _ _).slots.size ≤ _); rw [arrV_size]; exact hin) (by show (arrV _ _ _).slots[_]? = _; rw [arrV_read _ _ hlt]) rfl rfl hdg kk
theorem mm_fval_eq (ad : Nat → Nat) (ci q k : Nat) (M : mm_M) (t : Nat) : mm_fval ad ci q (M q) k t = mm_rv ad (mm_fv ci k t q M) := by
  match t with
  | 0 => rfl
  | 1 => rfl
  | 2 => rfl
  | 3 => rfl
  | n + 4 => rfl
theorem mm_swc_e {x : Int} {f : Nat → Prop} : ∀ {ts : List Nat} {lo : Int} (_ : mm_swc x f lo ts) (j : Nat) {t : Nat}, ts[j]? = some t → x = lo + (j : Int) → f t
  | [], _, _, j, t, ht, _ => by simp at ht
  | a :: ts, lo, h, 0, t, ht, hx => by
    simp at ht
    subst ht
    exact h.1 (by omega)
  | a :: ts, lo, h, j + 1, t, ht, hx => mm_swc_e (ts := ts) (lo := lo + 1) h.2 j (by simpa using ht) (by omega)
theorem mm_lkc_e {pc : Nat} {x d : Int} {X : Prop} {f : Nat → Prop} : ∀ (ps : List (Int × Int)) (ts : List Nat), mm_lkn x ps X → mm_lkc x f ps ts → (ps.map (·.2)).map (fun o => (pc : Int) + o) = ts.map (fun t : Nat => (t : Int)) → (X ∧ Op.lookupswitch.offset ps d x = d) ∨ ∃ t, f t ∧ (pc : Int) + Op.lookupswitch.offset ps d x = (t : Int)
  | [], _, h, _, _ => Or.inl ⟨h, rfl⟩
  | q :: ps, [], _, _, he => by simp at he
  | (k, o) :: ps, t :: ts, h, hc, he => by
    simp only [List.map_cons, List.cons.injEq] at he
    rw [Op.lookupswitch.offset_cons]
    by_cases e : k = x
    · rw [if_pos e]
      exact Or.inr ⟨t, hc.1 e.symm, he.1⟩
    · rw [if_neg e]
      exact mm_lkc_e ps ts (h (fun z => e z.symm)) hc.2 he.2
set_option maxHeartbeats 4000000 in
theorem mm_sound1 {fl : mm_Fl} {vt sm : mm_Cl} {ct : mm_Ct} {i : Instr} {ts : List Nat} {pc : Nat} {ls : mm_L} {st : List mm_V} {M : mm_M} {nx : mm_K} {jp : Nat → mm_K} (C0 : mm_Cx p s m args meth c lay cA ad D A own cc nL rt) (hfl : mm_flok own fl) (hct : mm_ctok own ct)
    (hct2 : match i with
      | .ldc n => ∀ z, ct n = some z → mm_R z ∧ Cond.constant own n (Int32.ofInt z) ∈ mm_tbl
      | .ldc2_w n => ∀ z, ct n = some z → mm_RL z ∧ Cond.constantLong own n (Int64.ofInt z) ∈ mm_tbl
      | _ => True)
    (hvt : ∀ k ci n f, vt k = some (ci, n, f) → mm_CO p l e R s m args below meth c lay cA ad D A cc nL (.invokevirtual k) n (mm_rcv lay ci) f)
    (hsm : ∀ k ci n f, sm k = some (ci, n, f) → mm_CO p l e R s m args below meth c lay cA ad D A cc nL (.invokestatic k) n (fun _ => true) f)
    (hd : mm_dec cc pc i) (htg : mm_tg pc i ts)
    (hnx : ∀ ls st M, nx ls st M → mm_G p l e R s m args below meth c lay cA ad D A nL Q (pc + mm_ln i) ls st M)
    (hjp : ∀ t ls st M, jp t ls st M → mm_G p l e R s m args below meth c lay cA ad D A nL Q t ls st M)
    (h : mm_in lay fl vt sm ct rt Q i ts ls st M nx jp) : mm_G p l e R s m args below meth c lay cA ad D A nL Q pc ls st M := by
  obtain ⟨hx, hb, hml, hown, hts, hK, hne, hlk, hrt, hA, hD⟩ := id C0
  cases i with
  | aload_n n =>
    have hd : decode cc pc = .ok (.aload_n n, 1) := hd
    obtain ⟨z, hz, h⟩ := mm_lr_e h
    intro H locs la t
    obtain ⟨t1, t2, t3, t4, t5, t6, t7⟩ := id t
    refine lv_aload_n hx hb hd rfl (mm_lv_at t3 hz) ?_
    exact hnx _ _ _ h H locs la (t.st (mm_n1 (t6 _ _ hz) t5))
  | aload n =>
    have hd : decode cc pc = .ok (.aload n, 2) := hd
    obtain ⟨z, hz, h⟩ := mm_lr_e h
    intro H locs la t
    obtain ⟨t1, t2, t3, t4, t5, t6, t7⟩ := id t
    refine lv_aload hx hb hd (mm_lv_at t3 hz) ?_
    exact hnx _ _ _ h H locs la (t.st (mm_n1 (t6 _ _ hz) t5))
  | iload_n n =>
    have hd : decode cc pc = .ok (.iload_n n, 1) := hd
    obtain ⟨z, hz, h⟩ := mm_li_e h
    intro H locs la t
    obtain ⟨t1, t2, t3, t4, t5, t6, t7⟩ := id t
    refine lv_iload_n hx hb hd rfl (mm_lv_at t3 hz) ?_
    exact hnx _ _ _ h H locs la (t.st (mm_n1 (t6 _ _ hz) t5))
  | iload n =>
    have hd : decode cc pc = .ok (.iload n, 2) := hd
    obtain ⟨z, hz, h⟩ := mm_li_e h
    intro H locs la t
    obtain ⟨t1, t2, t3, t4, t5, t6, t7⟩ := id t
    refine lv_iload hx hb hd (mm_lv_at t3 hz) ?_
    exact hnx _ _ _ h H locs la (t.st (mm_n1 (t6 _ _ hz) t5))
  | lload_n n =>
    have hd : decode cc pc = .ok (.lload_n n, 1) := hd
    obtain ⟨z, hz, h⟩ := mm_ll_e h
    intro H locs la t
    obtain ⟨t1, t2, t3, t4, t5, t6, t7⟩ := id t
    refine lv_lload_n hx hb hd rfl (mm_lv_at t3 hz) ?_
    exact hnx _ _ _ h H locs la (t.st (mm_n1 (t6 _ _ hz) t5))
  | lload n =>
    have hd : decode cc pc = .ok (.lload n, 2) := hd
    obtain ⟨z, hz, h⟩ := mm_ll_e h
    intro H locs la t
    obtain ⟨t1, t2, t3, t4, t5, t6, t7⟩ := id t
    refine lv_lload hx hb hd (mm_lv_at t3 hz) ?_
    exact hnx _ _ _ h H locs la (t.st (mm_n1 (t6 _ _ hz) t5))
  | astore_n n =>
    have hd : decode cc pc = .ok (.astore_n n, 1) := hd
    obtain ⟨z, st1, rfl, h⟩ := mm_pr_e h
    obtain ⟨hk, h⟩ := mm_chk_e h
    rw [Bool.and_eq_true] at hk
    intro H locs la t
    obtain ⟨t1, t2, t3, t4, t5, t6, t7⟩ := id t
    refine lv_astore_n hx hb hd rfl t3 (by rw [← t4]; exact Nat.blt_eq.mp hk.1) rfl (fun la' hl => ?_)
    exact hnx _ _ _ h H locs la' (t.set1 (mm_n2 t5).2 (v := .inr (.inr z)) (mm_n2 t5).1 hk.2 hl)
  | astore n =>
    have hd : decode cc pc = .ok (.astore n, 2) := hd
    obtain ⟨z, st1, rfl, h⟩ := mm_pr_e h
    obtain ⟨hk, h⟩ := mm_chk_e h
    rw [Bool.and_eq_true] at hk
    intro H locs la t
    obtain ⟨t1, t2, t3, t4, t5, t6, t7⟩ := id t
    refine lv_astore hx hb hd t3 (by rw [← t4]; exact Nat.blt_eq.mp hk.1) rfl (fun la' hl => ?_)
    exact hnx _ _ _ h H locs la' (t.set1 (mm_n2 t5).2 (v := .inr (.inr z)) (mm_n2 t5).1 hk.2 hl)
  | istore_n n =>
    have hd : decode cc pc = .ok (.istore_n n, 1) := hd
    obtain ⟨z, st1, rfl, h⟩ := mm_pi_e h
    obtain ⟨hk, h⟩ := mm_chk_e h
    rw [Bool.and_eq_true] at hk
    intro H locs la t
    obtain ⟨t1, t2, t3, t4, t5, t6, t7⟩ := id t
    refine lv_istore_n hx hb hd rfl t3 (by rw [← t4]; exact Nat.blt_eq.mp hk.1) rfl (fun la' hl => ?_)
    exact hnx _ _ _ h H locs la' (t.set1 (mm_n2 t5).2 (v := .inl z) (mm_n2 t5).1 hk.2 hl)
  | istore n =>
    have hd : decode cc pc = .ok (.istore n, 2) := hd
    obtain ⟨z, st1, rfl, h⟩ := mm_pi_e h
    obtain ⟨hk, h⟩ := mm_chk_e h
    rw [Bool.and_eq_true] at hk
    intro H locs la t
    obtain ⟨t1, t2, t3, t4, t5, t6, t7⟩ := id t
    refine lv_istore hx hb hd t3 (by rw [← t4]; exact Nat.blt_eq.mp hk.1) rfl (fun la' hl => ?_)
    exact hnx _ _ _ h H locs la' (t.set1 (mm_n2 t5).2 (v := .inl z) (mm_n2 t5).1 hk.2 hl)
  | lstore_n n =>
    have hd : decode cc pc = .ok (.lstore_n n, 1) := hd
    obtain ⟨z, st1, rfl, h⟩ := mm_pl_e h
    obtain ⟨hk, h⟩ := mm_chk_e h
    rw [Bool.and_eq_true] at hk
    intro H locs la t
    obtain ⟨t1, t2, t3, t4, t5, t6, t7⟩ := id t
    refine lv_lstore_n hx hb hd rfl t3 (by rw [← t4]; exact Nat.blt_eq.mp hk.1) rfl (fun la' hl => ?_)
    exact hnx _ _ _ h H locs la' (t.set2 (mm_n2 t5).2 (v := .inr (.inl z)) (mm_n2 t5).1 hk.2 hl)
  | lstore n =>
    have hd : decode cc pc = .ok (.lstore n, 2) := hd
    obtain ⟨z, st1, rfl, h⟩ := mm_pl_e h
    obtain ⟨hk, h⟩ := mm_chk_e h
    rw [Bool.and_eq_true] at hk
    intro H locs la t
    obtain ⟨t1, t2, t3, t4, t5, t6, t7⟩ := id t
    refine lv_lstore hx hb hd t3 (by rw [← t4]; exact Nat.blt_eq.mp hk.1) rfl (fun la' hl => ?_)
    exact hnx _ _ _ h H locs la' (t.set2 (mm_n2 t5).2 (v := .inr (.inl z)) (mm_n2 t5).1 hk.2 hl)
  | iconst n =>
    have hd : decode cc pc = .ok (.iconst n, 1) := hd
    obtain ⟨hk, h⟩ := mm_chk_e h
    have hk := of_decide_eq_true hk
    intro H locs la t
    obtain ⟨t1, t2, t3, t4, t5, t6, t7⟩ := id t
    refine lv_iconst hx hb hd rfl ?_
    exact hnx _ _ _ h H locs la (t.st (mm_n1 (v := .inl n) ⟨by omega, by omega⟩ t5))
  | bipush n =>
    have hd : decode cc pc = .ok (.bipush n, 2) := hd
    obtain ⟨hk, h⟩ := mm_chk_e h
    have hk := of_decide_eq_true hk
    intro H locs la t
    obtain ⟨t1, t2, t3, t4, t5, t6, t7⟩ := id t
    refine lv_bipush (v := Int32.ofInt n) hx hb hd ?_ ?_
    · rw [← Int32.toInt_inj, Int8.toInt_toInt32, Int8.toInt_ofInt_of_le (by omega) (by omega), Int32.toInt_ofInt_of_le (by omega) (by omega)]
    · exact hnx _ _ _ h H locs la (t.st (mm_n1 (v := .inl n) ⟨by omega, by omega⟩ t5))
  | sipush n =>
    have hd : decode cc pc = .ok (.sipush n, 3) := hd
    obtain ⟨hk, h⟩ := mm_chk_e h
    have hk := of_decide_eq_true hk
    intro H locs la t
    obtain ⟨t1, t2, t3, t4, t5, t6, t7⟩ := id t
    refine lv_sipush (v := Int32.ofInt n) hx hb hd ?_ ?_
    · rw [← Int32.toInt_inj, Int16.toInt_toInt32, Int16.toInt_ofInt_of_le (by omega) (by omega), Int32.toInt_ofInt_of_le (by omega) (by omega)]
    · exact hnx _ _ _ h H locs la (t.st (mm_n1 (v := .inl n) ⟨by omega, by omega⟩ t5))
  | lconst n =>
    have hd : decode cc pc = .ok (.lconst n, 1) := hd
    intro H locs la t
    obtain ⟨t1, t2, t3, t4, t5, t6, t7⟩ := id t
    refine lv_lconst (v := Int64.ofInt (n.val : Int)) hx hb hd rfl ?_
    exact hnx _ _ _ h H locs la (t.st (mm_n1 (v := .inr (.inl (n.val : Int))) ⟨by have := n.isLt; omega, by have := n.isLt; omega⟩ t5))
  | ldc n =>
    have hd : decode cc pc = .ok (.ldc n, 2) := hd
    simp only [mm_in] at h
    split at h
    · rename_i z hz
      obtain ⟨hR, hc⟩ := hct2 z hz
      intro H locs la t
      obtain ⟨t1, t2, t3, t4, t5, t6, t7⟩ := id t
      refine lv_ldc hx hb hown (hts _ hc) hd ?_
      exact hnx _ _ _ h H locs la (t.st (mm_n1 (v := .inl z) hR t5))
    · exact h.elim
  | ldc2_w n =>
    have hd : decode cc pc = .ok (.ldc2_w n, 3) := hd
    simp only [mm_in] at h
    split at h
    · rename_i z hz
      obtain ⟨hR, hc⟩ := hct2 z hz
      intro H locs la t
      obtain ⟨t1, t2, t3, t4, t5, t6, t7⟩ := id t
      refine lv_ldc2 hx hb hown (hts _ hc) hd ?_
      exact hnx _ _ _ h H locs la (t.st (mm_n1 (v := .inr (.inl z)) hR t5))
    · exact h.elim
  | iadd =>
    have hd : decode cc pc = .ok (.iadd, 1) := hd
    obtain ⟨y, st1, rfl, h⟩ := mm_pi_e h
    obtain ⟨x, st2, rfl, h⟩ := mm_pi_e h
    intro H locs la t
    obtain ⟨t1, t2, t3, t4, t5, t6, t7⟩ := id t
    obtain ⟨ny, t5⟩ := mm_n2 t5
    obtain ⟨nx', t5⟩ := mm_n2 t5
    refine lv_iadd hx hb hd ?_
    have ee : Int32.ofInt (mm_w (x + y)) = Int32.ofInt x + Int32.ofInt y := by rw [mm_ofw, Int32.ofInt_add]
    rw [← ee]
    exact hnx _ _ _ h H locs la (t.st (mm_n1 (v := .inl (mm_w (x + y))) (mm_w_R _) t5))
  | isub =>
    have hd : decode cc pc = .ok (.isub, 1) := hd
    obtain ⟨y, st1, rfl, h⟩ := mm_pi_e h
    obtain ⟨x, st2, rfl, h⟩ := mm_pi_e h
    intro H locs la t
    obtain ⟨t1, t2, t3, t4, t5, t6, t7⟩ := id t
    obtain ⟨ny, t5⟩ := mm_n2 t5
    obtain ⟨nx', t5⟩ := mm_n2 t5
    refine lv_isub hx hb hd ?_
    have ee : Int32.ofInt (mm_w (x - y)) = Int32.ofInt x - Int32.ofInt y := by rw [mm_ofw, Int32.ofInt_sub]
    rw [← ee]
    exact hnx _ _ _ h H locs la (t.st (mm_n1 (v := .inl (mm_w (x - y))) (mm_w_R _) t5))
  | imul =>
    have hd : decode cc pc = .ok (.imul, 1) := hd
    obtain ⟨y, st1, rfl, h⟩ := mm_pi_e h
    obtain ⟨x, st2, rfl, h⟩ := mm_pi_e h
    intro H locs la t
    obtain ⟨t1, t2, t3, t4, t5, t6, t7⟩ := id t
    obtain ⟨ny, t5⟩ := mm_n2 t5
    obtain ⟨nx', t5⟩ := mm_n2 t5
    refine lv_imul hx hb hd ?_
    have ee : Int32.ofInt (mm_w (x * y)) = Int32.ofInt x * Int32.ofInt y := by rw [mm_ofw, Int32.ofInt_mul]
    rw [← ee]
    exact hnx _ _ _ h H locs la (t.st (mm_n1 (v := .inl (mm_w (x * y))) (mm_w_R _) t5))
  | iand =>
    have hd : decode cc pc = .ok (.iand, 1) := hd
    obtain ⟨y, st1, rfl, h⟩ := mm_pi_e h
    obtain ⟨x, st2, rfl, h⟩ := mm_pi_e h
    intro H locs la t
    obtain ⟨t1, t2, t3, t4, t5, t6, t7⟩ := id t
    obtain ⟨ny, t5⟩ := mm_n2 t5
    obtain ⟨nx', t5⟩ := mm_n2 t5
    refine lv_iand hx hb hd ?_
    have ee : Int32.ofInt (mm_and x y) = Int32.ofInt x &&& Int32.ofInt y := by unfold mm_and; rw [Int32.ofInt_toInt]
    rw [← ee]
    exact hnx _ _ _ h H locs la (t.st (mm_n1 (v := .inl (mm_and x y)) (mm_toR _) t5))
  | ior =>
    have hd : decode cc pc = .ok (.ior, 1) := hd
    obtain ⟨y, st1, rfl, h⟩ := mm_pi_e h
    obtain ⟨x, st2, rfl, h⟩ := mm_pi_e h
    intro H locs la t
    obtain ⟨t1, t2, t3, t4, t5, t6, t7⟩ := id t
    obtain ⟨ny, t5⟩ := mm_n2 t5
    obtain ⟨nx', t5⟩ := mm_n2 t5
    refine lv_ior hx hb hd ?_
    have ee : Int32.ofInt (mm_or x y) = Int32.ofInt x ||| Int32.ofInt y := by unfold mm_or; rw [Int32.ofInt_toInt]
    rw [← ee]
    exact hnx _ _ _ h H locs la (t.st (mm_n1 (v := .inl (mm_or x y)) (mm_toR _) t5))
  | ishl =>
    have hd : decode cc pc = .ok (.ishl, 1) := hd
    obtain ⟨y, st1, rfl, h⟩ := mm_pi_e h
    obtain ⟨x, st2, rfl, h⟩ := mm_pi_e h
    intro H locs la t
    obtain ⟨t1, t2, t3, t4, t5, t6, t7⟩ := id t
    obtain ⟨ny, t5⟩ := mm_n2 t5
    obtain ⟨nx', t5⟩ := mm_n2 t5
    refine lv_ishl hx hb hd ?_
    have ee : Int32.ofInt (mm_shl x y) = Int32.ofInt x <<< (Int32.ofInt y &&& 31) := by unfold mm_shl; rw [Int32.ofInt_toInt]
    rw [← ee]
    exact hnx _ _ _ h H locs la (t.st (mm_n1 (v := .inl (mm_shl x y)) (mm_toR _) t5))
  | ishr =>
    have hd : decode cc pc = .ok (.ishr, 1) := hd
    obtain ⟨y, st1, rfl, h⟩ := mm_pi_e h
    obtain ⟨x, st2, rfl, h⟩ := mm_pi_e h
    intro H locs la t
    obtain ⟨t1, t2, t3, t4, t5, t6, t7⟩ := id t
    obtain ⟨ny, t5⟩ := mm_n2 t5
    obtain ⟨nx', t5⟩ := mm_n2 t5
    refine lv_ishr hx hb hd ?_
    have ee : Int32.ofInt (mm_shr x y) = Int32.ofInt x >>> (Int32.ofInt y &&& 31) := by unfold mm_shr; rw [Int32.ofInt_toInt]
    rw [← ee]
    exact hnx _ _ _ h H locs la (t.st (mm_n1 (v := .inl (mm_shr x y)) (mm_toR _) t5))
  | idiv =>
    have hd : decode cc pc = .ok (.idiv, 1) := hd
    obtain ⟨y, st1, rfl, h⟩ := mm_pi_e h
    obtain ⟨x, st2, rfl, h⟩ := mm_pi_e h
    obtain ⟨hnz, h⟩ := h
    intro H locs la t
    obtain ⟨t1, t2, t3, t4, t5, t6, t7⟩ := id t
    obtain ⟨ny, t5⟩ := mm_n2 t5
    obtain ⟨nx', t5⟩ := mm_n2 t5
    refine lv_idiv hx hb hd (fun q => hnz ((mm_eq ny mm_R0).mp q)) ?_
    have ee : Int32.ofInt (mm_div x y) = Int32.ofInt x / Int32.ofInt y := (mm_div_eq nx' ny).symm
    rw [← ee]
    exact hnx _ _ _ h H locs la (t.st (mm_n1 (v := .inl (mm_div x y)) (mm_w_R _) t5))
  | irem =>
    have hd : decode cc pc = .ok (.irem, 1) := hd
    obtain ⟨y, st1, rfl, h⟩ := mm_pi_e h
    obtain ⟨x, st2, rfl, h⟩ := mm_pi_e h
    obtain ⟨hnz, h⟩ := h
    intro H locs la t
    obtain ⟨t1, t2, t3, t4, t5, t6, t7⟩ := id t
    obtain ⟨ny, t5⟩ := mm_n2 t5
    obtain ⟨nx', t5⟩ := mm_n2 t5
    refine lv_irem hx hb hd (fun q => hnz ((mm_eq ny mm_R0).mp q)) ?_
    have ee : Int32.ofInt (mm_rem x y) = Int32.ofInt x - Int32.ofInt x / Int32.ofInt y * Int32.ofInt y := (mm_rem_eq nx' ny).symm
    rw [← ee]
    exact hnx _ _ _ h H locs la (t.st (mm_n1 (v := .inl (mm_rem x y)) (mm_tmod_R nx') t5))
  | ladd =>
    have hd : decode cc pc = .ok (.ladd, 1) := hd
    obtain ⟨y, st1, rfl, h⟩ := mm_pl_e h
    obtain ⟨x, st2, rfl, h⟩ := mm_pl_e h
    intro H locs la t
    obtain ⟨t1, t2, t3, t4, t5, t6, t7⟩ := id t
    obtain ⟨ny, t5⟩ := mm_n2 t5
    obtain ⟨nx', t5⟩ := mm_n2 t5
    refine lv_ladd hx hb hd ?_
    have ee : Int64.ofInt (mm_wl (x + y)) = Int64.ofInt x + Int64.ofInt y := by rw [mm_ofwl, Int64.ofInt_add]
    rw [← ee]
    exact hnx _ _ _ h H locs la (t.st (mm_n1 (v := .inr (.inl (mm_wl (x + y)))) (mm_wl_R _) t5))
  | lsub =>
    have hd : decode cc pc = .ok (.lsub, 1) := hd
    obtain ⟨y, st1, rfl, h⟩ := mm_pl_e h
    obtain ⟨x, st2, rfl, h⟩ := mm_pl_e h
    intro H locs la t
    obtain ⟨t1, t2, t3, t4, t5, t6, t7⟩ := id t
    obtain ⟨ny, t5⟩ := mm_n2 t5
    obtain ⟨nx', t5⟩ := mm_n2 t5
    refine lv_lsub hx hb hd ?_
    have ee : Int64.ofInt (mm_wl (x - y)) = Int64.ofInt x - Int64.ofInt y := by rw [mm_ofwl, Int64.ofInt_sub]
    rw [← ee]
    exact hnx _ _ _ h H locs la (t.st (mm_n1 (v := .inr (.inl (mm_wl (x - y)))) (mm_wl_R _) t5))
  | lmul =>
    have hd : decode cc pc = .ok (.lmul, 1) := hd
    obtain ⟨y, st1, rfl, h⟩ := mm_pl_e h
    obtain ⟨x, st2, rfl, h⟩ := mm_pl_e h
    intro H locs la t
    obtain ⟨t1, t2, t3, t4, t5, t6, t7⟩ := id t
    obtain ⟨ny, t5⟩ := mm_n2 t5
    obtain ⟨nx', t5⟩ := mm_n2 t5
    refine lv_lmul hx hb hd ?_
    have ee : Int64.ofInt (mm_wl (x * y)) = Int64.ofInt x * Int64.ofInt y := by rw [mm_ofwl, Int64.ofInt_mul]
    rw [← ee]
    exact hnx _ _ _ h H locs la (t.st (mm_n1 (v := .inr (.inl (mm_wl (x * y)))) (mm_wl_R _) t5))
  | ldiv =>
    have hd : decode cc pc = .ok (.ldiv, 1) := hd
    obtain ⟨y, st1, rfl, h⟩ := mm_pl_e h
    obtain ⟨x, st2, rfl, h⟩ := mm_pl_e h
    obtain ⟨hnz, h⟩ := h
    intro H locs la t
    obtain ⟨t1, t2, t3, t4, t5, t6, t7⟩ := id t
    obtain ⟨ny, t5⟩ := mm_n2 t5
    obtain ⟨nx', t5⟩ := mm_n2 t5
    refine lv_ldiv hx hb hd (fun q => hnz ((mm_eql ny mm_RL0).mp q)) ?_
    have ee : Int64.ofInt (mm_divl x y) = Int64.ofInt x / Int64.ofInt y := (mm_divl_eq nx' ny).symm
    rw [← ee]
    exact hnx _ _ _ h H locs la (t.st (mm_n1 (v := .inr (.inl (mm_divl x y))) (mm_wl_R _) t5))
  | lrem =>
    have hd : decode cc pc = .ok (.lrem, 1) := hd
    obtain ⟨y, st1, rfl, h⟩ := mm_pl_e h
    obtain ⟨x, st2, rfl, h⟩ := mm_pl_e h
    obtain ⟨hnz, h⟩ := h
    intro H locs la t
    obtain ⟨t1, t2, t3, t4, t5, t6, t7⟩ := id t
    obtain ⟨ny, t5⟩ := mm_n2 t5
    obtain ⟨nx', t5⟩ := mm_n2 t5
    refine lv_lrem hx hb hd (fun q => hnz ((mm_eql ny mm_RL0).mp q)) ?_
    have ee : Int64.ofInt (mm_reml x y) = Int64.ofInt x - Int64.ofInt x / Int64.ofInt y * Int64.ofInt y := (mm_reml_eq nx' ny).symm
    rw [← ee]
    exact hnx _ _ _ h H locs la (t.st (mm_n1 (v := .inr (.inl (mm_reml x y))) (mm_tmod_RL nx') t5))
  | lcmp =>
    have hd : decode cc pc = .ok (.lcmp, 1) := hd
    obtain ⟨y, st1, rfl, h⟩ := mm_pl_e h
    obtain ⟨x, st2, rfl, h⟩ := mm_pl_e h
    intro H locs la t
    obtain ⟨t1, t2, t3, t4, t5, t6, t7⟩ := id t
    obtain ⟨ny, t5⟩ := mm_n2 t5
    obtain ⟨nx', t5⟩ := mm_n2 t5
    refine W.lcmp hx hb hd ?_
    rw [mm_cmp_eq nx' ny]
    exact hnx _ _ _ h H locs la (t.st (mm_n1 (v := .inl (mm_cmp x y)) (mm_cmp_R _ _) t5))
  | i2l =>
    have hd : decode cc pc = .ok (.i2l, 1) := hd
    obtain ⟨x, st1, rfl, h⟩ := mm_pi_e h
    intro H locs la t
    obtain ⟨t1, t2, t3, t4, t5, t6, t7⟩ := id t
    obtain ⟨hn, t5⟩ := mm_n2 t5
    have hl : mm_RL x := ⟨by have := hn.1; omega, by have := hn.2; omega⟩
    refine lv_i2l (v := Int64.ofInt x) hx hb hd (by rw [← Int64.toInt_inj, Int32.toInt_toInt64, mm_t hn, mm_tl hl]) ?_
    exact hnx _ _ _ h H locs la (t.st (mm_n1 (v := .inr (.inl x)) hl t5))
  | l2i =>
    have hd : decode cc pc = .ok (.l2i, 1) := hd
    obtain ⟨x, st1, rfl, h⟩ := mm_pl_e h
    intro H locs la t
    obtain ⟨t1, t2, t3, t4, t5, t6, t7⟩ := id t
    obtain ⟨hn, t5⟩ := mm_n2 t5
    refine lv_l2i (v := Int32.ofInt (mm_w x)) hx hb hd (by rw [← Int32.toInt_inj, Int64.toInt_toInt32, mm_tl hn, mm_t (mm_w_R _)]; rfl) ?_
    exact hnx _ _ _ h H locs la (t.st (mm_n1 (v := .inl (mm_w x)) (mm_w_R _) t5))
  | iinc n z =>
    have hd : decode cc pc = .ok (.iinc n z, 3) := hd
    obtain ⟨x, hz, h⟩ := mm_li_e h
    obtain ⟨hk, h⟩ := mm_chk_e h
    rw [Bool.and_eq_true] at hk
    intro H locs la t
    obtain ⟨t1, t2, t3, t4, t5, t6, t7⟩ := id t
    obtain ⟨kk, hkk⟩ := mm_lv_ix (ad := ad) hz
    refine lv_iinc (v := Int32.ofInt (mm_w (x + z))) hx hb hd t3 hkk (by rw [mm_ofw, Int32.ofInt_add]) (by rw [← t4]; exact Nat.blt_eq.mp hk.1) rfl (fun la' hl => ?_)
    exact hnx _ _ _ h H locs la' (t.set1 t5 (v := .inl (mm_w (x + z))) (mm_w_R _) hk.2 hl)
  | dup =>
    have hd : decode cc pc = .ok (.dup, 1) := hd
    simp only [mm_in] at h
    split at h
    · rename_i v st1
      obtain ⟨hk, h⟩ := mm_chk_e h
      intro H locs la t
      obtain ⟨t1, t2, t3, t4, t5, t6, t7⟩ := id t
      refine lv_dup hx hb hd (by rw [mm_cat_eq]; exact Nat.eq_of_beq_eq_true hk) ?_
      exact hnx _ _ _ h H locs la (t.st (mm_n1 (mm_n2 t5).1 t5))
    · exact h.elim
  | dup2 =>
    have hd : decode cc pc = .ok (.dup2, 1) := hd
    simp only [mm_in] at h
    split at h
    · rename_i v w st1
      obtain ⟨hk, h⟩ := mm_chk_e h
      rw [Bool.and_eq_true] at hk
      intro H locs la t
      obtain ⟨t1, t2, t3, t4, t5, t6, t7⟩ := id t
      refine lv_dup2_11 hx hb hd (by rw [mm_cat_eq]; exact Nat.eq_of_beq_eq_true hk.1) (by rw [mm_cat_eq]; exact Nat.eq_of_beq_eq_true hk.2) ?_
      exact hnx _ _ _ h H locs la (t.st (mm_n1 (mm_n2 t5).1 (mm_n1 (mm_n2 (mm_n2 t5).2).1 t5)))
    · exact h.elim
  | goto o =>
    have hd : decode cc pc = .ok (.goto o, 3) := hd
    simp only [mm_in] at h
    split at h
    · rename_i tt
      intro H locs la t
      exact lv_goto hx hb hd (htg tt rfl) (hjp _ _ _ _ h H locs la t)
    · exact h.elim
  | ifCond cd o =>
    have hd : decode cc pc = .ok (.ifCond cd o, 3) := hd
    simp only [mm_in] at h
    split at h
    · rename_i tt
      obtain ⟨x, st1, rfl, h⟩ := mm_pi_e h
      intro H locs la t
      obtain ⟨t1, t2, t3, t4, t5, t6, t7⟩ := id t
      obtain ⟨hn, t5⟩ := mm_n2 t5
      have h := mm_bt_e h hn mm_R0
      have hT := t.st t5
      cases cd
      · exact lv_if_eq hx hb hd (htg tt rfl) (fun q => hjp _ _ _ _ (h.1 q) H locs la hT) (fun q => hnx _ _ _ (h.2 q) H locs la hT)
      · exact lv_if_ne hx hb hd (htg tt rfl) (fun q => hjp _ _ _ _ (h.1 q) H locs la hT) (fun q => hnx _ _ _ (h.2 q) H locs la hT)
      · exact lv_if_lt hx hb hd (htg tt rfl) (fun q => hjp _ _ _ _ (h.1 q) H locs la hT) (fun q => hnx _ _ _ (h.2 q) H locs la hT)
      · exact lv_if_ge hx hb hd (htg tt rfl) (fun q => hjp _ _ _ _ (h.1 q) H locs la hT) (fun q => hnx _ _ _ (h.2 q) H locs la hT)
      · exact lv_if_gt hx hb hd (htg tt rfl) (fun q => hjp _ _ _ _ (h.1 q) H locs la hT) (fun q => hnx _ _ _ (h.2 q) H locs la hT)
      · exact lv_if_le hx hb hd (htg tt rfl) (fun q => hjp _ _ _ _ (h.1 q) H locs la hT) (fun q => hnx _ _ _ (h.2 q) H locs la hT)
    · exact h.elim
  | if_icmp cd o =>
    have hd : decode cc pc = .ok (.if_icmp cd o, 3) := hd
    simp only [mm_in] at h
    split at h
    · rename_i tt
      obtain ⟨y, st1, rfl, g⟩ := mm_pi_e h
      obtain ⟨x, st2, rfl, h⟩ := mm_pi_e g
      intro H locs la t
      obtain ⟨t1, t2, t3, t4, t5, t6, t7⟩ := id t
      obtain ⟨ny, t5⟩ := mm_n2 t5
      obtain ⟨hn, t5⟩ := mm_n2 t5
      have h := mm_bt_e h hn ny
      have hT := t.st t5
      cases cd
      · exact lv_icmp_eq hx hb hd (htg tt rfl) (fun q => hjp _ _ _ _ (h.1 q) H locs la hT) (fun q => hnx _ _ _ (h.2 q) H locs la hT)
      · exact lv_icmp_ne hx hb hd (htg tt rfl) (fun q => hjp _ _ _ _ (h.1 q) H locs la hT) (fun q => hnx _ _ _ (h.2 q) H locs la hT)
      · exact lv_icmp_lt hx hb hd (htg tt rfl) (fun q => hjp _ _ _ _ (h.1 q) H locs la hT) (fun q => hnx _ _ _ (h.2 q) H locs la hT)
      · exact lv_icmp_ge hx hb hd (htg tt rfl) (fun q => hjp _ _ _ _ (h.1 q) H locs la hT) (fun q => hnx _ _ _ (h.2 q) H locs la hT)
      · exact lv_icmp_gt hx hb hd (htg tt rfl) (fun q => hjp _ _ _ _ (h.1 q) H locs la hT) (fun q => hnx _ _ _ (h.2 q) H locs la hT)
      · exact lv_icmp_le hx hb hd (htg tt rfl) (fun q => hjp _ _ _ _ (h.1 q) H locs la hT) (fun q => hnx _ _ _ (h.2 q) H locs la hT)
    · exact h.elim
  | tableswitch d lo hi os =>
    obtain ⟨nn, hd⟩ : ∃ n, decode cc pc = .ok (.tableswitch d lo hi os, n) := hd
    simp only [mm_in] at h
    split at h
    · rename_i tt ts
      obtain ⟨x, st1, rfl, h1, h2⟩ := mm_pi_e h
      obtain ⟨g1, g2⟩ : (d :: os.toList).map (fun o => (pc : Int) + o) = (tt :: ts).map (fun t : Nat => (t : Int)) ∧ hi - lo + 1 = (os.toList.length : Int) := htg
      simp only [List.map_cons, List.cons.injEq] at g1
      intro H locs la t
      obtain ⟨t1, t2, t3, t4, t5, t6, t7⟩ := id t
      obtain ⟨hn, t5⟩ := mm_n2 t5
      have hT := t.st t5
      by_cases hc : x < lo ∨ hi < x
      · exact lv_tableOut hx hb hd (by rw [mm_t hn]; exact hc) g1.1 (hjp _ _ _ _ (h1 hc) H locs la hT)
      · have hj : (x - lo).toNat < os.toList.length := by omega
        obtain ⟨off, ho⟩ : ∃ o, os.toList[(x - lo).toNat]? = some o := ⟨_, List.getElem?_eq_getElem hj⟩
        have hm : (ts.map (fun t : Nat => (t : Int)))[(x - lo).toNat]? = some ((pc : Int) + off) := by rw [← g1.2, List.getElem?_map, ho]; rfl
        rw [List.getElem?_map] at hm
        cases hq : ts[(x - lo).toNat]? with
        | none => rw [hq] at hm; cases hm
        | some tq =>
          rw [hq] at hm
          have hm : ((tq : Nat) : Int) = (pc : Int) + off := Option.some.inj hm
          exact lv_tableIn (off := off) (tgt := tq) hx hb hd (by rw [mm_t hn]; omega) (by rw [mm_t hn]; omega) (by rw [mm_t hn, ← Array.getElem?_toList]; exact ho) hm.symm (hjp _ _ _ _ (mm_swc_e h2 (x - lo).toNat hq (by omega)) H locs la hT)
    · exact h.elim
  | lookupswitch d ps =>
    obtain ⟨nn, hd⟩ : ∃ n, decode cc pc = .ok (.lookupswitch d ps, n) := hd
    simp only [mm_in] at h
    split at h
    · rename_i tt ts
      obtain ⟨x, st1, rfl, h1, h2⟩ := mm_pi_e h
      obtain ⟨g1, g2⟩ : (d :: ps.toList.map (·.2)).map (fun o => (pc : Int) + o) = (tt :: ts).map (fun t : Nat => (t : Int)) ∧ _ := htg
      simp only [List.map_cons, List.cons.injEq] at g1
      intro H locs la t
      obtain ⟨t1, t2, t3, t4, t5, t6, t7⟩ := id t
      obtain ⟨hn, t5⟩ := mm_n2 t5
      have hT := t.st t5
      rcases mm_lkc_e (d := d) (pc := pc) ps.toList ts h1 h2 g1.2 with ⟨hX, he⟩ | ⟨tq, hX, he⟩
      · exact lv_lookup (off := d) (tgt := tt) hx hb hd g2 (by rw [mm_t hn]; exact he) g1.1 (hjp _ _ _ _ hX H locs la hT)
      · exact lv_lookup (tgt := tq) hx hb hd g2 (by rw [mm_t hn]) he (hjp _ _ _ _ hX H locs la hT)
    · exact h.elim
  | getfield n =>
    have hd : decode cc pc = .ok (.getfield n, 3) := hd
    simp only [mm_in] at h
    split at h
    · rename_i ci k tt hf
      obtain ⟨q, st1, rfl, h⟩ := mm_pr_e h
      obtain ⟨hk, h⟩ := mm_chk_e h
      have hs := mm_kd_e hk
      obtain ⟨f1, ⟨C, T, N, ty0, c1, c2, c3, c4, c5, c6⟩, f3⟩ := hfl n ci k tt hf
      have hkN : k < N := by rw [← c5]; exact (List.getElem?_eq_some_iff.mp f1).1
      intro H locs la t
      obtain ⟨t1, t2, t3, t4, t5, t6, t7⟩ := id t
      obtain ⟨-, t5⟩ := mm_n2 t5
      refine va_get (v := mm_rv ad (mm_fv ci k tt q M)) hx hb hts c2 hown hK t1 q (mm_W_get hs) c1 k hkN (hts _ (f3 _ c1)) (fun _ z => z) ?_ hd ?_
      · rw [mm_fs_get, f1]
        simp only [Option.map_some, Nat.zero_add]
        rw [mm_fval_eq]
      · refine hnx _ _ _ h H locs la (t.st (mm_n1 ?_ t5))
        have hty : mm_ty lay q k = tt := by
          unfold mm_ty
          rw [hs]
          simp [List.getD, f1]
        have hq := t7 q k
        rw [hty] at hq
        unfold mm_fv
        split
        · exact hq.2 rfl
        · trivial
        · trivial
        · rename_i z1 z2 z3
          rcases c6 k tt f1 with rfl | ⟨-, hz⟩
          · exact absurd rfl z2
          · have : tt = 0 ∨ tt = 4 := by
              unfold mm_tyk at hz
              split at hz <;> first | exact Or.inl rfl | exact Or.inr rfl | exact absurd rfl z1 | exact absurd rfl z3 | exact hz.elim
            exact hq.1 this
    · exact h.elim
  | putfield n =>
    have hd : decode cc pc = .ok (.putfield n, 3) := hd
    simp only [mm_in] at h
    split at h
    · rename_i ci k tt hf
      obtain ⟨f1, ⟨C, T, N, ty0, c1, c2, c3, c4, c5, c6⟩, f3⟩ := hfl n ci k tt hf
      have hkN : k < N := by rw [← c5]; exact (List.getElem?_eq_some_iff.mp f1).1
      have hkL : ∀ q (f : Nat → Int), k < (mm_fs ad ci q f 0 (mm_fts ci)).length := fun q f => by rw [mm_fs_len, c5]; exact hkN
      have hty : ∀ q, lay[q]? = some (.inl ci) → mm_ty lay q k = tt := fun q hs => by
        unfold mm_ty
        rw [hs]
        simp [List.getD, f1]
      have hup : ∀ (q : Nat) (M : mm_M) (z : Int), mm_up M q k z q = fun i => if i = k then z else M q i := fun q M z => by
        funext i; simp [mm_up]
      split at h
      · obtain ⟨z, st1, rfl, g⟩ := mm_pi_e h
        obtain ⟨q, st2, rfl, g2⟩ := mm_pr_e g
        obtain ⟨hk, h⟩ := mm_chk_e g2
        have hs := mm_kd_e hk
        obtain ⟨hfin, hz0⟩ : (T k).2.2.2 = false ∧ mm_tyk 0 (ty0 k) := by
          rcases c6 k 0 f1 with q | q
          · cases q
          · exact q
        have hd0 := c3 k hkN
        rw [show ty0 k = FieldType.int from hz0] at hd0
        intro H locs la t
        obtain ⟨t1, t2, t3, t4, t5, t6, t7⟩ := id t
        obtain ⟨nz, t5⟩ := mm_n2 t5
        obtain ⟨-, t5⟩ := mm_n2 t5
        refine va_put (v := .int (Int32.ofInt z)) hx hb hts c2 ty0 c3 c4 hown hK t1 (hD M) t2 q (mm_W_get hs) c1 k hkN (hts _ (f3 _ c1)) (fun _ z => z) hfin hd0 rfl rfl (hkL _ _) hd (fun H1 locs1 hP1 _ hS1 => ?_)
        have hce : (Sum.inr (ci, (mm_fs ad ci q (M q) 0 (mm_fts ci)).set k (.int (Int32.ofInt z))) : va_E) = mm_cell cA ad q (.inl ci) (mm_up M q k z q) := by
          rw [hup]
          show _ = Sum.inr (ci, mm_fs ad ci q (fun i => if i = k then z else M q i) 0 (mm_fts ci))
          rw [← mm_fs_set f1]
          simp [mm_fval]
        rw [mm_W_set hs hce] at hP1
        exact hnx _ _ _ h H1 locs1 la ⟨hP1, hS1, t3, t4, t5, t6, mm_NM_up t7 (fun _ => nz) (fun g => by rw [hty q hs] at g; cases g)⟩
      · obtain ⟨z, st1, rfl, g⟩ := mm_pl_e h
        obtain ⟨q, st2, rfl, g2⟩ := mm_pr_e g
        obtain ⟨hk, h⟩ := mm_chk_e g2
        have hs := mm_kd_e hk
        obtain ⟨hfin, hz0⟩ : (T k).2.2.2 = false ∧ mm_tyk 1 (ty0 k) := by
          rcases c6 k 1 f1 with q | q
          · cases q
          · exact q
        have hd0 := c3 k hkN
        rw [show ty0 k = FieldType.long from hz0] at hd0
        intro H locs la t
        obtain ⟨t1, t2, t3, t4, t5, t6, t7⟩ := id t
        obtain ⟨nz, t5⟩ := mm_n2 t5
        obtain ⟨-, t5⟩ := mm_n2 t5
        refine va_put (v := .long (Int64.ofInt z)) hx hb hts c2 ty0 c3 c4 hown hK t1 (hD M) t2 q (mm_W_get hs) c1 k hkN (hts _ (f3 _ c1)) (fun _ z => z) hfin hd0 rfl rfl (hkL _ _) hd (fun H1 locs1 hP1 _ hS1 => ?_)
        have hce : (Sum.inr (ci, (mm_fs ad ci q (M q) 0 (mm_fts ci)).set k (.long (Int64.ofInt z))) : va_E) = mm_cell cA ad q (.inl ci) (mm_up M q k z q) := by
          rw [hup]
          show _ = Sum.inr (ci, mm_fs ad ci q (fun i => if i = k then z else M q i) 0 (mm_fts ci))
          rw [← mm_fs_set f1]
          simp [mm_fval]
        rw [mm_W_set hs hce] at hP1
        exact hnx _ _ _ h H1 locs1 la ⟨hP1, hS1, t3, t4, t5, t6, mm_NM_up t7 (fun g => by rw [hty q hs] at g; rcases g with g | g <;> cases g) (fun _ => nz)⟩
      · obtain ⟨z, st1, rfl, g⟩ := mm_pr_e h
        obtain ⟨q, st2, rfl, g2⟩ := mm_pr_e g
        obtain ⟨hk, h⟩ := mm_chk_e g2
        have hs := mm_kd_e hk
        obtain ⟨hfin, hz0⟩ : (T k).2.2.2 = false ∧ mm_tyk 3 (ty0 k) := by
          rcases c6 k 3 f1 with q | q
          · cases q
          · exact q
        have hd0 := c3 k hkN
        rw [show ty0 k = FieldType.array .int from hz0] at hd0
        intro H locs la t
        obtain ⟨t1, t2, t3, t4, t5, t6, t7⟩ := id t
        obtain ⟨nz, t5⟩ := mm_n2 t5
        obtain ⟨-, t5⟩ := mm_n2 t5
        refine va_put (v := .ref (ad z)) hx hb hts c2 ty0 c3 c4 hown hK t1 (hD M) t2 q (mm_W_get hs) c1 k hkN (hts _ (f3 _ c1)) (fun _ z => z) hfin hd0 rfl rfl (hkL _ _) hd (fun H1 locs1 hP1 _ hS1 => ?_)
        have hce : (Sum.inr (ci, (mm_fs ad ci q (M q) 0 (mm_fts ci)).set k (.ref (ad z))) : va_E) = mm_cell cA ad q (.inl ci) (mm_up M q k (z : Int) q) := by
          rw [hup]
          show _ = Sum.inr (ci, mm_fs ad ci q (fun i => if i = k then (z : Int) else M q i) 0 (mm_fts ci))
          rw [← mm_fs_set f1]
          simp [mm_fval]
        rw [mm_W_set hs hce] at hP1
        exact hnx _ _ _ h H1 locs1 la ⟨hP1, hS1, t3, t4, t5, t6, mm_NM_up t7 (fun g => by rw [hty q hs] at g; rcases g with g | g <;> cases g) (fun g => by rw [hty q hs] at g; cases g)⟩
      · obtain ⟨z, st1, rfl, g⟩ := mm_pi_e h
        obtain ⟨q, st2, rfl, g2⟩ := mm_pr_e g
        obtain ⟨hk, h⟩ := mm_chk_e g2
        rw [Bool.and_eq_true] at hk
        obtain ⟨hk, hz⟩ := hk
        have hz : z = 0 ∨ z = 1 := by simpa using hz
        have hs := mm_kd_e hk
        obtain ⟨hfin, hz0⟩ : (T k).2.2.2 = false ∧ mm_tyk 4 (ty0 k) := by
          rcases c6 k 4 f1 with q | q
          · cases q
          · exact q
        have hd0 := c3 k hkN
        rw [show ty0 k = FieldType.boolean from hz0] at hd0
        intro H locs la t
        obtain ⟨t1, t2, t3, t4, t5, t6, t7⟩ := id t
        obtain ⟨nz, t5⟩ := mm_n2 t5
        obtain ⟨-, t5⟩ := mm_n2 t5
        refine va_put (v := .int (Int32.ofInt z)) hx hb hts c2 ty0 c3 c4 hown hK t1 (hD M) t2 q (mm_W_get hs) c1 k hkN (hts _ (f3 _ c1)) (fun _ z => z) hfin hd0 (by rcases hz with rfl | rfl <;> rfl) (by rcases hz with rfl | rfl <;> rfl) (hkL _ _) hd (fun H1 locs1 hP1 _ hS1 => ?_)
        have hce : (Sum.inr (ci, (mm_fs ad ci q (M q) 0 (mm_fts ci)).set k (.int (Int32.ofInt z))) : va_E) = mm_cell cA ad q (.inl ci) (mm_up M q k z q) := by
          rw [hup]
          show _ = Sum.inr (ci, mm_fs ad ci q (fun i => if i = k then z else M q i) 0 (mm_fts ci))
          rw [← mm_fs_set f1]
          simp [mm_fval]
        rw [mm_W_set hs hce] at hP1
        exact hnx _ _ _ h H1 locs1 la ⟨hP1, hS1, t3, t4, t5, t6, mm_NM_up t7 (fun _ => nz) (fun g => by rw [hty q hs] at g; cases g)⟩
      · exact h.elim
    · exact h.elim
  | iaload =>
    have hd : decode cc pc = .ok (.iaload, 1) := hd
    obtain ⟨x, st1, rfl, h⟩ := mm_pi_e h
    obtain ⟨q, st2, rfl, h⟩ := mm_pr_e h
    obtain ⟨hk, hin, h⟩ := mm_chk_e h
    have hs := mm_ak_e (n := 0) (Nat.eq_of_beq_eq_true hk) (by decide)
    have hty : mm_ty lay q x.toNat = 0 := by unfold mm_ty; rw [hs]; rfl
    intro H locs la t
    obtain ⟨t1, t2, t3, t4, t5, t6, t7⟩ := id t
    obtain ⟨n1, t5⟩ := mm_n2 t5
    obtain ⟨-, t5⟩ := mm_n2 t5
    refine va_iald hx hb hK t1 q 0 (mm_W_get hs) rfl (mm_in_ok n1 hin) hd ?_
    rw [mm_cl n1]
    exact hnx _ _ _ h H locs la (t.st (mm_n1 (v := .inl (M q x.toNat)) ((t7 q x.toNat).1 (Or.inl hty)) t5))
  | laload =>
    have hd : decode cc pc = .ok (.laload, 1) := hd
    obtain ⟨x, st1, rfl, h⟩ := mm_pi_e h
    obtain ⟨q, st2, rfl, h⟩ := mm_pr_e h
    obtain ⟨hk, hin, h⟩ := mm_chk_e h
    have hs := mm_ak_e (n := 0) (Nat.eq_of_beq_eq_true hk) (by decide)
    have hty : mm_ty lay q x.toNat = 1 := by unfold mm_ty; rw [hs]; rfl
    intro H locs la t
    obtain ⟨t1, t2, t3, t4, t5, t6, t7⟩ := id t
    obtain ⟨n1, t5⟩ := mm_n2 t5
    obtain ⟨-, t5⟩ := mm_n2 t5
    refine va_lald hx hb hK t1 q 1 (mm_W_get hs) rfl (mm_in_ok n1 hin) hd ?_
    rw [mm_cl n1]
    exact hnx _ _ _ h H locs la (t.st (mm_n1 (v := .inr (.inl (M q x.toNat))) ((t7 q x.toNat).2 hty) t5))
  | baload =>
    have hd : decode cc pc = .ok (.baload, 1) := hd
    obtain ⟨x, st1, rfl, h⟩ := mm_pi_e h
    obtain ⟨q, st2, rfl, h⟩ := mm_pr_e h
    obtain ⟨hk, hin, h⟩ := mm_chk_e h
    have hs := mm_ak_e (n := 0) (Nat.eq_of_beq_eq_true hk) (by decide)
    have hty : mm_ty lay q x.toNat = 4 := by unfold mm_ty; rw [hs]; rfl
    intro H locs la t
    obtain ⟨t1, t2, t3, t4, t5, t6, t7⟩ := id t
    obtain ⟨n1, t5⟩ := mm_n2 t5
    obtain ⟨-, t5⟩ := mm_n2 t5
    refine va_zald hx hb hK t1 q 2 (mm_W_get hs) rfl (mm_in_ok n1 hin) hd ?_
    rw [mm_cl n1]
    exact hnx _ _ _ h H locs la (t.st (mm_n1 (v := .inl (M q x.toNat)) ((t7 q x.toNat).1 (Or.inr hty)) t5))
  | aaload =>
    have hd : decode cc pc = .ok (.aaload, 1) := hd
    obtain ⟨x, st1, rfl, h⟩ := mm_pi_e h
    obtain ⟨q, st2, rfl, h⟩ := mm_pr_e h
    obtain ⟨hk, hin, h⟩ := mm_chk_e h
    rw [Bool.and_eq_true] at hk
    have hk1 := Nat.le_of_ble_eq_true hk.1
    have hk2 := Nat.le_of_ble_eq_true hk.2
    have hs := mm_ak_e (lay := lay) (q := q) (n := 0) (t := (mm_ak lay q).1) rfl (by omega)
    intro H locs la t
    obtain ⟨t1, t2, t3, t4, t5, t6, t7⟩ := id t
    obtain ⟨n1, t5⟩ := mm_n2 t5
    obtain ⟨-, t5⟩ := mm_n2 t5
    generalize (mm_ak lay q).1 = tt at hs h hk1 hk2
    have h3 : tt = 3 ∨ tt = 4 ∨ tt = 5 := by omega
    rcases h3 with rfl | rfl | rfl
    · refine mm_aald hx hb hK t1 q 3 (mm_W_get hs) rfl rfl (mm_in_ok n1 hin) hd ?_
      rw [mm_cl n1]
      exact hnx _ _ _ h H locs la (t.st (mm_n1 (v := .inr (.inr (mm_el 3 q x.toNat))) trivial t5))
    · refine mm_aald hx hb hK t1 q 4 (mm_W_get hs) rfl rfl (mm_in_ok n1 hin) hd ?_
      rw [mm_cl n1]
      exact hnx _ _ _ h H locs la (t.st (mm_n1 (v := .inr (.inr (mm_el 4 q x.toNat))) trivial t5))
    · refine mm_aald hx hb hK t1 q 5 (mm_W_get hs) rfl rfl (mm_in_ok n1 hin) hd ?_
      rw [mm_cl n1]
      exact hnx _ _ _ h H locs la (t.st (mm_n1 (v := .inr (.inr (mm_el 5 q x.toNat))) trivial t5))
  | iastore =>
    have hd : decode cc pc = .ok (.iastore, 1) := hd
    obtain ⟨z, st1, rfl, h⟩ := mm_pi_e h
    obtain ⟨x, st2, rfl, h⟩ := mm_pi_e h
    obtain ⟨q, st3, rfl, h⟩ := mm_pr_e h
    obtain ⟨hk, hin, h⟩ := mm_chk_e h
    have hs := mm_ak_e (n := 0) (Nat.eq_of_beq_eq_true hk) (by decide)
    have hty : mm_ty lay q x.toNat = 0 := by unfold mm_ty; rw [hs]; rfl
    intro H locs la t
    obtain ⟨t1, t2, t3, t4, t5, t6, t7⟩ := id t
    obtain ⟨nz, t5⟩ := mm_n2 t5
    obtain ⟨n1, t5⟩ := mm_n2 t5
    obtain ⟨-, t5⟩ := mm_n2 t5
    refine va_iast hx hb hK t1 (hD M) t2 q 0 (mm_W_get hs) rfl (mm_in_ok n1 hin) hd (fun H1 locs1 hP1 _ hS1 => ?_)
    rw [mm_cl n1] at hP1
    rw [mm_W_set (k := x.toNat) (z := z) hs (by
      refine congrArg (fun g => (Sum.inl (cA 0, (mm_ak lay q).2, Sum.inl g) : va_E)) ?_
      funext k
      unfold upd mm_up
      simp only [if_pos]
      split <;> rfl)] at hP1
    exact hnx _ _ _ h H1 locs1 la ⟨hP1, hS1, t3, t4, t5, t6, mm_NM_up t7 (fun _ => nz) (fun g => by rw [hty] at g; cases g)⟩
  | lastore =>
    have hd : decode cc pc = .ok (.lastore, 1) := hd
    obtain ⟨z, st1, rfl, h⟩ := mm_pl_e h
    obtain ⟨x, st2, rfl, h⟩ := mm_pi_e h
    obtain ⟨q, st3, rfl, h⟩ := mm_pr_e h
    obtain ⟨hk, hin, h⟩ := mm_chk_e h
    have hs := mm_ak_e (n := 0) (Nat.eq_of_beq_eq_true hk) (by decide)
    have hty : mm_ty lay q x.toNat = 1 := by unfold mm_ty; rw [hs]; rfl
    intro H locs la t
    obtain ⟨t1, t2, t3, t4, t5, t6, t7⟩ := id t
    obtain ⟨nz, t5⟩ := mm_n2 t5
    obtain ⟨n1, t5⟩ := mm_n2 t5
    obtain ⟨-, t5⟩ := mm_n2 t5
    refine va_last hx hb hK t1 (hD M) t2 q 1 (mm_W_get hs) rfl (mm_in_ok n1 hin) hd (fun H1 locs1 hP1 _ hS1 => ?_)
    rw [mm_cl n1] at hP1
    rw [mm_W_set (k := x.toNat) (z := z) hs (by
      refine congrArg (fun g => (Sum.inl (cA 1, (mm_ak lay q).2, Sum.inr (Sum.inl g)) : va_E)) ?_
      funext k
      unfold vp_updL mm_up
      simp only [if_pos]
      split <;> rfl)] at hP1
    exact hnx _ _ _ h H1 locs1 la ⟨hP1, hS1, t3, t4, t5, t6, mm_NM_up t7 (fun g => by rw [hty] at g; rcases g with g | g <;> cases g) (fun _ => nz)⟩
  | bastore =>
    have hd : decode cc pc = .ok (.bastore, 1) := hd
    obtain ⟨z, st1, rfl, h⟩ := mm_pi_e h
    obtain ⟨x, st2, rfl, h⟩ := mm_pi_e h
    obtain ⟨q, st3, rfl, h⟩ := mm_pr_e h
    obtain ⟨hk, hin, h⟩ := mm_chk_e h
    rw [Bool.and_eq_true] at hk
    obtain ⟨hk, hz⟩ := hk
    have hz : z = 0 ∨ z = 1 := by simpa using hz
    have hzn : vp_nar .boolean (Int32.ofInt z) = Int32.ofInt z := by rcases hz with rfl | rfl <;> rfl
    have hs := mm_ak_e (n := 0) (Nat.eq_of_beq_eq_true hk) (by decide)
    have hty : mm_ty lay q x.toNat = 4 := by unfold mm_ty; rw [hs]; rfl
    intro H locs la t
    obtain ⟨t1, t2, t3, t4, t5, t6, t7⟩ := id t
    obtain ⟨nz, t5⟩ := mm_n2 t5
    obtain ⟨n1, t5⟩ := mm_n2 t5
    obtain ⟨-, t5⟩ := mm_n2 t5
    refine va_zast hx hb hK t1 (hD M) t2 q 2 (mm_W_get hs) rfl (mm_in_ok n1 hin) hd (fun H1 locs1 hP1 _ hS1 => ?_)
    rw [mm_cl n1, hzn] at hP1
    rw [mm_W_set (k := x.toNat) (z := z) hs (by
      refine congrArg (fun g => (Sum.inl (cA 2, (mm_ak lay q).2, Sum.inl g) : va_E)) ?_
      funext k
      unfold upd mm_up
      simp only [if_pos]
      split <;> rfl)] at hP1
    exact hnx _ _ _ h H1 locs1 la ⟨hP1, hS1, t3, t4, t5, t6, mm_NM_up t7 (fun _ => nz) (fun g => by rw [hty] at g; cases g)⟩
  | invokevirtual n =>
    have hd : decode cc pc = .ok (.invokevirtual n, 3) := hd
    simp only [mm_in] at h
    split at h
    · rename_i ci nn f hf
      exact mm_inv_ok C0 (hvt n ci nn f hf) hd hnx h
    · exact h.elim
  | invokestatic n =>
    have hd : decode cc pc = .ok (.invokestatic n, 3) := hd
    simp only [mm_in] at h
    split at h
    · rename_i ci nn f hf
      exact mm_inv_ok C0 (hsm n ci nn f hf) hd hnx h
    · exact h.elim
  | ireturn =>
    have hd : decode cc pc = .ok (.ireturn, 1) := hd
    simp only [mm_in] at h
    split at h
    · rename_i z
      unfold mm_ri at h
      intro H locs la t
      obtain ⟨t1, t2, t3, t4, t5, t6, t7⟩ := id t
      have hq : ∀ (hQ : Q (some (.inl z)) M) (tt : State), tt.heap = H → s.WarmedH tt.vm → mm_Qc lay cA ad D Q A args s (.returned (some (.int (Int32.ofInt z)))) tt := fun hQ tt e1 e2 =>
        ⟨⟨some (.inl z), M, rfl, hQ, fun v hv => by cases hv; exact (mm_n2 t5).1, t7, by rw [e1]; exact t1⟩, t2.F e1⟩
      split at h
      · exact W.iret hx hb hrt (hq h) t2.2.2 hd hlk
      · refine W.zret (ty := .boolean) hx hb hrt ?_ (hq h.2) t2.2.2 hd hlk
        rcases h.1 with rfl | rfl <;> rfl
      · exact h.elim
    · exact h.elim
  | lreturn =>
    have hd : decode cc pc = .ok (.lreturn, 1) := hd
    simp only [mm_in] at h
    split at h
    · rename_i z
      obtain ⟨hk, h⟩ := mm_chk_e h
      have hk := Nat.eq_of_beq_eq_true hk
      subst hk
      intro H locs la t
      obtain ⟨t1, t2, t3, t4, t5, t6, t7⟩ := id t
      exact W.lret hx hb hrt (fun tt e1 e2 => ⟨⟨some (.inr (.inl z)), M, rfl, h, fun v hv => by cases hv; exact (mm_n2 t5).1, t7, by rw [e1]; exact t1⟩, t2.F e1⟩) t2.2.2 hd hlk
    · exact h.elim
  | return_ =>
    have hd : decode cc pc = .ok (.return_, 1) := hd
    simp only [mm_in] at h
    split at h
    · obtain ⟨hk, h⟩ := mm_chk_e h
      have hk := Nat.eq_of_beq_eq_true hk
      subst hk
      intro H locs la t
      obtain ⟨t1, t2, t3, t4, t5, t6, t7⟩ := id t
      exact W.vret hx hb hrt (fun tt e1 e2 => ⟨⟨none, M, rfl, h, (fun v hv => by cases hv), t7, by rw [e1]; exact t1⟩, t2.F e1⟩) t2.2.2 hd hlk
    · exact h.elim
  | _ => exact h.elim
end MMI
