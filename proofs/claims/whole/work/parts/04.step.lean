/-! one instruction of the small machine, and that it is the machine's -/
abbrev mm_K : Type := mm_L → List mm_V → mm_M → Prop
def mm_pi (st : List mm_V) (k : Int → List mm_V → Prop) : Prop := match st with
  | .inl z :: st => k z st
  | _ => False
def mm_pl (st : List mm_V) (k : Int → List mm_V → Prop) : Prop := match st with
  | .inr (.inl z) :: st => k z st
  | _ => False
def mm_pr (st : List mm_V) (k : Nat → List mm_V → Prop) : Prop := match st with
  | .inr (.inr z) :: st => k z st
  | _ => False
theorem mm_pi_e {st : List mm_V} {k : Int → List mm_V → Prop} (h : mm_pi st k) : ∃ z st', st = .inl z :: st' ∧ k z st' := by
  unfold mm_pi at h
  split at h
  · exact ⟨_, _, rfl, h⟩
  · exact h.elim
theorem mm_pl_e {st : List mm_V} {k : Int → List mm_V → Prop} (h : mm_pl st k) : ∃ z st', st = .inr (.inl z) :: st' ∧ k z st' := by
  unfold mm_pl at h
  split at h
  · exact ⟨_, _, rfl, h⟩
  · exact h.elim
theorem mm_pr_e {st : List mm_V} {k : Nat → List mm_V → Prop} (h : mm_pr st k) : ∃ z st', st = .inr (.inr z) :: st' ∧ k z st' := by
  unfold mm_pr at h
  split at h
  · exact ⟨_, _, rfl, h⟩
  · exact h.elim
def mm_li (ls : mm_L) (k : Nat) (f : Int → Prop) : Prop := match ls[k]? with
  | some (some (.inl z)) => f z
  | _ => False
def mm_ll (ls : mm_L) (k : Nat) (f : Int → Prop) : Prop := match ls[k]? with
  | some (some (.inr (.inl z))) => f z
  | _ => False
def mm_lr (ls : mm_L) (k : Nat) (f : Nat → Prop) : Prop := match ls[k]? with
  | some (some (.inr (.inr z))) => f z
  | _ => False
theorem mm_li_e {ls : mm_L} {k : Nat} {f : Int → Prop} (h : mm_li ls k f) : ∃ z, ls[k]? = some (some (.inl z)) ∧ f z := by
  unfold mm_li at h
  split at h
  · exact ⟨_, by assumption, h⟩
  · exact h.elim
theorem mm_ll_e {ls : mm_L} {k : Nat} {f : Int → Prop} (h : mm_ll ls k f) : ∃ z, ls[k]? = some (some (.inr (.inl z))) ∧ f z := by
  unfold mm_ll at h
  split at h
  · exact ⟨_, by assumption, h⟩
  · exact h.elim
theorem mm_lr_e {ls : mm_L} {k : Nat} {f : Nat → Prop} (h : mm_lr ls k f) : ∃ z, ls[k]? = some (some (.inr (.inr z))) ∧ f z := by
  unfold mm_lr at h
  split at h
  · exact ⟨_, by assumption, h⟩
  · exact h.elim
def mm_s1 (ls : mm_L) (k : Nat) (v : mm_V) (f : mm_L → Prop) : Prop := mm_chk (Nat.blt k ls.length && mm_nl ls k) (f (ls.set k (some v)))
def mm_s2 (ls : mm_L) (k : Nat) (v : mm_V) (f : mm_L → Prop) : Prop := mm_chk (Nat.blt (k + 1) ls.length && mm_nl ls k) (f ((ls.set (k + 1) none).set k (some v)))
def mm_bt (c : Jvm.ClassFile.Cond) (x y : Int) (A B : Prop) : Prop := match c with
  | .eq => (x = y → A) ∧ (¬ x = y → B)
  | .ne => (¬ x = y → A) ∧ (x = y → B)
  | .lt => (x < y → A) ∧ (y ≤ x → B)
  | .ge => (y ≤ x → A) ∧ (x < y → B)
  | .gt => (y < x → A) ∧ (x ≤ y → B)
  | .le => (x ≤ y → A) ∧ (y < x → B)
def mm_fv (ci k t q : Nat) (M : mm_M) : mm_V := match t with
  | 1 => .inr (.inl (M q k))
  | 2 => .inr (.inr (mm_rfc ci k q))
  | 3 => .inr (.inr (M q k).toNat)
  | _ => .inl (M q k)
def mm_swc (x : Int) (f : Nat → Prop) : Int → List Nat → Prop
  | _, [] => True
  | lo, t :: ts => (x = lo → f t) ∧ mm_swc x f (lo + 1) ts
def mm_lkc (x : Int) (f : Nat → Prop) : List (Int × Int) → List Nat → Prop
  | p :: ps, t :: ts => (x = p.1 → f t) ∧ mm_lkc x f ps ts
  | _, _ => True
def mm_lkn (x : Int) : List (Int × Int) → Prop → Prop
  | [], P => P
  | p :: ps, P => ¬ x = p.1 → mm_lkn x ps P
abbrev mm_Fl : Type := Nat → Option (Nat × Nat × Nat)
abbrev mm_Cl : Type := Nat → Option (Nat × Nat × mm_F)
abbrev mm_Ct : Type := Nat → Option Int
def mm_ri (rt : Nat) (z : Int) (P : Prop) : Prop := match rt with
  | 1 => P
  | 2 => (z = 0 ∨ z = 1) ∧ P
  | _ => False
def mm_rcv (lay : List mm_S) (ci : Nat) (as : List mm_V) : Bool := match as with
  | .inr (.inr q) :: _ => mm_kd lay q ci
  | _ => false
def mm_inv (n : Nat) (b : List mm_V → Bool) (f : mm_F) (ls : mm_L) (st : List mm_V) (M : mm_M) (nx : mm_K) : Prop :=
  mm_chk (Nat.ble n st.length && (Nat.ble (mm_cs (st.drop n)) 8 && b (st.take n).reverse)) (f (st.take n).reverse M (fun r M' => nx ls (r.toList ++ st.drop n) M'))
def mm_in (lay : List mm_S) (fl : mm_Fl) (vt st' : mm_Cl) (ct : mm_Ct) (rt : Nat) (Q : Option mm_V → mm_M → Prop) (i : Instr) (ts : List Nat) (ls : mm_L) (st : List mm_V) (M : mm_M) (nx : mm_K) (jp : Nat → mm_K) : Prop := match i with
  | .aload_n n => mm_lr ls n.val fun q => nx ls (.inr (.inr q) :: st) M
  | .aload n => mm_lr ls n fun q => nx ls (.inr (.inr q) :: st) M
  | .iload_n n => mm_li ls n.val fun z => nx ls (.inl z :: st) M
  | .iload n => mm_li ls n fun z => nx ls (.inl z :: st) M
  | .lload_n n => mm_ll ls n.val fun z => nx ls (.inr (.inl z) :: st) M
  | .lload n => mm_ll ls n fun z => nx ls (.inr (.inl z) :: st) M
  | .astore_n n => mm_pr st fun q st => mm_s1 ls n.val (.inr (.inr q)) fun ls => nx ls st M
  | .astore n => mm_pr st fun q st => mm_s1 ls n (.inr (.inr q)) fun ls => nx ls st M
  | .istore_n n => mm_pi st fun z st => mm_s1 ls n.val (.inl z) fun ls => nx ls st M
  | .istore n => mm_pi st fun z st => mm_s1 ls n (.inl z) fun ls => nx ls st M
  | .lstore_n n => mm_pl st fun z st => mm_s2 ls n.val (.inr (.inl z)) fun ls => nx ls st M
  | .lstore n => mm_pl st fun z st => mm_s2 ls n (.inr (.inl z)) fun ls => nx ls st M
  | .iconst n => mm_chk (decide (-128 ≤ n ∧ n < 128)) (nx ls (.inl n :: st) M)
  | .bipush n => mm_chk (decide (-128 ≤ n ∧ n < 128)) (nx ls (.inl n :: st) M)
  | .sipush n => mm_chk (decide (-32768 ≤ n ∧ n < 32768)) (nx ls (.inl n :: st) M)
  | .lconst n => nx ls (.inr (.inl (n.val : Int)) :: st) M
  | .ldc n => match ct n with
    | some z => nx ls (.inl z :: st) M
    | none => False
  | .ldc2_w n => match ct n with
    | some z => nx ls (.inr (.inl z) :: st) M
    | none => False
  | .iadd => mm_pi st fun y st => mm_pi st fun x st => nx ls (.inl (mm_w (x + y)) :: st) M
  | .isub => mm_pi st fun y st => mm_pi st fun x st => nx ls (.inl (mm_w (x - y)) :: st) M
  | .imul => mm_pi st fun y st => mm_pi st fun x st => nx ls (.inl (mm_w (x * y)) :: st) M
  | .idiv => mm_pi st fun y st => mm_pi st fun x st => ¬ y = 0 ∧ nx ls (.inl (mm_div x y) :: st) M
  | .irem => mm_pi st fun y st => mm_pi st fun x st => ¬ y = 0 ∧ nx ls (.inl (mm_rem x y) :: st) M
  | .iand => mm_pi st fun y st => mm_pi st fun x st => nx ls (.inl (mm_and x y) :: st) M
  | .ior => mm_pi st fun y st => mm_pi st fun x st => nx ls (.inl (mm_or x y) :: st) M
  | .ishl => mm_pi st fun y st => mm_pi st fun x st => nx ls (.inl (mm_shl x y) :: st) M
  | .ishr => mm_pi st fun y st => mm_pi st fun x st => nx ls (.inl (mm_shr x y) :: st) M
  | .ladd => mm_pl st fun y st => mm_pl st fun x st => nx ls (.inr (.inl (mm_wl (x + y))) :: st) M
  | .lsub => mm_pl st fun y st => mm_pl st fun x st => nx ls (.inr (.inl (mm_wl (x - y))) :: st) M
  | .lmul => mm_pl st fun y st => mm_pl st fun x st => nx ls (.inr (.inl (mm_wl (x * y))) :: st) M
  | .ldiv => mm_pl st fun y st => mm_pl st fun x st => ¬ y = 0 ∧ nx ls (.inr (.inl (mm_divl x y)) :: st) M
  | .lrem => mm_pl st fun y st => mm_pl st fun x st => ¬ y = 0 ∧ nx ls (.inr (.inl (mm_reml x y)) :: st) M
  | .lcmp => mm_pl st fun y st => mm_pl st fun x st => nx ls (.inl (mm_cmp x y) :: st) M
  | .i2l => mm_pi st fun x st => nx ls (.inr (.inl x) :: st) M
  | .l2i => mm_pl st fun x st => nx ls (.inl (mm_w x) :: st) M
  | .iinc n z => mm_li ls n fun x => mm_s1 ls n (.inl (mm_w (x + z))) fun ls => nx ls st M
  | .dup => match st with
    | v :: st => mm_chk (Nat.beq (mm_cat v) 1) (nx ls (v :: v :: st) M)
    | _ => False
  | .dup2 => match st with
    | v :: w :: st => mm_chk (Nat.beq (mm_cat v) 1 && Nat.beq (mm_cat w) 1) (nx ls (v :: w :: v :: w :: st) M)
    | _ => False
  | .goto _ => match ts with
    | [t] => jp t ls st M
    | _ => False
  | .ifCond c _ => match ts with
    | [t] => mm_pi st fun x st => mm_bt c x 0 (jp t ls st M) (nx ls st M)
    | _ => False
  | .if_icmp c _ => match ts with
    | [t] => mm_pi st fun y st => mm_pi st fun x st => mm_bt c x y (jp t ls st M) (nx ls st M)
    | _ => False
  | .tableswitch _ lo hi _ => match ts with
    | t :: ts => mm_pi st fun x st => (x < lo ∨ hi < x → jp t ls st M) ∧ mm_swc x (fun t => jp t ls st M) lo ts
    | _ => False
  | .lookupswitch _ ps => match ts with
    | t :: ts => mm_pi st fun x st => mm_lkn x ps.toList (jp t ls st M) ∧ mm_lkc x (fun t => jp t ls st M) ps.toList ts
    | _ => False
  | .getfield n => match fl n with
    | some (ci, k, t) => mm_pr st fun q st => mm_chk (mm_kd lay q ci) (nx ls (mm_fv ci k t q M :: st) M)
    | none => False
  | .putfield n => match fl n with
    | some (ci, k, t) => match t with
      | 0 => mm_pi st fun z st => mm_pr st fun q st => mm_chk (mm_kd lay q ci) (nx ls st (mm_up M q k z))
      | 1 => mm_pl st fun z st => mm_pr st fun q st => mm_chk (mm_kd lay q ci) (nx ls st (mm_up M q k z))
      | 3 => mm_pr st fun z st => mm_pr st fun q st => mm_chk (mm_kd lay q ci) (nx ls st (mm_up M q k z))
      | 4 => mm_pi st fun z st => mm_pr st fun q st => mm_chk (mm_kd lay q ci && (z == 0 || z == 1)) (nx ls st (mm_up M q k z))
      | _ => False
    | none => False
  | .iaload => mm_pi st fun x st => mm_pr st fun q st => mm_chk (Nat.beq (mm_ak lay q).1 0) ((0 ≤ x ∧ x < ((mm_ak lay q).2 : Int)) ∧ nx ls (.inl (M q x.toNat) :: st) M)
  | .laload => mm_pi st fun x st => mm_pr st fun q st => mm_chk (Nat.beq (mm_ak lay q).1 1) ((0 ≤ x ∧ x < ((mm_ak lay q).2 : Int)) ∧ nx ls (.inr (.inl (M q x.toNat)) :: st) M)
  | .baload => mm_pi st fun x st => mm_pr st fun q st => mm_chk (Nat.beq (mm_ak lay q).1 2) ((0 ≤ x ∧ x < ((mm_ak lay q).2 : Int)) ∧ nx ls (.inl (M q x.toNat) :: st) M)
  | .aaload => mm_pi st fun x st => mm_pr st fun q st => mm_chk (Nat.ble 3 (mm_ak lay q).1 && Nat.ble (mm_ak lay q).1 5) ((0 ≤ x ∧ x < ((mm_ak lay q).2 : Int)) ∧ nx ls (.inr (.inr (mm_el (mm_ak lay q).1 q x.toNat)) :: st) M)
  | .iastore => mm_pi st fun z st => mm_pi st fun x st => mm_pr st fun q st => mm_chk (Nat.beq (mm_ak lay q).1 0) ((0 ≤ x ∧ x < ((mm_ak lay q).2 : Int)) ∧ nx ls st (mm_up M q x.toNat z))
  | .lastore => mm_pl st fun z st => mm_pi st fun x st => mm_pr st fun q st => mm_chk (Nat.beq (mm_ak lay q).1 1) ((0 ≤ x ∧ x < ((mm_ak lay q).2 : Int)) ∧ nx ls st (mm_up M q x.toNat z))
  | .bastore => mm_pi st fun z st => mm_pi st fun x st => mm_pr st fun q st => mm_chk (Nat.beq (mm_ak lay q).1 2 && (z == 0 || z == 1)) ((0 ≤ x ∧ x < ((mm_ak lay q).2 : Int)) ∧ nx ls st (mm_up M q x.toNat z))
  | .invokevirtual n => match vt n with
    | some (ci, n, f) => mm_inv n (mm_rcv lay ci) f ls st M nx
    | none => False
  | .invokestatic n => match st' n with
    | some (_, n, f) => mm_inv n (fun _ => true) f ls st M nx
    | none => False
  | .ireturn => match st with
    | [.inl z] => mm_ri rt z (Q (some (.inl z)) M)
    | _ => False
  | .lreturn => match st with
    | [.inr (.inl z)] => mm_chk (Nat.beq rt 3) (Q (some (.inr (.inl z))) M)
    | _ => False
  | .return_ => match st with
    | [] => mm_chk (Nat.beq rt 0) (Q none M)
    | _ => False
  | _ => False
