/-! THE SMALL MACHINE: numbers, memory, layout, worlds -/
abbrev mm_M : Type := Nat → Nat → Int
abbrev mm_V : Type := Int ⊕ (Int ⊕ Nat)
abbrev mm_L : Type := List (Option mm_V)
abbrev mm_F : Type := List mm_V → mm_M → (Option mm_V → mm_M → Prop) → Prop
def mm_up (M : mm_M) (q k : Nat) (z : Int) : mm_M := fun a i => if a = q then (if i = k then z else M a i) else M a i
def mm_w (z : Int) : Int := Int.bmod z 4294967296
def mm_wl (z : Int) : Int := Int.bmod z 18446744073709551616
def mm_R (z : Int) : Prop := -2147483648 ≤ z ∧ z < 2147483648
def mm_RL (z : Int) : Prop := -9223372036854775808 ≤ z ∧ z < 9223372036854775808
def mm_and (x y : Int) : Int := (Int32.ofInt x &&& Int32.ofInt y).toInt
def mm_or (x y : Int) : Int := (Int32.ofInt x ||| Int32.ofInt y).toInt
def mm_shl (x y : Int) : Int := (Int32.ofInt x <<< (Int32.ofInt y &&& 31)).toInt
def mm_shr (x y : Int) : Int := (Int32.ofInt x >>> (Int32.ofInt y &&& 31)).toInt
def mm_div (x y : Int) : Int := mm_w (x.tdiv y)
def mm_rem (x y : Int) : Int := x.tmod y
def mm_divl (x y : Int) : Int := mm_wl (x.tdiv y)
def mm_reml (x y : Int) : Int := x.tmod y
def mm_cmp (x y : Int) : Int := if y < x then 1 else if x = y then 0 else -1
def mm_chk (b : Bool) (P : Prop) : Prop := match b with
  | true => P
  | false => False
theorem mm_chk_e {b : Bool} {P : Prop} (h : mm_chk b P) : b = true ∧ P := by
  cases b
  · exact h.elim
  · exact ⟨rfl, h⟩
theorem mm_chk_i {b : Bool} {P : Prop} (hb : b = true) (h : P) : mm_chk b P := by
  subst hb; exact h
theorem mm_w_R (z : Int) : mm_R (mm_w z) := by
  unfold mm_R mm_w
  have h1 := Int.le_bmod (x := z) (m := 4294967296) (by decide)
  have h2 := Int.bmod_lt (x := z) (m := 4294967296) (by decide)
  omega
theorem mm_wl_R (z : Int) : mm_RL (mm_wl z) := by
  unfold mm_RL mm_wl
  have h1 := Int.le_bmod (x := z) (m := 18446744073709551616) (by decide)
  have h2 := Int.bmod_lt (x := z) (m := 18446744073709551616) (by decide)
  omega
theorem mm_w_id {z : Int} (h1 : -2147483648 ≤ z) (h2 : z < 2147483648) : mm_w z = z := by
  unfold mm_w
  exact Int.bmod_eq_of_le (by omega) (by omega)
theorem mm_wl_id {z : Int} (h1 : -9223372036854775808 ≤ z) (h2 : z < 9223372036854775808) : mm_wl z = z := by
  unfold mm_wl
  exact Int.bmod_eq_of_le (by omega) (by omega)
theorem mm_t {z : Int} (h : mm_R z) : (Int32.ofInt z).toInt = z := Int32.toInt_ofInt_of_le h.1 h.2
theorem mm_tl {z : Int} (h : mm_RL z) : (Int64.ofInt z).toInt = z := Int64.toInt_ofInt_of_le h.1 h.2
theorem mm_ofw (z : Int) : Int32.ofInt (mm_w z) = Int32.ofInt z := by
  rw [← Int32.toInt_inj, Int32.toInt_ofInt, Int32.toInt_ofInt]
  unfold mm_w
  exact Int.bmod_bmod
theorem mm_ofwl (z : Int) : Int64.ofInt (mm_wl z) = Int64.ofInt z := by
  rw [← Int64.toInt_inj, Int64.toInt_ofInt, Int64.toInt_ofInt]
  unfold mm_wl
  exact Int.bmod_bmod
theorem mm_toR (x : Int32) : mm_R x.toInt := ⟨Int32.le_toInt x, Int32.toInt_lt x⟩
theorem mm_toRL (x : Int64) : mm_RL x.toInt := ⟨Int64.le_toInt x, Int64.toInt_lt x⟩
theorem mm_tmod_R {x y : Int} (h : mm_R x) : mm_R (x.tmod y) := by
  unfold mm_R at *
  have h1 : (x.tmod y).natAbs ≤ x.natAbs := by rw [Int.natAbs_tmod]; exact Nat.mod_le _ _
  rcases Int.le_total 0 x with q | q
  · have := Int.tmod_nonneg y q
    omega
  · have h2 : (x.tmod y) ≤ 0 := by
      have := Int.tmod_nonneg y (show 0 ≤ -x by omega)
      rw [Int.neg_tmod] at this
      omega
    omega
theorem mm_tmod_RL {x y : Int} (h : mm_RL x) : mm_RL (x.tmod y) := by
  unfold mm_RL at *
  have h1 : (x.tmod y).natAbs ≤ x.natAbs := by rw [Int.natAbs_tmod]; exact Nat.mod_le _ _
  rcases Int.le_total 0 x with q | q
  · have := Int.tmod_nonneg y q
    omega
  · have h2 : (x.tmod y) ≤ 0 := by
      have := Int.tmod_nonneg y (show 0 ≤ -x by omega)
      rw [Int.neg_tmod] at this
      omega
    omega
theorem mm_rem_eq {x y : Int} (hx : mm_R x) (hy : mm_R y) : Int32.ofInt x - Int32.ofInt x / Int32.ofInt y * Int32.ofInt y = Int32.ofInt (x.tmod y) := by
  rw [← Int32.ofInt_tdiv (by exact hx.1) (by have := hx.2; show x ≤ 2147483647; omega) (by exact hy.1) (by have := hy.2; show y ≤ 2147483647; omega), ← Int32.ofInt_mul, ← Int32.ofInt_sub, Int.tmod_def, Int.mul_comm]
theorem mm_reml_eq {x y : Int} (hx : mm_RL x) (hy : mm_RL y) : Int64.ofInt x - Int64.ofInt x / Int64.ofInt y * Int64.ofInt y = Int64.ofInt (x.tmod y) := by
  rw [← Int64.ofInt_tdiv (by exact hx.1) (by have := hx.2; show x ≤ 9223372036854775807; omega) (by exact hy.1) (by have := hy.2; show y ≤ 9223372036854775807; omega), ← Int64.ofInt_mul, ← Int64.ofInt_sub, Int.tmod_def, Int.mul_comm]
theorem mm_div_eq {x y : Int} (hx : mm_R x) (hy : mm_R y) : Int32.ofInt x / Int32.ofInt y = Int32.ofInt (mm_div x y) := by
  unfold mm_div
  rw [mm_ofw, ← Int32.ofInt_tdiv (by exact hx.1) (by have := hx.2; show x ≤ 2147483647; omega) (by exact hy.1) (by have := hy.2; show y ≤ 2147483647; omega)]
theorem mm_divl_eq {x y : Int} (hx : mm_RL x) (hy : mm_RL y) : Int64.ofInt x / Int64.ofInt y = Int64.ofInt (mm_divl x y) := by
  unfold mm_divl
  rw [mm_ofwl, ← Int64.ofInt_tdiv (by exact hx.1) (by have := hx.2; show x ≤ 9223372036854775807; omega) (by exact hy.1) (by have := hy.2; show y ≤ 9223372036854775807; omega)]
theorem mm_lt {x y : Int} (hx : mm_R x) (hy : mm_R y) : Int32.ofInt x < Int32.ofInt y ↔ x < y := by
  rw [Int32.lt_iff_toInt_lt, mm_t hx, mm_t hy]
theorem mm_le {x y : Int} (hx : mm_R x) (hy : mm_R y) : Int32.ofInt x ≤ Int32.ofInt y ↔ x ≤ y := by
  rw [Int32.le_iff_toInt_le, mm_t hx, mm_t hy]
theorem mm_eq {x y : Int} (hx : mm_R x) (hy : mm_R y) : Int32.ofInt x = Int32.ofInt y ↔ x = y := by
  rw [← Int32.toInt_inj, mm_t hx, mm_t hy]
theorem mm_eql {x y : Int} (hx : mm_RL x) (hy : mm_RL y) : Int64.ofInt x = Int64.ofInt y ↔ x = y := by
  rw [← Int64.toInt_inj, mm_tl hx, mm_tl hy]
theorem mm_R0 : mm_R 0 := ⟨by decide, by decide⟩
theorem mm_RL0 : mm_RL 0 := ⟨by decide, by decide⟩
theorem mm_of0 : Int32.ofInt 0 = 0 := rfl
theorem mm_of0l : Int64.ofInt 0 = 0 := rfl
theorem mm_cmp_eq {x y : Int} (hx : mm_RL x) (hy : mm_RL y) : lg_cmp (Int64.ofInt x) (Int64.ofInt y) = Int32.ofInt (mm_cmp x y) := by
  unfold lg_cmp mm_cmp
  simp only [gt_iff_lt, Int64.lt_iff_toInt_lt, mm_tl hx, mm_tl hy, mm_eql hx hy]
  split
  · rfl
  · split <;> rfl
theorem mm_cmp_R (x y : Int) : mm_R (mm_cmp x y) := by
  unfold mm_cmp mm_R
  split
  · omega
  · split <;> omega
theorem mm_in_ok {x : Int} {n : Nat} (hx : mm_R x) (h : 0 ≤ x ∧ x < (n : Int)) : vp_in (Int32.ofInt x) n := vp_in_iff.mpr (by rw [mm_t hx]; exact h)
theorem mm_cl {x : Int} (hx : mm_R x) : (Int32.ofInt x).toNatClampNeg = x.toNat := Int32.toNatClampNeg_ofInt_of_le hx.1 hx.2
/-! values -/
def mm_rv (ad : Nat → Nat) : mm_V → Value
  | .inl z => .int (Int32.ofInt z)
  | .inr (.inl z) => .long (Int64.ofInt z)
  | .inr (.inr q) => .ref (ad q)
def mm_N : mm_V → Prop
  | .inl z => mm_R z
  | .inr (.inl z) => mm_RL z
  | .inr (.inr _) => True
def mm_cat : mm_V → Nat
  | .inr (.inl _) => 2
  | _ => 1
theorem mm_cat_eq (ad : Nat → Nat) (v : mm_V) : (mm_rv ad v).category = mm_cat v := by
  rcases v with z | z | q <;> rfl
def mm_cs : List mm_V → Nat
  | [] => 0
  | v :: l => mm_cat v + mm_cs l
theorem mm_cs_eq (ad : Nat → Nat) : ∀ l : List mm_V, ((l.map (mm_rv ad)).map fun v => v.category).sum = mm_cs l
  | [] => rfl
  | v :: l => by
    show ((mm_rv ad v).category :: ((l.map (mm_rv ad)).map fun v => v.category)).sum = _
    rw [List.sum_cons, mm_cat_eq, mm_cs_eq ad l]
    rfl
/-! locals -/
def mm_lv (ad : Nat → Nat) (ls : mm_L) : List (Nat × Value) := (List.range ls.length).filterMap (fun k => (ls[k]?.join).map (fun v => (k, mm_rv ad v)))
theorem mm_lv_mem {ad : Nat → Nat} {ls : mm_L} {k : Nat} {w : Value} : (k, w) ∈ mm_lv ad ls ↔ ∃ v, ls[k]? = some (some v) ∧ w = mm_rv ad v := by
  unfold mm_lv
  rw [List.mem_filterMap]
  constructor
  · rintro ⟨i, -, h⟩
    cases hj : ls[i]? with
    | none => rw [hj] at h; cases h
    | some o =>
      cases o with
      | none => rw [hj] at h; cases h
      | some v =>
        rw [hj] at h
        cases h
        exact ⟨v, hj, rfl⟩
  · rintro ⟨v, h, rfl⟩
    refine ⟨k, List.mem_range.mpr (List.getElem?_eq_some_iff.mp h).1, ?_⟩
    rw [h]
    rfl
theorem mm_lv_at {ad : Nat → Nat} {ls : mm_L} {la : Array Slot} {nL k : Nat} {v : mm_V} (h : lv_has la nL (mm_lv ad ls)) (hk : ls[k]? = some (some v)) : la[k]? = some (.val (mm_rv ad v)) := h.2.2 (k, mm_rv ad v) (mm_lv_mem.mpr ⟨v, hk, rfl⟩)
theorem mm_lv_ix {ad : Nat → Nat} {ls : mm_L} {k : Nat} {v : mm_V} (hk : ls[k]? = some (some v)) : ∃ i : Nat, (mm_lv ad ls)[i]? = some (k, mm_rv ad v) := List.getElem?_of_mem (mm_lv_mem.mpr ⟨v, hk, rfl⟩)
/-- the place ahead holds no long -/
def mm_nl (ls : mm_L) : Nat → Bool
  | 0 => true
  | k + 1 => match ls[k]? with
    | some (some (.inr (.inl _))) => false
    | _ => true
theorem mm_nl_e {ls : mm_L} {k : Nat} {u : mm_V} (h : mm_nl ls (k + 1) = true) (hu : ls[k]? = some (some u)) : mm_cat u = 1 := by
  change (match ls[k]? with | some (some (Sum.inr (Sum.inl _))) => false | _ => true) = true at h
  rw [hu] at h
  rcases u with z | z | q
  · rfl
  · cases h
  · rfl
theorem mm_lv_set1 {ad : Nat → Nat} {ls : mm_L} {la : Array Slot} {nL k : Nat} {v : mm_V} (hn : mm_nl ls k = true) (h : lv_has la nL ((k, mm_rv ad v) :: (mm_lv ad ls).filter (fun q => !(q.1 == k) && !(q.1 + 1 == k && q.2.category == 2)))) : lv_has la nL (mm_lv ad (ls.set k (some v))) := by
  refine ⟨h.1, h.2.1, fun q hq => h.2.2 q ?_⟩
  obtain ⟨i, w⟩ := q
  obtain ⟨u, h1, rfl⟩ := mm_lv_mem.mp hq
  rw [List.getElem?_set] at h1
  by_cases e : k = i
  · subst e
    rw [if_pos rfl] at h1
    split at h1
    · cases h1; exact List.mem_cons_self
    · cases h1
  · rw [if_neg e] at h1
    refine List.mem_cons_of_mem _ (List.mem_filter.mpr ⟨mm_lv_mem.mpr ⟨u, h1, rfl⟩, ?_⟩)
    have e1 : (i == k) = false := by simp; omega
    by_cases e2 : i + 1 = k
    · subst e2
      have := mm_nl_e hn h1
      simp [mm_cat_eq, this]
    · have : (i + 1 == k) = false := by simp [e2]
      simp [e1, this]
theorem mm_lv_set2 {ad : Nat → Nat} {ls : mm_L} {la : Array Slot} {nL k : Nat} {v : mm_V} (hn : mm_nl ls k = true) (h : lv_has la nL ((k, mm_rv ad v) :: (mm_lv ad ls).filter (fun q => !(q.1 == k) && (!(q.1 == k + 1) && !(q.1 + 1 == k && q.2.category == 2))))) : lv_has la nL (mm_lv ad ((ls.set (k + 1) none).set k (some v))) := by
  refine ⟨h.1, h.2.1, fun q hq => h.2.2 q ?_⟩
  obtain ⟨i, w⟩ := q
  obtain ⟨u, h1, rfl⟩ := mm_lv_mem.mp hq
  rw [List.getElem?_set] at h1
  by_cases e : k = i
  · subst e
    rw [if_pos rfl] at h1
    split at h1
    · cases h1; exact List.mem_cons_self
    · cases h1
  · rw [if_neg e, List.getElem?_set] at h1
    by_cases e3 : k + 1 = i
    · rw [if_pos e3] at h1
      split at h1 <;> cases h1
    rw [if_neg e3] at h1
    refine List.mem_cons_of_mem _ (List.mem_filter.mpr ⟨mm_lv_mem.mpr ⟨u, h1, rfl⟩, ?_⟩)
    have e1 : (i == k) = false := by simp; omega
    have e4 : (i == k + 1) = false := by simp; omega
    by_cases e2 : i + 1 = k
    · subst e2
      have := mm_nl_e hn h1
      simp [mm_cat_eq, this, e4]
    · have : (i + 1 == k) = false := by simp [e2]
      simp [e1, this, e4]
