/-! the fields by their kinds: 0 int, 1 long, 2 a reference that stays, 3 one that changes, 4 boolean -/
def mm_fts : Nat → List Nat
  | 0 => [4, 0, 0, 2, 2, 2, 2, 2, 0, 0, 0, 0, 0, 0, 0, 2, 0, 0, 0]
  | 1 => [2, 2, 2, 0, 0, 0, 4, 2, 2, 1, 1, 2, 2, 1, 1]
  | 2 => [0, 0, 2, 2, 2, 2, 2]
  | 3 => [2, 0, 2, 0]
  | 4 => [0, 0, 0, 0, 2, 2, 2, 2]
  | 5 => [0, 2, 3, 0, 3, 0]
  | 6 => [2, 2, 0, 0, 2, 2, 2]
  | 7 => [2, 2, 2, 2, 0, 0, 0]
  | 8 => [0, 0, 2, 2, 2, 2, 2, 0, 0, 0, 2, 2, 2, 2, 2, 2, 0, 0, 0, 2, 2, 0, 0, 0, 2, 0, 0, 0, 2, 2, 2, 2, 2, 2, 2, 0, 0, 0, 0, 0, 0, 0, 2, 2, 2, 1, 1, 2, 2, 1, 2, 1, 2, 1, 2, 1, 1]
  | _ => []
/-- where a reference that stays leads -/
def mm_rfc (ci k q : Nat) : Nat := match ci, k with
  | 0, 3 => q + 1
  | 0, 4 => q + 2
  | 0, 5 => q + 3
  | 0, 6 => q + 4
  | 0, 7 => q + 5
  | 0, 15 => q + 6
  | 1, 0 => q + 1
  | 1, 1 => q + 2
  | 1, 2 => q + 3
  | 1, 7 => q + 7
  | 1, 8 => q + 4
  | 1, 11 => q + 5
  | 1, 12 => q + 6
  | 2, 2 => q + 1
  | 2, 3 => q + 2
  | 2, 4 => q + 3
  | 2, 5 => q + 4
  | 2, 6 => q + 5
  | 3, 0 => q + 1
  | 3, 2 => q + 2
  | 4, 4 => q + 1
  | 4, 5 => q + 2
  | 4, 6 => q + 4
  | 4, 7 => q + 3
  | 5, 1 => q + 1
  | 6, 0 => q + 1
  | 6, 1 => q + 20
  | 6, 4 => q + 7
  | 6, 5 => q + 9
  | 6, 6 => q + 8
  | 7, 0 => q + 1
  | 7, 1 => q + 9
  | 7, 2 => q + 115
  | 7, 3 => q + 125
  | 8, 2 => q + 1
  | 8, 3 => q + 2
  | 8, 4 => q + 3
  | 8, 5 => q + 4
  | 8, 6 => q + 5
  | 8, 10 => q + 6
  | 8, 11 => q + 7
  | 8, 12 => q + 8
  | 8, 13 => q + 9
  | 8, 14 => q + 10
  | 8, 15 => q + 11
  | 8, 19 => q + 12
  | 8, 20 => q + 13
  | 8, 24 => q + 14
  | 8, 28 => q + 15
  | 8, 29 => q + 16
  | 8, 30 => q + 17
  | 8, 31 => q + 18
  | 8, 32 => q + 19
  | 8, 33 => q + 20
  | 8, 34 => q + 21
  | 8, 42 => q + 22
  | 8, 43 => q + 23
  | 8, 44 => q + 24
  | 8, 47 => q + 25
  | 8, 48 => q + 26
  | 8, 50 => q + 27
  | 8, 52 => q + 28
  | 8, 54 => q + 29
  | _, _ => q
def mm_el (t q k : Nat) : Nat := match t with
  | 3 => q + 1 + 17 * k
  | _ => q + 1 + k
abbrev mm_S : Type := Nat ⊕ (Nat × Nat)
def lay_c : List mm_S := [.inl 7, .inl 3, .inr (0, 92), .inl 2, .inr (0, 10), .inr (0, 10), .inr (0, 10), .inr (0, 10), .inr (0, 10), .inl 6, .inl 2, .inr (0, 10), .inr (0, 10), .inr (0, 10), .inr (0, 10), .inr (0, 10), .inr (0, 10), .inr (0, 5), .inr (4, 10), .inr (0, 7), .inr (0, 7), .inr (0, 7), .inr (0, 7), .inr (0, 7), .inr (0, 7), .inr (0, 7), .inr (0, 7), .inr (0, 7), .inr (0, 7), .inr (3, 5), .inl 4, .inr (0, 12), .inr (0, 12), .inr (0, 5), .inr (4, 12), .inr (0, 5), .inr (0, 5), .inr (0, 5), .inr (0, 5), .inr (0, 5), .inr (0, 5), .inr (0, 5), .inr (0, 5), .inr (0, 5), .inr (0, 5), .inr (0, 5), .inr (0, 5), .inl 4, .inr (0, 12), .inr (0, 12), .inr (0, 5), .inr (4, 12), .inr (0, 5), .inr (0, 5), .inr (0, 5), .inr (0, 5), .inr (0, 5), .inr (0, 5), .inr (0, 5), .inr (0, 5), .inr (0, 5), .inr (0, 5), .inr (0, 5), .inr (0, 5), .inl 4, .inr (0, 12), .inr (0, 12), .inr (0, 5), .inr (4, 12), .inr (0, 5), .inr (0, 5), .inr (0, 5), .inr (0, 5), .inr (0, 5), .inr (0, 5), .inr (0, 5), .inr (0, 5), .inr (0, 5), .inr (0, 5), .inr (0, 5), .inr (0, 5), .inl 4, .inr (0, 12), .inr (0, 12), .inr (0, 5), .inr (4, 12), .inr (0, 5), .inr (0, 5), .inr (0, 5), .inr (0, 5), .inr (0, 5), .inr (0, 5), .inr (0, 5), .inr (0, 5), .inr (0, 5), .inr (0, 5), .inr (0, 5), .inr (0, 5), .inl 4, .inr (0, 12), .inr (0, 12), .inr (0, 5), .inr (4, 12), .inr (0, 5), .inr (0, 5), .inr (0, 5), .inr (0, 5), .inr (0, 5), .inr (0, 5), .inr (0, 5), .inr (0, 5), .inr (0, 5), .inr (0, 5), .inr (0, 5), .inr (0, 5), .inl 0, .inr (0, 5), .inr (0, 5), .inr (0, 500), .inr (0, 500), .inr (0, 500), .inl 5, .inr (0, 500), .inr (0, 500), .inr (0, 500), .inl 1, .inr (0, 5), .inr (0, 5), .inr (0, 5), .inr (1, 4), .inr (1, 5), .inr (2, 5), .inr (5, 4), .inr (1, 5), .inr (1, 5), .inr (1, 5), .inr (1, 5)]
def lay_m : List mm_S := [.inl 8, .inr (0, 10), .inr (0, 10), .inr (0, 10), .inr (0, 10), .inr (0, 10), .inr (0, 5), .inr (0, 5), .inr (0, 5), .inr (0, 5), .inr (0, 60), .inr (0, 300), .inr (0, 5), .inr (0, 5), .inr (0, 92), .inr (0, 10), .inr (0, 10), .inr (0, 10), .inr (0, 10), .inr (0, 10), .inr (0, 6), .inr (0, 5), .inr (0, 4351), .inr (0, 500), .inr (0, 500), .inr (1, 5), .inr (1, 5), .inr (1, 5), .inr (1, 5), .inr (1, 5)]
def mm_fval (ad : Nat → Nat) (ci q : Nat) (f : Nat → Int) (k t : Nat) : Value := match t with
  | 1 => .long (Int64.ofInt (f k))
  | 2 => .ref (ad (mm_rfc ci k q))
  | 3 => .ref (ad (f k).toNat)
  | _ => .int (Int32.ofInt (f k))
def mm_fs (ad : Nat → Nat) (ci q : Nat) (f : Nat → Int) : Nat → List Nat → List Value
  | _, [] => []
  | k, t :: ts => mm_fval ad ci q f k t :: mm_fs ad ci q f (k + 1) ts
theorem mm_fs_get (ad : Nat → Nat) (ci q : Nat) (f : Nat → Int) : ∀ (ts : List Nat) (k j : Nat), (mm_fs ad ci q f k ts)[j]? = (ts[j]?).map (fun t => mm_fval ad ci q f (k + j) t)
  | [], _, _ => by simp [mm_fs]
  | t :: ts, k, 0 => by simp [mm_fs]
  | t :: ts, k, j + 1 => by
    simp only [mm_fs, List.getElem?_cons_succ]
    rw [mm_fs_get ad ci q f ts (k + 1) j, Nat.add_assoc, Nat.add_comm 1 j]
theorem mm_fs_len (ad : Nat → Nat) (ci q : Nat) (f : Nat → Int) : ∀ (ts : List Nat) (k : Nat), (mm_fs ad ci q f k ts).length = ts.length
  | [], _ => rfl
  | t :: ts, k => by simp [mm_fs, mm_fs_len ad ci q f ts (k + 1)]
theorem mm_fs_set {ad : Nat → Nat} {ci q : Nat} {f : Nat → Int} {ts : List Nat} {j t : Nat} {z : Int} (ht : ts[j]? = some t) : (mm_fs ad ci q f 0 ts).set j (mm_fval ad ci q (fun i => if i = j then z else f i) j t) = mm_fs ad ci q (fun i => if i = j then z else f i) 0 ts := by
  apply List.ext_getElem?
  intro i
  rw [List.getElem?_set, mm_fs_get, mm_fs_get, mm_fs_len]
  have hj := (List.getElem?_eq_some_iff.mp ht).1
  by_cases e : j = i
  · subst e
    rw [if_pos rfl, if_pos hj, ht]
    simp
  · rw [if_neg e]
    have e2 : ∀ t, mm_fval ad ci q (fun k => if k = j then z else f k) (0 + i) t = mm_fval ad ci q f (0 + i) t := by
      intro t
      have : ¬ (0 + i = j) := by omega
      unfold mm_fval
      simp only [this, if_false]
    simp only [e2]
def mm_cell (cA : Nat → ClassId) (ad : Nat → Nat) (q : Nat) (sh : mm_S) (f : Nat → Int) : va_E := match sh with
  | .inl ci => .inr (ci, mm_fs ad ci q f 0 (mm_fts ci))
  | .inr (t, n) => .inl (cA t, n, match t with
    | 0 => .inl (fun k => Int32.ofInt (f k))
    | 1 => .inr (.inl (fun k => Int64.ofInt (f k)))
    | 2 => .inl (fun k => Int32.ofInt (f k))
    | t => .inr (.inr (.inr (.inr (fun k => some (ad (mm_el t q k)))))))
def mm_W (lay : List mm_S) (cA : Nat → ClassId) (ad : Nat → Nat) (M : mm_M) : va_W := lay.mapIdx (fun q sh => (ad q, mm_cell cA ad q sh (M q)))
theorem mm_W_get {lay : List mm_S} {cA : Nat → ClassId} {ad : Nat → Nat} {M : mm_M} {q : Nat} {sh : mm_S} (h : lay[q]? = some sh) : (mm_W lay cA ad M)[q]? = some (ad q, mm_cell cA ad q sh (M q)) := by
  simp [mm_W, List.getElem?_mapIdx, h]
theorem mm_W_ex {lay : List mm_S} {cA : Nat → ClassId} {ad : Nat → Nat} {M : mm_M} {q : Nat} {x : Nat × va_E} (h : (mm_W lay cA ad M)[q]? = some x) : ∃ sh, lay[q]? = some sh ∧ x = (ad q, mm_cell cA ad q sh (M q)) := by
  simp only [mm_W, List.getElem?_mapIdx] at h
  cases hs : lay[q]? with
  | none => rw [hs] at h; cases h
  | some sh => rw [hs] at h; cases h; exact ⟨sh, rfl, rfl⟩
theorem mm_W_set {lay : List mm_S} {cA : Nat → ClassId} {ad : Nat → Nat} {M : mm_M} {q k : Nat} {z : Int} {sh : mm_S} {x : va_E} (h : lay[q]? = some sh) (e : x = mm_cell cA ad q sh (mm_up M q k z q)) : (mm_W lay cA ad M).set q (ad q, x) = mm_W lay cA ad (mm_up M q k z) := by
  subst e
  apply List.ext_getElem?
  intro i
  rw [List.getElem?_set]
  by_cases e : q = i
  · subst e
    rw [if_pos rfl, mm_W_get h, if_pos]
    simpa [mm_W] using (List.getElem?_eq_some_iff.mp h).1
  · rw [if_neg e]
    simp only [mm_W, List.getElem?_mapIdx]
    have : mm_up M q k z i = M i := by
      funext j
      simp [mm_up, show ¬ i = q by omega]
    rw [this]
theorem mm_D_of {A : Nat → Prop} {lay : List mm_S} {cA : Nat → ClassId} {ad : Nat → Nat} {M : mm_M} (M' : mm_M) (h : va_D A (mm_W lay cA ad M)) : va_D A (mm_W lay cA ad M') := by
  constructor
  · intro i j x y hx hy hxy
    obtain ⟨s1, h1, rfl⟩ := mm_W_ex hx
    obtain ⟨s2, h2, rfl⟩ := mm_W_ex hy
    exact h.1 i j _ _ (mm_W_get h1) (mm_W_get h2) hxy
  · intro k x hx
    obtain ⟨s1, h1, rfl⟩ := mm_W_ex hx
    have h3 := h.2 k _ (mm_W_get (cA := cA) (ad := ad) (M := M) h1)
    exact h3
/-- kinds -/
def mm_kd (lay : List mm_S) (q ci : Nat) : Bool := match lay[q]? with
  | some (.inl c) => c == ci
  | _ => false
theorem mm_kd_e {lay : List mm_S} {q ci : Nat} (h : mm_kd lay q ci = true) : lay[q]? = some (.inl ci) := by
  unfold mm_kd at h
  split at h
  · rename_i c e
    rw [e, eq_of_beq h]
  · cases h
def mm_ak (lay : List mm_S) (q : Nat) : Nat × Nat := match lay[q]? with
  | some (.inr a) => a
  | _ => (99, 0)
theorem mm_ak_e {lay : List mm_S} {q t n : Nat} (h : (mm_ak lay q).1 = t) (ht : t ≠ 99) : lay[q]? = some (.inr (t, (mm_ak lay q).2)) := by
  unfold mm_ak at *
  split at h
  · rename_i c e
    rw [e, ← h]
  · exact absurd h.symm ht
/-- numbers are in their ranges -/
def mm_ty (lay : List mm_S) (q k : Nat) : Nat := match lay[q]? with
  | some (.inl c) => (mm_fts c).getD k 9
  | some (.inr (t, _)) => match t with
    | 0 => 0
    | 1 => 1
    | 2 => 4
    | _ => 2
  | none => 9
def mm_NM (lay : List mm_S) (M : mm_M) : Prop := ∀ q k, (mm_ty lay q k = 0 ∨ mm_ty lay q k = 4 → mm_R (M q k)) ∧ (mm_ty lay q k = 1 → mm_RL (M q k))
theorem mm_NM_up {lay : List mm_S} {M : mm_M} (h : mm_NM lay M) {q k : Nat} {z : Int} (h1 : mm_ty lay q k = 0 ∨ mm_ty lay q k = 4 → mm_R z) (h2 : mm_ty lay q k = 1 → mm_RL z) : mm_NM lay (mm_up M q k z) := by
  intro a i
  unfold mm_up
  by_cases e : a = q
  · subst e
    by_cases e2 : i = k
    · subst e2
      simp only [if_pos]
      exact ⟨h1, h2⟩
    · simp only [if_pos, if_neg e2]
      exact h a i
  · simp only [if_neg e]
    exact h a i
