/-! leaders: the dearest lanes first -/
def mn (a b : Int) : Int := if a < b then a else b
def cst (N : mm_M) (P : Int) (x : Nat → Int) (k : Nat) : Int := N 12 k * P + N 13 k * x k
def cm (N : mm_M) (P : Int) (x : Nat → Int) (j k : Nat) : Prop := cst N P x k < cst N P x j ∨ (cst N P x j = cst N P x k ∧ j < k)
noncomputable def ahd (N : mm_M) (P : Int) (x : Nat → Int) (k : Nat) : Int := sm (Ln N) (fun j => @ite _ (cm N P x j k) (Classical.propDecidable _) (x j) 0)
noncomputable def ldf (N : mm_M) (P : Int) (x : Nat → Int) (L : Int) (k : Nat) : Int := mn (mx (L - 10 * ahd N P x k)) (10 * x k)
theorem cm_irr {N : mm_M} {P : Int} {x : Nat → Int} {j : Nat} : ¬ cm N P x j j := by unfold cm; omega
theorem cm_as {N : mm_M} {P : Int} {x : Nat → Int} {j k : Nat} (h : cm N P x j k) : ¬ cm N P x k j := by unfold cm at *; omega
theorem cm_tot {N : mm_M} {P : Int} {x : Nat → Int} {j k : Nat} (h : j ≠ k) : cm N P x j k ∨ cm N P x k j := by unfold cm; omega
theorem cm_tr {N : mm_M} {P : Int} {x : Nat → Int} {i j k : Nat} (h : cm N P x i j) (h2 : cm N P x j k) : cm N P x i k := by unfold cm at *; omega
/-- those done are the dearest -/
def cl (N : mm_M) (P : Int) (x : Nat → Int) (D : Nat → Bool) : Prop := ∀ j k, j < Ln N → k < Ln N → D k = true → cm N P x j k → D j = true
def top (N : mm_M) (P : Int) (x : Nat → Int) (D : Nat → Bool) (m : Nat) : Prop := m < Ln N ∧ ¬ D m = true ∧ ∀ j, j < Ln N → ¬ D j = true → j ≠ m → cm N P x m j
theorem top_iff {N : mm_M} {P : Int} {x : Nat → Int} {D : Nat → Bool} {m : Nat} (hc : cl N P x D) (ht : top N P x D m) {j : Nat} (hj : j < Ln N) : cm N P x j m ↔ D j = true := by
  constructor
  · intro h
    by_cases d : D j = true
    · exact d
    · have e : j ≠ m := fun e => by subst e; exact cm_irr h
      exact absurd (ht.2.2 j hj d e) (cm_as h)
  · intro h
    have e : j ≠ m := fun e => by subst e; exact ht.2.1 h
    rcases cm_tot (N := N) (P := P) (x := x) e with c | c
    · exact c
    · exact absurd (hc m j ht.1 hj h c) ht.2.1
def add1 (D : Nat → Bool) (m : Nat) : Nat → Bool := fun k => D k || decide (k = m)
theorem add1_iff {D : Nat → Bool} {m k : Nat} : add1 D m k = true ↔ D k = true ∨ k = m := by unfold add1; simp
theorem cl_add {N : mm_M} {P : Int} {x : Nat → Int} {D : Nat → Bool} {m : Nat} (hc : cl N P x D) (ht : top N P x D m) : cl N P x (add1 D m) := by
  intro j k hj hk hd h
  rw [add1_iff] at hd ⊢
  rcases hd with d | d
  · exact Or.inl (hc j k hj hk d h)
  · subst d; exact Or.inl ((top_iff hc ht hj).mp h)
def sD' (N : mm_M) (x : Nat → Int) (D : Nat → Bool) : Int := sm (Ln N) (fun j => if D j = true then x j else 0)
theorem ahd_top {N : mm_M} {P : Int} {x : Nat → Int} {D : Nat → Bool} {m : Nat} (hc : cl N P x D) (ht : top N P x D m) : ahd N P x m = sD' N x D := sm_congr (fun j hj => by
  have := top_iff hc ht hj
  by_cases d : D j = true
  · rw [if_pos (this.mpr d), if_pos d]
  · rw [if_neg (fun q => d (this.mp q)), if_neg d])
theorem sD_add {N : mm_M} {x : Nat → Int} {D : Nat → Bool} {m : Nat} (hm : m < Ln N) (hd : ¬ D m = true) : sD' N x (add1 D m) = sD' N x D + x m := by
  have := sm_one (n := Ln N) (j := m) (f := fun j => if add1 D m j = true then x j else 0) (g := fun j => if D j = true then x j else 0) hm (fun k _ hk => by
    by_cases d : D k = true
    · rw [if_pos d, if_pos (add1_iff.mpr (Or.inl d))]
    · rw [if_neg d, if_neg (fun q => by rcases add1_iff.mp q with z | z; exact d z; exact hk z)])
  rw [if_pos (add1_iff.mpr (Or.inr rfl)), if_neg hd] at this
  unfold sD'
  omega
theorem mn_sub (a b : Int) (hb : 0 ≤ b) : mx a - mn (mx a) b = mx (a - b) := by
  unfold mn mx
  split
  · split
    · split <;> omega
    · split <;> omega
  · split
    · split <;> omega
    · split <;> omega
/-- of so many done, one more is there -/
theorem top_ex {N : mm_M} {P : Int} {x : Nat → Int} {D : Nat → Bool} (h : nO N D < Ln N) : ∃ m, top N P x D m := by
  have key : ∀ n, n ≤ Ln N → (∀ j, j < n → D j = true) ∨ ∃ m, m < n ∧ ¬ D m = true ∧ ∀ j, j < n → ¬ D j = true → j ≠ m → cm N P x m j := by
    intro n
    induction n with
    | zero => intro _; exact Or.inl (fun j hj => by omega)
    | succ n ih =>
      intro hn
      by_cases d : D n = true
      · rcases ih (by omega) with a | ⟨m, m1, m2, m3⟩
        · exact Or.inl (fun j hj => by
            by_cases e : j = n
            · subst e; exact d
            · exact a j (by omega))
        · exact Or.inr ⟨m, by omega, m2, fun j hj hd he => by
            by_cases e : j = n
            · subst e; exact absurd d hd
            · exact m3 j (by omega) hd he⟩
      · rcases ih (by omega) with a | ⟨m, m1, m2, m3⟩
        · exact Or.inr ⟨n, by omega, d, fun j hj hd he => absurd (a j (by omega)) hd⟩
        · by_cases c : cm N P x n m
          · exact Or.inr ⟨n, by omega, d, fun j hj hd he => by
              by_cases e : j = m
              · subst e; exact c
              · exact cm_tr c (m3 j (by omega) hd e)⟩
          · have c' : cm N P x m n := by
              rcases cm_tot (N := N) (P := P) (x := x) (show n ≠ m by omega) with z | z
              · exact absurd z c
              · exact z
            exact Or.inr ⟨m, by omega, m2, fun j hj hd he => by
              by_cases e : j = n
              · subst e; exact c'
              · exact m3 j (by omega) hd he⟩
  rcases key (Ln N) (Nat.le_refl _) with a | ⟨m, m1, m2, m3⟩
  · exfalso
    have : nO N D = sm (Ln N) (fun _ => 1) := sm_congr (fun k hk => if_pos (a k hk))
    rw [sm_const] at this
    omega
  · exact ⟨m, m1, m2, m3⟩
theorem nO_add {N : mm_M} {D : Nat → Bool} {m : Nat} (hm : m < Ln N) (hd : ¬ D m = true) : nO N (add1 D m) = nO N D + 1 := by
  have := sm_one (n := Ln N) (j := m) (f := fun j => if add1 D m j = true then (1 : Int) else 0) (g := fun j => if D j = true then 1 else 0) hm (fun k _ hk => by
    by_cases d : D k = true
    · rw [if_pos d, if_pos (add1_iff.mpr (Or.inl d))]
    · rw [if_neg d, if_neg (fun q => by rcases add1_iff.mp q with z | z; exact d z; exact hk z)])
  rw [if_pos (add1_iff.mpr (Or.inr rfl)), if_neg hd] at this
  unfold nO
  omega
/-- how many are ahead of one -/
noncomputable def rnk (N : mm_M) (P : Int) (x : Nat → Int) (k : Nat) : Int := sm (Ln N) (fun j => @ite _ (cm N P x j k) (Classical.propDecidable _) 1 0)
theorem rnk_top {N : mm_M} {P : Int} {x : Nat → Int} {D : Nat → Bool} {m : Nat} (hc : cl N P x D) (ht : top N P x D m) : rnk N P x m = nO N D := sm_congr (fun j hj => by
  have := top_iff hc ht hj
  by_cases d : D j = true
  · rw [if_pos (this.mpr d), if_pos d]
  · rw [if_neg (fun q => d (this.mp q)), if_neg d])
theorem rnk_inj {N : mm_M} {P : Int} {x : Nat → Int} {j k : Nat} (hj : j < Ln N) (hk : k < Ln N) (h : rnk N P x j = rnk N P x k) : j = k := by
  have key : ∀ j k, j < Ln N → k < Ln N → cm N P x j k → rnk N P x j < rnk N P x k := fun j k hj hk c => sm_lt hj (fun i hi => by
    by_cases d : cm N P x i j
    · rw [if_pos d, if_pos (cm_tr d c)]; omega
    · rw [if_neg d]; split <;> omega) (by rw [if_neg cm_irr, if_pos c]; omega)
  by_cases e : j = k
  · exact e
  · rcases cm_tot (N := N) (P := P) (x := x) e with c | c
    · have := key j k hj hk c; omega
    · have := key k j hk hj c; omega
/-- in proportion -/
def prp (N : mm_M) (P : Int) (x : Nat → Int) (P' : Int) (x' : Nat → Int) : Prop := ∀ k, k < Ln N → x k * P' = x' k * P
theorem cst_p {N : mm_M} {P P' : Int} {x x' : Nat → Int} (h : prp N P x P' x') {k : Nat} (hk : k < Ln N) : cst N P x k * P' = cst N P' x' k * P := by
  have := h k hk
  unfold cst
  grind
theorem cm_p {N : mm_M} {P P' : Int} {x x' : Nat → Int} (hP : 0 < P) (hP' : 0 < P') (h : prp N P x P' x') {j k : Nat} (hj : j < Ln N) (hk : k < Ln N) : cm N P x j k ↔ cm N P' x' j k := by
  have h1 := cst_p h hj
  have h2 := cst_p h hk
  have l1 : ∀ a b c d : Int, a * P' = b * P → c * P' = d * P → (a < c ↔ b < d) := fun a b c d e1 e2 => by
    constructor
    · intro q
      have := Int.mul_lt_mul_of_pos_right q hP'
      rw [e1, e2] at this
      exact Int.lt_of_mul_lt_mul_right this (by omega)
    · intro q
      have := Int.mul_lt_mul_of_pos_right q hP
      rw [← e1, ← e2] at this
      exact Int.lt_of_mul_lt_mul_right this (by omega)
  have q1 := l1 _ _ _ _ h2 h1
  have q2 := l1 _ _ _ _ h1 h2
  unfold cm
  omega
theorem mn_mul (a b : Int) {t : Int} (h : 0 < t) : mn a b * t = mn (a * t) (b * t) := by
  unfold mn
  by_cases e : a < b
  · rw [if_pos e, if_pos (Int.mul_lt_mul_of_pos_right e h)]
  · rw [if_neg e, if_neg (by have := Int.mul_le_mul_of_nonneg_right (show b ≤ a by omega) (show 0 ≤ t by omega); omega)]
theorem ldf_p {N : mm_M} {P P' : Int} {x x' : Nat → Int} (hP : 0 < P) (hP' : 0 < P') (h : prp N P x P' x') {L L' : Int} (hL : L * P' = L' * P) {k : Nat} (hk : k < Ln N) : ldf N P x L k * P' = ldf N P' x' L' k * P := by
  have h1 : ahd N P x k * P' = ahd N P' x' k * P := by
    unfold ahd
    rw [Int.mul_comm, ← sm_mul, Int.mul_comm, ← sm_mul]
    refine sm_congr (fun j hj => ?_)
    have := cm_p hP hP' h hj hk
    have h3 := h j hj
    by_cases d : cm N P x j k
    · rw [if_pos d, if_pos (this.mp d)]; grind
    · rw [if_neg d, if_neg (fun q => d (this.mpr q))]; omega
  have h2 := h k hk
  unfold ldf
  rw [mn_mul _ _ hP', mn_mul _ _ hP, mx_mul _ hP', mx_mul _ hP, show (L - 10 * ahd N P x k) * P' = (L' - 10 * ahd N P' x' k) * P by grind, show 10 * x k * P' = 10 * x' k * P by grind]
theorem ldf_bd {N : mm_M} {P L : Int} {x : Nat → Int} {k : Nat} (hx : 0 ≤ x k) : 0 ≤ ldf N P x L k ∧ ldf N P x L k ≤ 10 * x k := by
  unfold ldf mn
  have := mx_0 (L - 10 * ahd N P x k)
  split <;> omega
