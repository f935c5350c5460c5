/-! ways: what both find -/
theorem and_bit0 : ∀ a, a < 32 → ∀ b, b < 32 → ∀ v, v < 10 → mm_and (mm_shr ((32 * a + b : Nat) : Int) (v : Nat)) 1 = if (32 * a + b).testBit v then 1 else 0 := by decide +kernel
theorem or_bit0 : ∀ a, a < 32 → ∀ b, b < 32 → ∀ v, v < 10 → mm_or ((32 * a + b : Nat) : Int) (mm_shl 1 (v : Nat)) = (((32 * a + b) ||| 2 ^ v : Nat) : Int) := by decide +kernel
theorem and_bit {m v : Nat} (hm : m < 1024) (hv : v < 10) : mm_and (mm_shr (m : Int) (v : Nat)) 1 = if m.testBit v then 1 else 0 := by
  have h := and_bit0 (m / 32) (by omega) (m % 32) (by omega) v hv
  rw [show 32 * (m / 32) + m % 32 = m by omega] at h
  exact h
theorem or_bit {m v : Nat} (hm : m < 1024) (hv : v < 10) : mm_or (m : Int) (mm_shl 1 (v : Nat)) = ((m ||| 2 ^ v : Nat) : Int) := by
  have h := or_bit0 (m / 32) (by omega) (m % 32) (by omega) v hv
  rw [show 32 * (m / 32) + m % 32 = m by omega] at h
  exact h
theorem or_lt {m v : Nat} (hm : m < 1024) (hv : v < 10) : m ||| 2 ^ v < 1024 := by
  have h1 : 2 ^ v < 2 ^ 10 := Nat.pow_lt_pow_right (by decide) hv
  exact Nat.or_lt_two_pow (n := 10) hm h1
theorem tb_or {m v r : Nat} : (m ||| 2 ^ v).testBit r = true ↔ m.testBit r = true ∨ r = v := by
  rw [Nat.testBit_or, Nat.testBit_two_pow]
  by_cases e : r = v
  · subst e; simp
  · simp [e]; intro h; exact absurd h.symm e
abbrev Wy := Nat × (Nat → Nat) × (Nat → Nat → Nat)
def nod (N : mm_M) (x : Int) (d : Nat) (f : Nat → Nat) : Int := if d = 0 then x else N 2 (f (d - 1))
def stp (N : mm_M) (x : Int) (d : Nat) (f : Nat → Nat) (r : Nat) : Prop := N 1 r = nod N x d f ∧ N 2 r ≠ x ∧ ∀ k, k < d → N 2 (f k) ≠ N 2 r
def app (a : Wy) (d : Nat) (f : Nat → Nat) : Wy := (a.1 + 1, upt a.2.1 a.1 d, fun w => if w = a.1 then f else a.2.2 w)
def exf (g : Nat → Wy → Wy) : Nat → Nat → Wy → Wy
  | 0, _, a => a
  | n + 1, k, a => exf g n (k + 1) (g k a)
noncomputable def exg (N : mm_M) (x : Int) (d : Nat) (f : Nat → Nat) (E : Nat → (Nat → Nat) → Wy → Wy) (r : Nat) (a : Wy) : Wy := if 12 < a.1 then a else @ite _ (stp N x d f r) (Classical.propDecidable _) (E (d + 1) (upt f d r) a) a
noncomputable def exs (N : mm_M) (x y : Int) : Nat → Nat → (Nat → Nat) → Wy → Wy
  | 0, d, f, a => if nod N x d f = y then app a d f else a
  | rem + 1, d, f, a => exf (exg N x d f (exs N x y rem)) (Rn N) 0 a
theorem exg_stop {N : mm_M} {x : Int} {d : Nat} {f : Nat → Nat} {E : Nat → (Nat → Nat) → Wy → Wy} {r : Nat} {a : Wy} (h : 12 < a.1) : exg N x d f E r a = a := if_pos h
theorem exg_1 {N : mm_M} {x : Int} {d : Nat} {f : Nat → Nat} {E : Nat → (Nat → Nat) → Wy → Wy} {r : Nat} {a : Wy} (h : ¬ 12 < a.1) (h2 : stp N x d f r) : exg N x d f E r a = E (d + 1) (upt f d r) a := by unfold exg; rw [if_neg h, if_pos h2]
theorem exg_0 {N : mm_M} {x : Int} {d : Nat} {f : Nat → Nat} {E : Nat → (Nat → Nat) → Wy → Wy} {r : Nat} {a : Wy} (h2 : ¬ stp N x d f r) : exg N x d f E r a = a := by unfold exg; rw [if_neg h2]; split <;> rfl
theorem exf_stop {N : mm_M} {x : Int} {d : Nat} {f : Nat → Nat} {E : Nat → (Nat → Nat) → Wy → Wy} : ∀ n k (a : Wy), 12 < a.1 → exf (exg N x d f E) n k a = a
  | 0, _, _, _ => rfl
  | n + 1, k, a, h => by
    show exf _ n (k + 1) (exg N x d f E k a) = a
    rw [exg_stop h]; exact exf_stop n (k + 1) a h
/-- a path of nodes that are all different -/
def gp (N : mm_M) (x : Int) (d : Nat) (f : Nat → Nat) : Prop := (∀ k, k < d → f k < Rn N ∧ N 2 (f k) ≠ x) ∧ ∀ i j, i < j → j < d → N 2 (f i) ≠ N 2 (f j)
theorem gp_0 (N : mm_M) (x : Int) (f : Nat → Nat) : gp N x 0 f := ⟨fun k hk => by omega, fun i j _ hj => by omega⟩
theorem upt_s (f : Nat → Nat) (d r : Nat) : upt f d r d = r := if_pos rfl
theorem upt_n {f : Nat → Nat} {d r k : Nat} (h : k ≠ d) : upt f d r k = f k := if_neg h
theorem gp_s {N : mm_M} {x : Int} {d r : Nat} {f : Nat → Nat} (h : gp N x d f) (hr : r < Rn N) (hs : stp N x d f r) : gp N x (d + 1) (upt f d r) := by
  refine ⟨fun k hk => ?_, fun i j hij hj => ?_⟩
  · by_cases e : k = d
    · subst e; rw [upt_s]; exact ⟨hr, hs.2.1⟩
    · rw [upt_n e]; exact h.1 k (by omega)
  · by_cases e : j = d
    · subst e; rw [upt_s, upt_n (by omega)]; exact hs.2.2 i hij
    · rw [upt_n e, upt_n (by omega)]; exact h.2 i j hij (by omega)
theorem gp_len {N : mm_M} (hN : wfR N) {x : Int} (hx : 0 ≤ x ∧ x < N 0 0) {d : Nat} {f : Nat → Nat} (h : gp N x d f) : (d : Int) + 1 ≤ N 0 0 := by
  have hn : ((N 0 0).toNat : Int) = N 0 0 := by omega
  have key : ∀ e, e ≤ d → sm (N 0 0).toNat (fun v => @ite Int ((v : Int) = x ∨ ∃ k, k < e ∧ N 2 (f k) = (v : Int)) (Classical.propDecidable _) 1 0) = (e : Int) + 1 := by
    intro e
    induction e with
    | zero =>
      intro _
      have := sm_one (n := (N 0 0).toNat) (j := x.toNat) (f := fun v => @ite Int ((v : Int) = x ∨ ∃ k, k < 0 ∧ N 2 (f k) = (v : Int)) (Classical.propDecidable _) 1 0) (g := fun _ => 0) (by omega) (fun k _ hk => by
        rw [if_neg]
        rintro (e | ⟨k, h, -⟩)
        · omega
        · omega)
      rw [if_pos (Or.inl (by omega)), sm_const] at this
      omega
    | succ e ih =>
      intro he
      have ih := ih (by omega)
      have hr := (h.1 e (by omega)).1
      have hb := (hN.2.2 (f e) hr).2.1
      have := sm_one (n := (N 0 0).toNat) (j := (N 2 (f e)).toNat) (f := fun v => @ite Int ((v : Int) = x ∨ ∃ k, k < e + 1 ∧ N 2 (f k) = (v : Int)) (Classical.propDecidable _) 1 0) (g := fun v => @ite Int ((v : Int) = x ∨ ∃ k, k < e ∧ N 2 (f k) = (v : Int)) (Classical.propDecidable _) 1 0) (by omega) (fun v _ hv => by
        by_cases c : (v : Int) = x ∨ ∃ k, k < e ∧ N 2 (f k) = (v : Int)
        · rw [if_pos c, if_pos]
          rcases c with c | ⟨k, c1, c2⟩
          · exact Or.inl c
          · exact Or.inr ⟨k, by omega, c2⟩
        · rw [if_neg c, if_neg]
          rintro (c2 | ⟨k, c1, c2⟩)
          · exact c (Or.inl c2)
          · by_cases ek : k = e
            · subst ek; omega
            · exact c (Or.inr ⟨k, by omega, c2⟩))
      rw [if_pos (Or.inr ⟨e, by omega, by omega⟩), if_neg (by
        rintro (c2 | ⟨k, c1, c2⟩)
        · exact (h.1 e (by omega)).2 (by omega)
        · exact h.2 k e c1 (by omega) (by omega))] at this
      omega
  have h1 := key d (Nat.le_refl _)
  have h2 := (sm_bd (n := (N 0 0).toNat) (f := fun v => @ite Int ((v : Int) = x ∨ ∃ k, k < d ∧ N 2 (f k) = (v : Int)) (Classical.propDecidable _) 1 0) (c := 1) (fun k _ => by split <;> omega)).2
  omega
theorem exs_none {N : mm_M} (hN : wfR N) {x y : Int} (hx : 0 ≤ x ∧ x < N 0 0) : ∀ (rem d : Nat) f a, gp N x d f → N 0 0 ≤ (d : Int) + (rem : Int) → exs N x y rem d f a = a
  | 0, d, f, a, hg, hl => by have := gp_len hN hx hg; omega
  | rem + 1, d, f, a, hg, hl => by
    have key : ∀ n k a, k + n = Rn N → exf (exg N x d f (exs N x y rem)) n k a = a := by
      intro n
      induction n with
      | zero => intro k a _; rfl
      | succ n ih =>
        intro k a hk
        show exf _ n (k + 1) (exg N x d f (exs N x y rem) k a) = a
        have : exg N x d f (exs N x y rem) k a = a := by
          by_cases c : 12 < a.1
          · exact exg_stop c
          · by_cases s : stp N x d f k
            · rw [exg_1 c s]; exact exs_none hN hx rem (d + 1) _ a (gp_s hg (by omega) s) (by omega)
            · exact exg_0 s
        rw [this]; exact ih (k + 1) a (by omega)
    exact key (Rn N) 0 a (by omega)
/-- what is found are ways -/
def okA (N : mm_M) (a : Wy) : Prop := a.1 ≤ 13 ∧ ∀ w, w < a.1 → (1 ≤ a.2.1 w ∧ a.2.1 w ≤ 5) ∧ (∀ k, k < a.2.1 w → a.2.2 w k < Rn N) ∧ ∀ i j, i < a.2.1 w → j < a.2.1 w → a.2.2 w i = a.2.2 w j → i = j
theorem okA_app {N : mm_M} {x : Int} {d : Nat} {f : Nat → Nat} {a : Wy} (ha : okA N a) (h12 : a.1 ≤ 12) (hg : gp N x d f) (hd : 1 ≤ d ∧ d ≤ 5) : okA N (app a d f) := by
  refine ⟨by show a.1 + 1 ≤ 13; omega, fun w hw => ?_⟩
  have hw : w < a.1 + 1 := hw
  show (1 ≤ upt a.2.1 a.1 d w ∧ upt a.2.1 a.1 d w ≤ 5) ∧ (∀ k, k < upt a.2.1 a.1 d w → (if w = a.1 then f else a.2.2 w) k < Rn N) ∧ ∀ i j, i < upt a.2.1 a.1 d w → j < upt a.2.1 a.1 d w → (if w = a.1 then f else a.2.2 w) i = (if w = a.1 then f else a.2.2 w) j → i = j
  by_cases e : w = a.1
  · subst e
    rw [upt_s, if_pos rfl]
    refine ⟨hd, fun k hk => (hg.1 k hk).1, fun i j hi hj he => ?_⟩
    rcases Nat.lt_trichotomy i j with q | q | q
    · exact absurd (congrArg (N 2) he) (hg.2 i j q hj)
    · exact q
    · exact absurd (congrArg (N 2) he).symm (hg.2 j i q hi)
  · rw [upt_n e, if_neg e]; exact ha.2 w (by omega)
theorem exs_ok {N : mm_M} {x y : Int} : ∀ rem d f a, gp N x d f → 1 ≤ d + rem → d + rem ≤ 5 → okA N a → (rem = 0 → a.1 ≤ 12) → okA N (exs N x y rem d f a)
  | 0, d, f, a, hg, h1, h5, ha, h12 => by
    unfold exs
    split
    · exact okA_app ha (h12 rfl) hg ⟨by omega, by omega⟩
    · exact ha
  | rem + 1, d, f, a, hg, h1, h5, ha, _ => by
    have key : ∀ n k a, k + n = Rn N → okA N a → okA N (exf (exg N x d f (exs N x y rem)) n k a) := by
      intro n
      induction n with
      | zero => intro k a _ ha; exact ha
      | succ n ih =>
        intro k a hk ha
        show okA N (exf _ n (k + 1) (exg N x d f (exs N x y rem) k a))
        refine ih (k + 1) _ (by omega) ?_
        by_cases c : 12 < a.1
        · rw [exg_stop c]; exact ha
        · by_cases s : stp N x d f k
          · rw [exg_1 c s]; exact exs_ok rem (d + 1) _ a (gp_s hg (by omega) s) (by omega) (by omega) ha (fun _ => by omega)
          · rw [exg_0 s]; exact ha
    exact key (Rn N) 0 a (by omega) ha
noncomputable def exw (N : mm_M) (x y : Int) : Nat → Wy
  | 0 => (0, fun _ => 0, fun _ _ => 0)
  | s + 1 => exs N x y (s + 1) 0 (fun _ => 0) (exw N x y s)
theorem exw_ok {N : mm_M} {x y : Int} : ∀ s, s ≤ 5 → okA N (exw N x y s)
  | 0, _ => ⟨Nat.zero_le _, fun w hw => absurd hw (Nat.not_lt_zero _)⟩
  | s + 1, h => exs_ok (s + 1) 0 _ _ (gp_0 N x _) (by omega) (by omega) (exw_ok s (by omega)) (fun e => by omega)
theorem exw_s {N : mm_M} (hN : wfR N) {x y : Int} (hx : 0 ≤ x ∧ x < N 0 0) {s : Nat} (hs : N 0 0 ≤ (s : Int) + 1) : exw N x y (s + 1) = exw N x y s := exs_none hN hx (s + 1) 0 _ _ (gp_0 N x _) (by omega)
theorem exw_all {N : mm_M} (hN : wfR N) {x y : Int} (hx : 0 ≤ x ∧ x < N 0 0) {s : Nat} (hs : N 0 0 ≤ (s : Int) + 1) : ∀ t, exw N x y (s + t) = exw N x y s
  | 0 => rfl
  | t + 1 => (exw_s (s := s + t) hN hx (by omega)).trans (exw_all hN hx hs t)
