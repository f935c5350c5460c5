/-! the page is read -/
def mst (c : Int) (M : mm_M) : Int × mm_M :=
  if M 0 25 = 0 then (if 50 ≤ c ∧ c ≤ 54 then (1, mm_up (mm_up M 0 26 (c - 48)) 0 25 1) else (0, mm_up M 0 26 (c - 48)))
  else if M 0 25 = 1 then (if c = 59 ∧ M 0 27 < 10 then (1, mm_up M 0 25 2) else (0, M))
  else if M 0 25 = 2 then (if 48 ≤ c ∧ c - 48 < M 0 26 then (1, mm_up (mm_up M 15 (M 0 27).toNat (c - 48)) 0 25 3) else (0, mm_up M 15 (M 0 27).toNat (c - 48)))
  else if M 0 25 = 3 then (if c = 62 then (1, mm_up M 0 25 4) else (0, M))
  else if M 0 25 = 4 then (if (48 ≤ c ∧ c - 48 < M 0 26) ∧ ¬ c - 48 = M 15 (M 0 27).toNat then (1, mm_up (mm_up M 16 (M 0 27).toNat (c - 48)) 0 25 5) else (0, mm_up M 16 (M 0 27).toNat (c - 48)))
  else if M 0 25 = 5 then (if c = 58 then (1, mm_up M 0 25 6) else (0, M))
  else if M 0 25 = 6 then (if 48 ≤ c ∧ c ≤ 57 then (1, mm_up (mm_up M 17 (M 0 27).toNat (c - 48)) 0 25 7) else (0, mm_up M 17 (M 0 27).toNat (c - 48)))
  else if M 0 25 = 7 then (if c = 43 then (1, mm_up M 0 25 9) else if (48 ≤ c ∧ c ≤ 57) ∧ 10 ≤ 10 * M 17 (M 0 27).toNat + (c - 48) ∧ 10 * M 17 (M 0 27).toNat + (c - 48) ≤ 20 then (1, mm_up (mm_up M 17 (M 0 27).toNat (10 * M 17 (M 0 27).toNat + (c - 48))) 0 25 8) else (0, M))
  else if M 0 25 = 8 then (if c = 43 then (1, mm_up M 0 25 9) else (0, M))
  else (if 48 ≤ c ∧ c ≤ 57 then (1, mm_up (mm_up (mm_up M 18 (M 0 27).toNat (c - 48)) 0 27 (M 0 27 + 1)) 0 25 1) else (0, mm_up M 18 (M 0 27).toNat (c - 48)))
def pf (s : Int) : Int := if s ≤ 7 then s else s - 1
def rv_f (C M : mm_M) (r : Nat) : Prop := C 4 r = M 15 r ∧ 0 ≤ M 15 r ∧ M 15 r < M 0 26
def rv_t (C M : mm_M) (r : Nat) : Prop := C 5 r = M 16 r ∧ (0 ≤ M 16 r ∧ M 16 r < M 0 26) ∧ M 15 r ≠ M 16 r
def rv_a (C M : mm_M) (r : Nat) : Prop := C 6 r = M 17 r ∧ 0 ≤ M 17 r ∧ M 17 r ≤ 20
def rv_b (C M : mm_M) (r : Nat) : Prop := C 7 r = M 18 r ∧ 0 ≤ M 18 r ∧ M 18 r ≤ 9
def rv_o (C M : mm_M) (n : Nat) : Prop := ∀ r, r < n → rv_f C M r ∧ rv_t C M r ∧ rv_a C M r ∧ rv_b C M r
def rvv (C M : mm_M) (n : Nat) (s : Int) : Prop := (C 3 1 = n ∧ M 0 27 = n ∧ n ≤ 10) ∧ (0 ≤ s ∧ s ≤ 9) ∧ (s = 0 → n = 0) ∧ (1 ≤ s → C 3 0 = M 0 26 ∧ 2 ≤ M 0 26 ∧ M 0 26 ≤ 6) ∧ (2 ≤ s → n < 10) ∧ rv_o C M n ∧ (3 ≤ s → rv_f C M n) ∧ (5 ≤ s → rv_t C M n) ∧ (7 ≤ s → rv_a C M n) ∧ (s = 7 → M 17 n ≤ 9) ∧ (s = 8 → 10 ≤ M 17 n)
def oR7 (C C' : mm_M) : Prop := ∀ q k, (q = 1 → k ≠ 3) → (q < 3 ∨ 7 < q) → C' q k = C q k
def oR8 (M M' : mm_M) : Prop := ∀ q k, (q = 0 → k < 25 ∨ 27 < k) → (q < 15 ∨ 18 < q) → M' q k = M q k
section S61
variable {C C' M M' : mm_M} {Q : Int → mm_M → Prop} {c s : Int} {n : Nat}
theorem oR7.tr {C2 : mm_M} (h : oR7 C C') (h2 : oR7 C' C2) : oR7 C C2 := fun q k a b => (h2 q k a b).trans (h q k a b)
theorem oR8.tr {C2 : mm_M} (h : oR8 C C') (h2 : oR8 C' C2) : oR8 C C2 := fun q k a b => (h2 q k a b).trans (h q k a b)
theorem ite_o {p : Prop} {d : Decidable p} {a b : Int × mm_M} (h1 : oR8 M a.2) (h2 : oR8 M b.2) : oR8 M (@ite _ p d a b).2 := by
  by_cases h : p
  · rw [if_pos h]; exact h1
  · rw [if_neg h]; exact h2
theorem mst_fr (c : Int) (M : mm_M) : oR8 M (mst c M).2 := by
  unfold mst
  repeat' apply ite_o
  all_goals intro q k a b
  all_goals (try dsimp only)
  all_goals first
    | rw [up_n (by omega), up_n (by omega), up_n (by omega)]
    | rw [up_n (by omega), up_n (by omega)]
    | rw [up_n (by omega)]
    | rfl
theorem rv_old (h : rv_o C M n) (hC : ∀ q r, r < n → 4 ≤ q → q ≤ 7 → C' q r = C q r) (hM : ∀ q r, r < n → 15 ≤ q → q ≤ 18 → M' q r = M q r) (h26 : M' 0 26 = M 0 26) : rv_o C' M' n := fun r hr => by
  have := h r hr
  unfold rv_f rv_t rv_a rv_b at this ⊢
  rw [hC 4 r hr (by omega) (by omega), hC 5 r hr (by omega) (by omega), hC 6 r hr (by omega) (by omega), hC 7 r hr (by omega) (by omega), hM 15 r hr (by omega) (by omega), hM 16 r hr (by omega) (by omega), hM 17 r hr (by omega) (by omega), hM 18 r hr (by omega) (by omega), h26]
  exact this
theorem rv_fr (h : rvv C M n s) (hC : ∀ q k, 3 ≤ q → q ≤ 7 → C' q k = C q k) : rvv C' M n s := by
  unfold rvv rv_o rv_f rv_t rv_a rv_b at h ⊢
  rw [show C' 3 = C 3 from funext (fun k => hC 3 k (by omega) (by omega)), show C' 4 = C 4 from funext (fun k => hC 4 k (by omega) (by omega)), show C' 5 = C 5 from funext (fun k => hC 5 k (by omega) (by omega)), show C' 6 = C 6 from funext (fun k => hC 6 k (by omega) (by omega)), show C' 7 = C 7 from funext (fun k => hC 7 k (by omega) (by omega))]
  exact h
def rdO (c : Int) (M : mm_M) (r : Int) (C1 : mm_M) : Prop := ((mst c M).1 = 0 ∧ r = -1) ∨ ((mst c M).1 = 1 ∧ ∃ n' s', rvv C1 (mst c M).2 n' s' ∧ r = pf s' ∧ (mst c M).2 0 25 = s')
theorem rdO0 (e : mst c M = (0, M')) : rdO c M (-1) C := Or.inl ⟨by rw [e], rfl⟩
theorem rdO1 (e : mst c M = (1, M')) {r : Int} (hr : r = pf s) (h : rvv C M' n s) (h25 : M' 0 25 = s) : rdO c M r C := Or.inr ⟨by rw [e], n, s, by rw [e]; exact h, hr, by rw [e]; exact h25⟩
theorem pb_w (hc : 32 ≤ c ∧ c ≤ 126) (h : ∀ w, ((48 ≤ c ∧ c ≤ 57 ∧ w = c - 48) ∨ (¬ (48 ≤ c ∧ c ≤ 57) ∧ w = -1)) → bX3_phaseBehind_19 c w C Q) : mX3_phaseBehind c C Q := by
  unfold mX3_phaseBehind
  refine q7_within (fun a b => dy1 ?_) (fun g => dn0 (h _ (Or.inr ⟨by omega, rfl⟩)))
  rw [mm_w_id (by omega) (by omega)]
  exact h _ (Or.inl ⟨a, b, rfl⟩)
/-- a letter, in the class -/
theorem q3_step (hv : rvv C M n s) (h13 : C 1 3 = pf s) (h25 : M 0 25 = s) (hc : 32 ≤ c ∧ c ≤ 126) (K : ∀ r C1, oR7 C C1 → rdO c M r C1 → Q r C1) : mX3_phaseBehind c C Q := by
  obtain ⟨⟨v1, v2, v3⟩, v4, v5, v6, v7, v8, v9, v10, v11, v12, v13⟩ := hv
  have eN : (M 0 27).toNat = n := by rw [v2, Int.toNat_natCast]
  have o0 : oR7 C C := fun _ _ _ _ => rfl
  refine pb_w hc (fun w hw => ?_)
  rcases (show s = 0 ∨ s = 1 ∨ s = 2 ∨ s = 3 ∨ s = 4 ∨ s = 5 ∨ s = 6 ∨ s = 7 ∨ s = 8 ∨ s = 9 by omega) with e | e | e | e | e | e | e | e | e | e
  · rw [e] at h13 h25 v5
    have h13 : C 1 3 = 0 := h13
    have n0 : n = 0 := v5 rfl
    subst n0
    refine ⟨fun g => by omega, fun g => ?_, fun g => by omega, fun g => by omega, fun g => by omega, fun g => by omega, fun g => by omega, fun g => by omega, fun g => by omega, fun g => by omega, trivial⟩
    have em : mst c M = if 50 ≤ c ∧ c ≤ 54 then (1, mm_up (mm_up M 0 26 (c - 48)) 0 25 1) else (0, mm_up M 0 26 (c - 48)) := by unfold mst; rw [if_pos h25]
    unfold mX3_readNodes
    refine q7_within (fun a b => cy1 (K _ _ (fun q k _ _ => up_n (by omega)) ?_)) (fun g => cn0 (K _ _ o0 (rdO0 (em.trans (if_neg (by omega))))))
    refine rdO1 (n := 0) (s := 1) (em.trans (if_pos (by omega))) (by decide) ⟨⟨?_, ?_, by omega⟩, by omega, fun _ => rfl, fun _ => ⟨?_, ?_⟩, fun _ => by omega, fun r hr => by omega, fun g => by omega, fun g => by omega, fun g => by omega, fun g => by omega, fun g => by omega⟩ (up_s _ _ _ _)
    · rw [up_n (by omega)]; exact v1
    · rw [up_n (by omega), up_n (by omega)]; exact v2
    · rw [up_s, up_n (by omega), up_s]; omega
    · rw [up_n (by omega), up_s]; omega
  · rw [e] at h13 h25
    have h13 : C 1 3 = 1 := h13
    refine ⟨fun g => by omega, fun g => by omega, fun g => ?_, fun g => by omega, fun g => by omega, fun g => by omega, fun g => by omega, fun g => by omega, fun g => by omega, fun g => by omega, trivial⟩
    have em : mst c M = if c = 59 ∧ M 0 27 < 10 then (1, mm_up M 0 25 2) else (0, M) := by unfold mst; rw [if_neg (by omega), if_pos h25]
    refine ⟨fun a => K _ _ o0 (rdO0 (em.trans (if_neg (by omega)))), fun a => ⟨fun b => K _ _ o0 (rdO0 (em.trans (if_neg (by omega)))), fun b => K _ _ o0 ?_⟩⟩
    refine rdO1 (n := n) (s := 2) (em.trans (if_pos (by omega))) (by decide) ⟨⟨v1, ?_, v3⟩, by omega, fun _ => by omega, fun _ => ?_, fun _ => by omega, rv_old v8 (fun q r _ _ _ => rfl) (fun q r _ _ _ => up_n (by omega)) (up_n (by omega)), fun g => by omega, fun g => by omega, fun g => by omega, fun g => by omega, fun g => by omega⟩ (up_s _ _ _ _)
    · rw [up_n (by omega)]; exact v2
    · rw [up_n (by omega)]; exact v6 (by omega)
  · rw [e] at h13 h25
    have h13 : C 1 3 = 2 := h13
    have h6 := v6 (by omega)
    have h7 := v7 (by omega)
    refine ⟨fun g => by omega, fun g => by omega, fun g => by omega, fun g => ?_, fun g => by omega, fun g => by omega, fun g => by omega, fun g => by omega, fun g => by omega, fun g => by omega, trivial⟩
    have em : mst c M = if 48 ≤ c ∧ c - 48 < M 0 26 then (1, mm_up (mm_up M 15 n (c - 48)) 0 25 3) else (0, mm_up M 15 n (c - 48)) := by unfold mst; rw [if_neg (by omega), if_neg (by omega), if_pos h25, eN]
    unfold mX3_readFrom
    rw [mm_w_id (by omega) (by omega)]
    refine q7_within (fun a b => cy1 ⟨by omega, ?_⟩) (fun g => cn0 (K _ _ o0 (rdO0 (em.trans (if_neg (by omega))))))
    rw [v1, Int.toNat_natCast]
    refine K _ _ (fun q k _ _ => up_n (by omega)) (rdO1 (n := n) (s := 3) (em.trans (if_pos (by omega))) (by decide) ⟨⟨?_, ?_, v3⟩, by omega, fun _ => by omega, fun _ => ?_, fun _ => by omega, rv_old v8 (fun q r _ _ _ => up_n (by omega)) (fun q r _ _ _ => (up_n (by omega)).trans (up_n (by omega))) ((up_n (by omega)).trans (up_n (by omega))), fun g => ⟨?_, ?_⟩, fun g => by omega, fun g => by omega, fun g => by omega, fun g => by omega⟩ (up_s _ _ _ _))
    · rw [up_n (by omega)]; exact v1
    · rw [up_n (by omega), up_n (by omega)]; exact v2
    · rw [up_n (by omega), up_n (by omega), up_n (by omega)]; exact h6
    · rw [up_s, up_n (by omega), up_s]; omega
    · rw [up_n (by omega), up_s, up_n (by omega), up_n (by omega)]; omega
  · rw [e] at h13 h25
    have h13 : C 1 3 = 3 := h13
    refine ⟨fun g => by omega, fun g => by omega, fun g => by omega, fun g => by omega, fun g => ?_, fun g => by omega, fun g => by omega, fun g => by omega, fun g => by omega, fun g => by omega, trivial⟩
    have em : mst c M = if c = 62 then (1, mm_up M 0 25 4) else (0, M) := by unfold mst; rw [if_neg (by omega), if_neg (by omega), if_neg (by omega), if_pos h25]
    refine ⟨fun a => K _ _ o0 (rdO0 (em.trans (if_neg a))), fun a => K _ _ o0 ?_⟩
    have f := v9 (by omega)
    unfold rv_f at f
    refine rdO1 (n := n) (s := 4) (em.trans (if_pos a)) (by decide) ⟨⟨v1, ?_, v3⟩, by omega, fun _ => by omega, fun _ => ?_, fun _ => v7 (by omega), rv_old v8 (fun q r _ _ _ => rfl) (fun q r _ _ _ => up_n (by omega)) (up_n (by omega)), fun g => ?_, fun g => by omega, fun g => by omega, fun g => by omega, fun g => by omega⟩ (up_s _ _ _ _)
    · rw [up_n (by omega)]; exact v2
    · rw [up_n (by omega)]; exact v6 (by omega)
    · unfold rv_f; rw [up_n (by omega), up_n (by omega)]; exact f
  · rw [e] at h13 h25
    have h13 : C 1 3 = 4 := h13
    have h6 := v6 (by omega)
    have h7 := v7 (by omega)
    have f := v9 (by omega)
    unfold rv_f at f
    refine ⟨fun g => by omega, fun g => by omega, fun g => by omega, fun g => by omega, fun g => by omega, fun g => ?_, fun g => by omega, fun g => by omega, fun g => by omega, fun g => by omega, trivial⟩
    have em : mst c M = if (48 ≤ c ∧ c - 48 < M 0 26) ∧ ¬ c - 48 = M 15 n then (1, mm_up (mm_up M 16 n (c - 48)) 0 25 5) else (0, mm_up M 16 n (c - 48)) := by unfold mst; rw [if_neg (by omega), if_neg (by omega), if_neg (by omega), if_neg (by omega), if_pos h25, eN]
    unfold mX3_readTo
    rw [mm_w_id (by omega) (by omega)]
    refine q7_within (fun a b => dy1 ⟨by omega, ?_⟩) (fun g => dn0 (K _ _ o0 (rdO0 (em.trans (if_neg (by omega))))))
    rw [v1, Int.toNat_natCast, f.1]
    refine ⟨fun d => ⟨by omega, K _ _ (fun q k _ _ => up_n (by omega)) (rdO1 (n := n) (s := 5) (em.trans (if_pos (by omega))) (by decide) ⟨⟨?_, ?_, v3⟩, by omega, fun _ => by omega, fun _ => ?_, fun _ => by omega, rv_old v8 (fun q r _ _ _ => up_n (by omega)) (fun q r _ _ _ => (up_n (by omega)).trans (up_n (by omega))) ((up_n (by omega)).trans (up_n (by omega))), fun g => ?_, fun g => ⟨?_, ?_, ?_⟩, fun g => by omega, fun g => by omega, fun g => by omega⟩ (up_s _ _ _ _))⟩, fun d => K _ _ o0 (rdO0 (em.trans (if_neg (by omega))))⟩
    · rw [up_n (by omega)]; exact v1
    · rw [up_n (by omega), up_n (by omega)]; exact v2
    · rw [up_n (by omega), up_n (by omega), up_n (by omega)]; exact h6
    · unfold rv_f; rw [up_n (by omega), up_n (by omega), up_n (by omega), up_n (by omega), up_n (by omega)]; exact f
    · rw [up_s, up_n (by omega), up_s]; omega
    · rw [up_n (by omega), up_s, up_n (by omega), up_n (by omega)]; omega
    · rw [up_n (by omega), up_n (by omega), up_n (by omega), up_s]; omega
  · rw [e] at h13 h25
    have h13 : C 1 3 = 5 := h13
    refine ⟨fun g => by omega, fun g => by omega, fun g => by omega, fun g => by omega, fun g => by omega, fun g => by omega, fun g => ?_, fun g => by omega, fun g => by omega, fun g => by omega, trivial⟩
    have em : mst c M = if c = 58 then (1, mm_up M 0 25 6) else (0, M) := by unfold mst; rw [if_neg (by omega), if_neg (by omega), if_neg (by omega), if_neg (by omega), if_neg (by omega), if_pos h25]
    refine ⟨fun a => K _ _ o0 (rdO0 (em.trans (if_neg a))), fun a => K _ _ o0 ?_⟩
    have f := v9 (by omega)
    have t := v10 (by omega)
    unfold rv_f at f
    unfold rv_t at t
    refine rdO1 (n := n) (s := 6) (em.trans (if_pos a)) (by decide) ⟨⟨v1, ?_, v3⟩, by omega, fun _ => by omega, fun _ => ?_, fun _ => v7 (by omega), rv_old v8 (fun q r _ _ _ => rfl) (fun q r _ _ _ => up_n (by omega)) (up_n (by omega)), fun g => ?_, fun g => ?_, fun g => by omega, fun g => by omega, fun g => by omega⟩ (up_s _ _ _ _)
    · rw [up_n (by omega)]; exact v2
    · rw [up_n (by omega)]; exact v6 (by omega)
    · unfold rv_f; rw [up_n (by omega), up_n (by omega)]; exact f
    · unfold rv_t; rw [up_n (by omega), up_n (by omega), up_n (by omega)]; exact t
  · rw [e] at h13 h25
    have h13 : C 1 3 = 6 := h13
    have h6 := v6 (by omega)
    have h7 := v7 (by omega)
    have f := v9 (by omega)
    have t := v10 (by omega)
    unfold rv_f at f
    unfold rv_t at t
    refine ⟨fun g => by omega, fun g => by omega, fun g => by omega, fun g => by omega, fun g => by omega, fun g => by omega, fun g => by omega, fun g => ?_, fun g => by omega, fun g => by omega, trivial⟩
    have em : mst c M = if 48 ≤ c ∧ c ≤ 57 then (1, mm_up (mm_up M 17 n (c - 48)) 0 25 7) else (0, mm_up M 17 n (c - 48)) := by unfold mst; rw [if_neg (by omega), if_neg (by omega), if_neg (by omega), if_neg (by omega), if_neg (by omega), if_neg (by omega), if_pos h25, eN]
    unfold mX3_readA
    rw [v1, Int.toNat_natCast]
    refine ⟨fun d => ⟨by omega, K _ _ (fun q k _ _ => up_n (by omega)) (rdO1 (n := n) (s := 7) (em.trans (if_pos (by omega))) (by decide) ⟨⟨?_, ?_, v3⟩, by omega, fun _ => by omega, fun _ => ?_, fun _ => by omega, rv_old v8 (fun q r _ _ _ => up_n (by omega)) (fun q r _ _ _ => (up_n (by omega)).trans (up_n (by omega))) ((up_n (by omega)).trans (up_n (by omega))), fun g => ?_, fun g => ?_, fun g => ⟨?_, ?_⟩, fun g => ?_, fun g => by omega⟩ (up_s _ _ _ _))⟩, fun d => K _ _ o0 (rdO0 (em.trans (if_neg (by omega))))⟩
    · rw [up_n (by omega)]; exact v1
    · rw [up_n (by omega), up_n (by omega)]; exact v2
    · rw [up_n (by omega), up_n (by omega), up_n (by omega)]; exact h6
    · unfold rv_f; rw [up_n (by omega), up_n (by omega), up_n (by omega), up_n (by omega), up_n (by omega)]; exact f
    · unfold rv_t; rw [up_n (by omega), up_n (by omega), up_n (by omega), up_n (by omega), up_n (by omega), up_n (by omega), up_n (by omega)]; exact t
    · rw [up_s, up_n (by omega), up_s]; omega
    · rw [up_n (by omega), up_s]; omega
    · rw [up_n (by omega), up_s]; omega
  · rw [e] at h13 h25
    have h13 : C 1 3 = 7 := h13
    have h6 := v6 (by omega)
    have h7 := v7 (by omega)
    have f := v9 (by omega)
    have t := v10 (by omega)
    have aa := v11 (by omega)
    have a9 := v12 e
    unfold rv_f at f
    unfold rv_t at t
    unfold rv_a at aa
    refine ⟨fun g => by omega, fun g => by omega, fun g => by omega, fun g => by omega, fun g => by omega, fun g => by omega, fun g => by omega, fun g => by omega, fun g => ?_, fun g => by omega, trivial⟩
    have em : mst c M = if c = 43 then (1, mm_up M 0 25 9) else if (48 ≤ c ∧ c ≤ 57) ∧ 10 ≤ 10 * M 17 n + (c - 48) ∧ 10 * M 17 n + (c - 48) ≤ 20 then (1, mm_up (mm_up M 17 n (10 * M 17 n + (c - 48))) 0 25 8) else (0, M) := by unfold mst; rw [if_neg (by omega), if_neg (by omega), if_neg (by omega), if_neg (by omega), if_neg (by omega), if_neg (by omega), if_neg (by omega), if_pos h25, eN]
    refine ⟨fun a => ?_, fun a => K _ _ o0 ?_⟩
    · rw [if_neg a] at em
      unfold mX3_readMoreOfA
      rw [v1, Int.toNat_natCast, aa.1]
      refine ⟨by omega, fun d => K _ _ o0 (rdO0 (em.trans (if_neg (by omega)))), fun d => ⟨fun d2 => K _ _ o0 (rdO0 (em.trans (if_neg (by omega)))), fun d2 => ?_⟩⟩
      have ew : w = c - 48 := by omega
      rw [mm_w_id (z := 10 * M 17 n) (by omega) (by omega), mm_w_id (by omega) (by omega), ew]
      refine ⟨fun d3 => ⟨by omega, K _ _ (fun q k _ _ => up_n (by omega)) (rdO1 (n := n) (s := 8) (em.trans (if_pos (by omega))) (by decide) ⟨⟨?_, ?_, v3⟩, by omega, fun _ => by omega, fun _ => ?_, fun _ => by omega, rv_old v8 (fun q r _ _ _ => up_n (by omega)) (fun q r _ _ _ => (up_n (by omega)).trans (up_n (by omega))) ((up_n (by omega)).trans (up_n (by omega))), fun g => ?_, fun g => ?_, fun g => ⟨?_, ?_⟩, fun g => by omega, fun g => ?_⟩ (up_s _ _ _ _))⟩, fun d => K _ _ o0 (rdO0 (em.trans (if_neg (by omega))))⟩
      · rw [up_n (by omega)]; exact v1
      · rw [up_n (by omega), up_n (by omega)]; exact v2
      · rw [up_n (by omega), up_n (by omega), up_n (by omega)]; exact h6
      · unfold rv_f; rw [up_n (by omega), up_n (by omega), up_n (by omega), up_n (by omega), up_n (by omega)]; exact f
      · unfold rv_t; rw [up_n (by omega), up_n (by omega), up_n (by omega), up_n (by omega), up_n (by omega), up_n (by omega), up_n (by omega)]; exact t
      · rw [up_s, up_n (by omega), up_s]
      · rw [up_n (by omega), up_s]; omega
      · rw [up_n (by omega), up_s]; omega
    · refine rdO1 (n := n) (s := 9) (em.trans (if_pos a)) (by decide) ⟨⟨v1, ?_, v3⟩, by omega, fun _ => by omega, fun _ => ?_, fun _ => v7 (by omega), rv_old v8 (fun q r _ _ _ => rfl) (fun q r _ _ _ => up_n (by omega)) (up_n (by omega)), fun g => ?_, fun g => ?_, fun g => ?_, fun g => by omega, fun g => by omega⟩ (up_s _ _ _ _)
      · rw [up_n (by omega)]; exact v2
      · rw [up_n (by omega)]; exact h6
      · unfold rv_f; rw [up_n (by omega), up_n (by omega)]; exact f
      · unfold rv_t; rw [up_n (by omega), up_n (by omega), up_n (by omega)]; exact t
      · unfold rv_a; rw [up_n (by omega)]; exact aa
  · rw [e] at h13 h25
    have h13 : C 1 3 = 7 := h13
    have h6 := v6 (by omega)
    have h7 := v7 (by omega)
    have f := v9 (by omega)
    have t := v10 (by omega)
    have aa := v11 (by omega)
    have a9 := v13 e
    unfold rv_f at f
    unfold rv_t at t
    unfold rv_a at aa
    refine ⟨fun g => by omega, fun g => by omega, fun g => by omega, fun g => by omega, fun g => by omega, fun g => by omega, fun g => by omega, fun g => by omega, fun g => ?_, fun g => by omega, trivial⟩
    have em : mst c M = if c = 43 then (1, mm_up M 0 25 9) else (0, M) := by unfold mst; rw [if_neg (by omega), if_neg (by omega), if_neg (by omega), if_neg (by omega), if_neg (by omega), if_neg (by omega), if_neg (by omega), if_neg (by omega), if_pos h25]
    refine ⟨fun a => ?_, fun a => K _ _ o0 ?_⟩
    · rw [if_neg a] at em
      unfold mX3_readMoreOfA
      rw [v1, Int.toNat_natCast, aa.1]
      refine ⟨by omega, fun d => K _ _ o0 (rdO0 em), fun d => ⟨fun d2 => K _ _ o0 (rdO0 em), fun d2 => ?_⟩⟩
      rw [mm_w_id (z := 10 * M 17 n) (by omega) (by omega), mm_w_id (by omega) (by omega)]
      exact ⟨fun d3 => by omega, fun d => K _ _ o0 (rdO0 em)⟩
    · refine rdO1 (n := n) (s := 9) (em.trans (if_pos a)) (by decide) ⟨⟨v1, ?_, v3⟩, by omega, fun _ => by omega, fun _ => ?_, fun _ => v7 (by omega), rv_old v8 (fun q r _ _ _ => rfl) (fun q r _ _ _ => up_n (by omega)) (up_n (by omega)), fun g => ?_, fun g => ?_, fun g => ?_, fun g => by omega, fun g => by omega⟩ (up_s _ _ _ _)
      · rw [up_n (by omega)]; exact v2
      · rw [up_n (by omega)]; exact h6
      · unfold rv_f; rw [up_n (by omega), up_n (by omega)]; exact f
      · unfold rv_t; rw [up_n (by omega), up_n (by omega), up_n (by omega)]; exact t
      · unfold rv_a; rw [up_n (by omega)]; exact aa
  · rw [e] at h13 h25
    have h13 : C 1 3 = 8 := h13
    have h6 := v6 (by omega)
    have h7 := v7 (by omega)
    have f := v9 (by omega)
    have t := v10 (by omega)
    have aa := v11 (by omega)
    unfold rv_f at f
    unfold rv_t at t
    unfold rv_a at aa
    refine ⟨fun g => by omega, fun g => by omega, fun g => by omega, fun g => by omega, fun g => by omega, fun g => by omega, fun g => by omega, fun g => by omega, fun g => by omega, fun g => ?_, trivial⟩
    have em : mst c M = if 48 ≤ c ∧ c ≤ 57 then (1, mm_up (mm_up (mm_up M 18 n (c - 48)) 0 27 ((n : Int) + 1)) 0 25 1) else (0, mm_up M 18 n (c - 48)) := by unfold mst; rw [if_neg (by omega), if_neg (by omega), if_neg (by omega), if_neg (by omega), if_neg (by omega), if_neg (by omega), if_neg (by omega), if_neg (by omega), if_neg (by omega), eN, v2]
    unfold mX3_readB
    rw [v1, Int.toNat_natCast, show mm_up C 7 n w 3 1 = (n : Int) from (up_n (by omega)).trans v1, mm_w_id (by omega) (by omega)]
    refine ⟨fun d => ⟨by omega, K _ _ (fun q k _ _ => (up_n (by omega)).trans (up_n (by omega))) (rdO1 (n := n + 1) (s := 1) (em.trans (if_pos (by omega))) (by decide) ⟨⟨?_, ?_, by omega⟩, by omega, fun _ => by omega, fun _ => ?_, fun _ => by omega, fun r hr => ?_, fun g => by omega, fun g => by omega, fun g => by omega, fun g => by omega, fun g => by omega⟩ (up_s _ _ _ _))⟩, fun d => K _ _ o0 (rdO0 (em.trans (if_neg (by omega))))⟩
    · rw [up_s]; omega
    · rw [up_n (by omega), up_s]; omega
    · rw [up_n (by omega), up_n (by omega), up_n (by omega), up_n (by omega), up_n (by omega)]; exact h6
    · by_cases er : r = n
      · subst er
        refine ⟨?_, ?_, ?_, ?_, ?_⟩
        · unfold rv_f; rw [up_n (by omega), up_n (by omega), up_n (by omega), up_n (by omega), up_n (by omega), up_n (by omega), up_n (by omega), up_n (by omega)]; exact f
        · unfold rv_t; rw [up_n (by omega), up_n (by omega), up_n (by omega), up_n (by omega), up_n (by omega), up_n (by omega), up_n (by omega), up_n (by omega), up_n (by omega), up_n (by omega), up_n (by omega)]; exact t
        · unfold rv_a; rw [up_n (by omega), up_n (by omega), up_n (by omega), up_n (by omega), up_n (by omega)]; exact aa
        · rw [up_n (by omega), up_s, up_n (by omega), up_n (by omega), up_s]; omega
        · rw [up_n (by omega), up_n (by omega), up_s]; omega
      · exact rv_old v8 (fun q r _ _ _ => (up_n (by omega)).trans (up_n (by omega))) (fun q r _ _ _ => (up_n (by omega)).trans ((up_n (by omega)).trans (up_n (by omega)))) ((up_n (by omega)).trans ((up_n (by omega)).trans (up_n (by omega)))) r (by omega)
end S61
