/-! fault and net -/
def mk (M : mm_M) : Nat → mm_M
  | 0 => mm_up (mm_up M 0 25 0) 0 27 0
  | j + 1 => (mst (M 14 j) (mk M j)).2
def mok (M : mm_M) (j : Nat) : Int := (mst (M 14 j) (mk M j)).1
def rdE (M : mm_M) (z k : Nat) : Prop := k ≤ z ∧ (∀ j, j < k → mok M j = 1) ∧ (k = z ∨ mok M k = 0)
def rdG (M : mm_M) (k : Nat) : Prop := ∀ j, j ≤ k → ∃ (C : mm_M) (n : Nat) (s : Int), rvv C (mk M j) n s ∧ mk M j 0 25 = s
def nT (T R : mm_M) (n : Nat) : mm_M := fun q k => if q = 0 then (if k = 0 then R 0 26 else if k = 1 then (n : Int) else if k = 9 then 0 else T 0 k) else if q ≤ 4 then (if k < n then R (q + 14) k else T q k) else if q = 5 then (if k < n then 0 else T q k) else if q = 10 ∨ q = 11 then 0 else T q k
section S62
variable {T L X : mm_M} {tk : Nat → Nat} {C C' M M' : mm_M} {Q : Int → mm_M → Prop} {c s : Int} {n z k : Nat}
theorem q8_goes1 {x : Int} (h : Q 1 (mm_up M 0 25 x)) : mX8_goes 1 x M Q := ⟨fun e => absurd e (by decide), fun _ => ⟨Or.inr rfl, h⟩⟩
theorem q8_goes0 {x : Int} (h : Q 0 M) : mX8_goes 0 x M Q := ⟨fun _ => ⟨Or.inl rfl, by rw [up_same]; exact h⟩, fun e => absurd rfl e⟩
theorem t102_0 {a b d : Int} (h : Q 0 M) : bX8_takesA_102 a b d 0 M Q := ⟨fun _ => ⟨Or.inl rfl, h⟩, fun e => absurd rfl e⟩
theorem t102_1 {a b d : Int} (h27 : M 0 27 = n) (hn : n < 10) (h : Q 1 (mm_up (mm_up M 17 n d) 0 25 8)) : bX8_takesA_102 a b d 1 M Q := by
  refine ⟨fun e => absurd e (by decide), fun _ => ⟨by omega, Or.inr rfl, ?_⟩⟩
  rw [h27, Int.toNat_natCast]; exact h
/-- a letter, in the model -/
theorem q8_step (hv : rvv C M n s) (h25 : M 0 25 = s) (hc : 32 ≤ c ∧ c ≤ 126) (h : Q (mst c M).1 (mst c M).2) : mX8_takesLetter c M Q := by
  obtain ⟨⟨v1, v2, v3⟩, v4, v5, v6, v7, v8, v9, v10, v11, v12, v13⟩ := hv
  have eN : (M 0 27).toNat = n := by rw [v2, Int.toNat_natCast]
  have ew : mm_w (c - 48) = c - 48 := mm_w_id (by omega) (by omega)
  rcases (show s = 0 ∨ s = 1 ∨ s = 2 ∨ s = 3 ∨ s = 4 ∨ s = 5 ∨ s = 6 ∨ s = 7 ∨ s = 8 ∨ s = 9 by omega) with e | e | e | e | e | e | e | e | e | e
  · rw [e] at h25
    refine ⟨fun g => by omega, fun g => ?_, fun g => by omega, fun g => by omega, fun g => by omega, fun g => by omega, fun g => by omega, fun g => by omega, fun g => by omega, fun g => by omega, fun g => by omega, trivial⟩
    have em : mst c M = if 50 ≤ c ∧ c ≤ 54 then (1, mm_up (mm_up M 0 26 (c - 48)) 0 25 1) else (0, mm_up M 0 26 (c - 48)) := by unfold mst; rw [if_pos h25]
    rw [ew, up_s]
    refine q8_within (fun a b => q8_goes1 ⟨Or.inr rfl, ?_⟩) (fun g => q8_goes0 ⟨Or.inl rfl, ?_⟩)
    · rw [em, if_pos (by omega)] at h; exact h
    · rw [em, if_neg (by omega)] at h; exact h
  · rw [e] at h25
    refine ⟨fun g => by omega, fun g => by omega, fun g => ?_, fun g => by omega, fun g => by omega, fun g => by omega, fun g => by omega, fun g => by omega, fun g => by omega, fun g => by omega, fun g => by omega, trivial⟩
    have em : mst c M = if c = 59 ∧ M 0 27 < 10 then (1, mm_up M 0 25 2) else (0, M) := by unfold mst; rw [if_neg (by omega), if_pos h25]
    refine ⟨fun a => q8_goes0 ⟨Or.inl rfl, ?_⟩, fun a => ⟨fun b => q8_goes0 ⟨Or.inl rfl, ?_⟩, fun b => q8_goes1 ⟨Or.inr rfl, ?_⟩⟩⟩
    · rw [em, if_neg (by omega)] at h; exact h
    · rw [em, if_neg (by omega)] at h; exact h
    · rw [em, if_pos (by omega)] at h; exact h
  · rw [e] at h25
    have h6 := v6 (by omega)
    have h7 := v7 (by omega)
    refine ⟨fun g => by omega, fun g => by omega, fun g => by omega, fun g => ?_, fun g => by omega, fun g => by omega, fun g => by omega, fun g => by omega, fun g => by omega, fun g => by omega, fun g => by omega, trivial⟩
    have em : mst c M = if 48 ≤ c ∧ c - 48 < M 0 26 then (1, mm_up (mm_up M 15 n (c - 48)) 0 25 3) else (0, mm_up M 15 n (c - 48)) := by unfold mst; rw [if_neg (by omega), if_neg (by omega), if_pos h25, eN]
    unfold mX8_takesEnd
    rw [ew, mm_w_id (z := M 0 26 - 1) (by omega) (by omega)]
    refine q8_within (fun a b => ⟨fun g => absurd h25 g, fun _ => ⟨by omega, ?_⟩⟩) (fun a => ⟨fun g => absurd h25 g, fun _ => ⟨by omega, ?_⟩⟩)
    · rw [em, if_pos (by omega)] at h
      rw [eN]
      exact q8_goes1 ⟨Or.inr rfl, Or.inr rfl, h⟩
    · rw [em, if_neg (by omega)] at h
      rw [eN]
      exact q8_goes0 ⟨Or.inl rfl, Or.inl rfl, h⟩
  · rw [e] at h25
    refine ⟨fun g => by omega, fun g => by omega, fun g => by omega, fun g => by omega, fun g => ?_, fun g => by omega, fun g => by omega, fun g => by omega, fun g => by omega, fun g => by omega, fun g => by omega, trivial⟩
    have em : mst c M = if c = 62 then (1, mm_up M 0 25 4) else (0, M) := by unfold mst; rw [if_neg (by omega), if_neg (by omega), if_neg (by omega), if_pos h25]
    refine ⟨fun a => q8_goes0 ⟨Or.inl rfl, ?_⟩, fun a => q8_goes1 ⟨Or.inr rfl, ?_⟩⟩
    · rw [em, if_neg a] at h; exact h
    · rw [em, if_pos a] at h; exact h
  · rw [e] at h25
    have h6 := v6 (by omega)
    have h7 := v7 (by omega)
    refine ⟨fun g => by omega, fun g => by omega, fun g => by omega, fun g => by omega, fun g => by omega, fun g => ?_, fun g => by omega, fun g => by omega, fun g => by omega, fun g => by omega, fun g => by omega, trivial⟩
    have em : mst c M = if (48 ≤ c ∧ c - 48 < M 0 26) ∧ ¬ c - 48 = M 15 n then (1, mm_up (mm_up M 16 n (c - 48)) 0 25 5) else (0, mm_up M 16 n (c - 48)) := by unfold mst; rw [if_neg (by omega), if_neg (by omega), if_neg (by omega), if_neg (by omega), if_pos h25, eN]
    have u27 : ∀ (k : Nat) (x : Int), mm_up M 16 k x 0 27 = (n : Int) := fun k x => (up_n (by omega)).trans v2
    have u15 : ∀ (k i : Nat) (x : Int), mm_up M 16 k x 15 i = M 15 i := fun k i x => up_n (by omega)
    unfold mX8_takesEnd
    rw [ew, mm_w_id (z := M 0 26 - 1) (by omega) (by omega)]
    refine q8_within (fun a b => ⟨fun _ => ⟨by omega, ?_⟩, fun g => by omega⟩) (fun a => ⟨fun _ => ⟨by omega, ?_⟩, fun g => by omega⟩)
    · simp only [u27, u15, eN, Int.toNat_natCast]
      refine dy1 ⟨by omega, fun d => q8_goes0 ⟨Or.inl rfl, Or.inl rfl, ?_⟩, fun d => q8_goes1 ⟨Or.inr rfl, Or.inr rfl, ?_⟩⟩
      · rw [em, if_neg (by omega)] at h; exact h
      · rw [em, if_pos (by omega)] at h; exact h
    · rw [em, if_neg (by omega)] at h
      rw [eN]
      exact dn0 (q8_goes0 ⟨Or.inl rfl, Or.inl rfl, h⟩)
  · rw [e] at h25
    refine ⟨fun g => by omega, fun g => by omega, fun g => by omega, fun g => by omega, fun g => by omega, fun g => by omega, fun g => ?_, fun g => by omega, fun g => by omega, fun g => by omega, fun g => by omega, trivial⟩
    have em : mst c M = if c = 58 then (1, mm_up M 0 25 6) else (0, M) := by unfold mst; rw [if_neg (by omega), if_neg (by omega), if_neg (by omega), if_neg (by omega), if_neg (by omega), if_pos h25]
    refine ⟨fun a => q8_goes0 ⟨Or.inl rfl, ?_⟩, fun a => q8_goes1 ⟨Or.inr rfl, ?_⟩⟩
    · rw [em, if_neg a] at h; exact h
    · rw [em, if_pos a] at h; exact h
  · rw [e] at h25
    have h7 := v7 (by omega)
    refine ⟨fun g => by omega, fun g => by omega, fun g => by omega, fun g => by omega, fun g => by omega, fun g => by omega, fun g => by omega, fun g => ?_, fun g => by omega, fun g => by omega, fun g => by omega, trivial⟩
    have em : mst c M = if 48 ≤ c ∧ c ≤ 57 then (1, mm_up (mm_up M 17 n (c - 48)) 0 25 7) else (0, mm_up M 17 n (c - 48)) := by unfold mst; rw [if_neg (by omega), if_neg (by omega), if_neg (by omega), if_neg (by omega), if_neg (by omega), if_neg (by omega), if_pos h25, eN]
    refine ⟨fun g => absurd h25 g, fun _ => ⟨by omega, ?_⟩⟩
    rw [ew, eN]
    refine q8_within (fun a b => q8_goes1 ⟨Or.inr rfl, Or.inr rfl, ?_⟩) (fun a => q8_goes0 ⟨Or.inl rfl, Or.inl rfl, ?_⟩)
    · rw [em, if_pos (by omega)] at h; exact h
    · rw [em, if_neg (by omega)] at h; exact h
  · rw [e] at h25
    have h7 := v7 (by omega)
    have aa := v11 (by omega)
    have a9 := v12 e
    unfold rv_a at aa
    refine ⟨fun g => by omega, fun g => by omega, fun g => by omega, fun g => by omega, fun g => by omega, fun g => by omega, fun g => by omega, fun g => by omega, fun g => ?_, fun g => by omega, fun g => by omega, trivial⟩
    have em : mst c M = if c = 43 then (1, mm_up M 0 25 9) else if (48 ≤ c ∧ c ≤ 57) ∧ 10 ≤ 10 * M 17 n + (c - 48) ∧ 10 * M 17 n + (c - 48) ≤ 20 then (1, mm_up (mm_up M 17 n (10 * M 17 n + (c - 48))) 0 25 8) else (0, M) := by unfold mst; rw [if_neg (by omega), if_neg (by omega), if_neg (by omega), if_neg (by omega), if_neg (by omega), if_neg (by omega), if_neg (by omega), if_pos h25, eN]
    refine ⟨fun _ => ⟨fun a => ⟨by omega, fun g => absurd h25 g, fun _ => ?_⟩, fun a => ⟨Or.inr rfl, Or.inr rfl, ?_⟩⟩, fun g => by omega⟩
    · rw [em, if_neg a] at h
      rw [ew, eN, mm_w_id (z := 10 * M 17 n) (by omega) (by omega), mm_w_id (z := 10 * M 17 n + (c - 48)) (by omega) (by omega)]
      refine q8_within (fun b1 b2 => dy1 (q8_within (fun d1 d2 => dy1 (t102_1 v2 h7 ⟨Or.inr rfl, ?_⟩)) (fun d => dn0 (t102_0 ⟨Or.inl rfl, ?_⟩)))) (fun b => dn0 (t102_0 ⟨Or.inl rfl, ?_⟩))
      · rw [if_pos (by omega)] at h; exact h
      · rw [if_neg (by omega)] at h; exact h
      · rw [if_neg (by omega)] at h; exact h
    · rw [em, if_pos a] at h; exact h
  · rw [e] at h25
    have h7 := v7 (by omega)
    refine ⟨fun g => by omega, fun g => by omega, fun g => by omega, fun g => by omega, fun g => by omega, fun g => by omega, fun g => by omega, fun g => by omega, fun g => by omega, fun g => ?_, fun g => by omega, trivial⟩
    have em : mst c M = if c = 43 then (1, mm_up M 0 25 9) else (0, M) := by unfold mst; rw [if_neg (by omega), if_neg (by omega), if_neg (by omega), if_neg (by omega), if_neg (by omega), if_neg (by omega), if_neg (by omega), if_neg (by omega), if_pos h25]
    refine ⟨fun _ => ⟨fun a => ⟨by omega, fun _ => t102_0 ⟨Or.inl rfl, ?_⟩, fun g => by omega⟩, fun a => ⟨Or.inr rfl, Or.inr rfl, ?_⟩⟩, fun g => by omega⟩
    · rw [em, if_neg a] at h; exact h
    · rw [em, if_pos a] at h; exact h
  · rw [e] at h25
    have h7 := v7 (by omega)
    refine ⟨fun g => by omega, fun g => by omega, fun g => by omega, fun g => by omega, fun g => by omega, fun g => by omega, fun g => by omega, fun g => by omega, fun g => by omega, fun g => by omega, fun g => ?_, trivial⟩
    have em : mst c M = if 48 ≤ c ∧ c ≤ 57 then (1, mm_up (mm_up (mm_up M 18 n (c - 48)) 0 27 ((n : Int) + 1)) 0 25 1) else (0, mm_up M 18 n (c - 48)) := by unfold mst; rw [if_neg (by omega), if_neg (by omega), if_neg (by omega), if_neg (by omega), if_neg (by omega), if_neg (by omega), if_neg (by omega), if_neg (by omega), if_neg (by omega), eN, v2]
    refine ⟨by omega, ?_⟩
    rw [ew, eN]
    refine q8_within (fun a b => dy1 ⟨Or.inr rfl, Or.inr rfl, ?_⟩) (fun a => dn0 ⟨Or.inl rfl, Or.inl rfl, ?_⟩)
    · rw [em, if_pos (by omega)] at h
      rw [show mm_up M 18 n (c - 48) 0 27 = (n : Int) from (up_n (by omega)).trans v2, mm_w_id (z := (n : Int) + 1) (by omega) (by omega)]; exact h
    · rw [em, if_neg (by omega)] at h; exact h
theorem mk_fr (M : mm_M) : ∀ j, oR8 M (mk M j)
  | 0 => fun q k a b => (up_n (by omega)).trans (up_n (by omega))
  | j + 1 => (mk_fr M j).tr (mst_fr _ _)
theorem rdE_u {k' : Nat} (h : rdE M z k) (h' : rdE M z k') : k = k' := by
  rcases Nat.lt_trichotomy k k' with g | g | g
  · rcases h.2.2 with e | e
    · have := h'.1; omega
    · have := h'.2.1 k g; omega
  · exact g
  · rcases h'.2.2 with e | e
    · have := h.1; omega
    · have := h.2.1 k' g; omega
theorem pf_n {s : Int} (h : 0 ≤ s ∧ s ≤ 9) : ¬ pf s = -1 := by
  unfold pf
  split <;> omega
theorem q3_read (hz : z ≤ 92) (h11 : C 1 1 = z) (h2 : ∀ j, j < z → C 2 j = M 14 j) (hl : ∀ j, j < z → 32 ≤ M 14 j ∧ M 14 j ≤ 126)
    (K : ∀ (k : Nat) C', rdE M z k → rdG M k → oR7 C C' → (k = z → ∃ n s, rvv C' (mk M z) n s ∧ C' 1 3 = pf s ∧ mk M z 0 25 = s) → Q k C') : mX3_readIntoDraft C Q := by
  unfold mX3_readIntoDraft
  have r0 : rvv (mm_up (mm_up (mm_up C 1 3 0) 3 0 0) 3 1 0) (mk M 0) 0 0 := ⟨⟨up_s _ _ _ _, up_s _ _ _ _, by omega⟩, by omega, fun _ => rfl, fun g => by omega, fun g => by omega, fun r hr => by omega, fun g => by omega, fun g => by omega, fun g => by omega, fun g => by omega, fun g => by omega⟩
  have r25 : mk M 0 0 25 = 0 := (up_n (by omega)).trans (up_s _ _ _ _)
  refine pk_loop (fun i (j : Nat) (C1 : mm_M) => bX3_readIntoDraft_23 i j C1 Q) (fun j C1 => oR7 C C1 ∧ (∀ i, i < j → mok M i = 1) ∧ rdG M j ∧ ∃ n s, rvv C1 (mk M j) n s ∧ C1 1 3 = pf s ∧ mk M j 0 25 = s) z 0 _ (Nat.zero_le _) ⟨fun q k a b => (up_n (by omega)).trans ((up_n (by omega)).trans (up_n (by omega))), fun i hi => by omega, fun j hj => ?_, 0, 0, r0, (up_n (by omega)).trans ((up_n (by omega)).trans (up_s _ _ _ _)), r25⟩ ?_ ?_
  · have e : j = 0 := by omega
    subst e
    exact ⟨_, _, _, r0, r25⟩
  · rintro i C1 ⟨g1, g2, g3, g4⟩
    unfold bX3_readIntoDraft_23
    rw [(g1 1 1 (by omega) (by omega)).trans h11]
    exact ⟨fun _ => K z C1 ⟨Nat.le_refl _, g2, Or.inl rfl⟩ g3 g1 (fun _ => g4), fun g => by omega⟩
  · rintro i j C1 hj ⟨g1, g2, g3, n, s, r1, r2, r3⟩ ih
    unfold bX3_readIntoDraft_23
    rw [(g1 1 1 (by omega) (by omega)).trans h11, Int.toNat_natCast, (g1 2 j (by omega) (by omega)).trans (h2 j hj)]
    refine ⟨fun g => by omega, fun _ => ⟨by omega, q3_step r1 r2 r3 (hl j hj) (fun r C2 o d => ?_)⟩⟩
    rw [up_s]
    have o2 : oR7 C (mm_up C2 1 3 r) := g1.tr (o.tr (fun q k a b => up_n (by omega)))
    rcases d with ⟨d1, d2⟩ | ⟨d1, n', s', d2, d3, d4⟩
    · exact ⟨fun e => absurd d2 e, fun _ => K j _ ⟨by omega, g2, Or.inr d1⟩ g3 o2 (fun e => by omega)⟩
    · refine ⟨fun _ => ?_, fun e => absurd (d3.symm.trans e) (pf_n d2.2.1)⟩
      rw [w_1 hj (by omega)]
      have d2' : rvv (mm_up C2 1 3 r) (mk M (j + 1)) n' s' := rv_fr d2 (fun q k a b => up_n (by omega))
      refine ih _ ⟨o2, fun i hi => ?_, fun i hi => ?_, n', s', d2', (up_s _ _ _ _).trans d3, d4⟩
      · by_cases e : i = j
        · subst e; exact d1
        · exact g2 i (by omega)
      · by_cases e : i = j + 1
        · subst e; exact ⟨_, n', s', d2', d4⟩
        · exact g3 i (by omega)
theorem q8_read (hz : z ≤ 92) (h23 : M 0 23 = z) (hl : ∀ j, j < z → 32 ≤ M 14 j ∧ M 14 j ≤ 126) (hE : rdE M z k) (hG : rdG M k) (K : ∀ M', oR8 M M' → (k = z → M' = mk M z) → Q k M') : mX8_read M Q := by
  have hk := hE.1
  unfold mX8_read
  refine pk_loop (fun i (j : Nat) (_ : Unit) => bX8_read_12 i j (mk M j) Q) (fun _ _ => True) k 0 () (Nat.zero_le _) trivial ?_ ?_
  · rintro i ⟨⟩ -
    unfold bX8_read_12
    rw [(mk_fr M k 0 23 (by omega) (by omega)).trans h23]
    by_cases e : k = z
    · exact ⟨fun _ => K _ (mk_fr M k) (fun _ => by rw [e]), fun g => by omega⟩
    · refine ⟨fun g => by omega, fun _ => ⟨by omega, ?_⟩⟩
      rw [Int.toNat_natCast, mk_fr M k 14 k (by omega) (by omega)]
      obtain ⟨Cc, n, s, r1, r2⟩ := hG k (Nat.le_refl _)
      refine q8_step r1 r2 (hl k (by omega)) ?_
      have e0 : (mst (M 14 k) (mk M k)).1 = 0 := by
        rcases hE.2.2 with d | d
        · exact absurd d e
        · exact d
      rw [e0]
      exact ⟨fun _ => K _ (mk_fr M (k + 1)) (fun d => absurd d e), fun g => absurd rfl g⟩
  · rintro i j ⟨⟩ hj - ih
    unfold bX8_read_12
    rw [(mk_fr M j 0 23 (by omega) (by omega)).trans h23, Int.toNat_natCast, mk_fr M j 14 j (by omega) (by omega)]
    refine ⟨fun g => by omega, fun _ => ⟨by omega, ?_⟩⟩
    obtain ⟨Cc, n, s, r1, r2⟩ := hG j (by omega)
    refine q8_step r1 r2 (hl j (by omega)) ?_
    have e1 : (mst (M 14 j) (mk M j)).1 = 1 := hE.2.1 j hj
    rw [e1, w_1 hj (by omega)]
    exact ⟨fun g => absurd g (by decide), fun _ => ih () trivial⟩
theorem mI.rd (hm : mI M T tk L X) (o : oR8 M M') : mI M' T tk L X :=
  ⟨⟨pj_fr hm.1.1 (fun q k hp => o q k (by have := pp_i hp; omega) (by have := pp_i hp; omega)), fun p hp => (o 9 p (by omega) (by omega)).trans (hm.1.2 p hp)⟩, lj_fr hm.2.1 (fun q k a => o q k (by omega) (by omega)), xj_fr hm.2.2 (fun q k a => o q k (by omega) (by omega))⟩
theorem cI.rd (hw : wf T) (hc : cI C T tk L X) (o : oR7 C C') : cI C' T tk L X :=
  hc.fr hw (fun q k a => o q k (by omega) (by omega)) ⟨(o 1 1 (by omega) (by omega)).trans hc.2.2.2.2.2.1, fun k hk => (o 2 k (by omega) (by omega)).trans (hc.2.2.2.2.2.2.1 k hk), (o 0 4 (by omega) (by omega)).trans hc.2.2.2.2.2.2.2.1, (o 0 5 (by omega) (by omega)).trans hc.2.2.2.2.2.2.2.2.1, (o 0 6 (by omega) (by omega)).trans hc.2.2.2.2.2.2.2.2.2⟩
theorem pg (hw : wI T tk L X) (hc : cI C T tk L X) (hm : mI M T tk L X) : ∃ z : Nat, z ≤ 92 ∧ X 0 23 = z ∧ C 1 1 = z ∧ M 0 23 = z ∧ (∀ j, j < z → C 2 j = M 14 j) ∧ ∀ j, j < z → 32 ≤ M 14 j ∧ M 14 j ≤ 126 := by
  have hX := hw.2.2.2.2.1
  have hx := hc.2.2.2.2.2
  have e14 : ∀ j, M 14 j = X 14 j := fun j => xj_r hm.2.2 (Or.inr rfl)
  refine ⟨(X 0 23).toNat, by omega, by omega, hx.1.trans (by omega), (xj_r hm.2.2 (by decide)).trans (by omega), fun j hj => ?_, fun j hj => ?_⟩
  · rw [e14]; exact hx.2.1 j (by omega)
  · rw [e14]; exact hw.2.2.2.2.2.2 j (by omega)
theorem z_fault (hi : Inv C M) : mX7_fault C (fun r C' => mX8_fault M (fun r' M' => r = r' ∧ Inv C' M')) := by
  obtain ⟨T, tk, L, X, hw, hc, hm⟩ := hi
  obtain ⟨z, hz, -, h11, h23, h2, hl⟩ := pg hw hc hm
  unfold mX7_fault
  refine q3_read hz h11 h2 hl (fun k C1 a b o _ => ?_)
  unfold mX8_fault
  exact q8_read hz h23 hl a b (fun M1 o2 _ => ⟨rfl, T, tk, L, X, hw, hc.rd hw.1 o, hm.rd o2⟩)
theorem q2_become (h31 : C 3 1 = n) (hn : n ≤ 10) {Q : mm_M → Prop} (K : ∀ C' : mm_M, (∀ q k, ¬ (10 ≤ q ∧ q ≤ 15) → C' q k = C q k) → C' 10 0 = C 3 0 → C' 10 1 = n → (∀ r, r < n → C' 11 r = C 4 r ∧ C' 12 r = C 5 r ∧ C' 13 r = C 6 r ∧ C' 14 r = C 7 r ∧ C' 15 r = 0) → Q C') : mX2_becomeLike C Q := by
  unfold mX2_becomeLike
  rw [show mm_up C 10 0 (C 3 0) 3 1 = (n : Int) from (up_n (by omega)).trans h31]
  refine pk_loop (fun i (k : Nat) (C1 : mm_M) => bX2_becomeLike_18 i k C1 Q) (fun k C1 => (∀ q i, ¬ (10 ≤ q ∧ q ≤ 15) → C1 q i = C q i) ∧ C1 10 0 = C 3 0 ∧ C1 10 1 = n ∧ ∀ r, r < k → C1 11 r = C 4 r ∧ C1 12 r = C 5 r ∧ C1 13 r = C 6 r ∧ C1 14 r = C 7 r ∧ C1 15 r = 0) n 0 _ (Nat.zero_le _) ⟨fun q i a => (up_n (by omega)).trans (up_n (by omega)), (up_n (by omega)).trans (up_s _ _ _ _), up_s _ _ _ _, fun r hr => by omega⟩ ?_ ?_
  · rintro i C1 ⟨g1, g2, g3, g4⟩
    unfold bX2_becomeLike_18
    rw [g3]
    exact ⟨fun _ => K C1 g1 g2 g3 g4, fun g => by omega⟩
  · rintro i k C1 hk ⟨g1, g2, g3, g4⟩ ih
    unfold bX2_becomeLike_18
    rw [g3, Int.toNat_natCast, w_1 hk (by omega)]
    refine ⟨fun g => by omega, fun _ => ⟨by omega, by omega, by omega, by omega, by omega, by omega, by omega, by omega, by omega, ih _ ⟨fun q i a => ?_, ?_, ?_, fun r hr => ?_⟩⟩⟩
    · rw [up_n (by omega), up_n (by omega), up_n (by omega), up_n (by omega), up_n (by omega)]; exact g1 q i a
    · rw [up_n (by omega), up_n (by omega), up_n (by omega), up_n (by omega), up_n (by omega)]; exact g2
    · rw [up_n (by omega), up_n (by omega), up_n (by omega), up_n (by omega), up_n (by omega)]; exact g3
    · by_cases e : r = k
      · subst e
        refine ⟨?_, ?_, ?_, ?_, up_s _ _ _ _⟩
        · rw [up_n (by omega), up_n (by omega), up_n (by omega), up_n (by omega), up_s]; exact g1 4 r (by omega)
        · rw [up_n (by omega), up_n (by omega), up_n (by omega), up_s, up_n (by omega)]; exact g1 5 r (by omega)
        · rw [up_n (by omega), up_n (by omega), up_s, up_n (by omega), up_n (by omega)]; exact g1 6 r (by omega)
        · rw [up_n (by omega), up_s, up_n (by omega), up_n (by omega), up_n (by omega)]; exact g1 7 r (by omega)
      · obtain ⟨f1, f2, f3, f4, f5⟩ := g4 r (by omega)
        refine ⟨?_, ?_, ?_, ?_, ?_⟩
        · rw [up_n (by omega), up_n (by omega), up_n (by omega), up_n (by omega), up_n (by omega)]; exact f1
        · rw [up_n (by omega), up_n (by omega), up_n (by omega), up_n (by omega), up_n (by omega)]; exact f2
        · rw [up_n (by omega), up_n (by omega), up_n (by omega), up_n (by omega), up_n (by omega)]; exact f3
        · rw [up_n (by omega), up_n (by omega), up_n (by omega), up_n (by omega), up_n (by omega)]; exact f4
        · rw [up_n (by omega), up_n (by omega), up_n (by omega), up_n (by omega), up_n (by omega)]; exact f5
theorem q6_begin {N : mm_M} (hN : wfR N) (h31 : C 3 1 = n) (hn : n ≤ 10) (hR : Rn N = n) (h00 : C 3 0 = N 0 0) (h01 : (n : Int) = N 0 1) (h07 : C 9 3 = N 0 7) (hr : ∀ r, r < n → C 4 r = N 1 r ∧ C 5 r = N 2 r ∧ C 6 r = N 3 r ∧ C 7 r = N 4 r ∧ (0 : Int) = N 5 r) {Q : mm_M → Prop} (K : ∀ C' : mm_M, (∀ q k, (q < 9 ∨ 28 < q) → C' q k = C q k) → C' 9 2 = 0 → nD C' N → xD C' N → (∀ r, r < 10 → C' 16 r = 0) → Q C') : mX6_beginOn C Q := by
  unfold mX6_beginOn
  refine q2_become h31 hn (fun C1 g1 g2 g3 g4 => ?_)
  refine pk_loop (fun i (k : Nat) (C2 : mm_M) => bX6_beginOn_15 i k C2 Q) (fun k C2 => (∀ q i, q ≠ 16 → C2 q i = mm_up C1 9 2 0 q i) ∧ ∀ r, r < k → C2 16 r = 0) 10 0 _ (Nat.zero_le _) ⟨fun q i _ => rfl, fun r hr => by omega⟩ ?_ ?_
  · rintro i C2 ⟨f1, f2⟩
    unfold bX6_beginOn_15
    have u : ∀ q i, q ≠ 16 → ¬ (q = 9 ∧ i = 2) → C2 q i = C1 q i := fun q i a b => (f1 q i a).trans (up_n (by omega))
    have nd : nD C2 N := by
      refine ⟨(u 9 3 (by omega) (by omega)).trans ((g1 9 3 (by omega)).trans h07), (u 10 0 (by omega) (by omega)).trans (g2.trans h00), (u 10 1 (by omega) (by omega)).trans (g3.trans h01), fun r hr2 => ?_⟩
      rw [hR] at hr2
      obtain ⟨a1, a2, a3, a4, a5⟩ := g4 r hr2
      obtain ⟨b1, b2, b3, b4, b5⟩ := hr r hr2
      exact ⟨(u 11 r (by omega) (by omega)).trans (a1.trans b1), (u 12 r (by omega) (by omega)).trans (a2.trans b2), (u 13 r (by omega) (by omega)).trans (a3.trans b3), (u 14 r (by omega) (by omega)).trans (a4.trans b4), (u 15 r (by omega) (by omega)).trans (a5.trans b5)⟩
    refine ⟨fun _ => q6_priceRoads hN nd (fun C3 o x => K C3 (fun q k a => ?_) ?_ ?_ x (fun r hr => ?_)), fun g => by omega⟩
    · exact (o q k (by omega)).trans ((u q k (by omega) (by omega)).trans (g1 q k (by omega)))
    · exact (o 9 2 (by omega)).trans ((f1 9 2 (by omega)).trans (up_s _ _ _ _))
    · obtain ⟨n1, n2, n3, n4⟩ := nd
      refine ⟨(o 9 3 (by omega)).trans n1, (o 10 0 (by omega)).trans n2, (o 10 1 (by omega)).trans n3, fun r hr => ?_⟩
      obtain ⟨d1, d2, d3, d4, d5⟩ := n4 r hr
      exact ⟨(o _ _ (by omega)).trans d1, (o _ _ (by omega)).trans d2, (o _ _ (by omega)).trans d3, (o _ _ (by omega)).trans d4, (o _ _ (by omega)).trans d5⟩
    · exact (o 16 r (by omega)).trans (f2 r hr)
  · rintro i k C2 hk ⟨f1, f2⟩ ih
    unfold bX6_beginOn_15
    rw [Int.toNat_natCast, w_1 hk (by omega)]
    refine ⟨fun g => by omega, fun _ => ⟨by omega, ih _ ⟨fun q i a => (up_n (by omega)).trans (f1 q i a), fun r hr => ?_⟩⟩⟩
    by_cases e : r = k
    · subst e; exact up_s _ _ _ _
    · rw [up_n (by omega)]; exact f2 r (by omega)
theorem q8_net47 (h01 : M 0 1 = n) (hn : n ≤ 10) (K : ∀ M' : mm_M, (∀ q k, ¬ (1 ≤ q ∧ q ≤ 5 ∧ k < n) → M' q k = M q k) → (∀ r, r < n → M' 1 r = M 15 r ∧ M' 2 r = M 16 r ∧ M' 3 r = M 17 r ∧ M' 4 r = M 18 r ∧ M' 5 r = 0) → Q ((mm_up (mm_up (mm_up M' 0 9 0) 0 8 (mm_w (((mm_up M' 0 9 0) 0 8) + (1 : Int)))) 0 23 0) 0 1) (mm_up (mm_up (mm_up M' 0 9 0) 0 8 (mm_w (((mm_up M' 0 9 0) 0 8) + (1 : Int)))) 0 23 0)) : ∃ j, bX8_net_47 j 0 M Q := by
  refine pk_loop (fun i (k : Nat) (M1 : mm_M) => bX8_net_47 i k M1 Q) (fun k M1 => (∀ q i, ¬ (1 ≤ q ∧ q ≤ 5 ∧ i < k) → M1 q i = M q i) ∧ ∀ r, r < k → M1 1 r = M 15 r ∧ M1 2 r = M 16 r ∧ M1 3 r = M 17 r ∧ M1 4 r = M 18 r ∧ M1 5 r = 0) n 0 _ (Nat.zero_le _) ⟨fun q i _ => rfl, fun r hr => by omega⟩ ?_ ?_
  · rintro i M1 ⟨g1, g2⟩
    unfold bX8_net_47
    refine ⟨fun _ => K M1 g1 g2, fun g => ?_⟩
    rw [g1 0 1 (by omega), h01] at g
    omega
  · rintro i k M1 hk ⟨g1, g2⟩ ih
    unfold bX8_net_47
    rw [g1 0 1 (by omega), h01, Int.toNat_natCast, w_1 hk (by omega)]
    refine ⟨fun g => by omega, fun _ => ⟨by omega, by omega, by omega, by omega, by omega, by omega, by omega, by omega, by omega, ih _ ⟨fun q i a => ?_, fun r hr => ?_⟩⟩⟩
    · rw [up_n (by omega), up_n (by omega), up_n (by omega), up_n (by omega), up_n (by omega)]; exact g1 q i (by omega)
    · by_cases e : r = k
      · subst e
        refine ⟨?_, ?_, ?_, ?_, up_s _ _ _ _⟩
        · rw [up_n (by omega), up_n (by omega), up_n (by omega), up_n (by omega), up_s]; exact g1 15 r (by omega)
        · rw [up_n (by omega), up_n (by omega), up_n (by omega), up_s, up_n (by omega)]; exact g1 16 r (by omega)
        · rw [up_n (by omega), up_n (by omega), up_s, up_n (by omega), up_n (by omega)]; exact g1 17 r (by omega)
        · rw [up_n (by omega), up_s, up_n (by omega), up_n (by omega), up_n (by omega)]; exact g1 18 r (by omega)
      · obtain ⟨f1, f2, f3, f4, f5⟩ := g2 r (by omega)
        refine ⟨?_, ?_, ?_, ?_, ?_⟩
        · rw [up_n (by omega), up_n (by omega), up_n (by omega), up_n (by omega), up_n (by omega)]; exact f1
        · rw [up_n (by omega), up_n (by omega), up_n (by omega), up_n (by omega), up_n (by omega)]; exact f2
        · rw [up_n (by omega), up_n (by omega), up_n (by omega), up_n (by omega), up_n (by omega)]; exact f3
        · rw [up_n (by omega), up_n (by omega), up_n (by omega), up_n (by omega), up_n (by omega)]; exact f4
        · rw [up_n (by omega), up_n (by omega), up_n (by omega), up_n (by omega), up_n (by omega)]; exact f5
end S62
