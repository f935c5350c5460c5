/-! the model: levels -/
def lM (M N : mm_M) : Prop := M 0 18 = N 0 18 ∧ M 0 21 = N 0 21 ∧ M 0 22 = N 0 22 ∧ ∀ k, k < Ln N → M 12 k = N 12 k ∧ M 13 k = N 13 k
def oln (M M' : mm_M) : Prop := ∀ q i, (q = 0 → i < 45 ∨ 55 < i) → (q < 25 ∨ 29 < q) → M' q i = M q i
theorem oln.rf (M : mm_M) : oln M M := fun _ _ _ _ => rfl
theorem oln.tr {M M' M'' : mm_M} (h : oln M M') (h2 : oln M' M'') : oln M M'' := fun q k a b => (h2 q k a b).trans (h q k a b)
theorem oln.lM {M M' N : mm_M} (h : oln M M') (hl : lM M N) : lM M' N := ⟨(h 0 18 (by decide) (by decide)).trans hl.1, (h 0 21 (by decide) (by decide)).trans hl.2.1, (h 0 22 (by decide) (by decide)).trans hl.2.2.1, fun k hk => ⟨(h 12 k (by omega) (by decide)).trans (hl.2.2.2 k hk).1, (h 13 k (by omega) (by decide)).trans (hl.2.2.2 k hk).2⟩⟩
theorem oln.up0 {M : mm_M} {i : Nat} {z : Int} (h : 45 ≤ i ∧ i ≤ 55) : oln M (mm_up M 0 i z) := fun q k a _ => up_n (by omega)
theorem oln.upa {M : mm_M} {q i : Nat} {z : Int} (h : 25 ≤ q ∧ q ≤ 29) : oln M (mm_up M q i z) := fun q' k _ b => up_n (by omega)
theorem q8_weight {N : mm_M} (hL : wfL N) {k : Nat} (hk : k < Ln N) {M : mm_M} (hl : lM M N) {Q : Int → mm_M → Prop} (h : Q (wt N k) M) : mX8_weight k M Q := by
  have hn := wfL_n hL
  unfold mX8_weight
  rw [Int.toNat_natCast, (hl.2.2.2 k hk).2]
  have hB := (hL.2.1 k hk).2
  have e : mm_div 4 (N 13 k) = wt N k := by
    unfold wt
    rcases hB with e | e | e <;> rw [e] <;> rfl
  rw [e]
  exact ⟨by omega, by omega, h⟩
def bO (m : Nat) : Nat → Bool := fun k => m.testBit k
theorem bit_c {m k : Nat} (hm : m < 32) (hk : k < 5) : (mm_and (mm_shr (m : Int) (k : Nat)) 1 = 1 ↔ bO m k = true) := by
  rw [and_bit (by omega) (by omega)]
  unfold bO
  by_cases e : m.testBit k = true
  · rw [if_pos e]; exact ⟨fun _ => e, fun _ => rfl⟩
  · rw [if_neg e]; exact ⟨fun q => by omega, fun q => absurd q e⟩
def bsM (M N : mm_M) (g : Nat → Int) : Prop := ∀ k, k < Ln N → M 25 k = g k
theorem q8_isLevel {N : mm_M} (hL : wfL N) {m : Nat} (hm : m < 32) {M : mm_M} (hl : lM M N) {g : Nat → Int} (hg : bsM M N g) (hb : gB N g) {c am tm be : Int} (hc : 0 ≤ c ∧ c ≤ 10000000) (he : mm_wl (mm_wl (4 * tm) * am) = c) (hbe : 0 ≤ be ∧ be ≤ 10000) {Q : Int → mm_M → Prop}
    (h1 : (∀ k, k < Ln N → (bO m k = true ↔ g k * WO N (bO m) < c + SO N g (bO m))) → Q 1 (mm_up (mm_up M 0 45 (c + SO N g (bO m))) 0 46 (be * WO N (bO m)))) (h0 : ¬ (∀ k, k < Ln N → (bO m k = true ↔ g k * WO N (bO m) < c + SO N g (bO m))) → Q 0 (mm_up (mm_up M 0 45 (c + SO N g (bO m))) 0 46 (be * WO N (bO m)))) : mX8_isLevel m am be tm M Q := by
  have hn := wfL_n hL
  have hWb := WO_bd hL (bO m)
  have hSb := SO_bd hL (G := 2000000) hb (by omega) (bO m)
  have hbw := mul_bd (A := 10000) (B := 20) hbe hWb
  -- the second loop
  have second : ∀ tm' : Int, ∃ j, bX8_isLevel_120 j m tm' (c + SO N g (bO m)) (WO N (bO m)) 1 ((0 : Nat) : Int) (mm_up (mm_up M 0 45 (c + SO N g (bO m))) 0 46 (be * WO N (bO m))) Q := by
    intro tm'
    generalize hM1 : mm_up (mm_up M 0 45 (c + SO N g (bO m))) 0 46 (be * WO N (bO m)) = M1 at *
    have o1 : ∀ q i, (q = 0 → i ≠ 45 ∧ i ≠ 46) → M1 q i = M q i := fun q i a => by rw [← hM1, up_n (by omega), up_n (by omega)]
    refine pk_loop (fun j (k : Nat) (b : Int) => bX8_isLevel_120 j m tm' (c + SO N g (bO m)) (WO N (bO m)) b k M1 Q) (fun k b => (b = 1 ∧ ∀ i, i < k → (bO m i = true ↔ g i * WO N (bO m) < c + SO N g (bO m))) ∨ (b = 0 ∧ ¬ (∀ k, k < Ln N → (bO m k = true ↔ g k * WO N (bO m) < c + SO N g (bO m))))) (Ln N) 0 1 (Nat.zero_le _) (Or.inl ⟨rfl, fun i hi => by omega⟩) ?_ ?_
    · rintro j b gb
      unfold bX8_isLevel_120
      rw [(o1 0 18 (by decide)).trans hl.1]
      refine ⟨fun _ => ?_, fun g => by omega⟩
      rcases gb with ⟨b1, b2⟩ | ⟨b1, b2⟩
      · subst b1; exact ⟨Or.inr rfl, h1 b2⟩
      · subst b1; exact ⟨Or.inl rfl, h0 b2⟩
    · rintro j k b hk gb ih
      unfold bX8_isLevel_120
      have b1 := mul_bd (A := 2000000) (B := 20) (hb k hk) hWb
      have fin : ∀ w0 : Int, ((w0 = 1 ∧ bO m k = true) ∨ (w0 = 0 ∧ ¬ bO m k = true)) → bX8_isLevel_144 (fun v1 v6 v7 v9 v11 v12 M => bX8_isLevel_120 j v1 v6 v7 v9 v11 v12 M Q) m tm' (c + SO N g (bO m)) (WO N (bO m)) b k w0 M1 Q := by
        intro w0 hw0
        unfold bX8_isLevel_144
        rw [Int.toNat_natCast, (o1 25 k (by omega)).trans (hg k hk), w_1 hk (by omega), mm_wl_id (z := g k * WO N (bO m)) (by omega) (by omega), cmp_le, cmp_gt]
        have yes : b = 1 → (bO m k = true ↔ g k * WO N (bO m) < c + SO N g (bO m)) → bX8_isLevel_120 j m tm' (c + SO N g (bO m)) (WO N (bO m)) 1 ((k + 1 : Nat) : Int) M1 Q := by
          intro eb ek
          rcases gb with ⟨b1, b2⟩ | ⟨b1, b2⟩
          · refine ih 1 (Or.inl ⟨rfl, fun i hi => ?_⟩)
            by_cases e : i = k
            · subst e; exact ek
            · exact b2 i (by omega)
          · omega
        have no : (b = 0 ∨ ¬ (bO m k = true ↔ g k * WO N (bO m) < c + SO N g (bO m))) → bX8_isLevel_120 j m tm' (c + SO N g (bO m)) (WO N (bO m)) 0 ((k + 1 : Nat) : Int) M1 Q := by
          intro eb
          refine ih 0 (Or.inr ⟨rfl, ?_⟩)
          rcases gb with ⟨b1, b2⟩ | ⟨b1, b2⟩
          · rcases eb with eb | eb
            · omega
            · exact fun q => eb (q k hk)
          · exact b2
        have hb01 : b = 0 ∨ b = 1 := by rcases gb with ⟨b1, -⟩ | ⟨b1, -⟩ <;> omega
        refine ⟨fun e => no (Or.inl e), fun e => ⟨by omega, fun q => ⟨fun z => no (Or.inr (fun w => ?_)), fun z => yes (by omega) ?_⟩, fun q => ⟨fun z => no (Or.inr (fun w => ?_)), fun z => yes (by omega) ?_⟩⟩⟩
        · rcases hw0 with ⟨w1, w2⟩ | ⟨w1, w2⟩
          · have := w.mp w2; omega
          · exact z w1.symm
        · rcases hw0 with ⟨w1, w2⟩ | ⟨w1, w2⟩
          · omega
          · exact ⟨fun a => absurd a w2, fun a => by omega⟩
        · rcases hw0 with ⟨w1, w2⟩ | ⟨w1, w2⟩
          · exact z w1.symm
          · exact w2 (w.mpr q)
        · rcases hw0 with ⟨w1, w2⟩ | ⟨w1, w2⟩
          · exact ⟨fun _ => q, fun _ => w2⟩
          · omega
      rw [(o1 0 18 (by decide)).trans hl.1, bit_c hm (by omega)]
      exact ⟨fun g => by omega, fun _ => ⟨fun e => fin 0 (Or.inr ⟨rfl, e⟩), fun e => fin 1 (Or.inl ⟨rfl, e⟩)⟩⟩
  unfold mX8_isLevel
  rw [he]
  have key := pk_loop (fun j (k : Nat) (_ : Unit) => bX8_isLevel_17 j m be tm (c + sm k (fun k => if bO m k = true then wt N k * g k else 0)) (sm k (fun k => if bO m k = true then wt N k else 0)) k M Q) (fun k _ => True) (Ln N) 0 () (Nat.zero_le _) trivial ?_ ?_
  · obtain ⟨j, hj⟩ := key
    refine ⟨j, ?_⟩
    have hj : bX8_isLevel_17 j m be tm (c + 0) 0 ((0 : Nat) : Int) M Q := hj
    rw [Int.add_zero] at hj
    exact hj
  · rintro j - -
    unfold bX8_isLevel_17
    rw [hl.1]
    have e1 : sm (Ln N) (fun k => if bO m k = true then wt N k else 0) = WO N (bO m) := rfl
    have e2 : sm (Ln N) (fun k => if bO m k = true then wt N k * g k else 0) = SO N g (bO m) := rfl
    rw [e1, e2, mm_wl_id (z := be * WO N (bO m)) (by omega) (by omega)]
    exact ⟨fun _ => second tm, fun g => by omega⟩
  · rintro j k - hk - ih
    have b1 := sm_bd (n := k) (f := fun k => if bO m k = true then wt N k else 0) (c := 4) (fun k _ => by have := wt_bd N k; split <;> omega)
    have b2 := sm_bd (n := k) (f := fun k => if bO m k = true then wt N k * g k else 0) (c := 8000000) (fun i hi => by
      have := mul_bd (A := 4) (B := 2000000) (show 0 ≤ wt N i ∧ wt N i ≤ 4 by have := wt_bd N i; omega) (hb i (by omega))
      split <;> omega)
    have b3 := mul_bd (A := 4) (B := 2000000) (show 0 ≤ wt N k ∧ wt N k ≤ 4 by have := wt_bd N k; omega) (hb k hk)
    have s1 : sm (k + 1) (fun k => if bO m k = true then wt N k else 0) = sm k (fun k => if bO m k = true then wt N k else 0) + (if bO m k = true then wt N k else 0) := rfl
    have s2 : sm (k + 1) (fun k => if bO m k = true then wt N k * g k else 0) = sm k (fun k => if bO m k = true then wt N k * g k else 0) + (if bO m k = true then wt N k * g k else 0) := rfl
    have hw := wt_bd N k
    have ih' := ih () trivial
    rw [s1, s2] at ih'
    generalize sm k (fun k => if bO m k = true then wt N k else 0) = x at *
    generalize sm k (fun k => if bO m k = true then wt N k * g k else 0) = y at *
    unfold bX8_isLevel_17
    rw [hl.1, bit_c hm (by omega)]
    refine ⟨fun g => by omega, fun _ => ⟨fun e => ?_, fun e => ?_⟩⟩
    · rw [if_neg e, if_neg e] at ih'
      unfold bX8_isLevel_41
      refine ⟨fun _ => ?_, fun q => absurd rfl q⟩
      unfold bX8_isLevel_69
      rw [w_1 hk (by omega), mm_wl_id (z := c + y + 0) (by omega) (by omega), mm_wl_id (z := x + 0) (by omega) (by omega)]
      refine ⟨fun _ => ?_, fun q => absurd rfl q⟩
      rw [Int.add_assoc]; exact ih'
    · rw [if_pos e, if_pos e] at ih'
      unfold bX8_isLevel_41
      refine ⟨fun q => by omega, fun _ => q8_weight hL hk hl ⟨by omega, ?_⟩⟩
      unfold bX8_isLevel_69
      refine ⟨fun q => by omega, fun _ => q8_weight hL hk hl ?_⟩
      rw [Int.toNat_natCast, hg k hk, w_1 hk (by omega)]
      generalize wt N k * g k = t at *
      rw [mm_wl_id (z := t) (by omega) (by omega), mm_wl_id (z := c + y + t) (by omega) (by omega), mm_wl_id (z := x + wt N k) (by omega) (by omega), Int.add_assoc]
      exact ih'
