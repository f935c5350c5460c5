/-! calls that change lanes and the page -/
section S59
variable {T L X : mm_M} {tk : Nat → Nat} {C M : mm_M} {Q : Int → mm_M → Prop} {hh : Int}
theorem wI.lq {L' : mm_M} (hw : wI T tk L X) (h : wfL L') : wI T tk L' X := ⟨hw.1, hw.2.1, hw.2.2.1, h, hw.2.2.2.2⟩
theorem wI.xq {X' : mm_M} (hw : wI T tk L X) (h1 : 0 ≤ X' 0 23 ∧ X' 0 23 ≤ 92) (h2 : X' 0 17 = X 0 17) (h3 : ∀ k : Nat, (k : Int) < X' 0 23 → 32 ≤ X' 14 k ∧ X' 14 k ≤ 126) : wI T tk L X' := ⟨hw.1, hw.2.1, hw.2.2.1, hw.2.2.2.1, h1, by rw [h2]; exact hw.2.2.2.2.2.1, h3⟩
theorem Ln_up {q k : Nat} {v : Int} (h : ¬ (q = 0 ∧ k = 18)) : Ln (mm_up L q k v) = Ln L := by
  unfold Ln; rw [up_n (by omega)]
theorem z_clear (hi : Inv C M) : mX7_clear C (fun r C' => mX8_clear M (fun r' M' => r = r' ∧ Inv C' M')) := by
  obtain ⟨T, tk, L, X, hw, hc, hm⟩ := hi
  have e18 : M 0 18 = L 0 18 := lj_r hm.2.1 (by decide)
  have hl := hc.2.2.2.1
  have hL := hw.2.2.2.1
  have e0 : Ln (mm_up L 0 18 0) = 0 := by unfold Ln; rw [up_s]; rfl
  refine ⟨by rw [e18]; exact hl.1, T, tk, mm_up L 0 18 0, X, hw.lq ⟨by rw [up_s]; omega, fun k hk => by omega, by rw [up_n (by omega)]; exact hL.2.2.1, by rw [up_n (by omega)]; exact hL.2.2.2⟩, hc.fl hw.1 (fun q k a => (up_n (by omega)).trans (up_n (by omega))) ⟨?_, ?_, ?_, fun k hk => by omega⟩ (fun e => absurd (up_s _ _ _ _) e), hm.l (by decide) _⟩
  · rw [up_n (by omega), up_s, up_s]
  · rw [up_n (by omega), up_n (by omega), up_n (by omega)]; exact hl.2.1
  · rw [up_n (by omega), up_n (by omega), up_n (by omega)]; exact hl.2.2.1
theorem z_stream (hi : Inv C M) (v : Int) : mX7_stream v C (fun r C' => mX8_stream v M (fun r' M' => r = r' ∧ Inv C' M')) := by
  obtain ⟨T, tk, L, X, hw, hc, hm⟩ := hi
  have e18 : M 0 21 = L 0 21 := lj_r hm.2.1 (by decide)
  have hl := hc.2.2.2.1
  have hL := hw.2.2.2.1
  unfold mX7_stream
  refine q7_within (fun g1 g2 => cy1 ?_) (fun g => cn0 ?_)
  · unfold mX8_stream
    refine q8_within (fun _ _ => cy1 ?_) (fun g => by omega)
    have e0 : Ln (mm_up L 0 21 v) = Ln L := Ln_up (by omega)
    have ew : ∀ k, wt (mm_up L 0 21 v) k = wt L k := fun k => by unfold wt; rw [up_n (by omega)]
    refine ⟨by rw [e18]; exact hl.2.1, T, tk, mm_up L 0 21 v, X, hw.lq ⟨by rw [up_n (by omega)]; exact hL.1, fun k hk => ?_, by rw [up_s]; omega, by rw [up_n (by omega)]; exact hL.2.2.2⟩, hc.fl hw.1 (fun q k a => (up_n (by omega)).trans (up_n (by omega))) ⟨?_, ?_, ?_, fun k hk => ?_⟩ (fun e => absurd (up_s _ _ _ _) e), hm.l (by decide) _⟩
    · rw [up_n (by omega), up_n (by omega)]; exact hL.2.1 k (by rw [e0] at hk; exact hk)
    · rw [up_n (by omega), up_n (by omega), up_n (by omega)]; exact hl.1
    · rw [up_n (by omega), up_s, up_s]
    · rw [up_n (by omega), up_n (by omega), up_n (by omega)]; exact hl.2.2.1
    · rw [ew, up_n (by omega), up_n (by omega), up_n (by omega), up_n (by omega), up_n (by omega), up_n (by omega), up_n (by omega), up_n (by omega)]; exact hl.2.2.2 k (by rw [e0] at hk; exact hk)
  · unfold mX8_stream
    exact q8_within (fun _ _ => by omega) (fun _ => cn0 ⟨rfl, T, tk, L, X, hw, hc, hm⟩)
theorem z_share (hi : Inv C M) (v : Int) : mX7_share v C (fun r C' => mX8_share v M (fun r' M' => r = r' ∧ Inv C' M')) := by
  obtain ⟨T, tk, L, X, hw, hc, hm⟩ := hi
  have e18 : M 0 22 = L 0 22 := lj_r hm.2.1 (by decide)
  have hl := hc.2.2.2.1
  have hL := hw.2.2.2.1
  unfold mX7_share
  refine q7_within (fun g1 g2 => cy1 ?_) (fun g => cn0 ?_)
  · unfold mX8_share
    refine q8_within (fun _ _ => cy1 ?_) (fun g => by omega)
    have e0 : Ln (mm_up L 0 22 v) = Ln L := Ln_up (by omega)
    have ew : ∀ k, wt (mm_up L 0 22 v) k = wt L k := fun k => by unfold wt; rw [up_n (by omega)]
    refine ⟨by rw [e18]; exact hl.2.2.1, T, tk, mm_up L 0 22 v, X, hw.lq ⟨by rw [up_n (by omega)]; exact hL.1, fun k hk => ?_, by rw [up_n (by omega)]; exact hL.2.2.1, by rw [up_s]; omega⟩, hc.fl hw.1 (fun q k a => (up_n (by omega)).trans (up_n (by omega))) ⟨?_, ?_, ?_, fun k hk => ?_⟩ (fun e => absurd (up_s _ _ _ _) e), hm.l (by decide) _⟩
    · rw [up_n (by omega), up_n (by omega)]; exact hL.2.1 k (by rw [e0] at hk; exact hk)
    · rw [up_n (by omega), up_n (by omega), up_n (by omega)]; exact hl.1
    · rw [up_n (by omega), up_n (by omega), up_n (by omega)]; exact hl.2.1
    · rw [up_n (by omega), up_s, up_s]
    · rw [ew, up_n (by omega), up_n (by omega), up_n (by omega), up_n (by omega), up_n (by omega), up_n (by omega), up_n (by omega), up_n (by omega)]; exact hl.2.2.2 k (by rw [e0] at hk; exact hk)
  · unfold mX8_share
    exact q8_within (fun _ _ => by omega) (fun _ => cn0 ⟨rfl, T, tk, L, X, hw, hc, hm⟩)
def ladd (L : mm_M) (a b : Int) : mm_M := mm_up (mm_up (mm_up L 12 (Ln L) a) 13 (Ln L) b) 0 18 ((Ln L + 1 : Nat) : Int)
theorem ladd_n {a b : Int} : Ln (ladd L a b) = Ln L + 1 := by
  unfold Ln ladd; rw [up_s]; rfl
theorem ladd_wf (hL : wfL L) (hn : Ln L < 5) {a b : Int} (ha : 0 ≤ a ∧ a ≤ 20) (hb : b = 1 ∨ b = 2 ∨ b = 4) : wfL (ladd L a b) := by
  have hl := wfL_n hL
  refine ⟨?_, fun k hk => ?_, ?_, ?_⟩
  · unfold ladd; rw [up_s]; omega
  · rw [ladd_n] at hk
    unfold ladd
    by_cases e : k = Ln L
    · subst e
      rw [up_n (by omega), up_n (by omega), up_s, up_n (by omega), up_s]
      exact ⟨ha, hb⟩
    · rw [up_n (by omega), up_n (by omega), up_n (by omega), up_n (by omega), up_n (by omega), up_n (by omega)]
      exact hL.2.1 k (by omega)
  · unfold ladd; rw [up_n (by omega), up_n (by omega), up_n (by omega)]; exact hL.2.2.1
  · unfold ladd; rw [up_n (by omega), up_n (by omega), up_n (by omega)]; exact hL.2.2.2
theorem q1_add (hL : wfL L) (hn : Ln L < 5) {a b : Int} (hb : b = 1 ∨ b = 2 ∨ b = 4) (hl : lC C L) {Q : mm_M → Prop} (h : ∀ C', (∀ q k, q < 125 → C' q k = C q k) → C' 125 6 = 0 → lC C' (ladd L a b) → Q C') : mX1_add a b C Q := by
  have hN := wfL_n hL
  have e3 : C 125 3 = ((Ln L : Nat) : Int) := by rw [hl.1]; exact hN.1.symm
  have key : ∀ w : Int, (b = 1 → w = 4) → (b = 2 → w = 2) → (b = 4 → w = 1) → Q (mm_up (mm_up (mm_up (mm_up (mm_up C 126 (Ln L) a) 127 (Ln L) b) 128 (Ln L) w) 125 3 ((Ln L + 1 : Nat) : Int)) 125 6 0) := fun w w1 w2 w4 => by
    refine h _ (fun q k g => (up_n (by omega)).trans ((up_n (by omega)).trans ((up_n (by omega)).trans ((up_n (by omega)).trans (up_n (by omega)))))) (up_s _ _ _ _) ⟨?_, ?_, ?_, fun k hk => ?_⟩
    · unfold ladd; rw [up_n (by omega), up_s, up_s]
    · unfold ladd; rw [up_n (by omega), up_n (by omega), up_n (by omega), up_n (by omega), up_n (by omega), up_n (by omega), up_n (by omega), up_n (by omega)]; exact hl.2.1
    · unfold ladd; rw [up_n (by omega), up_n (by omega), up_n (by omega), up_n (by omega), up_n (by omega), up_n (by omega), up_n (by omega), up_n (by omega)]; exact hl.2.2.1
    · rw [ladd_n] at hk
      by_cases e : k = Ln L
      · subst e
        refine ⟨?_, ?_, ?_⟩
        · unfold ladd; rw [up_n (by omega), up_n (by omega), up_n (by omega), up_n (by omega), up_s, up_n (by omega), up_n (by omega), up_s]
        · unfold ladd; rw [up_n (by omega), up_n (by omega), up_n (by omega), up_s, up_n (by omega), up_s]
        · unfold ladd wt; rw [up_n (by omega), up_n (by omega), up_s, up_n (by omega), up_s]
          rcases hb with e | e | e
          · rw [if_pos e]; exact w1 e
          · rw [if_neg (by omega), if_pos e]; exact w2 e
          · rw [if_neg (by omega), if_neg (by omega)]; exact w4 e
      · obtain ⟨l1, l2, l3⟩ := hl.2.2.2 k (by omega)
        refine ⟨?_, ?_, ?_⟩
        · unfold ladd; rw [up_n (by omega), up_n (by omega), up_n (by omega), up_n (by omega), up_n (by omega), up_n (by omega), up_n (by omega), up_n (by omega)]; exact l1
        · unfold ladd; rw [up_n (by omega), up_n (by omega), up_n (by omega), up_n (by omega), up_n (by omega), up_n (by omega), up_n (by omega), up_n (by omega)]; exact l2
        · have ew : wt (ladd L a b) k = wt L k := by unfold wt ladd; rw [up_n (by omega), up_n (by omega), up_n (by omega)]
          rw [ew, up_n (by omega), up_n (by omega), up_n (by omega), up_n (by omega), up_n (by omega)]; exact l3
  have u1 : ∀ (k : Nat) (z : Int), mm_up C 126 k z 125 3 = ((Ln L : Nat) : Int) := fun k z => (up_n (by omega)).trans e3
  have u2 : ∀ (k k2 : Nat) (z z2 : Int), mm_up (mm_up C 126 k z) 127 k2 z2 125 3 = ((Ln L : Nat) : Int) := fun k k2 z z2 => (up_n (by omega)).trans (u1 k z)
  have u3 : ∀ (k k2 k3 : Nat) (z z2 z3 : Int), mm_up (mm_up (mm_up C 126 k z) 127 k2 z2) 128 k3 z3 125 3 = ((Ln L : Nat) : Int) := fun k k2 k3 z z2 z3 => (up_n (by omega)).trans (u2 k k2 z z2)
  unfold mX1_add
  simp only [u3, u2, u1, e3, Int.toNat_natCast]
  rw [mm_w_id (z := ((Ln L : Nat) : Int) + 1) (by omega) (by omega), show ((Ln L : Nat) : Int) + 1 = ((Ln L + 1 : Nat) : Int) by omega]
  exact ⟨by omega, by omega, fun g => ⟨fun g2 => ⟨by omega, key 1 (by omega) (by omega) (by omega)⟩, fun g2 => ⟨by omega, key 2 (by omega) (by omega) (by omega)⟩⟩, fun g => ⟨by omega, key 4 (by omega) (by omega) (by omega)⟩⟩
theorem z_lane28 (hw : wI T tk L X) (hc : cI C T tk L X) (hm : mI M T tk L X) {a b : Int} (ha : 0 ≤ a ∧ a ≤ 20) (hb : b = 1 ∨ b = 2 ∨ b = 4) : bX7_lane_28 a b C (fun r C' => bX8_lane_28 a b M (fun r' M' => r = r' ∧ Inv C' M')) := by
  have hL := hw.2.2.2.1
  have hN := wfL_n hL
  have e3 : C 125 3 = ((Ln L : Nat) : Int) := by rw [hc.2.2.2.1.1]; exact hN.1.symm
  have e18 : M 0 18 = ((Ln L : Nat) : Int) := by rw [lj_r hm.2.1 (by decide)]; exact hN.1.symm
  unfold bX7_lane_28
  refine ⟨fun g => q1_add hL (by omega) hb hc.2.2.2.1 (fun C1 o1 o2 o3 => ?_), fun g => ?_⟩
  · have u1 : ∀ (k : Nat) (z : Int), mm_up M 12 k z 0 18 = ((Ln L : Nat) : Int) := fun k z => (up_n (by omega)).trans e18
    have u2 : ∀ (k k2 : Nat) (z z2 : Int), mm_up (mm_up M 12 k z) 13 k2 z2 0 18 = ((Ln L : Nat) : Int) := fun k k2 z z2 => (up_n (by omega)).trans (u1 k z)
    unfold bX8_lane_28
    simp only [u2, u1, e18, Int.toNat_natCast, up_s]
    rw [o3.1, mm_w_id (z := ((Ln L : Nat) : Int) + 1) (by omega) (by omega), show ((Ln L : Nat) : Int) + 1 = ((Ln L + 1 : Nat) : Int) by omega]
    refine ⟨fun _ => ⟨by omega, by omega, ?_, T, tk, ladd L a b, X, hw.lq (ladd_wf hL (by omega) ha hb), hc.fl hw.1 o1 o3 (fun e => absurd o2 e), ((hm.l (by omega) _).l (by omega) _).l (by omega) _⟩, fun e => by omega⟩
    unfold ladd; rw [up_s]
  · unfold bX8_lane_28
    exact ⟨fun e => by omega, fun e => ⟨rfl, T, tk, L, X, hw, hc, hm⟩⟩
theorem z_lane (hi : Inv C M) (a b : Int) : mX7_lane a b C (fun r C' => mX8_lane a b M (fun r' M' => r = r' ∧ Inv C' M')) := by
  obtain ⟨T, tk, L, X, hw, hc, hm⟩ := hi
  have hi : Inv C M := ⟨T, tk, L, X, hw, hc, hm⟩
  have hM : ∀ C' r, 0 ≤ a ∧ a ≤ 20 → (b = 1 ∨ b = 2 ∨ b = 4) → bX8_lane_28 a b M (fun r' M' => r = r' ∧ Inv C' M') → mX8_lane a b M (fun r' M' => r = r' ∧ Inv C' M') := fun C' r ha hb h => by
    unfold mX8_lane
    exact q8_within (fun _ _ => dy1 ⟨fun _ => h, fun _ => ⟨fun _ => h, fun _ => ⟨fun _ => h, fun _ => by omega⟩⟩⟩) (fun g => by omega)
  have hM0 : ¬ ((0 ≤ a ∧ a ≤ 20) ∧ (b = 1 ∨ b = 2 ∨ b = 4)) → mX8_lane a b M (fun r' M' => -102 = r' ∧ Inv C M') := fun h => by
    unfold mX8_lane
    exact q8_within (fun _ _ => dy1 ⟨fun _ => by omega, fun _ => ⟨fun _ => by omega, fun _ => ⟨fun _ => by omega, fun _ => ⟨rfl, hi⟩⟩⟩⟩) (fun g => dn0 ⟨rfl, hi⟩)
  by_cases h : (0 ≤ a ∧ a ≤ 20) ∧ (b = 1 ∨ b = 2 ∨ b = 4)
  · have h28 : bX7_lane_28 a b C (fun r C' => mX8_lane a b M (fun r' M' => r = r' ∧ Inv C' M')) := by
      have h1 := z_lane28 hw hc hm h.1 h.2
      have hL := hw.2.2.2.1
      unfold bX7_lane_28 at h1 ⊢
      refine ⟨fun g => q1_add hL (by have := hc.2.2.2.1.1; have := wfL_n hL; omega) h.2 hc.2.2.2.1 (fun C1 o1 o2 o3 => ?_), fun g => hM _ _ h.1 h.2 (h1.2 g)⟩
      refine hM _ _ h.1 h.2 ?_
      have hN := wfL_n hL
      have e3 : C 125 3 = ((Ln L : Nat) : Int) := by rw [hc.2.2.2.1.1]; exact hN.1.symm
      have e18 : M 0 18 = ((Ln L : Nat) : Int) := by rw [lj_r hm.2.1 (by decide)]; exact hN.1.symm
      have u1 : ∀ (k : Nat) (z : Int), mm_up M 12 k z 0 18 = ((Ln L : Nat) : Int) := fun k z => (up_n (by omega)).trans e18
      have u2 : ∀ (k k2 : Nat) (z z2 : Int), mm_up (mm_up M 12 k z) 13 k2 z2 0 18 = ((Ln L : Nat) : Int) := fun k k2 z z2 => (up_n (by omega)).trans (u1 k z)
      unfold bX8_lane_28
      simp only [u2, u1, e18, Int.toNat_natCast, up_s]
      rw [o3.1, mm_w_id (z := ((Ln L : Nat) : Int) + 1) (by omega) (by omega), show ((Ln L : Nat) : Int) + 1 = ((Ln L + 1 : Nat) : Int) by omega]
      refine ⟨fun _ => ⟨by omega, by omega, ?_, T, tk, ladd L a b, X, hw.lq (ladd_wf hL (by omega) h.1 h.2), hc.fl hw.1 o1 o3 (fun e => absurd o2 e), ((hm.l (by omega) _).l (by omega) _).l (by omega) _⟩, fun e => by omega⟩
      unfold ladd; rw [up_s]
    unfold mX7_lane
    exact q7_within (fun _ _ => dy1 ⟨fun _ => h28, fun _ => ⟨fun _ => h28, fun _ => ⟨fun _ => h28, fun _ => by omega⟩⟩⟩) (fun g => by omega)
  · unfold mX7_lane
    exact q7_within (fun _ _ => dy1 ⟨fun _ => by omega, fun _ => ⟨fun _ => by omega, fun _ => ⟨fun _ => by omega, fun _ => hM0 h⟩⟩⟩) (fun g => dn0 (hM0 h))
theorem z_blank (hi : Inv C M) : mX7_blank C (fun r C' => mX8_blank M (fun r' M' => r = r' ∧ Inv C' M')) := by
  obtain ⟨T, tk, L, X, hw, hc, hm⟩ := hi
  have e23 : M 0 23 = X 0 23 := xj_r hm.2.2 (by decide)
  have hx := hc.2.2.2.2.2
  refine ⟨by rw [e23]; exact hx.1, T, tk, L, mm_up X 0 23 0, hw.xq (by rw [up_s]; omega) (up_n (by omega)) (fun k hk => by rw [up_s] at hk; omega), hc.fr hw.1 (fun q k a => up_n (by omega)) ⟨by rw [up_s, up_s], fun k hk => by rw [up_s] at hk; omega, ?_, ?_, ?_⟩, hm.x (by decide) _⟩
  · rw [up_n (by omega), up_n (by omega)]; exact hx.2.2.1
  · rw [up_n (by omega), up_n (by omega)]; exact hx.2.2.2.1
  · rw [up_n (by omega), up_n (by omega)]; exact hx.2.2.2.2
theorem z_letter (hi : Inv C M) (v : Int) : mX7_letter v C (fun r C' => mX8_letter v M (fun r' M' => r = r' ∧ Inv C' M')) := by
  obtain ⟨T, tk, L, X, hw, hc, hm⟩ := hi
  have hX := hw.2.2.2.2.1
  have hx := hc.2.2.2.2.2
  obtain ⟨n, hn⟩ : ∃ n : Nat, X 0 23 = n := ⟨(X 0 23).toNat, by omega⟩
  have e23 : M 0 23 = n := (xj_r hm.2.2 (by decide)).trans hn
  have e11 : C 1 1 = n := hx.1.trans hn
  unfold mX7_letter
  refine q7_within (fun g1 g2 => cy1 ⟨fun g => ⟨by omega, ?_⟩, fun g => ?_⟩) (fun g => cn0 ?_)
  · have u1 : ∀ (k : Nat) (z : Int), mm_up C 2 k z 1 1 = n := fun k z => (up_n (by omega)).trans e11
    simp only [u1, e11, Int.toNat_natCast, up_s]
    unfold mX8_letter
    refine q8_within (fun _ _ => cy1 ⟨fun _ => ⟨by omega, ?_⟩, fun e => by omega⟩) (fun g => by omega)
    have v1 : ∀ (k : Nat) (z : Int), mm_up M 14 k z 0 23 = n := fun k z => (up_n (by omega)).trans e23
    simp only [v1, e23, Int.toNat_natCast, up_s]
    rw [mm_w_id (z := (n : Int) + 1) (by omega) (by omega)]
    refine ⟨trivial, T, tk, L, mm_up (mm_up X 14 n v) 0 23 ((n : Int) + 1), hw.xq (by rw [up_s]; omega) ((up_n (by omega)).trans (up_n (by omega))) (fun k hk => ?_), hc.fr hw.1 (fun q k a => (up_n (by omega)).trans (up_n (by omega))) ⟨by rw [up_s, up_s], fun k hk => ?_, ?_, ?_, ?_⟩, (hm.x (by omega) _).x (by decide) _⟩
    · rw [up_s] at hk
      rw [up_n (by omega)]
      by_cases e : k = n
      · subst e; rw [up_s]; omega
      · rw [up_n (by omega)]; exact hw.2.2.2.2.2.2 k (by omega)
    · rw [up_s] at hk
      by_cases e : k = n
      · subst e; rw [up_n (by omega), up_s, up_n (by omega), up_s]
      · rw [up_n (by omega), up_n (by omega), up_n (by omega), up_n (by omega)]; exact hx.2.1 k (by omega)
    · rw [up_n (by omega), up_n (by omega), up_n (by omega), up_n (by omega)]; exact hx.2.2.1
    · rw [up_n (by omega), up_n (by omega), up_n (by omega), up_n (by omega)]; exact hx.2.2.2.1
    · rw [up_n (by omega), up_n (by omega), up_n (by omega), up_n (by omega)]; exact hx.2.2.2.2
  · unfold mX8_letter
    exact q8_within (fun _ _ => cy1 ⟨fun e => by omega, fun e => ⟨rfl, T, tk, L, X, hw, hc, hm⟩⟩) (fun g => by omega)
  · unfold mX8_letter
    exact q8_within (fun _ _ => by omega) (fun _ => cn0 ⟨rfl, T, tk, L, X, hw, hc, hm⟩)
end S59
