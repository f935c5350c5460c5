/-! calls on lanes -/
theorem fr_eq {a b a' b' : Nat} (hb : 0 < b) (hb' : 0 < b') (h : a * b' = a' * b) : frA a b = frA a' b' ∧ frB a b = frB a' b' := by
  unfold frA frB
  rw [if_neg (by omega), if_neg (by omega), if_neg (by omega), if_neg (by omega)]
  have g1 : Nat.gcd a b * b' = Nat.gcd a' b' * b := by
    rw [← Nat.gcd_mul_right a b' b, ← Nat.gcd_mul_right a' b b', h, Nat.mul_comm b b']
  have p1 : 0 < Nat.gcd a b := Nat.gcd_pos_of_pos_right _ hb
  have p2 : 0 < Nat.gcd a' b' := Nat.gcd_pos_of_pos_right _ hb'
  obtain ⟨x, hx⟩ := Nat.gcd_dvd_left a b
  obtain ⟨y, hy⟩ := Nat.gcd_dvd_right a b
  obtain ⟨x', hx'⟩ := Nat.gcd_dvd_left a' b'
  obtain ⟨y', hy'⟩ := Nat.gcd_dvd_right a' b'
  generalize Nat.gcd a b = g at *
  generalize Nat.gcd a' b' = g' at *
  subst hx hy hx' hy'
  rw [Nat.mul_div_cancel_left _ p1, Nat.mul_div_cancel_left _ p2, Nat.mul_div_cancel_left _ p1, Nat.mul_div_cancel_left _ p2]
  have hp : 0 < g * g' := Nat.mul_pos p1 p2
  have e1 : y' = y := by
    apply Nat.eq_of_mul_eq_mul_left hp
    rw [Nat.mul_assoc, g1, Nat.mul_comm g' (g * y), Nat.mul_assoc, Nat.mul_comm y g', ← Nat.mul_assoc]
  subst e1
  have hy0 : 0 < y' := Nat.pos_of_mul_pos_left hb
  refine ⟨?_, rfl⟩
  apply Nat.eq_of_mul_eq_mul_left (Nat.mul_pos hp hy0)
  have e2 : g * g' * y' * x = g * x * (g' * y') := by
    rw [Nat.mul_assoc, Nat.mul_assoc, Nat.mul_assoc, Nat.mul_comm y' x, ← Nat.mul_assoc g' x y', Nat.mul_comm g' x, Nat.mul_assoc x g' y']
  have e3 : g * g' * y' * x' = g' * x' * (g * y') := by
    rw [Nat.mul_comm g g', Nat.mul_assoc, Nat.mul_assoc, Nat.mul_assoc, Nat.mul_comm y' x', ← Nat.mul_assoc g x' y', Nat.mul_comm g x', Nat.mul_assoc x' g y']
  rw [e2, e3, h]
theorem pr_eq {a b a' b' w : Int} (ha : 0 ≤ a) (ha' : 0 ≤ a') (hb : 0 < b) (hb' : 0 < b') (h : a * b' = a' * b) : pr a b w = pr a' b' w := by
  obtain ⟨x, rfl⟩ : ∃ x : Nat, a = x := ⟨a.toNat, by omega⟩
  obtain ⟨y, rfl⟩ : ∃ x : Nat, b = x := ⟨b.toNat, by omega⟩
  obtain ⟨x', rfl⟩ : ∃ x : Nat, a' = x := ⟨a'.toNat, by omega⟩
  obtain ⟨y', rfl⟩ : ∃ x : Nat, b' = x := ⟨b'.toNat, by omega⟩
  have h2 : x * y' = x' * y := by
    rw [← Int.natCast_mul, ← Int.natCast_mul] at h
    exact Int.ofNat.inj h
  obtain ⟨e1, e2⟩ := fr_eq (by omega) (by omega) h2
  unfold pr
  rw [Int.toNat_natCast, Int.toNat_natCast, Int.toNat_natCast, Int.toNat_natCast, e1, e2]
theorem q7_lowI {a b w : Int} (ha : 0 ≤ a ∧ a < 1099511627776) (hb : 0 < b ∧ b < 1099511627776) {M : mm_M} {Q : Int → mm_M → Prop} (h : Q (pr a b w) M) : (¬ w = 0 → mX7_lowestBelow a b M Q) ∧ (w = 0 → mX7_lowestAbove a b M Q) := by
  obtain ⟨x, rfl⟩ : ∃ x : Nat, a = x := ⟨a.toNat, by omega⟩
  obtain ⟨y, rfl⟩ : ∃ x : Nat, b = x := ⟨b.toNat, by omega⟩
  unfold pr at h
  rw [Int.toNat_natCast, Int.toNat_natCast] at h
  refine ⟨fun g => q7_lowB (by omega) (by omega) ?_, fun g => q7_lowA (by omega) (by omega) ?_⟩
  · rw [if_neg g] at h; exact h
  · rw [if_pos g] at h; exact h
def flK (L : mm_M) (z : Int) (P : Int) (x : Nat → Int) : Prop := if z = 0 then (∃ V W, isEv L V W P x) else if z = 1 then isWi L P x else if z = 2 then isLd L P x else isLe L P x
theorem flK_b {L : mm_M} (hL : wfL L) {z P : Int} {x : Nat → Int} (h : flK L z P x) : flB L P x := by
  unfold flK at h
  split at h
  · obtain ⟨V, W, h⟩ := h; exact ev_b hL h
  · split at h
    · exact wi_b hL h
    · split at h
      · exact ld_b hL h
      · exact le_b hL h
theorem flK_p {L : mm_M} (hL : wfL L) {z P P' : Int} {x x' : Nat → Int} (h : flK L z P x) (h' : flK L z P' x') : prp L P x P' x' := by
  unfold flK at h h'
  split at h
  · rename_i e; rw [if_pos e] at h'
    obtain ⟨V, W, h⟩ := h; obtain ⟨V', W', h'⟩ := h'; exact (ev_p hL h h').2
  · rename_i e; rw [if_neg e] at h'
    split at h
    · rename_i e; rw [if_pos e] at h'; exact wi_p hL h h'
    · rename_i e; rw [if_neg e] at h'
      split at h
      · rename_i e; rw [if_pos e] at h'; exact ld_p hL h h'
      · rename_i e; rw [if_neg e] at h'; exact le_p hL h h'
noncomputable def v_flow (L : mm_M) (z : Int) (n : Nat) (w : Int) : Int := the (fun r => ∃ P x, flK L z P x ∧ r = pr (x n) P w)
noncomputable def v_level (L : mm_M) (w : Int) : Int := the (fun r => ∃ V W P x, isEv L V W P x ∧ r = pr V W w)
noncomputable def v_total (L : mm_M) (z : Int) : Int := the (fun r => ∃ P x, flK L z P x ∧ r = tot L P x)
theorem v_flow_eq {L : mm_M} (hL : wfL L) {z P w : Int} {x : Nat → Int} (h : flK L z P x) {n : Nat} (hn : n < Ln L) : pr (x n) P w = v_flow L z n w :=
  the_eq (p := fun r => ∃ P x, flK L z P x ∧ r = pr (x n) P w) ⟨P, x, h, rfl⟩ (fun a b ha hb => by
    obtain ⟨P1, x1, h1, rfl⟩ := ha
    obtain ⟨P2, x2, h2, rfl⟩ := hb
    have b1 := flK_b hL h1
    have b2 := flK_b hL h2
    exact pr_eq (b1.2 n hn).1 (b2.2 n hn).1 (by have := b1.1; omega) (by have := b2.1; omega) (flK_p hL h1 h2 n hn))
theorem v_level_eq {L : mm_M} (hL : wfL L) {V W P w : Int} {x : Nat → Int} (h : isEv L V W P x) : pr V W w = v_level L w :=
  the_eq (p := fun r => ∃ V W P x, isEv L V W P x ∧ r = pr V W w) ⟨V, W, P, x, h, rfl⟩ (fun a b ha hb => by
    obtain ⟨V1, W1, P1, x1, h1, rfl⟩ := ha
    obtain ⟨V2, W2, P2, x2, h2, rfl⟩ := hb
    exact pr_eq h1.2.1.1 h2.2.1.1 (by have := h1.1.1; omega) (by have := h2.1.1; omega) (ev_p hL h1 h2).1)
theorem v_total_eq {L : mm_M} (hL : wfL L) {z P : Int} {x : Nat → Int} (h : flK L z P x) : tot L P x = v_total L z :=
  the_eq (p := fun r => ∃ P x, flK L z P x ∧ r = tot L P x) ⟨P, x, h, rfl⟩ (fun a b ha hb => by
    obtain ⟨P1, x1, h1, rfl⟩ := ha
    obtain ⟨P2, x2, h2, rfl⟩ := hb
    have b1 := flK_b hL h1
    have b2 := flK_b hL h2
    exact tot_p (by have := b1.1; omega) (by have := b2.1; omega) (flK_p hL h1 h2))
theorem kD_fl {C L : mm_M} (h : kD C L) {k : Nat} (hk : k < 4) : flK L k (C 129 k) (C (133 + k)) := by
  obtain ⟨h1, h2, h3, h4⟩ := h
  match k, hk with
  | 0, _ => exact ⟨_, _, h1⟩
  | 1, _ => exact h2
  | 2, _ => exact h3
  | 3, _ => exact h4
theorem ak_133 : ∀ k, k < 4 → mm_ak lay_c (133 + k) = (1, 5) := by decide
theorem mul_n {a b : Int} (ha : 0 ≤ a) (hb : 0 ≤ b) : 0 ≤ a * b := Int.mul_nonneg ha hb
/-- the step of a total, without overflow -/
theorem tot_s {L : mm_M} (hL : wfL L) {P : Int} {x : Nat → Int} (hb : flB L P x) {k : Nat} (hk : k < Ln L) : mm_wl (sto L P x k + mm_wl (x k * mm_wl (mm_wl (L 12 k * P) + mm_wl (L 13 k * x k)))) = sto L P x (k + 1) := by
  obtain ⟨t1, t2, t3, -⟩ := sto_t hL hb hk
  obtain ⟨⟨s1, s2⟩, -⟩ := sto_bd hL hb (Nat.le_of_lt hk)
  rw [mm_wl_id (z := L 12 k * P) (by omega) (by omega), mm_wl_id (z := L 13 k * x k) (by omega) (by omega), mm_wl_id (z := L 12 k * P + L 13 k * x k) (by omega) (by omega), mm_wl_id (z := x k * (L 12 k * P + L 13 k * x k)) (by omega) (by omega), mm_wl_id (by omega) (by omega)]
  rfl
theorem tot_e {L : mm_M} (hL : wfL L) {P : Int} {x : Nat → Int} (hb : flB L P x) : mm_wl (P * P) ≠ 0 ∧ mm_divl (mm_wl (1000 * sto L P x (Ln L))) (mm_wl (P * P)) = tot L P x := by
  obtain ⟨⟨s1, s2⟩, -⟩ := sto_bd hL hb (Nat.le_refl _)
  have t := tot_bd hL hb
  have h1 := hb.1
  have hP : 1 ≤ P * P ∧ P * P ≤ 16384000000 := by
    have a1 : 1 * 1 ≤ P * P := Int.mul_le_mul h1.1 h1.1 (by omega) (by omega)
    have a2 : P * P ≤ 128000 * 128000 := Int.mul_le_mul h1.2 h1.2 (by omega) (by omega)
    omega
  rw [mm_wl_id (z := P * P) (by omega) (by omega), mm_wl_id (z := 1000 * sto L P x (Ln L)) (by omega) (by omega)]
  refine ⟨by omega, ?_⟩
  unfold mm_divl
  rw [Int.tdiv_eq_ediv_of_nonneg (by omega)]
  unfold tot at t ⊢
  exact mm_wl_id (by omega) (by omega)
section S58
variable {T L X : mm_M} {tk : Nat → Nat} {C M : mm_M} {Q : Int → mm_M → Prop} {hh : Int}
theorem q7_flowV (hw : wI T tk L X) (hc : cI C T tk L X) {n : Nat} (hn : n < Ln L) {z w : Int} (hz : 0 ≤ z ∧ z ≤ 3) (hv : 0 ≤ w ∧ w ≤ 1) (h : ∀ C', cI C' T tk L X → Q (v_flow L z n w) C') : mX7_flow z n w C Q := by
  have hL := wfL_n hw.2.2.2.1
  obtain ⟨k, rfl⟩ : ∃ k : Nat, z = k := ⟨z.toNat, by omega⟩
  unfold mX7_flow
  rw [hc.2.2.2.1.1, mm_w_id (by omega) (by omega)]
  refine q7_within (fun _ _ => cy1 (q7_within (fun _ _ => dy1 (q7_within (fun _ _ => cy1 (q7_partAll hw (by omega) hc (fun C1 a b => ?_))) (fun g => by omega))) (fun g => by omega))) (fun g => by omega)
  have hf := kD_fl b (k := k) (by omega)
  have hb := flK_b hw.2.2.2.1 hf
  have hx := hb.2 n hn
  have hP := hb.1
  rw [Int.toNat_natCast, Int.toNat_natCast, ak_133 k (by omega)]
  refine ⟨by omega, mm_chk_i rfl ⟨⟨by omega, by show _ < (5 : Int); omega⟩, by omega, q7_lowI (by omega) (by omega) ?_⟩⟩
  rw [v_flow_eq hw.2.2.2.1 hf hn]
  exact h C1 a
def azM (z : Int) (M : mm_M) (n : Nat) : Int := if z = 0 then M 26 n else if z = 1 then M 27 n else if z = 2 then M 28 n else M 29 n
def bzM (z : Int) (M : mm_M) : Int := if z = 0 then M 0 49 else if z = 1 then M 0 51 else if z = 2 then M 0 53 else M 0 55
theorem q8_layFlow (hw : wI T tk L X) (hn1 : 1 ≤ Ln L) (hm : mJ M T tk L X hh) {z : Int} {Q : mm_M → Prop} (k : ∀ M', mJ M' T tk L X hh → flK L z (bzM z M') (azM z M') → Q M') : mX8_layFlow z M Q := by
  have hl := lj_lM hm.1.2.1
  have hL := hw.2.2.2.1
  unfold mX8_layFlow
  refine ⟨fun g g2 => q8_layLed hL hn1 hl (fun M1 a b c => k M1 (hm.oln a) ?_), fun g => q8_layEven hL hn1 hl (fun M1 V W a b _ _ => k M1 (hm.oln a) ?_), fun g => q8_layWise hL hn1 hl (fun M1 a b => k M1 (hm.oln a) ?_), trivial⟩
  · by_cases g3 : z = 2
    · subst g3; exact b
    · unfold flK bzM
      have e : azM z M1 = M1 29 := funext (fun n => by unfold azM; rw [if_neg g, if_neg g2, if_neg g3])
      rw [e, if_neg g, if_neg g2, if_neg g3, if_neg g, if_neg g2, if_neg g3]
      exact c
  · subst g; exact ⟨V, W, b⟩
  · subst g; exact b
theorem q8_amountOf {z : Int} {n : Nat} (hn : n < 5) (h : Q (azM z M n) M) : mX8_amountOf z n M Q := by
  unfold mX8_amountOf
  unfold azM at h
  rw [Int.toNat_natCast]
  refine ⟨fun g => ⟨fun g2 => ⟨fun g3 => ⟨by omega, ?_⟩, fun g3 => ⟨by omega, ?_⟩⟩, fun g2 => ⟨by omega, ?_⟩⟩, fun g => ⟨by omega, ?_⟩⟩
  · rw [if_neg g, if_neg g2, if_neg g3] at h; exact h
  · rw [if_neg g, if_neg g2, if_pos g3] at h; exact h
  · rw [if_neg g, if_pos g2] at h; exact h
  · rw [if_pos g] at h; exact h
theorem q8_belowOf {z : Int} (h : Q (bzM z M) M) : mX8_belowOf z M Q := by
  unfold mX8_belowOf
  unfold bzM at h
  refine ⟨fun g => ⟨fun g2 => ⟨fun g3 => ?_, fun g3 => ?_⟩, fun g2 => ?_⟩, fun g => ?_⟩
  · rw [if_neg g, if_neg g2, if_neg g3] at h; exact h
  · rw [if_neg g, if_neg g2, if_pos g3] at h; exact h
  · rw [if_neg g, if_pos g2] at h; exact h
  · rw [if_pos g] at h; exact h
theorem q8_flowV (hw : wI T tk L X) (hm : mJ M T tk L X hh) {n : Nat} (hn : n < Ln L) {z w : Int} (k : ∀ M', mJ M' T tk L X hh → Q (v_flow L z n w) M') : mX8_flowNow z n w M Q := by
  have hL := wfL_n hw.2.2.2.1
  unfold mX8_flowNow
  refine q8_layFlow hw (by omega) hm (fun M1 a b => q8_amountOf (by omega) (q8_belowOf ?_))
  have hb := flK_b hw.2.2.2.1 b
  have hx := hb.2 n hn
  have hP := hb.1
  refine q8_partI (by omega) (by omega) ?_
  rw [v_flow_eq hw.2.2.2.1 b hn]
  exact k M1 a
theorem q7_levelV (hw : wI T tk L X) (hc : cI C T tk L X) (hn : 1 ≤ Ln L) {w : Int} (hv : 0 ≤ w ∧ w ≤ 1) (h : ∀ C', cI C' T tk L X → Q (v_level L w) C') : mX7_level w C Q := by
  have hL := wfL_n hw.2.2.2.1
  unfold mX7_level
  have e3 := hc.2.2.2.1.1
  refine q7_within (fun _ _ => cy1 ⟨fun _ => q7_partAll hw (by omega) hc (fun C1 a b => ?_), fun g => by omega⟩) (fun g => by omega)
  have e := b.1
  have e1 := e.1.1
  have e2 := e.2.1
  refine q7_lowI (by omega) (by omega) ?_
  rw [v_level_eq hw.2.2.2.1 e]
  exact h C1 a
theorem q8_levelV (hw : wI T tk L X) (hm : mJ M T tk L X hh) (hn : 1 ≤ Ln L) {w : Int} (k : ∀ M', mJ M' T tk L X hh → Q (v_level L w) M') : mX8_levelNow w M Q := by
  unfold mX8_levelNow
  refine q8_layEven hw.2.2.2.1 hn (lj_lM hm.1.2.1) (fun M1 V W a b c d => ?_)
  have e1 := b.1.1
  have e2 := b.2.1
  rw [c, d]
  refine q8_partI (by omega) (by omega) ?_
  rw [v_level_eq hw.2.2.2.1 b]
  exact k M1 (hm.oln a)
theorem q7_thou (hL : wfL L) (hl : lC C L) (hk : kD C L) {z : Nat} (hz : z < 4) (h : Q (v_total L z) C) : mX1_thousandths z C Q := by
  have hn := wfL_n hL
  have hf := kD_fl hk hz
  have hb := flK_b hL hf
  have hP := hb.1
  unfold mX1_thousandths
  rw [Int.toNat_natCast]
  refine ⟨by omega, ?_⟩
  refine pk_loop (fun j (i : Nat) (_ : Unit) => bX1_thousandths_13 j z (C 129 z) (sto L (C 129 z) (C (133 + z)) i) i C Q) (fun _ _ => True) (Ln L) 0 () (Nat.zero_le _) trivial ?_ ?_
  · rintro j ⟨⟩ -
    unfold bX1_thousandths_13
    obtain ⟨e1, e2⟩ := tot_e hL hb
    rw [hl.1, e2, mm_cmp0, v_total_eq hL hf]
    exact ⟨fun _ => ⟨fun _ => ⟨e1, h⟩, fun e => by omega⟩, fun g => by omega⟩
  · rintro j i ⟨⟩ hi - ih
    unfold bX1_thousandths_13
    obtain ⟨l1, l2, -⟩ := hl.2.2.2 i hi
    rw [hl.1, Int.toNat_natCast, Int.toNat_natCast, l1, l2, ak_133 z hz, tot_s hL hb hi, w_1 hi (by omega)]
    exact ⟨fun g => by omega, fun _ => ⟨by omega, mm_chk_i rfl ⟨⟨by omega, by show _ < (5 : Int); omega⟩, by omega, by omega, ih () trivial⟩⟩⟩
theorem v_tot_bd (hL : wfL L) {z P : Int} {x : Nat → Int} (h : flK L z P x) : 0 ≤ v_total L z ∧ v_total L z ≤ 136000000 := by
  rw [← v_total_eq hL h]; exact tot_bd hL (flK_b hL h)
theorem q7_totalV (hw : wI T tk L X) (hc : cI C T tk L X) (hn : 1 ≤ Ln L) {z : Int} (hz : 0 ≤ z ∧ z ≤ 2) (h : ∀ C', cI C' T tk L X → Q (v_total L z) C') : mX7_total z C Q := by
  have hL := wfL_n hw.2.2.2.1
  obtain ⟨k, rfl⟩ : ∃ k : Nat, z = k := ⟨z.toNat, by omega⟩
  unfold mX7_total
  have e3 := hc.2.2.2.1.1
  refine q7_within (fun _ _ => cy1 ⟨fun _ => q7_partAll hw (by omega) hc (fun C1 a b => q7_thou hw.2.2.2.1 a.2.2.2.1 b (by omega) ?_), fun g => by omega⟩) (fun g => by omega)
  have := v_tot_bd hw.2.2.2.1 (kD_fl b (k := k) (by omega))
  rw [mm_w_id (by omega) (by omega)]
  exact h C1 a
theorem q8_totalV (hw : wI T tk L X) (hm : mJ M T tk L X hh) (hn1 : 1 ≤ Ln L) {z : Int} (k : ∀ M', mJ M' T tk L X hh → (0 ≤ v_total L z ∧ v_total L z ≤ 136000000) → Q (v_total L z) M') : mX8_totalNow z M Q := by
  have hL := hw.2.2.2.1
  have hn := wfL_n hL
  unfold mX8_totalNow
  refine q8_layFlow hw (by omega) hm (fun M1 a b => q8_belowOf ?_)
  have hb := flK_b hL b
  have hP := hb.1
  have hl := lj_lM a.1.2.1
  have ht := v_tot_bd hL b
  refine pk_loop (fun j (i : Nat) (_ : Unit) => bX8_totalNow_17 j z (bzM z M1) (sto L (bzM z M1) (azM z M1) i) i M1 Q) (fun _ _ => True) (Ln L) 0 () (Nat.zero_le _) trivial ?_ ?_
  · rintro j ⟨⟩ -
    unfold bX8_totalNow_17
    obtain ⟨e1, e2⟩ := tot_e hL hb
    rw [hl.1, Int.mul_comm (sto L (bzM z M1) (azM z M1) (Ln L)) 1000, e2, v_total_eq hL b, mm_w_id (z := v_total L z) (by omega) (by omega)]
    exact ⟨fun _ => ⟨e1, k M1 a ht⟩, fun g => by omega⟩
  · rintro j i ⟨⟩ hi - ih
    unfold bX8_totalNow_17
    obtain ⟨l1, l2⟩ := hl.2.2.2 i hi
    rw [hl.1, Int.toNat_natCast]
    refine ⟨fun g => by omega, fun _ => q8_amountOf (by omega) ?_⟩
    rw [l1, l2, tot_s hL hb hi, w_1 hi (by omega)]
    exact ⟨by omega, by omega, ih () trivial⟩
theorem z_flow (hi : Inv C M) (z v w : Int) : mX7_flow z v w C (fun r C' => mX8_flow z v w M (fun r' M' => r = r' ∧ Inv C' M')) := by
  obtain ⟨T, tk, L, X, hw, hc, hm⟩ := hi
  have hL := wfL_n hw.2.2.2.1
  have e18 : M 0 18 = L 0 18 := lj_r hm.2.1 (by decide)
  by_cases hv : 0 ≤ v ∧ v < L 0 18
  · obtain ⟨n, rfl⟩ : ∃ k : Nat, v = k := ⟨v.toNat, by omega⟩
    by_cases hz : (0 ≤ z ∧ z ≤ 3) ∧ 0 ≤ w ∧ w ≤ 1
    · refine q7_flowV hw hc (by omega) hz.1 hz.2 (fun C1 a => ?_)
      unfold mX8_flow
      rw [e18, mm_w_id (by omega) (by omega)]
      exact q8_within (fun _ _ => cy1 (q8_within (fun _ _ => dy1 (q8_within (fun _ _ => dy1 (q8_flowV hw hm.J (by omega) (fun M' k => ⟨rfl, T, tk, L, X, hw, a, k.1⟩))) (fun g => by omega))) (fun g => by omega))) (fun g => by omega)
    · have hi : Inv C M := ⟨T, tk, L, X, hw, hc, hm⟩
      have hM : mX8_flow z n w M (fun r' M' => -102 = r' ∧ Inv C M') := by
        unfold mX8_flow
        rw [e18, mm_w_id (by omega) (by omega)]
        exact q8_within (fun _ _ => cy1 (q8_within (fun _ _ => dy1 (q8_within (fun _ _ => by omega) (fun g => dn0 ⟨rfl, hi⟩))) (fun g => dn0 ⟨rfl, hi⟩))) (fun g => by omega)
      unfold mX7_flow
      rw [hc.2.2.2.1.1, mm_w_id (by omega) (by omega)]
      exact q7_within (fun _ _ => cy1 (q7_within (fun _ _ => dy1 (q7_within (fun _ _ => by omega) (fun g => cn0 hM))) (fun g => dn0 hM))) (fun g => by omega)
  · unfold mX7_flow
    rw [hc.2.2.2.1.1, mm_w_id (by omega) (by omega)]
    refine q7_within (fun _ _ => by omega) (fun g => cn0 ?_)
    unfold mX8_flow
    rw [e18, mm_w_id (by omega) (by omega)]
    exact q8_within (fun _ _ => by omega) (fun g => cn0 ⟨rfl, T, tk, L, X, hw, hc, hm⟩)
theorem z_level (hi : Inv C M) (z : Int) : mX7_level z C (fun r C' => mX8_level z M (fun r' M' => r = r' ∧ Inv C' M')) := by
  obtain ⟨T, tk, L, X, hw, hc, hm⟩ := hi
  have hL := wfL_n hw.2.2.2.1
  have e18 : M 0 18 = L 0 18 := lj_r hm.2.1 (by decide)
  by_cases hz : 0 ≤ z ∧ z ≤ 1
  · by_cases hn : 1 ≤ Ln L
    · refine q7_levelV hw hc hn hz (fun C1 a => ?_)
      unfold mX8_level
      exact q8_within (fun _ _ => cy1 ⟨fun g => by omega, fun _ => q8_levelV hw hm.J hn (fun M' k => ⟨rfl, T, tk, L, X, hw, a, k.1⟩)⟩) (fun g => by omega)
    · unfold mX7_level
      have e3 := hc.2.2.2.1.1
      refine q7_within (fun _ _ => cy1 ⟨fun g => by omega, fun g => ?_⟩) (fun g => by omega)
      unfold mX8_level
      exact q8_within (fun _ _ => cy1 ⟨fun g => ⟨rfl, T, tk, L, X, hw, hc, hm⟩, fun _ => by omega⟩) (fun g => by omega)
  · unfold mX7_level
    refine q7_within (fun _ _ => by omega) (fun _ => cn0 ?_)
    unfold mX8_level
    exact q8_within (fun _ _ => by omega) (fun _ => cn0 ⟨rfl, T, tk, L, X, hw, hc, hm⟩)
theorem z_total (hi : Inv C M) (z : Int) : mX7_total z C (fun r C' => mX8_total z M (fun r' M' => r = r' ∧ Inv C' M')) := by
  obtain ⟨T, tk, L, X, hw, hc, hm⟩ := hi
  have hL := wfL_n hw.2.2.2.1
  have e18 : M 0 18 = L 0 18 := lj_r hm.2.1 (by decide)
  by_cases hz : 0 ≤ z ∧ z ≤ 2
  · by_cases hn : 1 ≤ Ln L
    · refine q7_totalV hw hc hn hz (fun C1 a => ?_)
      unfold mX8_total
      exact q8_within (fun _ _ => cy1 ⟨fun g => by omega, fun _ => q8_totalV hw hm.J hn (fun M' k _ => ⟨rfl, T, tk, L, X, hw, a, k.1⟩)⟩) (fun g => by omega)
    · unfold mX7_total
      have e3 := hc.2.2.2.1.1
      refine q7_within (fun _ _ => cy1 ⟨fun g => by omega, fun g => ?_⟩) (fun g => by omega)
      unfold mX8_total
      exact q8_within (fun _ _ => cy1 ⟨fun g => ⟨rfl, T, tk, L, X, hw, hc, hm⟩, fun _ => by omega⟩) (fun g => by omega)
  · unfold mX7_total
    refine q7_within (fun _ _ => by omega) (fun _ => cn0 ?_)
    unfold mX8_total
    exact q8_within (fun _ _ => by omega) (fun _ => cn0 ⟨rfl, T, tk, L, X, hw, hc, hm⟩)
theorem z_worse (hi : Inv C M) (z : Int) : mX7_worse z C (fun r C' => mX8_worse z M (fun r' M' => r = r' ∧ Inv C' M')) := by
  obtain ⟨T, tk, L, X, hw, hc, hm⟩ := hi
  have hL := wfL_n hw.2.2.2.1
  have e18 : M 0 18 = L 0 18 := lj_r hm.2.1 (by decide)
  by_cases hz : 0 ≤ z ∧ z ≤ 2
  · by_cases hn : 1 ≤ Ln L
    · obtain ⟨k, rfl⟩ : ∃ k : Nat, z = k := ⟨z.toNat, by omega⟩
      unfold mX7_worse
      have e3 := hc.2.2.2.1.1
      refine q7_within (fun _ _ => cy1 ⟨fun _ => q7_partAll hw (by omega) hc (fun C1 a b => q7_thou hw.2.2.2.1 a.2.2.2.1 b (z := 1) (by omega) ?_), fun g => by omega⟩) (fun g => by omega)
      have h1 : 1 ≤ v_total L 1 := by
        have e := v_total_eq (z := 1) hw.2.2.2.1 (kD_fl b (k := 1) (by omega))
        rw [← e]; exact tot_wi hw.2.2.2.1 hn b.2.1
      refine ⟨fun _ => q7_thou hw.2.2.2.1 a.2.2.2.1 b (by omega) ⟨?_, ?_⟩, fun g => absurd (cmp_le.mp g) ?_⟩
      · show ¬ v_total L 1 = 0
        omega
      · unfold mX8_worse
        refine q8_within (fun _ _ => cy1 ⟨fun g => by omega, fun _ => q8_totalV hw hm.J hn (fun M1 k1 _ => q8_totalV hw k1 hn (fun M2 k2 _ => ⟨by omega, rfl, T, tk, L, X, hw, a, k2.1⟩))⟩) (fun g => by omega)
      · show ¬ v_total L 1 ≤ 0
        omega
    · unfold mX7_worse
      have e3 := hc.2.2.2.1.1
      refine q7_within (fun _ _ => cy1 ⟨fun g => by omega, fun g => ?_⟩) (fun g => by omega)
      unfold mX8_worse
      exact q8_within (fun _ _ => cy1 ⟨fun g => ⟨rfl, T, tk, L, X, hw, hc, hm⟩, fun _ => by omega⟩) (fun g => by omega)
  · unfold mX7_worse
    refine q7_within (fun _ _ => by omega) (fun _ => cn0 ?_)
    unfold mX8_worse
    exact q8_within (fun _ _ => by omega) (fun _ => cn0 ⟨rfl, T, tk, L, X, hw, hc, hm⟩)
end S58
