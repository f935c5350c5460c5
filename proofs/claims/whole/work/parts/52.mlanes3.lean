/-! the model: leaders and led -/
theorem q8_costsMore {N : mm_M} (hL : wfL N) {M : mm_M} (hl : lM M N) (hw : isWi N (M 0 51) (M 27)) {j k : Nat} (hj : j < Ln N) (hk : k < Ln N) {Q : Int → mm_M → Prop} (h1 : cm N (M 0 51) (M 27) j k → Q 1 M) (h0 : ¬ cm N (M 0 51) (M 27) j k → Q 0 M) : mX8_costsMore j k M Q := by
  have hn := wfL_n hL
  have hb := wi_bd hL hw
  have wc : ∀ (i : Nat) (K : Int → mm_M → Prop), i < Ln N → K (cst N (M 0 51) (M 27) i) M → mX8_wiseCost i M K := by
    intro i K hi hK
    unfold mX8_wiseCost
    have hx := hb.2 i hi
    have b1 := mul_bd (A := 20) (B := 160) (hL.2.1 i hi).1 (show 0 ≤ M 0 51 ∧ M 0 51 ≤ 160 by omega)
    have b2 := mul_bd (A := 4) (B := 6400) (show 0 ≤ N 13 i ∧ N 13 i ≤ 4 by have := (hL.2.1 i hi).2; omega) (show 0 ≤ M 27 i ∧ M 27 i ≤ 6400 by omega)
    rw [Int.toNat_natCast, (hl.2.2.2 i hi).1, (hl.2.2.2 i hi).2, mm_wl_id (z := N 12 i * M 0 51) (by omega) (by omega), mm_wl_id (z := N 13 i * M 27 i) (by omega) (by omega), mm_wl_id (z := N 12 i * M 0 51 + N 13 i * M 27 i) (by omega) (by omega)]
    exact ⟨by omega, by omega, by omega, hK⟩
  unfold mX8_costsMore
  refine wc j _ hj (wc k _ hk ?_)
  rw [cmp_gt, cmp_le, cmp_eq]
  refine ⟨fun q => ⟨Or.inr rfl, h1 (Or.inl q)⟩, fun q => ⟨fun q2 => ⟨Or.inl rfl, h0 (fun c => ?_)⟩, fun q2 => ⟨fun q3 => ⟨Or.inl rfl, h0 (fun c => ?_)⟩, fun q3 => ⟨Or.inr rfl, h1 (Or.inr ⟨q2, by omega⟩)⟩⟩⟩⟩
  · rcases c with c | c
    · omega
    · exact q2 c.1
  · rcases c with c | c
    · omega
    · omega
theorem q8_dearest {N : mm_M} (hL : wfL N) {M : mm_M} (hl : lM M N) (hw : isWi N (M 0 51) (M 27)) {pl m : Nat} (hm : m < Ln N) (hr : rnk N (M 0 51) (M 27) m = (pl : Int)) {Q : Int → mm_M → Prop} (h : Q m M) : mX8_dearest pl M Q := by
  have hn := wfL_n hL
  refine pk_loop (fun j (_ : Nat) (s : Int × Int) => bX8_dearest_4 j pl s.1 s.2 M Q) (fun i s => (i ≤ m ∧ s.1 = (i : Int) ∧ s.2 ≠ (pl : Int)) ∨ (i = m + 1 ∧ s.1 = (m : Int) ∧ s.2 = (pl : Int))) (m + 1) 0 (0, -1) (Nat.zero_le _) (Or.inl ⟨Nat.zero_le _, rfl, by show (-1 : Int) ≠ pl; omega⟩) ?_ ?_
  · rintro j ⟨a, b⟩ g
    dsimp only at g ⊢
    unfold bX8_dearest_4
    rcases g with ⟨g1, -⟩ | ⟨-, g2, g3⟩
    · omega
    · subst g2; subst g3; exact ⟨fun _ => h, fun q => absurd rfl q⟩
  · rintro j i ⟨a, b⟩ hi g ih
    dsimp only at g ih ⊢
    rcases g with ⟨g1, g2, g3⟩ | ⟨g1, -⟩
    · subst g2
      unfold bX8_dearest_4
      refine ⟨fun q => absurd q g3, fun _ => ?_⟩
      have hil : i < Ln N := by omega
      refine pk_loop (fun n (k : Nat) (_ : Unit) => bX8_dearest_14 (fun v1 v2 v3 M => bX8_dearest_4 j v1 v2 v3 M Q) n pl i (sm k (fun j => @ite _ (cm N (M 0 51) (M 27) j i) (Classical.propDecidable _) 1 0)) k M Q) (fun _ _ => True) (Ln N) 0 () (Nat.zero_le _) trivial ?_ ?_
      · rintro n - -
        unfold bX8_dearest_14
        have er : sm (Ln N) (fun j => @ite Int (cm N (M 0 51) (M 27) j i) (Classical.propDecidable _) 1 0) = rnk N (M 0 51) (M 27) i := rfl
        rw [hl.1, er, w_1 (k := i) (n := 10) (by omega) (by omega), mm_w_id (z := (i : Int) + 0) (by omega) (by omega)]
        refine ⟨fun _ => ⟨fun q => ?_, fun q => ?_⟩, fun g => by omega⟩
        · refine ih (((i + 1 : Nat) : Int), rnk N (M 0 51) (M 27) i) (Or.inl ⟨?_, rfl, q⟩)
          by_cases e : i = m
          · subst e; exact absurd hr q
          · omega
        · have : i = m := rnk_inj hil hm (q.trans hr.symm)
          subst this
          refine ih ((i : Int) + 0, rnk N (M 0 51) (M 27) i) (Or.inr ⟨rfl, ?_, q⟩)
          show (i : Int) + 0 = i
          omega
      · rintro n k - hk - ih2
        unfold bX8_dearest_14
        have ih' := ih2 () trivial
        have ss : sm (k + 1) (fun j => @ite Int (cm N (M 0 51) (M 27) j i) (Classical.propDecidable _) 1 0) = sm k (fun j => @ite Int (cm N (M 0 51) (M 27) j i) (Classical.propDecidable _) 1 0) + @ite Int (cm N (M 0 51) (M 27) k i) (Classical.propDecidable _) 1 0 := rfl
        have sb := sm_bd (n := k) (f := fun j => @ite Int (cm N (M 0 51) (M 27) j i) (Classical.propDecidable _) 1 0) (c := 1) (fun k _ => by split <;> omega)
        rw [ss] at ih'
        generalize sm k (fun j => @ite Int (cm N (M 0 51) (M 27) j i) (Classical.propDecidable _) 1 0) = z at *
        rw [hl.1, w_1 hk (by omega), mm_w_id (z := z + 0) (by omega) (by omega), mm_w_id (z := z + 1) (by omega) (by omega)]
        refine ⟨fun g => by omega, fun _ => ⟨fun e => ?_, fun e => q8_costsMore hL hl hw hk hil (fun c => ⟨fun q => by omega, fun _ => ?_⟩) (fun c => ⟨fun _ => ?_, fun q => absurd rfl q⟩)⟩⟩
        · have : k = i := by omega
          subst this
          rw [if_neg cm_irr] at ih'; exact ih'
        · rw [if_pos c] at ih'; exact ih'
        · rw [if_neg c] at ih'; exact ih'
    · omega
theorem q8_layLeader {N : mm_M} (hL : wfL N) (hn1 : 1 ≤ Ln N) {M : mm_M} (hl : lM M N) {Q : mm_M → Prop} (h : ∀ M', oln M M' → isWi N (M' 0 51) (M' 27) → M' 0 55 = 10 * M' 0 51 → (∀ k, k < Ln N → M' 29 k = ldN N (M' 0 51) (M' 27) k) → Q M') : mX8_layLeader M Q := by
  have hn := wfL_n hL
  refine q8_layWise hL hn1 hl (fun M1 o1 hw => ?_)
  have l1 := o1.lM hl
  have hb := wi_bd hL hw
  have hr := rst_bd hL hb.1
  rw [mm_wl_id (z := 10 * M1 0 51) (by omega) (by omega)]
  have u1 : ∀ z, (mm_up M1 0 55 z) 0 51 = M1 0 51 := fun z => up_n (Or.inr (by decide))
  have u2 : ∀ z, (mm_up M1 0 55 z) 0 22 = N 0 22 := fun z => (up_n (Or.inr (by decide))).trans l1.2.2.1
  have u3 : ∀ z, (mm_up M1 0 55 z) 0 21 = N 0 21 := fun z => (up_n (Or.inr (by decide))).trans l1.2.1
  have bsd := mul_bd (A := 10) (B := 40) hL.2.2.2 (show 0 ≤ N 0 21 ∧ N 0 21 ≤ 40 by have := hL.2.2.1; omega)
  rw [u1, u2, u3, mm_wl_id (z := N 0 22 * N 0 21) (by omega) (by omega), show N 0 22 * N 0 21 * M1 0 51 = M1 0 51 * N 0 22 * N 0 21 by grind, mm_wl_id (z := M1 0 51 * N 0 22 * N 0 21) (by omega) (by omega)]
  have hLb := hr.2.1
  have eld : ∀ P x k, ldN N P x k = ldf N P x (P * N 0 22 * N 0 21) k := fun _ _ _ => rfl
  simp only [eld] at h
  generalize hP : M1 0 51 = P at *
  generalize hLe : P * N 0 22 * N 0 21 = L at *
  clear hr
  have hx : ∀ k, k < Ln N → 0 ≤ M1 27 k ∧ M1 27 k ≤ 6400 := fun k hk => by have := hb.2 k hk; omega
  refine pk_loop (fun j (k : Nat) (z : (Int × mm_M) × (Nat → Bool)) => bX8_layLeader_35 j z.1.1 k z.1.2 Q) (fun k z => (∀ q i, q ≠ 29 → (q = 0 → i ≠ 55) → z.1.2 q i = M1 q i) ∧ z.1.2 0 55 = 10 * P ∧ cl N P (M1 27) z.2 ∧ nO N z.2 = k ∧ z.1.1 = mx (L - 10 * sD' N (M1 27) z.2) ∧ ∀ i, i < Ln N → z.2 i = true → z.1.2 29 i = ldf N P (M1 27) L i) (Ln N) 0 ((L, mm_up M1 0 55 (10 * P)), fun _ => false) (Nat.zero_le _) ⟨fun q i a b => up_n (by omega), up_s M1 0 55 (10 * P), fun j k _ _ q => absurd q Bool.false_ne_true, ?_, ?_, fun i _ q => absurd q Bool.false_ne_true⟩ ?_ ?_
  · show sm (Ln N) (fun k => if false = true then (1 : Int) else 0) = _
    rw [sm_zero (fun k _ => if_neg (by decide))]; rfl
  · show L = mx (L - 10 * sm (Ln N) (fun j => if false = true then M1 27 j else 0))
    rw [sm_zero (fun k _ => if_neg (by decide)), mx_p (by omega)]; omega
  · rintro j ⟨⟨b, M2⟩, D⟩ ⟨g1, g2, g4, g5, g6, g7⟩
    dsimp only at g1 g2 g4 g5 g6 g7 ⊢
    unfold bX8_layLeader_35
    have o2 : oln M1 M2 := fun q i a b => g1 q i (by omega) (by omega)
    rw [((o1.tr o2).lM hl).1]
    have f51 : M2 0 51 = P := (g1 0 51 (by decide) (by decide)).trans hP
    have f27 : M2 27 = M1 27 := funext (fun i => g1 27 i (by decide) (by omega))
    refine ⟨fun _ => h M2 (o1.tr o2) (by rw [f51, f27]; exact hw) (by rw [f51]; exact g2) (fun k hk => ?_), fun g => by omega⟩
    rw [f51, f27, hLe]
    refine g7 k hk ?_
    by_cases d : D k = true
    · exact d
    · have := sm_lt (n := Ln N) (j := k) (f := fun j => if D j = true then (1 : Int) else 0) (g := fun _ => 1) hk (fun i _ => by split <;> omega) (by rw [if_neg d]; omega)
      rw [sm_const] at this
      unfold nO at g5
      omega
  · rintro j k ⟨⟨b, M2⟩, D⟩ hk ⟨g1, g2, g4, g5, g6, g7⟩ ih
    dsimp only at g1 g2 g4 g5 g6 g7 ih ⊢
    unfold bX8_layLeader_35
    have o2 : oln M1 M2 := fun q i a b => g1 q i (by omega) (by omega)
    have l2 := (o1.tr o2).lM hl
    have f51 : M2 0 51 = P := (g1 0 51 (by decide) (by decide)).trans hP
    have f27 : M2 27 = M1 27 := funext (fun i => g1 27 i (by decide) (by omega))
    rw [l2.1, w_1 hk (by omega)]
    refine ⟨fun g => by omega, fun _ => ?_⟩
    obtain ⟨m, tm⟩ := top_ex (N := N) (P := P) (x := M1 27) (D := D) (by omega)
    have hm := tm.1
    have hxm := hx m hm
    refine q8_dearest hL l2 (by rw [f51, f27]; exact hw) hm (by rw [f51, f27, rnk_top g4 tm]; exact g5) ⟨by omega, ?_⟩
    rw [Int.toNat_natCast, f27, mm_wl_id (z := 10 * M1 27 m) (by omega) (by omega), up_s, up_s, cmp_ge, cmp_lt]
    have hsb := sD_bd hx D
    have e1 : mn b (10 * M1 27 m) = ldf N P (M1 27) L m := by
      unfold ldf
      rw [ahd_top g4 tm, g6]
    have e2 : b - mn b (10 * M1 27 m) = mx (L - 10 * sD' N (M1 27) (add1 D m)) := by
      rw [g6, mn_sub _ _ (by omega), sD_add hm tm.2.1]
      congr 1
      omega
    have hmb := mx_0 (L - 10 * sD' N (M1 27) D)
    have hmb2 : mx (L - 10 * sD' N (M1 27) D) ≤ 64000 := by unfold mx; split <;> omega
    have hmb3 : 0 ≤ mn b (10 * M1 27 m) ∧ mn b (10 * M1 27 m) ≤ 64000 := by unfold mn; split <;> omega
    have fin : bX8_layLeader_35 j (b - mn b (10 * M1 27 m)) ((k + 1 : Nat) : Int) (mm_up M2 29 m (mn b (10 * M1 27 m))) Q := by
      refine ih ((_, mm_up M2 29 m (mn b (10 * M1 27 m))), add1 D m) ⟨fun q i a1 a2 => ?_, ?_, cl_add g4 tm, ?_, e2, fun i hi hd => ?_⟩
      · show (mm_up M2 29 m (mn b (10 * M1 27 m))) q i = _
        rw [up_n (Or.inl a1)]; exact g1 q i a1 a2
      · show (mm_up M2 29 m (mn b (10 * M1 27 m))) 0 55 = _
        rw [up_n (Or.inl (by decide))]; exact g2
      · rw [nO_add hm tm.2.1, g5]; omega
      · show (mm_up M2 29 m (mn b (10 * M1 27 m))) 29 i = _
        by_cases e : i = m
        · subst e; rw [up_s, e1]
        · rw [up_n (Or.inr e)]
          refine g7 i hi ?_
          rcases add1_iff.mp hd with z | z
          · exact z
          · exact absurd z e
    refine ⟨fun q => ⟨by omega, by omega, ?_⟩, fun q => ⟨by omega, by omega, ?_⟩⟩
    · have : mn b (10 * M1 27 m) = 10 * M1 27 m := by unfold mn; split <;> omega
      rw [this] at fin
      rw [mm_wl_id (by omega) (by omega)]; exact fin
    · have : mn b (10 * M1 27 m) = b := by unfold mn; rw [if_pos q]
      rw [this] at fin
      rw [mm_wl_id (by omega) (by omega)]; exact fin
theorem q8_layLed {N : mm_M} (hL : wfL N) (hn1 : 1 ≤ Ln N) {M : mm_M} (hl : lM M N) {Q : mm_M → Prop} (h : ∀ M', oln M M' → isLd N (M' 0 53) (M' 28) → isLe N (M' 0 55) (M' 29) → Q M') : mX8_layLed M Q := by
  have hn := wfL_n hL
  refine q8_layLeader hL hn1 hl (fun M1 o1 hw h55 h29 => ?_)
  have l1 := o1.lM hl
  have hb := wi_bd hL hw
  have hr := rst_bd hL hb.1
  have hs := hL.2.2.2
  have hD := hL.2.2.1
  have hle : isLe N (M1 0 55) (M1 29) := ⟨M1 0 51, M1 27, hw, h55, h29⟩
  generalize hP : M1 0 51 = P at *
  have hbs : ∀ k, k < Ln N → _ := fun k hk => bas_bd hL hw hk
  have hld : ∀ k, k < Ln N → _ := fun k hk => ld_bd hL hw hk
  refine pk_loop (fun j (k : Nat) (M2 : mm_M) => bX8_layLed_6 j k M2 Q) (fun k M2 => (∀ q i, q ≠ 25 → M2 q i = M1 q i) ∧ ∀ i, i < k → M2 25 i = bas N P (M1 27) i) (Ln N) 0 M1 (Nat.zero_le _) ⟨fun _ _ _ => rfl, fun i hi => by omega⟩ ?_ ?_
  · rintro j M2 ⟨g1, g2⟩
    unfold bX8_layLed_6
    have o2 : oln M1 M2 := fun q i _ b => g1 q i (by omega)
    have l2 := o2.lM l1
    have bsd := mul_bd (A := 10) (B := 40) (show 0 ≤ 10 - N 0 22 ∧ 10 - N 0 22 ≤ 10 by omega) (show 0 ≤ N 0 21 ∧ N 0 21 ≤ 40 by omega)
    rw [l2.1, l2.2.2.1, l2.2.1, (g1 0 51 (by decide)).trans hP, (g1 0 55 (by decide)).trans h55, mm_w_id (z := 10 - N 0 22) (by omega) (by omega), mm_wl_id (z := (10 - N 0 22) * N 0 21) (by omega) (by omega), show (10 - N 0 22) * N 0 21 * P = P * (10 - N 0 22) * N 0 21 by grind, mm_wl_id (z := P * (10 - N 0 22) * N 0 21) (by omega) (by omega)]
    refine ⟨fun _ => ?_, fun g => by omega⟩
    by_cases hz : N 0 22 = 10
    · -- all are led
      have ez : P * (10 - N 0 22) * N 0 21 = 0 := by rw [hz]; grind
      rw [ez]
      refine ⟨1, ?_⟩
      unfold bX8_findLevel_3
      refine ⟨fun _ => ⟨fun _ => ⟨fun q => absurd rfl q, fun _ => ?_⟩, fun q => by rw [cmp_gt] at q; omega⟩, fun q => by rw [cmp_gt] at q; omega⟩
      rw [(g1 0 55 (by decide)).trans h55]
      refine pk_loop (fun j (k : Nat) (M3 : mm_M) => bX8_layLed_110 j 0 k M3 Q) (fun k M3 => (∀ q i, q ≠ 28 → M3 q i = (mm_up M2 0 53 (10 * P)) q i) ∧ ∀ i, i < k → M3 28 i = ldN N P (M1 27) i) (Ln N) 0 _ (Nat.zero_le _) ⟨fun _ _ _ => rfl, fun i hi => by omega⟩ ?_ ?_
      · rintro j M3 ⟨k1, k2⟩
        unfold bX8_layLed_110
        have o3 : oln M1 M3 := o2.tr ((oln.up0 (by decide)).tr (fun q i _ b => k1 q i (by omega)))
        rw [(o3.lM l1).1]
        have f55 : M3 0 55 = M1 0 55 := by rw [k1 0 55 (by decide), up_n (Or.inr (by decide)), g1 0 55 (by decide)]
        have f29 : M3 29 = M1 29 := funext (fun i => by rw [k1 29 i (by decide), up_n (Or.inl (by decide)), g1 29 i (by decide)])
        refine ⟨fun _ => h M3 (o1.tr o3) ⟨P, M1 27, hw, Or.inr ⟨hz, ?_, k2⟩⟩ (by rw [f55, f29]; exact hle), fun g => by omega⟩
        rw [k1 0 53 (by decide), up_s]
      · rintro j k M3 hk ⟨k1, k2⟩ ih
        unfold bX8_layLed_110
        have o3 : oln M1 M3 := o2.tr ((oln.up0 (by decide)).tr (fun q i _ b => k1 q i (by omega)))
        have eb : ¬ mm_and (mm_shr 0 (k : Int)) 1 = 1 := by
          have := (bit_c (m := 0) (k := k) (by decide) (by omega))
          intro q
          have := this.mp q
          unfold bO at this
          rw [Nat.zero_testBit] at this; cases this
        rw [(o3.lM l1).1]
        refine ⟨fun g => by omega, fun _ => ⟨fun _ => ?_, fun q => absurd q eb⟩⟩
        unfold bX8_layLed_134
        have f55 : M3 0 55 = 10 * P := by rw [k1 0 55 (by decide), up_n (Or.inr (by decide)), g1 0 55 (by decide)]; exact h55
        have f53 : M3 0 53 = 10 * P := by rw [k1 0 53 (by decide), up_s]
        have f29 : M3 29 k = ldN N P (M1 27) k := by rw [k1 29 k (by decide), up_n (Or.inl (by decide)), g1 29 k (by decide)]; exact h29 k hk
        have hd := hld k hk
        have ed : mm_divl (10 * P) (10 * P) = 1 := by
          unfold mm_divl
          rw [Int.tdiv_self (by omega)]; rfl
        rw [f55, f53, ed, Int.toNat_natCast, f29, w_1 hk (by omega), Int.mul_one, mm_wl_id (z := ldN N P (M1 27) k) (by omega) (by omega)]
        refine ⟨by omega, fun _ => ⟨by omega, by omega, ih _ ⟨fun q i a => (up_n (Or.inl a)).trans (k1 q i a), fun i hi => ?_⟩⟩, fun q => absurd rfl q⟩
        by_cases e : i = k
        · subst e; rw [up_s]
        · rw [up_n (Or.inr e)]; exact k2 i (by omega)
    · have hpos : 0 < P * (10 - N 0 22) * N 0 21 := Int.mul_pos (Int.mul_pos (by omega) (by omega)) (by omega)
      have hr4 := hr.2.2.2
      refine q8_findLevel hL hn1 l2 g2 (fun k hk => (hbs k hk).2.2) (c := 4 * (P * (10 - N 0 22) * N 0 21)) (by omega) hpos (by rw [mm_wl_id (z := 4 * 1) (by omega) (by omega)]; exact mm_wl_id (by omega) (by omega)) (by omega) (fun m M3 V W m1 m2 o3 lv vb e45 e46 hf => ⟨fun _ => ?_, fun q => by omega⟩)
      have hW := lv.1
      have blw := mul_bd (A := 1600) (B := 20) (show 0 ≤ 10 * P ∧ 10 * P ≤ 1600 by omega) (show 0 ≤ W ∧ W ≤ 20 by omega)
      rw [e46, mm_wl_id (z := 4 * (10 * P * W)) (by omega) (by omega)]
      refine pk_loop (fun j (k : Nat) (M4 : mm_M) => bX8_layLed_110 j m k M4 Q) (fun k M4 => (∀ q i, q ≠ 28 → M4 q i = (mm_up M3 0 53 (4 * (10 * P * W))) q i) ∧ ∀ i, i < k → M4 28 i = wt N i * mx (V - bas N P (M1 27) i * W) + 4 * W * ldN N P (M1 27) i) (Ln N) 0 _ (Nat.zero_le _) ⟨fun _ _ _ => rfl, fun i hi => by omega⟩ ?_ ?_
      · rintro j M4 ⟨k1, k2⟩
        unfold bX8_layLed_110
        have o4 : oln M1 M4 := o2.tr (o3.oln.tr ((oln.up0 (by decide)).tr (fun q i _ b => k1 q i (by omega))))
        rw [(o4.lM l1).1]
        have f55 : M4 0 55 = M1 0 55 := by rw [k1 0 55 (by decide), up_n (Or.inr (by decide)), o3 0 55 (by decide), g1 0 55 (by decide)]
        have f29 : M4 29 = M1 29 := funext (fun i => by rw [k1 29 i (by decide), up_n (Or.inl (by decide)), o3 29 i (by omega), g1 29 i (by decide)])
        refine ⟨fun _ => h M4 (o1.tr o4) ⟨P, M1 27, hw, Or.inl ⟨V, W, lv, ?_, k2⟩⟩ (by rw [f55, f29]; exact hle), fun g => by omega⟩
        rw [k1 0 53 (by decide), up_s]; grind
      · rintro j k M4 hk ⟨k1, k2⟩ ih
        unfold bX8_layLed_110
        have o4 : oln M1 M4 := o2.tr (o3.oln.tr ((oln.up0 (by decide)).tr (fun q i _ b => k1 q i (by omega))))
        have l4 := o4.lM l1
        have hd := hld k hk
        have hbk := hbs k hk
        have hw' := wt_bd N k
        have f55 : M4 0 55 = 10 * P := by rw [k1 0 55 (by decide), up_n (Or.inr (by decide)), o3 0 55 (by decide), g1 0 55 (by decide)]; exact h55
        rw [l4.1, bit_c m1 (by omega)]
        refine ⟨fun g => by omega, fun _ => ⟨fun e => ?_, fun e => ?_⟩⟩
        · unfold bX8_layLed_134
          have f53 : M4 0 53 = 4 * (10 * P * W) := by rw [k1 0 53 (by decide), up_s]
          have f29 : M4 29 k = ldN N P (M1 27) k := by rw [k1 29 k (by decide), up_n (Or.inl (by decide)), o3 29 k (by omega), g1 29 k (by decide)]; exact h29 k hk
          have ed : mm_divl (4 * (10 * P * W)) (10 * P) = 4 * W := by
            unfold mm_divl
            rw [show 4 * (10 * P * W) = 4 * W * (10 * P) by grind, Int.mul_tdiv_cancel _ (by omega)]
            exact mm_wl_id (by omega) (by omega)
          have bt := ldt_bd hW hd
          rw [f55, f53, ed, Int.toNat_natCast, f29, w_1 hk (by omega), show ldN N P (M1 27) k * (4 * W) = 4 * W * ldN N P (M1 27) k by grind, mm_wl_id (z := 4 * W * ldN N P (M1 27) k) (by omega) (by omega)]
          clear ed
          refine ⟨by omega, fun _ => ⟨by omega, by omega, ih _ ⟨fun q i a => (up_n (Or.inl a)).trans (k1 q i a), fun i hi => ?_⟩⟩, fun q => absurd rfl q⟩
          by_cases ei : i = k
          · subst ei
            have : ¬ bas N P (M1 27) i * W < V := fun z => e ((hf i hk).mpr z)
            rw [up_s, mx_n (by omega)]; omega
          · rw [up_n (Or.inr ei)]; exact k2 i (by omega)
        · unfold bX8_layLed_134
          refine ⟨by omega, fun q => by omega, fun _ => q8_weight hL hk l4 ⟨by omega, by omega, ?_⟩⟩
          have f45 : M4 0 45 = V := by rw [k1 0 45 (by decide), up_n (Or.inr (by decide))]; exact e45
          have f46 : M4 0 46 = 10 * P * W := by rw [k1 0 46 (by decide), up_n (Or.inr (by decide))]; exact e46
          have hA := (hL.2.1 k hk).1
          have b1 := mul_bd (A := 20) (B := 32000) hA (show 0 ≤ 10 * P * W ∧ 10 * P * W ≤ 32000 by omega)
          rw [Int.toNat_natCast, w_1 hk (by omega), f45, f46, (l4.2.2.2 k hk).1, mm_wl_id (z := N 12 k * (10 * P * W)) (by omega) (by omega), mm_wl_id (z := V - N 12 k * (10 * P * W)) (by omega) (by omega)]
          have eq : wt N k * (V - N 12 k * (10 * P * W)) = wt N k * mx (V - bas N P (M1 27) k * W) + 4 * W * ldN N P (M1 27) k := by
            have hlt := (hf k hk).mp e
            rw [mx_p (by omega)]
            have hwB := wt_B hL hk
            unfold bas
            grind
          have bx := lv_le lv hk
          have bt := ldt_bd hW hd
          have bc := mul_bd (A := 256000) (B := 20) (show 0 ≤ 4 * (P * (10 - N 0 22) * N 0 21) ∧ 4 * (P * (10 - N 0 22) * N 0 21) ≤ 256000 by omega) (show 0 ≤ W ∧ W ≤ 20 by omega)
          rw [eq, mm_wl_id (z := wt N k * mx (V - bas N P (M1 27) k * W) + 4 * W * ldN N P (M1 27) k) (by omega) (by omega)]
          refine ih _ ⟨fun q i a => (up_n (Or.inl a)).trans (k1 q i a), fun i hi => ?_⟩
          by_cases ei : i = k
          · subst ei; rw [up_s]
          · rw [up_n (Or.inr ei)]; exact k2 i (by omega)
  · rintro j k M2 hk ⟨g1, g2⟩ ih
    unfold bX8_layLed_6
    have b := hbs k hk
    have eb : bas N P (M1 27) k = N 12 k * (10 * P) + N 13 k * ldN N P (M1 27) k := rfl
    rw [(g1 0 18 (by decide)).trans l1.1, Int.toNat_natCast, (g1 12 k (by decide)).trans (l1.2.2.2 k hk).1, (g1 13 k (by decide)).trans (l1.2.2.2 k hk).2, (g1 0 55 (by decide)).trans h55, (g1 29 k (by decide)).trans (h29 k hk), w_1 hk (by omega), mm_wl_id (z := N 12 k * (10 * P)) (by omega) (by omega), mm_wl_id (z := N 13 k * ldN N P (M1 27) k) (by omega) (by omega), mm_wl_id (z := N 12 k * (10 * P) + N 13 k * ldN N P (M1 27) k) (by omega) (by omega)]
    refine ⟨fun g => by omega, fun _ => ⟨by omega, by omega, by omega, by omega, ih _ ⟨fun q i a => (up_n (Or.inl a)).trans (g1 q i a), fun i hi => ?_⟩⟩⟩
    by_cases e : i = k
    · subst e; rw [up_s, eb]
    · rw [up_n (Or.inr e)]; exact g2 i (by omega)
