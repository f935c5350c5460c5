/-! the class: sets by number, social, potential, prices -/
theorem q6_setsInAll {N : mm_M} (hN : wf N) {C : mm_M} (hc : cN C N) {Q : Int → mm_M → Prop} (h : Q (all N (Pn N)) C) : mX6_setsInAll C Q := by
  have hP := wf_P hN
  refine pk_loop (fun n (k : Nat) (z : Int) => bX6_setsInAll_4 n z k C Q) (fun k z => z = (all N k : Int)) (Pn N) 0 1 (Nat.zero_le _) rfl ?_ ?_
  · rintro n z rfl
    unfold bX6_setsInAll_4
    rw [hc.1]
    exact ⟨fun _ => h, fun g => by omega⟩
  · rintro n k z hk rfl ih
    unfold bX6_setsInAll_4
    have hW := wf_w hN hk
    have h1 := all_5 hN (show k + 1 ≤ Pn N by omega)
    rw [hc.1, Int.toNat_natCast, (hc.2.2.2 k hk).2.2.1, ← hW.1, w_1 hk (by omega)]
    refine ⟨fun g => by omega, fun _ => ⟨by omega, mm_chk_i (kd_p (by omega)) (ih _ ?_)⟩⟩
    rw [← Int.natCast_mul]
    show mm_w ((all N (k + 1) : Nat) : Int) = _
    generalize all N (k + 1) = z at h1 ⊢
    exact mm_w_id (by omega) (by omega)
theorem q6_numberOfSet {N : mm_M} {tk : Nat → Nat} (hN : wf N) (ht : wfT N tk) {C : mm_M} (hc : cs C N tk) {Q : Int → mm_M → Prop} (h : Q (nmb N tk (Pn N)) C) : mX6_numberOfSet C Q := by
  have hP := wf_P hN
  refine pk_loop (fun n (k : Nat) (z : Int) => bX6_numberOfSet_4 n z k C Q) (fun k z => z = (nmb N tk k : Int)) (Pn N) 0 0 (Nat.zero_le _) rfl ?_ ?_
  · rintro n z rfl
    unfold bX6_numberOfSet_4
    rw [hc.1.1]
    exact ⟨fun _ => h, fun g => by omega⟩
  · rintro n k z hk rfl ih
    unfold bX6_numberOfSet_4
    have hW := wf_w hN hk
    have h1 := nmb_lt ht (k + 1) (by omega)
    have h2 := all_5 hN (show k + 1 ≤ Pn N by omega)
    have h3 : nmb N tk (k + 1) = nmb N tk k * wn N k + tk k := rfl
    rw [hc.1.1, Int.toNat_natCast, (hc.1.2.2.2 k hk).2.2.1, ← hW.1, hc.2.1 k hk, w_1 hk (by omega)]
    refine ⟨fun g => by omega, fun _ => ⟨by omega, mm_chk_i (kd_p (by omega)) ⟨by omega, mm_chk_i (kd_p (by omega)) (ih _ ?_)⟩⟩⟩
    rw [← Int.natCast_mul]
    generalize nmb N tk k * wn N k = z at h3
    rw [mm_w_id (z := (z : Int)) (by omega) (by omega), mm_w_id (by omega) (by omega)]
    omega
theorem q6_takeSet {N : mm_M} {t1 : Nat → Nat} (hN : wf N) (ht1 : wfT N t1) {C : mm_M} (hc : cs C N t1) {n : Nat} (hn : n < 1000000) {Q : mm_M → Prop} (h : ∀ C', otf C C' → cs C' N (tkn N n) → Q C') : mX6_takeSet n C Q := by
  have hP := wf_P hN
  unfold mX6_takeSet
  rw [hc.1.1, mm_w_id (by omega) (by omega)]
  have key : ∃ j, bX6_takeSet_9 j n ((lf N n 0 : Nat) : Int) (N 0 9 - 1 - ((0 : Nat) : Int)) C Q := by
    refine pk_loop (fun j (i : Nat) (z : mm_M × (Nat → Nat)) => bX6_takeSet_9 j n ((lf N n i : Nat) : Int) (N 0 9 - 1 - (i : Int)) z.1 Q) (fun i z => otf C z.1 ∧ cs z.1 N z.2 ∧ wfT N z.2 ∧ ∀ p, p < Pn N → Pn N ≤ p + i → z.2 p = tkn N n p) (Pn N) 0 (C, t1) (Nat.zero_le _) ⟨otf.rf C, hc, ht1, fun p hp hq => by omega⟩ ?_ ?_
    · rintro j ⟨C1, t2⟩ ⟨h1, h2, h3, h4⟩
      dsimp only at h1 h2 h3 h4 ⊢
      unfold bX6_takeSet_9
      have h5 : ∀ p, p < Pn N → t2 p = tkn N n p := fun p hp => h4 p hp (by omega)
      refine ⟨fun _ => h C1 h1 ⟨h2.1, fun p hp => by rw [h2.2.1 p hp, h5 p hp], fun r hr => ?_⟩, fun g => by omega⟩
      rw [h2.2.2 r hr]; exact lod_congr h5 r
    · rintro j i ⟨C1, t2⟩ hi ⟨h1, h2, h3, h4⟩ ih
      dsimp only at h1 h2 h3 h4 ⊢
      unfold bX6_takeSet_9
      have hp : Pn N - 1 - i < Pn N := by omega
      have hW := wf_w hN hp
      have e1 : (N 0 9 - 1 - (i : Int)).toNat = Pn N - 1 - i := by omega
      have e2 : C1 (30 + 17 * (Pn N - 1 - i)) 2 = (wn N (Pn N - 1 - i) : Int) := by rw [(h2.1.2.2.2 _ hp).2.2.1]; exact hW.1.symm
      rw [e1, e2]
      have hle := lf_le N n i
      have e3 : mm_rem ((lf N n i : Nat) : Int) ((wn N (Pn N - 1 - i) : Nat) : Int) = ((tkn N n (Pn N - 1 - i) : Nat) : Int) := by
        unfold mm_rem tkn
        rw [← Int.ofNat_tmod, show Pn N - 1 - (Pn N - 1 - i) = i by omega]
      have e4 : mm_div ((lf N n i : Nat) : Int) ((wn N (Pn N - 1 - i) : Nat) : Int) = ((lf N n (i + 1) : Nat) : Int) := by
        unfold mm_div
        rw [← Int.ofNat_tdiv]
        have := lf_le N n (i + 1)
        show mm_w ((lf N n (i + 1) : Nat) : Int) = _
        exact mm_w_id (by omega) (by omega)
      rw [e3, e4, mm_w_id (z := N 0 9 - 1 - (i : Int) + -1) (by omega) (by omega), show N 0 9 - 1 - (i : Int) + -1 = N 0 9 - 1 - ((i + 1 : Nat) : Int) by omega]
      have hlt := tkn_wf hN n _ hp
      refine ⟨fun g => by omega, fun _ => ⟨by omega, mm_chk_i (kd_p (by omega)) ⟨fun g => by omega, fun _ => ⟨by omega, by omega, q6_moveTo hN h3 hp hlt h2 (fun C2 a1 a2 => ⟨by omega, ih (C2, upt t2 (Pn N - 1 - i) (tkn N n (Pn N - 1 - i))) ⟨h1.tr a1, a2, wfT_upt h3 hlt, fun p hp2 hq => ?_⟩⟩)⟩⟩⟩⟩
      show upt t2 _ _ p = _
      unfold upt
      split
      · rename_i e; rw [e]
      · exact h4 p hp2 (by omega)
  obtain ⟨j, hj2⟩ := key
  exact ⟨j, by rw [show N 0 9 - 1 = N 0 9 - 1 - ((0 : Nat) : Int) by omega]; exact hj2⟩
theorem q6_socialNow {N : mm_M} {tk : Nat → Nat} (hN : wf N) (ht : wfT N tk) {C : mm_M} (hc : cs C N tk) {Q : Int → mm_M → Prop} (h : Q (soc N tk) C) : mX6_socialNow C Q := by
  have hR := wf_R hN
  refine pk_loop (fun n (k : Nat) (z : Int) => bX6_socialNow_4 n z k C Q) (fun k z => z = sm k (fun r => lod N tk r * (N 3 r + N 4 r * lod N tk r))) (Rn N) 0 0 (Nat.zero_le _) rfl ?_ ?_
  · rintro n z rfl
    unfold bX6_socialNow_4
    rw [hc.1.2.1.2.2.1]
    exact ⟨fun _ => h, fun g => by omega⟩
  · rintro n k z hk rfl ih
    unfold bX6_socialNow_4
    obtain ⟨-, -, d3, d4, -⟩ := hc.1.2.1.2.2.2 k hk
    rw [hc.1.2.1.2.2.1, Int.toNat_natCast, d3, d4, hc.2.2 k (by omega)]
    refine ⟨fun g => by omega, fun _ => ⟨by omega, by omega, by omega, by omega, ?_⟩⟩
    have h3 := soc_term hN ht hk
    have h4 := soc_part hN ht (show k ≤ Rn N by omega)
    have h5 := hN.1.2.2 k hk
    rw [w_1 hk (by omega), mm_w_id (z := N 4 k * lod N tk k) (by omega) (by omega), mm_w_id (z := N 3 k + N 4 k * lod N tk k) (by omega) (by omega), mm_w_id (z := lod N tk k * (N 3 k + N 4 k * lod N tk k)) (by omega) (by omega), mm_w_id (by omega) (by omega)]
    exact ih _ rfl
theorem q6_potentialNow {N : mm_M} {tk : Nat → Nat} (hN : wf N) (ht : wfT N tk) {C : mm_M} (hc : cs C N tk) {Q : Int → mm_M → Prop} (h : Q (pot N tk) C) : mX6_potentialNow C Q := by
  have hR := wf_R hN
  have hP := wf_P hN
  refine pk_loop (fun n (k : Nat) (z : Int) => bX6_potentialNow_4 n z k C Q) (fun k z => z = sm k (fun r => pots N r (lod N tk r).toNat)) (Rn N) 0 0 (Nat.zero_le _) rfl ?_ ?_
  · rintro n z rfl
    unfold bX6_potentialNow_4
    rw [hc.1.2.1.2.2.1]
    exact ⟨fun _ => h, fun g => by omega⟩
  · rintro n k z hk rfl ih
    unfold bX6_potentialNow_4
    rw [hc.1.2.1.2.2.1]
    refine ⟨fun g => by omega, fun _ => ?_⟩
    have hl := lod_bd hN ht k
    have hs := sm_bd (n := k) (f := fun r => pots N r (lod N tk r).toNat) (c := 435) (fun r hr => pots_bd hN (by omega) (by have := lod_bd hN ht r; omega))
    refine (pk_loop (fun j (i : Nat) (z : Int) => bX6_potentialNow_17 (fun v1 v2 M => bX6_potentialNow_4 n v1 v2 M Q) j z k ((i : Int) + 1) C Q) (fun i z => z = sm k (fun r => pots N r (lod N tk r).toNat) + pots N k i) (lod N tk k).toNat 0 (sm k (fun r => pots N r (lod N tk r).toNat)) (Nat.zero_le _) (Int.add_zero _).symm ?_ ?_ : _)
    · rintro j z rfl
      unfold bX6_potentialNow_17
      rw [Int.toNat_natCast, hc.2.2 k (by omega)]
      refine ⟨by omega, fun _ => ?_, fun g => by omega⟩
      rw [w_1 hk (by omega)]
      exact ih _ rfl
    · rintro j i z hi rfl ih2
      unfold bX6_potentialNow_17
      rw [Int.toNat_natCast, hc.2.2 k (by omega), ak_r k (by omega)]
      have hp1 := pots_bd hN hk (show i ≤ 5 by omega)
      have hp2 := prc_bd hN hk (show 1 ≤ (i : Int) + 1 ∧ (i : Int) + 1 ≤ 6 by omega)
      have e5 : ((i : Int) + 1).toNat = i + 1 := by omega
      have e6 := hc.1.2.2.1 k hk (i + 1) (by omega) (by omega)
      rw [show ((i + 1 : Nat) : Int) = (i : Int) + 1 by omega] at e6
      refine ⟨by omega, fun g => by omega, fun _ => ⟨by omega, ?_⟩⟩
      refine ⟨by show 0 ≤ (i : Int) + 1 ∧ (i : Int) + 1 < ((7 : Nat) : Int); omega, ?_⟩
      rw [e5, e6, mm_w_id (z := (i : Int) + 1 + 1) (by omega) (by omega), mm_w_id (by omega) (by omega)]
      refine ih2 _ ?_
      simp only [pots, sm]
      omega
theorem qJ_max {x y : Int} {M : mm_M} {Q : Int → mm_M → Prop} (h : Q (if x < y then y else x) M) : mJ9_max_7cf53 x y M Q := by
  refine ⟨fun g => ?_, fun g => ?_⟩
  · rw [if_pos g] at h; exact h
  · rw [if_neg (by omega)] at h; exact h
theorem qJ_min {x y : Int} {M : mm_M} {Q : Int → mm_M → Prop} (h : Q (if y < x then y else x) M) : mJ9_min_7cf53 x y M Q := by
  refine ⟨fun g => ?_, fun g => ?_⟩
  · rw [if_pos g] at h; exact h
  · rw [if_neg (by omega)] at h; exact h
theorem q6_greatestLoad {N : mm_M} {tk : Nat → Nat} (hN : wf N) (ht : wfT N tk) {C : mm_M} (hc : cs C N tk) {Q : Int → mm_M → Prop}
    (h : ∀ z, (∀ r, r < Rn N → lod N tk r ≤ z) → (z = 0 ∨ ∃ r, r < Rn N ∧ z = lod N tk r) → Q z C) : mX6_greatestLoad C Q := by
  have hR := wf_R hN
  refine pk_loop (fun n (k : Nat) (z : Int) => bX6_greatestLoad_4 n z k C Q) (fun k z => (∀ r, r < k → lod N tk r ≤ z) ∧ (z = 0 ∨ ∃ r, r < Rn N ∧ z = lod N tk r)) (Rn N) 0 0 (Nat.zero_le _) ⟨fun r hr => by omega, Or.inl rfl⟩ ?_ ?_
  · rintro n z ⟨h3, h4⟩
    unfold bX6_greatestLoad_4
    rw [hc.1.2.1.2.2.1]
    exact ⟨fun _ => h z h3 h4, fun g => by omega⟩
  · rintro n k z hk ⟨h3, h4⟩ ih
    unfold bX6_greatestLoad_4
    rw [hc.1.2.1.2.2.1, Int.toNat_natCast, hc.2.2 k (by omega), w_1 hk (by omega)]
    refine ⟨fun g => by omega, fun _ => ⟨by omega, qJ_max (ih _ ⟨fun r hr => ?_, ?_⟩)⟩⟩
    · by_cases e : r = k
      · subst e; split <;> omega
      · have := h3 r (by omega); split <;> omega
    · split
      · exact Or.inr ⟨k, hk, rfl⟩
      · exact h4
/-- the prices of roads are laid anew -/
def oxp (C C' : mm_M) : Prop := ∀ q k, (q < 19 ∨ 28 < q) → C' q k = C q k
theorem q6_priceRoads {N : mm_M} (hN : wfR N) {C : mm_M} (hn : nD C N) {Q : mm_M → Prop} (h : ∀ C', oxp C C' → xD C' N → Q C') : mX6_priceRoads C Q := by
  have hR : (Rn N : Int) = N 0 1 ∧ Rn N ≤ 10 := by have := hN.1; unfold Rn; omega
  refine pk_loop (fun n (k : Nat) (C1 : mm_M) => bX6_priceRoads_2 n k C1 Q) (fun k C1 => oxp C C1 ∧ ∀ r, r < k → ∀ i : Nat, 1 ≤ i → i ≤ 6 → C1 (19 + r) i = prc N r i) (Rn N) 0 C (Nat.zero_le _) ⟨fun _ _ _ => rfl, fun r hr => by omega⟩ ?_ ?_
  · rintro n C1 ⟨h1, h2⟩
    unfold bX6_priceRoads_2
    rw [(h1 10 1 (by omega)).trans hn.2.2.1]
    exact ⟨fun _ => h C1 h1 h2, fun g => by omega⟩
  · rintro n k C1 hk ⟨h1, h2⟩ ih
    unfold bX6_priceRoads_2
    obtain ⟨-, -, d3, d4, d5⟩ := hn.2.2.2 k hk
    obtain ⟨-, -, -, ha, hb, ht⟩ := hN.2.2 k hk
    have e93 := (h1 9 3 (by omega)).trans hn.1
    have e13 := (h1 13 k (by omega)).trans d3
    have e14 := (h1 14 k (by omega)).trans d4
    have e15 := (h1 15 k (by omega)).trans d5
    rw [(h1 10 1 (by omega)).trans hn.2.2.1, Int.toNat_natCast, e93, e13, e15]
    have go : ∀ fx bo : Int, (0 ≤ fx ∧ fx ≤ 60) → (0 ≤ bo ∧ bo ≤ 9) → (∀ i : Int, prc N k i = fx + N 4 k * i + bo * (i - 1)) → ∃ j, bX6_priceRoads_70 (fun v1 M => bX6_priceRoads_2 n v1 M Q) j k fx bo 1 C1 Q := fun fx bo hfx hbo hpr => by
      have key : ∃ j, bX6_priceRoads_70 (fun v1 M => bX6_priceRoads_2 n v1 M Q) j k fx bo (((0 : Nat) : Int) + 1) C1 Q := by
        refine pk_loop (fun j (i : Nat) (C2 : mm_M) => bX6_priceRoads_70 (fun v1 M => bX6_priceRoads_2 n v1 M Q) j k fx bo ((i : Int) + 1) C2 Q) (fun i C2 => (∀ q u, q ≠ 19 + k → C2 q u = C1 q u) ∧ ∀ u : Nat, 1 ≤ u → u ≤ i → C2 (19 + k) u = prc N k u) 6 0 C1 (Nat.zero_le _) ⟨fun _ _ _ => rfl, fun u a b => by omega⟩ ?_ ?_
        · rintro j C2 ⟨g1, g2⟩
          unfold bX6_priceRoads_70
          rw [w_1 hk (by omega)]
          refine ⟨fun _ => ih C2 ⟨fun q u hq => (g1 q u (by omega)).trans (h1 q u hq), fun r hr u a b => ?_⟩, fun g => by omega⟩
          by_cases e : r = k
          · subst e; exact g2 u a b
          · exact (g1 _ _ (by omega)).trans (h2 r (by omega) u a b)
        · rintro j i C2 hi ⟨g1, g2⟩ ih2
          unfold bX6_priceRoads_70
          rw [Int.toNat_natCast, ak_r k (by omega), (g1 14 k (by omega)).trans e14, show ((i : Int) + 1).toNat = i + 1 by omega]
          have m1 : N 4 k * ((i : Int) + 1) ≤ 9 * 6 := Int.le_trans (Int.mul_le_mul_of_nonneg_right hb.2 (by omega)) (Int.mul_le_mul_of_nonneg_left (by omega) (by omega))
          have m2 : 0 ≤ N 4 k * ((i : Int) + 1) := Int.mul_nonneg hb.1 (by omega)
          have m3 : bo * ((i : Int) + 1 - 1) ≤ 9 * 5 := Int.le_trans (Int.mul_le_mul_of_nonneg_right hbo.2 (by omega)) (Int.mul_le_mul_of_nonneg_left (by omega) (by omega))
          have m4 : 0 ≤ bo * ((i : Int) + 1 - 1) := Int.mul_nonneg hbo.1 (by omega)
          have hp := hpr ((i : Int) + 1)
          rw [mm_w_id (z := N 4 k * ((i : Int) + 1)) (by omega) (by omega), mm_w_id (z := fx + N 4 k * ((i : Int) + 1)) (by omega) (by omega), mm_w_id (z := (i : Int) + 1 - 1) (by omega) (by omega), mm_w_id (z := bo * ((i : Int) + 1 - 1)) (by omega) (by omega), mm_w_id (z := fx + N 4 k * ((i : Int) + 1) + bo * ((i : Int) + 1 - 1)) (by omega) (by omega), mm_w_id (z := (i : Int) + 1 + 1) (by omega) (by omega), ← hp, show (i : Int) + 1 + 1 = ((i + 1 : Nat) : Int) + 1 by omega]
          refine ⟨fun g => by omega, fun _ => ⟨by omega, by omega, ?_⟩⟩
          refine ⟨by show 0 ≤ (i : Int) + 1 ∧ (i : Int) + 1 < ((7 : Nat) : Int); omega, ih2 _ ⟨fun q u hq => (up_n (Or.inl hq)).trans (g1 q u hq), fun u a b => ?_⟩⟩
          by_cases e : u = i + 1
          · subst e; rw [up_s]; rw [show ((i + 1 : Nat) : Int) = (i : Int) + 1 by omega]
          · rw [up_n (Or.inr e)]; exact g2 u a (by omega)
      exact key
    have m0 := hN.2.1
    refine ⟨fun g => by omega, fun _ => ⟨by omega, fun g1 => ?_, fun g1 => ⟨by omega, ?_⟩⟩⟩
    · unfold bX6_priceRoads_43
      rw [e93, Int.toNat_natCast, e14, mm_w_id (z := N 3 k + 0) (by omega) (by omega)]
      refine ⟨fun g2 => go _ 0 (by omega) (by omega) (fun i => ?_), fun g2 => ⟨by omega, go _ _ (by omega) hb (fun i => ?_)⟩⟩
      · unfold prc; rw [if_neg g1, if_neg g2]; omega
      · unfold prc; rw [if_neg g1, if_pos g2]; omega
    · unfold bX6_priceRoads_43
      rw [e93, Int.toNat_natCast, e14, mm_w_id (z := N 3 k + N 5 k) (by omega) (by omega)]
      refine ⟨fun g2 => go _ 0 (by omega) (by omega) (fun i => ?_), fun g2 => by omega⟩
      unfold prc; rw [if_pos g1]; omega
