/-! digest, the model; both -/
section S67
variable {T L X : mm_M} {tk : Nat → Nat} {C M : mm_M} {Q : Int → mm_M → Prop} {R : mm_M → Prop} {h0 v : Int} {p : Nat}
theorem mJ.mix (hm : mJ M T tk L X h0) (v z : Int) (hz : z = mxh h0 v) : mJ (mm_up M 0 56 z) T tk L X (mxh h0 v) :=
  ⟨⟨⟨pj_fr hm.1.1.1 (fun q k hp => up_n (by have := pp_i hp; omega)), fun p hp => (up_n (by omega)).trans (hm.1.1.2 p hp)⟩, lj_fr hm.1.2.1 (fun q k a => up_n (by omega)), xj_fr hm.1.2.2 (fun q k a => up_n (by omega))⟩, (up_s _ _ _ _).trans hz⟩
theorem q8_mix (hm : mJ M T tk L X h0) (k : ∀ M', mJ M' T tk L X (mxh h0 v) → R M') : mX8_mix v M R := by
  unfold mX8_mix
  rw [hm.2]
  exact k _ (hm.mix v _ rfl)
theorem dv {k b : Nat} (h : k < 2147483648) : mm_div (k : Int) (b : Int) = ((k / b : Nat) : Int) := div_n h
theorem q8_mn26 (hw : wI T tk L X) (hm : mJ M T tk L X h0) (h : ∀ M', mJ M' T tk L X (fo (gR T tk) (8 * Rn T) h0) → ∃ j, bX8_mixNet_62 j 0 M' R) : ∃ j, bX8_mixNet_26 j 0 M R := by
  have hR := wf_R hw.1
  refine pk_loop (fun j (k : Nat) (M2 : mm_M) => bX8_mixNet_26 j k M2 R) (fun k M2 => mJ M2 T tk L X (fo (gR T tk) k h0)) (8 * Rn T) 0 M (Nat.zero_le _) hm ?_ ?_
  · rintro j M1 m1
    unfold bX8_mixNet_26
    rw [pj_r m1.1.1.1 (q := 0) (k := 1) rfl, mm_w_id (z := 8 * T 0 1) (by omega) (by omega)]
    exact ⟨fun _ => h M1 m1, fun g => by omega⟩
  · rintro j k M1 hk m1 ih
    unfold bX8_mixNet_26
    rw [pj_r m1.1.1.1 (q := 0) (k := 1) rfl, mm_w_id (z := 8 * T 0 1) (by omega) (by omega), show mm_div (k : Int) 8 = ((k / 8 : Nat) : Int) from dv (b := 8) (by omega), show mm_rem (k : Int) 8 = ((k % 8 : Nat) : Int) from rem_n k 8]
    refine ⟨fun g => by omega, fun _ => ⟨by decide, by decide, q8_roadV hw m1 (r := k / 8) (by omega) (by omega) (fun M2 m2 => q8_mix m2 (fun M3 m3 => ?_))⟩⟩
    rw [w_1 hk (by omega)]
    exact ih M3 m3
theorem q8_mn2 (hw : wI T tk L X) (hm : mJ M T tk L X h0) (h : ∀ M', mJ M' T tk L X (fo (gA T tk) 8 h0) → ∃ j, bX8_mixNet_26 j 0 M' R) : ∃ j, bX8_mixNet_2 j 0 M R := by
  refine pk_loop (fun j (k : Nat) (M2 : mm_M) => bX8_mixNet_2 j k M2 R) (fun k M2 => mJ M2 T tk L X (fo (gA T tk) k h0)) 8 0 M (Nat.zero_le _) hm ?_ ?_
  · rintro j M1 m1
    unfold bX8_mixNet_2
    exact ⟨fun _ => h M1 m1, fun g => by omega⟩
  · rintro j k M1 hk m1 ih
    unfold bX8_mixNet_2
    refine ⟨fun g => by omega, fun _ => q8_aboutV hw m1 (by omega) (fun M2 m2 => q8_mix m2 (fun M3 m3 => ?_))⟩
    rw [w_1 hk (by omega)]
    exact ih M3 m3
theorem q8_mp56 (hw : wI T tk L X) (hp : p < Pn T) (hm : mJ M T tk L X h0) (h : ∀ M', mJ M' T tk L X (fo (gO T tk p) (ln T p (tk p)) h0) → R M') : ∃ j, bX8_mixPlayer_56 j p 0 M R := by
  have hP := wf_P hw.1
  have hW := wf_w hw.1 hp
  have ht := hw.2.1 p hp
  have hL := wf_l hw.1 hp ht
  refine pk_loop (fun j (k : Nat) (M2 : mm_M) => bX8_mixPlayer_56 j p k M2 R) (fun k M2 => mJ M2 T tk L X (fo (gO T tk p) k h0)) (ln T p (tk p)) 0 M (Nat.zero_le _) hm ?_ ?_
  · rintro j M1 m1
    unfold bX8_mixPlayer_56
    rw [Int.toNat_natCast, m1.1.1.2 p hp, ix_w p (tk p) (by omega) (by omega), Int.toNat_natCast, pj_r10 m1.1.1.1 hp ht (by omega)]
    exact ⟨by omega, by omega, fun _ => h M1 m1, fun g => by omega⟩
  · rintro j k M1 hk m1 ih
    unfold bX8_mixPlayer_56
    rw [Int.toNat_natCast, m1.1.1.2 p hp, ix_w p (tk p) (by omega) (by omega), Int.toNat_natCast, pj_r10 m1.1.1.1 hp ht (by omega)]
    refine ⟨by omega, by omega, fun g => by omega, fun _ => ⟨by omega, q8_roadOf (by omega) (by omega) (by omega) ?_⟩⟩
    rw [pj_r11 m1.1.1.1 hp ht hk (by omega) (by omega)]
    refine q8_mix m1 (fun M3 m3 => ?_)
    rw [w_1 hk (by omega)]
    exact ih M3 m3
theorem q8_mp27 (hw : wI T tk L X) (hp : p < Pn T) (hm : mJ M T tk L X h0) (h : ∀ M', mJ M' T tk L X (fo (pay T tk p) (wn T p) h0) → ∃ j, bX8_mixPlayer_56 j p 0 M' R) : ∃ j, bX8_mixPlayer_27 j p 0 M R := by
  have hP := wf_P hw.1
  have hW := wf_w hw.1 hp
  refine pk_loop (fun j (k : Nat) (M2 : mm_M) => bX8_mixPlayer_27 j p k M2 R) (fun k M2 => mJ M2 T tk L X (fo (pay T tk p) k h0)) (wn T p) 0 M (Nat.zero_le _) hm ?_ ?_
  · rintro j M1 m1
    unfold bX8_mixPlayer_27
    rw [Int.toNat_natCast, pj_r m1.1.1.1 (q := 8) (k := p) rfl]
    exact ⟨by omega, fun _ => h M1 m1, fun g => by omega⟩
  · rintro j k M1 hk m1 ih
    unfold bX8_mixPlayer_27
    rw [Int.toNat_natCast, pj_r m1.1.1.1 (q := 8) (k := p) rfl]
    refine ⟨by omega, fun g => by omega, fun _ => q8_payOf hw.1 hw.2.1 hp hk m1.1.1 (fun M2 o _ => q8_mix (m1.o19 o) (fun M3 m3 => ?_))⟩
    rw [w_1 hk (by omega)]
    exact ih M3 m3
theorem q8_mp2 (hw : wI T tk L X) (hp : p < Pn T) (hm : mJ M T tk L X h0) (h : ∀ M', mJ M' T tk L X (fo (gW T tk p) 7 h0) → ∃ j, bX8_mixPlayer_27 j p 0 M' R) : ∃ j, bX8_mixPlayer_2 j p 0 M R := by
  refine pk_loop (fun j (k : Nat) (M2 : mm_M) => bX8_mixPlayer_2 j p k M2 R) (fun k M2 => mJ M2 T tk L X (fo (gW T tk p) k h0)) 7 0 M (Nat.zero_le _) hm ?_ ?_
  · rintro j M1 m1
    unfold bX8_mixPlayer_2
    exact ⟨fun _ => h M1 m1, fun g => by omega⟩
  · rintro j k M1 hk m1 ih
    unfold bX8_mixPlayer_2
    refine ⟨fun g => by omega, fun _ => q8_whoV hw m1 hp (by omega) (fun M2 m2 => q8_mix m2 (fun M3 m3 => ?_))⟩
    rw [w_1 hk (by omega)]
    exact ih M3 m3
theorem q8_mn62 (hw : wI T tk L X) (hm : mJ M T tk L X h0) (h : ∀ M', mJ M' T tk L X (plh T tk (Pn T) h0) → R M') : ∃ j, bX8_mixNet_62 j 0 M R := by
  have hP := wf_P hw.1
  refine pk_loop (fun j (k : Nat) (M2 : mm_M) => bX8_mixNet_62 j k M2 R) (fun k M2 => mJ M2 T tk L X (plh T tk k h0)) (Pn T) 0 M (Nat.zero_le _) hm ?_ ?_
  · rintro j M1 m1
    unfold bX8_mixNet_62
    rw [pj_r m1.1.1.1 (q := 0) (k := 9) rfl]
    exact ⟨fun _ => h M1 m1, fun g => by omega⟩
  · rintro j k M1 hk m1 ih
    unfold bX8_mixNet_62
    rw [pj_r m1.1.1.1 (q := 0) (k := 9) rfl]
    refine ⟨fun g => by omega, fun _ => q8_mp2 hw hk m1 (fun M2 m2 => q8_mp27 hw hk m2 (fun M3 m3 => q8_mp56 hw hk m3 (fun M4 m4 => ?_)))⟩
    rw [w_1 hk (by omega)]
    exact ih M4 m4
theorem q8_mixNet (hw : wI T tk L X) (hm : mJ M T tk L X h0) (h : ∀ M', mJ M' T tk L X (dN T tk h0) → R M') : mX8_mixNet M R :=
  q8_mn2 hw hm (fun _ m1 => q8_mn26 hw m1 (fun _ m2 => q8_mn62 hw m2 h))
theorem q8_ms49 (hw : wI T tk L X) (ha : all T (Pn T) ≤ 500) (hm : mJ M T tk L X h0) (h : ∀ M', mJ M' T tk L X (fo (gE T tk) 3 h0) → R M') : ∃ j, bX8_mixSets_49 j 0 M R := by
  refine pk_loop (fun j (k : Nat) (M2 : mm_M) => bX8_mixSets_49 j k M2 R) (fun k M2 => mJ M2 T tk L X (fo (gE T tk) k h0)) 3 0 M (Nat.zero_le _) hm ?_ ?_
  · rintro j M1 m1
    unfold bX8_mixSets_49
    exact ⟨fun _ => h M1 m1, fun g => by omega⟩
  · rintro j k M1 hk m1 ih
    unfold bX8_mixSets_49
    refine ⟨fun g => by omega, fun _ => q8_reachV hw m1 ha (fun M2 m2 => q8_mix m2 (fun M3 m3 => ?_))⟩
    rw [w_1 hk (by omega)]
    exact ih M3 m3
theorem q8_ms26 (hw : wI T tk L X) (ha : all T (Pn T) ≤ 500) (hm : mJ M T tk L X h0) (h : ∀ M', mJ M' T tk L X (fo (gP T) 4 h0) → ∃ j, bX8_mixSets_49 j 0 M' R) : ∃ j, bX8_mixSets_26 j 0 M R := by
  refine pk_loop (fun j (k : Nat) (M2 : mm_M) => bX8_mixSets_26 j k M2 R) (fun k M2 => mJ M2 T tk L X (fo (gP T) k h0)) 4 0 M (Nat.zero_le _) hm ?_ ?_
  · rintro j M1 m1
    unfold bX8_mixSets_26
    exact ⟨fun _ => h M1 m1, fun g => by omega⟩
  · rintro j k M1 hk m1 ih
    unfold bX8_mixSets_26
    refine ⟨fun g => by omega, fun _ => q8_priceV hw m1 ha (fun M2 m2 => q8_mix m2 (fun M3 m3 => ?_))⟩
    rw [w_1 hk (by omega)]
    exact ih M3 m3
theorem q8_ms2 (hw : wI T tk L X) (ha : all T (Pn T) ≤ 500) (hm : mJ M T tk L X h0) (h : ∀ M', mJ M' T tk L X (fo (gS T) 6 h0) → ∃ j, bX8_mixSets_26 j 0 M' R) : ∃ j, bX8_mixSets_2 j 0 M R := by
  refine pk_loop (fun j (k : Nat) (M2 : mm_M) => bX8_mixSets_2 j k M2 R) (fun k M2 => mJ M2 T tk L X (fo (gS T) k h0)) 6 0 M (Nat.zero_le _) hm ?_ ?_
  · rintro j M1 m1
    unfold bX8_mixSets_2
    exact ⟨fun _ => h M1 m1, fun g => by omega⟩
  · rintro j k M1 hk m1 ih
    unfold bX8_mixSets_2
    refine ⟨fun g => by omega, fun _ => q8_restsV hw m1 ha (by omega) (fun M2 m2 => q8_mix m2 (fun M3 m3 => ?_))⟩
    rw [w_1 hk (by omega)]
    exact ih M3 m3
theorem q8_mixSets (hw : wI T tk L X) (ha : all T (Pn T) ≤ 500) (hm : mJ M T tk L X h0) (h : ∀ M', mJ M' T tk L X (dS T tk h0) → R M') : mX8_mixSets M R :=
  q8_ms2 hw ha hm (fun _ m1 => q8_ms26 hw ha m1 (fun _ m2 => q8_ms49 hw ha m2 h))
theorem q8_mixLeads (hw : wI T tk L X) (hm : mJ M T tk L X h0) (h : ∀ M', mJ M' T tk L X (dL T tk (Pn T) h0) → R M') : mX8_mixLeads M R := by
  have hP := wf_P hw.1
  unfold mX8_mixLeads
  refine pk_loop (fun j (k : Nat) (M2 : mm_M) => bX8_mixLeads_2 j k M2 R) (fun k M2 => mJ M2 T tk L X (dL T tk k h0)) (Pn T) 0 M (Nat.zero_le _) hm ?_ ?_
  · rintro j M1 m1
    unfold bX8_mixLeads_2
    rw [pj_r m1.1.1.1 (q := 0) (k := 9) rfl]
    exact ⟨fun _ => h M1 m1, fun g => by omega⟩
  · rintro j p M1 hp m1 ih
    have hW := wf_w hw.1 hp
    unfold bX8_mixLeads_2
    rw [pj_r m1.1.1.1 (q := 0) (k := 9) rfl]
    refine ⟨fun g => by omega, fun _ => ?_⟩
    refine pk_loop (fun i (k : Nat) (M2 : mm_M) => bX8_mixLeads_12 (fun v1 M => bX8_mixLeads_2 j v1 M R) i p k M2 R) (fun k M2 => mJ M2 T tk L X (fo (ldp T tk p) k (dL T tk p h0))) (wn T p) 0 M1 (Nat.zero_le _) m1 ?_ ?_
    · rintro i M2 m2
      unfold bX8_mixLeads_12
      rw [Int.toNat_natCast, pj_r m2.1.1.1 (q := 8) (k := p) rfl]
      refine ⟨by omega, fun _ => ?_, fun g => by omega⟩
      rw [w_1 hp (by omega)]
      exact ih M2 m2
    · rintro i k M2 hk m2 ih2
      unfold bX8_mixLeads_12
      rw [Int.toNat_natCast, pj_r m2.1.1.1 (q := 8) (k := p) rfl]
      refine ⟨by omega, fun g => by omega, fun _ => q8_leadNow hw.1 hw.2.1 hp hk m2.1.1 (fun M3 o m => q8_mix (m2.osc o m) (fun M4 m4 => ?_))⟩
      rw [w_1 hk (by omega)]
      exact ih2 M4 m4
theorem q8_ml66 (hw : wI T tk L X) (hn : 1 ≤ Ln L) (hm : mJ M T tk L X h0) (h : ∀ M', mJ M' T tk L X (fo (gT L) 3 h0) → R M') : ∃ j, bX8_mixLanes_66 j 0 M R := by
  refine pk_loop (fun j (k : Nat) (M2 : mm_M) => bX8_mixLanes_66 j k M2 R) (fun k M2 => mJ M2 T tk L X (fo (gT L) k h0)) 3 0 M (Nat.zero_le _) hm ?_ ?_
  · rintro j M1 m1
    unfold bX8_mixLanes_66
    exact ⟨fun _ => h M1 m1, fun g => by omega⟩
  · rintro j k M1 hk m1 ih
    unfold bX8_mixLanes_66
    refine ⟨fun g => by omega, fun _ => q8_totalV hw m1 hn (fun M2 m2 _ => q8_mix m2 (fun M3 m3 => ?_))⟩
    rw [w_1 hk (by omega)]
    exact ih M3 m3
theorem q8_ml43 (hw : wI T tk L X) (hn : 1 ≤ Ln L) (hm : mJ M T tk L X h0) (h : ∀ M', mJ M' T tk L X (fo (gV L) 2 h0) → ∃ j, bX8_mixLanes_66 j 0 M' R) : ∃ j, bX8_mixLanes_43 j 0 M R := by
  refine pk_loop (fun j (k : Nat) (M2 : mm_M) => bX8_mixLanes_43 j k M2 R) (fun k M2 => mJ M2 T tk L X (fo (gV L) k h0)) 2 0 M (Nat.zero_le _) hm ?_ ?_
  · rintro j M1 m1
    unfold bX8_mixLanes_43
    exact ⟨fun _ => h M1 m1, fun g => by omega⟩
  · rintro j k M1 hk m1 ih
    unfold bX8_mixLanes_43
    refine ⟨fun g => by omega, fun _ => q8_levelV hw m1 hn (fun M2 m2 => q8_mix m2 (fun M3 m3 => ?_))⟩
    rw [w_1 hk (by omega)]
    exact ih M3 m3
theorem q8_ml2 (hw : wI T tk L X) (hm : mJ M T tk L X h0) (h : ∀ M', mJ M' T tk L X (fo (gF L) (8 * Ln L) h0) → ∃ j, bX8_mixLanes_43 j 0 M' R) : ∃ j, bX8_mixLanes_2 j 0 M R := by
  have hN := wfL_n hw.2.2.2.1
  refine pk_loop (fun j (k : Nat) (M2 : mm_M) => bX8_mixLanes_2 j k M2 R) (fun k M2 => mJ M2 T tk L X (fo (gF L) k h0)) (8 * Ln L) 0 M (Nat.zero_le _) hm ?_ ?_
  · rintro j M1 m1
    unfold bX8_mixLanes_2
    rw [lj_r m1.1.2.1 (q := 0) (k := 18) (by decide), mm_w_id (z := 8 * L 0 18) (by omega) (by omega)]
    exact ⟨fun _ => h M1 m1, fun g => by omega⟩
  · rintro j k M1 hk m1 ih
    unfold bX8_mixLanes_2
    rw [lj_r m1.1.2.1 (q := 0) (k := 18) (by decide), mm_w_id (z := 8 * L 0 18) (by omega) (by omega), show mm_div (k : Int) 8 = ((k / 8 : Nat) : Int) from dv (b := 8) (by omega), show mm_rem (k : Int) 8 = ((k % 8 : Nat) : Int) from rem_n k 8, show mm_rem (k : Int) 2 = ((k % 2 : Nat) : Int) from rem_n k 2, show mm_div ((k % 8 : Nat) : Int) 2 = ((k % 8 / 2 : Nat) : Int) from dv (b := 2) (by omega)]
    refine ⟨fun g => by omega, fun _ => ⟨by decide, by decide, by decide, by decide, q8_flowV hw m1 (n := k / 8) (by omega) (fun M2 m2 => q8_mix m2 (fun M3 m3 => ?_))⟩⟩
    rw [w_1 hk (by omega)]
    exact ih M3 m3
theorem q8_mixLanes (hw : wI T tk L X) (hn : 1 ≤ Ln L) (hm : mJ M T tk L X h0) (h : ∀ M', mJ M' T tk L X (dF L h0) → R M') : mX8_mixLanes M R :=
  q8_ml2 hw hm (fun _ m1 => q8_ml43 hw hn m1 (fun _ m2 => q8_ml66 hw hn m2 h))
theorem q8_dg46 (hw : wI T tk L X) (hm : mJ M T tk L X h0) (h : ∀ M', mJ M' T tk L X (dE T L X h0) → Q (dE T L X h0) M') : ∃ j, bX8_digest_46 j 0 M Q := by
  have hX := hw.2.2.2.2.1
  refine pk_loop (fun j (k : Nat) (M2 : mm_M) => bX8_digest_46 j k M2 Q) (fun k M2 => mJ M2 T tk L X (fo (X 14) k h0)) (X 0 23).toNat 0 M (Nat.zero_le _) hm ?_ ?_
  · rintro j M1 m1
    unfold bX8_digest_46
    rw [xj_r m1.1.2.2 (q := 0) (k := 23) (by decide)]
    refine ⟨fun _ => ?_, fun g => by omega⟩
    refine pk_loop (fun j (k : Nat) (M2 : mm_M) => bX8_digest_73 j k M2 Q) (fun k M2 => mJ M2 T tk L X (fo (gC T L X) k (fo (X 14) (X 0 23).toNat h0))) 7 0 M1 (Nat.zero_le _) m1 ?_ ?_
    · rintro j M2 m2
      unfold bX8_digest_73
      rw [m2.2]
      exact ⟨fun _ => h M2 m2, fun g => by omega⟩
    · rintro j k M2 hk m2 ih
      unfold bX8_digest_73
      refine ⟨fun g => by omega, fun _ => q8_countV m2.1 (q8_mix m2 (fun M3 m3 => ?_))⟩
      rw [w_1 hk (by omega)]
      exact ih M3 m3
  · rintro j k M1 hk m1 ih
    unfold bX8_digest_46
    rw [xj_r m1.1.2.2 (q := 0) (k := 23) (by decide), Int.toNat_natCast, xj_r m1.1.2.2 (q := 14) (k := k) (Or.inr rfl)]
    refine ⟨fun g => by omega, fun _ => ⟨by omega, q8_mix m1 (fun M3 m3 => ?_)⟩⟩
    rw [w_1 hk (by omega)]
    exact ih M3 m3
theorem q8_dg29 (hw : wI T tk L X) (hm : mJ M T tk L X h0) (h1 : 1 ≤ Ln L → ∀ M', mI M' T tk L X → Q (dE T L X (dF L (dL T tk (Pn T) h0))) M') (h2 : Ln L = 0 → ∀ M', mI M' T tk L X → Q (dE T L X (dL T tk (Pn T) h0)) M') : bX8_digest_29 M Q := by
  have hN := wfL_n hw.2.2.2.1
  unfold bX8_digest_29
  refine q8_mixLeads hw hm (fun M1 m1 => ?_)
  rw [lj_r m1.1.2.1 (q := 0) (k := 18) (by decide)]
  exact ⟨fun g => q8_dg46 hw m1 (fun M2 m2 => h2 (by omega) M2 m2.1), fun g => q8_mixLanes hw (by omega) m1 (fun M2 m2 => q8_dg46 hw m2 (fun M3 m3 => h1 (by omega) M3 m3.1))⟩
theorem q7_dgE (hw : wI T tk L X) (hc : cI C T tk L X) (h1 : 1 ≤ Ln L → ∀ C', cI C' T tk L X → Q (dE T L X (dF L h0)) C') (h2 : Ln L = 0 → Q (dE T L X h0) C) : mX7_mixLanes h0 C (fun r M2 => ∃ j, bX7_digest_43 j r 0 M2 Q) :=
  q7_mixLanes hw hc (fun hn C1 c1 => q7_dg43 hw c1 (h1 hn C1 c1)) (fun hz => q7_dg43 hw hc (h2 hz))
theorem z_digest (hi : Inv C M) : mX7_digest C (fun r C' => mX8_digest M (fun r' M' => r = r' ∧ Inv C' M')) := by
  obtain ⟨T, tk, L, X, hw, hc, hm⟩ := hi
  have hnc := hw.2.2.1
  unfold netc at hnc
  have hP := wf_P hw.1
  have m0 : mJ (mm_up M 0 56 1543) T tk L X 1543 := ⟨⟨⟨pj_fr hm.1.1 (fun q k hp => up_n (by have := pp_i hp; omega)), fun p hp => (up_n (by omega)).trans (hm.1.2 p hp)⟩, lj_fr hm.2.1 (fun q k a => up_n (by omega)), xj_fr hm.2.2 (fun q k a => up_n (by omega))⟩, up_s _ _ _ _⟩
  unfold mX7_digest
  refine q7_hasNet hc (fun hn => dy1 ?_) (fun hn => dn0 ?_)
  · have go : ∀ (s : Int) (C1 : mm_M), cI C1 T tk L X → (∀ Q : Int → mm_M → Prop, (∀ M', mJ M' T tk L X s → bX8_digest_29 M' Q) → mX8_digest M Q) → mX7_mixLeads s C1 (fun r6 M6 => mX7_mixLanes r6 M6 (fun r7 M7 => ∃ j, bX7_digest_43 j r7 0 M7 (fun r C' => mX8_digest M (fun r' M' => r = r' ∧ Inv C' M')))) := fun s C1 c1 hM =>
      q7_mixLeads hw c1 (fun C2 c2 => q7_dgE hw c2 (fun n1 C3 c3 => hM _ (fun M1 m1 => q8_dg29 hw m1 (fun _ M2 m2 => ⟨rfl, T, tk, L, X, hw, c3, m2⟩) (fun n2 => by omega))) (fun n1 => hM _ (fun M1 m1 => q8_dg29 hw m1 (fun n2 => by omega) (fun _ M2 m2 => ⟨rfl, T, tk, L, X, hw, c2, m2⟩))))
    refine q7_mixNet hw hc hn (q7_mixPlayers hw hc (q7_mixSets hw hc (fun g1 g2 C1 c1 => go _ C1 c1 (fun Q hQ => ?_)) (fun g => go _ C hc (fun Q hQ => ?_))))
    · unfold mX8_digest
      exact q8_isNetT hw m0.1 (fun _ => dy1 (q8_mixNet hw m0 (fun M1 m1 => q8_isCounted hw m1.1 (fun _ _ => dy1 (q8_mixSets hw g2 m1 (fun M2 m2 => hQ M2 m2))) (fun g => absurd ⟨g1, g2⟩ g)))) (fun g => by omega)
    · unfold mX8_digest
      exact q8_isNetT hw m0.1 (fun _ => dy1 (q8_mixNet hw m0 (fun M1 m1 => q8_isCounted hw m1.1 (fun g1 g2 => absurd ⟨g1, g2⟩ g) (fun _ => dn0 (hQ M1 m1))))) (fun g => by omega)
  · have p0 : Pn T = 0 := by omega
    have hM : ∀ Q : Int → mm_M → Prop, (∀ M', mJ M' T tk L X 1543 → bX8_digest_29 M' Q) → mX8_digest M Q := fun Q hQ => by
      unfold mX8_digest
      exact q8_isNetT hw m0.1 (fun g => by omega) (fun _ => dn0 (q8_isCounted hw m0.1 (fun g1 _ => by omega) (fun _ => dn0 (hQ _ m0))))
    have e : dL T tk (Pn T) 1543 = 1543 := by rw [p0]; rfl
    refine q7_dgE hw hc (fun n1 C3 c3 => hM _ (fun M1 m1 => q8_dg29 hw m1 (fun _ M2 m2 => ?_) (fun n2 => by omega))) (fun n1 => hM _ (fun M1 m1 => q8_dg29 hw m1 (fun n2 => by omega) (fun _ M2 m2 => ?_)))
    · rw [e]; exact ⟨rfl, T, tk, L, X, hw, c3, m2⟩
    · rw [e]; exact ⟨rfl, T, tk, L, X, hw, hc, m2⟩
end S67
