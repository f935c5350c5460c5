/-! calls on players: both sides answer alike and hold one state -/
theorem xj_up {M : mm_M} {q0 k0 : Nat} (hq : (q0 = 0 ∧ (k0 = 8 ∨ k0 = 16 ∨ k0 = 17 ∨ k0 = 23)) ∨ q0 = 14) (v : Int) : xj (mm_up M q0 k0 v) = mm_up (xj M) q0 k0 v := by
  funext q k
  by_cases e : q = q0 ∧ k = k0
  · obtain ⟨rfl, rfl⟩ := e
    rw [up_s]; unfold xj; rw [if_pos hq, up_s]
  · have e' : q ≠ q0 ∨ k ≠ k0 := by omega
    rw [up_n e']; unfold xj; rw [up_n e']
theorem lj_up {M : mm_M} {q0 k0 : Nat} (hq : (q0 = 0 ∧ (k0 = 18 ∨ k0 = 21 ∨ k0 = 22)) ∨ q0 = 12 ∨ q0 = 13) (v : Int) : lj (mm_up M q0 k0 v) = mm_up (lj M) q0 k0 v := by
  funext q k
  by_cases e : q = q0 ∧ k = k0
  · obtain ⟨rfl, rfl⟩ := e
    rw [up_s]; unfold lj; rw [if_pos hq, up_s]
  · have e' : q ≠ q0 ∨ k ≠ k0 := by omega
    rw [up_n e']; unfold lj; rw [up_n e']
theorem pj_up {M : mm_M} {q0 k0 : Nat} (hq : (pp q0 k0 && Nat.ble q0 7) = true) (h9 : q0 ≠ 0 ∨ k0 ≠ 9) (v : Int) : pj (mm_up M q0 k0 v) = mm_up (pj M) q0 k0 v := by
  obtain ⟨h1, h2⟩ := Bool.and_eq_true_iff.mp hq
  have h3 := Nat.le_of_ble_eq_true h2
  funext q k
  by_cases e : q = q0 ∧ k = k0
  · obtain ⟨rfl, rfl⟩ := e
    rw [up_s, pj_y (pjc_8 h1 (by omega)), up_s]
  · have e' : q ≠ q0 ∨ k ≠ k0 := by omega
    have ec : pjc (mm_up M q0 k0 v) q k = pjc M q k := by
      unfold pjc
      rw [up_n (by omega), up_n (by omega), up_n (by omega), up_n (by omega)]
    rw [up_n e']
    by_cases c : pjc M q k
    · rw [pj_y c, pj_y (by rw [ec]; exact c), up_n e']
    · rw [pj_0 c, pj_0 (by rw [ec]; exact c)]
theorem up_same (M : mm_M) (q k : Nat) : mm_up M q k (M q k) = M := by
  funext a i
  by_cases e : a = q ∧ i = k
  · obtain ⟨rfl, rfl⟩ := e; exact up_s _ _ _ _
  · exact up_n (by omega)
section S56
variable {T L X : mm_M} {tk : Nat → Nat} {C M : mm_M}
theorem mI.x {q0 k0 : Nat} (hm : mI M T tk L X) (hq : (q0 = 0 ∧ (k0 = 8 ∨ k0 = 16 ∨ k0 = 17 ∨ k0 = 23)) ∨ q0 = 14) (v : Int) : mI (mm_up M q0 k0 v) T tk L (mm_up X q0 k0 v) :=
  ⟨⟨pj_fr hm.1.1 (fun q k hp => up_n (by have := pp_i hp; omega)), fun p hp => (up_n (by omega)).trans (hm.1.2 p hp)⟩, lj_fr hm.2.1 (fun q k a => up_n (by omega)), by rw [xj_up hq, hm.2.2]⟩
theorem mI.l {q0 k0 : Nat} (hm : mI M T tk L X) (hq : (q0 = 0 ∧ (k0 = 18 ∨ k0 = 21 ∨ k0 = 22)) ∨ q0 = 12 ∨ q0 = 13) (v : Int) : mI (mm_up M q0 k0 v) T tk (mm_up L q0 k0 v) X :=
  ⟨⟨pj_fr hm.1.1 (fun q k hp => up_n (by have := pp_i hp; omega)), fun p hp => (up_n (by omega)).trans (hm.1.2 p hp)⟩, by rw [lj_up hq, hm.2.1], xj_fr hm.2.2 (fun q k a => up_n (by omega))⟩
theorem cs_fr {C' : mm_M} (hN : wf T) (h : ∀ q k, 9 ≤ q → q < 115 → q ≠ 17 → C' q k = C q k) (hc : cs C T tk) : cs C' T tk := by
  have hP := wf_P hN
  have hR := wf_R hN
  refine ⟨⟨(h 9 2 (by omega) (by omega) (by omega)).trans hc.1.1, ?_, fun r hr k a b => (h _ _ (by omega) (by omega) (by omega)).trans (hc.1.2.2.1 r hr k a b), fun p hp => ?_⟩, fun p hp => (h _ _ (by omega) (by omega) (by omega)).trans (hc.2.1 p hp), fun r hr => (h _ _ (by omega) (by omega) (by omega)).trans (hc.2.2 r hr)⟩
  · obtain ⟨a, b, c, d⟩ := hc.1.2.1
    refine ⟨(h 9 3 (by omega) (by omega) (by omega)).trans a, (h 10 0 (by omega) (by omega) (by omega)).trans b, (h 10 1 (by omega) (by omega) (by omega)).trans c, fun r hr => ?_⟩
    obtain ⟨d1, d2, d3, d4, d5⟩ := d r hr
    exact ⟨(h 11 r (by omega) (by omega) (by omega)).trans d1, (h 12 r (by omega) (by omega) (by omega)).trans d2, (h 13 r (by omega) (by omega) (by omega)).trans d3, (h 14 r (by omega) (by omega) (by omega)).trans d4, (h 15 r (by omega) (by omega) (by omega)).trans d5⟩
  · have hW := wf_w hN hp
    obtain ⟨a, b, c, d⟩ := hc.1.2.2.2 p hp
    refine ⟨(h _ 0 (by omega) (by omega) (by omega)).trans a, (h _ 1 (by omega) (by omega) (by omega)).trans b, (h _ 2 (by omega) (by omega) (by omega)).trans c, fun w hw => ?_⟩
    obtain ⟨d1, d2, d3⟩ := d w hw
    refine ⟨(h _ _ (by omega) (by omega) (by omega)).trans d1, fun r hr => ?_, fun k hk => (h _ _ (by omega) (by omega) (by omega)).trans (d3 k hk)⟩
    rw [h (30 + 17 * p + 2) w (by omega) (by omega) (by omega)]
    exact d2 r hr
/-- frames of the class's state: pages and counts; lanes; net and players -/
theorem cI.fr {C' X' : mm_M} (hw : wf T) (h : cI C T tk L X) (hf : ∀ q k, 9 ≤ q → C' q k = C q k) (hx : xC C' X') : cI C' T tk L X' := by
  obtain ⟨k1, k2, ⟨wv, nx, k3⟩, k4, k5, k6⟩ := h
  have fe : ∀ q, 9 ≤ q → C' q = C q := fun q hq => funext (fun k => hf q k hq)
  refine ⟨cs_fr hw (fun q i a _ _ => hf q i a) k1, ?_, ⟨wv, nx, k3.1, (hf 121 2 (by decide)).trans k3.2.1, (hf 121 4 (by decide)).trans k3.2.2⟩, ?_, ?_, hx⟩
  · unfold ch aD gD vD lD sD at *
    rw [fe 115 (by decide), fe 116 (by decide), fe 117 (by decide), fe 118 (by decide), fe 119 (by decide), fe 120 (by decide), fe 121 (by decide)]
    exact k2
  · unfold lC at *
    rw [fe 125 (by decide), fe 126 (by decide), fe 127 (by decide), fe 128 (by decide)]
    exact k4
  · unfold kD at *
    rw [fe 125 (by decide), fe 129 (by decide), fe 133 (by decide), fe 134 (by decide), fe 135 (by decide), fe 136 (by decide)]
    exact k5
theorem cI.fl {C' L' : mm_M} (hw : wf T) (h : cI C T tk L X) (hf : ∀ q k, q < 125 → C' q k = C q k) (hl : lC C' L') (hk : C' 125 6 ≠ 0 → kD C' L') : cI C' T tk L' X := by
  obtain ⟨k1, k2, ⟨wv, nx, k3⟩, k4, k5, k6⟩ := h
  have fe : ∀ q, q < 125 → C' q = C q := fun q hq => funext (fun k => hf q k hq)
  refine ⟨cs_fr hw (fun q i _ a _ => hf q i (by omega)) k1, ?_, ⟨wv, nx, k3.1, (hf 121 2 (by decide)).trans k3.2.1, (hf 121 4 (by decide)).trans k3.2.2⟩, hl, hk, (hf 1 1 (by decide)).trans k6.1, fun i hi => (hf 2 i (by decide)).trans (k6.2.1 i hi), (hf 0 4 (by decide)).trans k6.2.2.1, (hf 0 5 (by decide)).trans k6.2.2.2.1, (hf 0 6 (by decide)).trans k6.2.2.2.2⟩
  unfold ch aD gD vD lD sD at *
  rw [fe 115 (by decide), fe 116 (by decide), fe 117 (by decide), fe 118 (by decide), fe 119 (by decide), fe 120 (by decide), fe 121 (by decide)]
  exact k2
theorem cI.ft {C' T' X' : mm_M} {t' : Nat → Nat} (h : cI C T tk L X) (hf : ∀ q k, 116 ≤ q → C' q k = C q k) (hc : cs C' T' t') (h0 : C' 115 0 = 0) (hx : xC C' X') : cI C' T' t' L X' := by
  obtain ⟨k1, k2, ⟨wv, nx, k3⟩, k4, k5, k6⟩ := h
  have fe : ∀ q, 116 ≤ q → C' q = C q := fun q hq => funext (fun k => hf q k hq)
  refine ⟨hc, Or.inl h0, ⟨wv, nx, k3.1, (hf 121 2 (by decide)).trans k3.2.1, (hf 121 4 (by decide)).trans k3.2.2⟩, ?_, ?_, hx⟩
  · unfold lC at *
    rw [fe 125 (by decide), fe 126 (by decide), fe 127 (by decide), fe 128 (by decide)]
    exact k4
  · unfold kD at *
    rw [fe 125 (by decide), fe 129 (by decide), fe 133 (by decide), fe 134 (by decide), fe 135 (by decide), fe 136 (by decide)]
    exact k5
theorem z_about (hi : Inv C M) (z : Int) : mX7_about z C (fun r C' => mX8_about z M (fun r' M' => r = r' ∧ Inv C' M')) := by
  obtain ⟨T, tk, L, X, hw, hc, hm⟩ := hi
  by_cases hz : 0 ≤ z ∧ z ≤ 7
  · by_cases hn : 0 < T 0 1
    · refine q7_aboutV hw hc hn hz ?_
      unfold mX8_about
      exact q8_within (fun _ _ => cy1 (q8_isNetT hw hm (fun _ => dy1 (q8_aboutV hw hm.J hz (fun M' k => ⟨rfl, T, tk, L, X, hw, hc, k.1⟩))) (fun g => by omega))) (fun g => by omega)
    · unfold mX7_about
      refine q7_within (fun _ _ => cy1 (q7_hasNet hc (fun g => absurd g hn) (fun _ => cn0 ?_))) (fun g => by omega)
      unfold mX8_about
      exact q8_within (fun _ _ => cy1 (q8_isNetT hw hm (fun g => absurd g hn) (fun g => dn0 ⟨rfl, T, tk, L, X, hw, hc, hm⟩))) (fun g => by omega)
  · unfold mX7_about
    refine q7_within (fun _ _ => by omega) (fun _ => cn0 ?_)
    unfold mX8_about
    exact q8_within (fun _ _ => by omega) (fun _ => cn0 ⟨rfl, T, tk, L, X, hw, hc, hm⟩)
theorem z_road (hi : Inv C M) (v z : Int) : mX7_road v z C (fun r C' => mX8_road v z M (fun r' M' => r = r' ∧ Inv C' M')) := by
  obtain ⟨T, tk, L, X, hw, hc, hm⟩ := hi
  have hR := wf_R hw.1
  by_cases hv : 0 ≤ v ∧ v < T 0 1
  · obtain ⟨r, rfl⟩ : ∃ r : Nat, v = r := ⟨v.toNat, by omega⟩
    by_cases hz : 0 ≤ z ∧ z ≤ 7
    · refine q7_roadV hw hc (r := r) (by omega) hz ?_
      unfold mX8_road
      exact q8_isRoad hw hm (fun _ _ _ => cy1 (q8_within (fun _ _ => dy1 (q8_roadV hw hm.J (r := r) (by omega) hz (fun M' k => ⟨rfl, T, tk, L, X, hw, hc, k.1⟩))) (fun g => by omega))) (fun g => absurd hv g)
    · unfold mX7_road
      refine q7_isRoad hw hc (fun _ _ _ => cy1 (q7_within (fun _ _ => by omega) (fun _ => cn0 ?_))) (fun g => absurd hv g)
      unfold mX8_road
      exact q8_isRoad hw hm (fun _ _ _ => cy1 (q8_within (fun _ _ => by omega) (fun _ => dn0 ⟨rfl, T, tk, L, X, hw, hc, hm⟩))) (fun g => absurd hv g)
  · unfold mX7_road
    refine q7_isRoad hw hc (fun r e _ => by omega) (fun _ => cn0 ?_)
    unfold mX8_road
    exact q8_isRoad hw hm (fun r e _ => by omega) (fun _ => cn0 ⟨rfl, T, tk, L, X, hw, hc, hm⟩)
theorem z_who (hi : Inv C M) (v z : Int) : mX7_who v z C (fun r C' => mX8_who v z M (fun r' M' => r = r' ∧ Inv C' M')) := by
  obtain ⟨T, tk, L, X, hw, hc, hm⟩ := hi
  have hP := wf_P hw.1
  by_cases hv : 0 ≤ v ∧ v < T 0 9
  · obtain ⟨r, rfl⟩ : ∃ r : Nat, v = r := ⟨v.toNat, by omega⟩
    by_cases hz : 0 ≤ z ∧ z ≤ 6
    · refine q7_whoV hw hc (p := r) (by omega) hz ?_
      unfold mX8_who
      exact q8_isPlayer hw hm (fun _ _ _ => cy1 (q8_within (fun _ _ => dy1 (q8_whoV hw hm.J (p := r) (by omega) hz (fun M' k => ⟨rfl, T, tk, L, X, hw, hc, k.1⟩))) (fun g => by omega))) (fun g => absurd hv g)
    · unfold mX7_who
      refine q7_isPlayer hw hc (fun _ _ _ => cy1 (q7_within (fun _ _ => by omega) (fun _ => cn0 ?_))) (fun g => absurd hv g)
      unfold mX8_who
      exact q8_isPlayer hw hm (fun _ _ _ => cy1 (q8_within (fun _ _ => by omega) (fun _ => dn0 ⟨rfl, T, tk, L, X, hw, hc, hm⟩))) (fun g => absurd hv g)
  · unfold mX7_who
    refine q7_isPlayer hw hc (fun r e _ => by omega) (fun _ => cn0 ?_)
    unfold mX8_who
    exact q8_isPlayer hw hm (fun r e _ => by omega) (fun _ => cn0 ⟨rfl, T, tk, L, X, hw, hc, hm⟩)
theorem z_way (hi : Inv C M) (v u z : Int) : mX7_way v u z C (fun r C' => mX8_way v u z M (fun r' M' => r = r' ∧ Inv C' M')) := by
  obtain ⟨T, tk, L, X, hw, hc, hm⟩ := hi
  have hP := wf_P hw.1
  unfold mX7_way
  refine q7_isWay hw hc (fun p w e1 e2 hp hv => cy1 ?_) (fun g => cn0 ?_)
  · subst e1 e2
    have hW := wf_w hw.1 hp
    have hL := wf_l hw.1 hp hv
    obtain ⟨d1, -, d3⟩ := (hc.1.1.2.2.2 p hp).2.2.2 w hv
    rw [Int.toNat_natCast, Int.toNat_natCast, ak_p1 (show p < 5 by omega), ak_p4 (show p < 5 by omega), d1, mm_w_id (z := T 10 (12 * p + w) - 1) (by omega) (by omega)]
    refine ⟨by omega, mm_chk_i (kd_p (by omega)) (mm_chk_i rfl ⟨⟨by omega, by show _ < (12 : Int); omega⟩, ?_⟩)⟩
    refine q7_within (fun a b => cy1 (mm_chk_i (kd_p (by omega)) (mm_chk_i rfl ⟨⟨by omega, by show _ < (12 : Int); omega⟩, ?_⟩))) (fun g => cn0 ?_)
    · obtain ⟨k, rfl⟩ : ∃ k : Nat, z = k := ⟨z.toNat, by omega⟩
      have hk : k < ln T p w := by omega
      have hr := wf_rd hw.1 hp hv hk
      rw [show mm_el ((4, 12) : Nat × Nat).1 (30 + 17 * p + 4) w = 30 + 17 * p + 5 + w from el_4 (30 + 17 * p) w, ak_pw p (by omega) w (by omega), Int.toNat_natCast, d3 k hk]
      refine mm_chk_i rfl ⟨⟨by omega, by show _ < (5 : Int); omega⟩, ?_⟩
      unfold mX8_way
      refine q8_isWay hw hm (fun _ _ _ _ _ _ => dy1 ?_) (fun g => absurd (isW_i hw.1 hp hv) g)
      rw [ix_w p w (by omega) (by omega), Int.toNat_natCast, pj_r10 hm.1.1 (p := p) (w := w) hp hv (by omega), mm_w_id (z := T 10 (12 * p + w) - 1) (by omega) (by omega)]
      refine ⟨by omega, q8_within (fun _ _ => dy1 (dy1 (q8_roadOf (by omega) (by omega) (by omega) ?_))) (fun g => by omega)⟩
      rw [pj_r11 hm.1.1 (p := p) (w := w) (k := k) hp hv hk (by omega) (by omega)]
      exact ⟨rfl, T, tk, L, X, hw, hc, hm⟩
    · unfold mX8_way
      refine q8_isWay hw hm (fun _ _ _ _ _ _ => dy1 ?_) (fun g => absurd (isW_i hw.1 hp hv) g)
      rw [ix_w p w (by omega) (by omega), Int.toNat_natCast, pj_r10 hm.1.1 (p := p) (w := w) hp hv (by omega), mm_w_id (z := T 10 (12 * p + w) - 1) (by omega) (by omega)]
      exact ⟨by omega, q8_within (fun _ _ => by omega) (fun g => dn0 (dn0 ⟨rfl, T, tk, L, X, hw, hc, hm⟩))⟩
  · unfold mX8_way
    refine q8_isWay hw hm (fun p w e1 e2 hp hv => ?_) (fun _ => dn0 (dn0 ⟨rfl, T, tk, L, X, hw, hc, hm⟩))
    subst e1 e2
    exact absurd (isW_i hw.1 hp hv) g
theorem z_pay (hi : Inv C M) (v u : Int) : mX7_pay v u C (fun r C' => mX8_pay v u M (fun r' M' => r = r' ∧ Inv C' M')) := by
  obtain ⟨T, tk, L, X, hw, hc, hm⟩ := hi
  have hP := wf_P hw.1
  unfold mX7_pay
  refine q7_isWay hw hc (fun p w e1 e2 hp hv => cy1 ?_) (fun g => cn0 ?_)
  · subst e1 e2
    rw [Int.toNat_natCast]
    refine ⟨by omega, q6_payBy hw.1 hw.2.1 hp hv hc.1 ?_⟩
    unfold mX8_pay
    exact q8_isWay hw hm (fun _ _ _ _ _ _ => dy1 (q8_payOf hw.1 hw.2.1 hp hv hm.1 (fun M' a _ => ⟨rfl, T, tk, L, X, hw, hc, hm.o19 a⟩))) (fun g => absurd (isW_i hw.1 hp hv) g)
  · unfold mX8_pay
    refine q8_isWay hw hm (fun p w e1 e2 hp hv => ?_) (fun _ => dn0 ⟨rfl, T, tk, L, X, hw, hc, hm⟩)
    subst e1 e2
    exact absurd (isW_i hw.1 hp hv) g
theorem wI.tq {t' : Nat → Nat} (hw : wI T tk L X) (h : wfT T t') : wI T t' L X := ⟨hw.1, h, hw.2.2⟩
theorem z_set (hi : Inv C M) (v u : Int) : mX7_set v u C (fun r C' => mX8_set v u M (fun r' M' => r = r' ∧ Inv C' M')) := by
  obtain ⟨T, tk, L, X, hw, hc, hm⟩ := hi
  have hP := wf_P hw.1
  unfold mX7_set
  refine q7_isWay hw hc (fun p w e1 e2 hp hv => cy1 ?_) (fun g => cn0 ?_)
  · subst e1 e2
    rw [Int.toNat_natCast]
    refine ⟨by omega, mm_chk_i (kd_p (by omega)) (q6_moveTo hw.1 hw.2.1 hp hv hc.1 (fun C' a b => ?_))⟩
    unfold mX8_set
    refine q8_isWay hw hm (fun _ _ _ _ _ _ => cy1 ?_) (fun g => absurd (isW_i hw.1 hp hv) g)
    rw [Int.toNat_natCast, hc.1.2.1 p hp, hm.1.2 p hp]
    exact ⟨by omega, by omega, rfl, T, upt tk p w, L, X, hw.tq (wfT_upt hw.2.1 hv), hc.otk a.otk b, hm.osc o9.up.osc (ms_up9 hm.1)⟩
  · unfold mX8_set
    refine q8_isWay hw hm (fun p w e1 e2 hp hv => ?_) (fun _ => cn0 ⟨rfl, T, tk, L, X, hw, hc, hm⟩)
    subst e1 e2
    exact absurd (isW_i hw.1 hp hv) g
theorem z_lead (hi : Inv C M) (v u : Int) : mX7_lead v u C (fun r C' => mX8_lead v u M (fun r' M' => r = r' ∧ Inv C' M')) := by
  obtain ⟨T, tk, L, X, hw, hc, hm⟩ := hi
  unfold mX7_lead
  refine q7_isWay hw hc (fun p w e1 e2 hp hv => cy1 ?_) (fun g => cn0 ?_)
  · subst e1 e2
    refine q6_payIfLeading hw.1 hw.2.1 hp hv hc.1 (fun C' a b => ?_)
    unfold mX8_lead
    exact q8_isWay hw hm (fun _ _ _ _ _ _ => dy1 (q8_leadNow hw.1 hw.2.1 hp hv hm.1 (fun M' o m => ⟨rfl, T, tk, L, X, hw, hc.otk a b, hm.osc o m⟩))) (fun g => absurd (isW_i hw.1 hp hv) g)
  · unfold mX8_lead
    refine q8_isWay hw hm (fun p w e1 e2 hp hv => ?_) (fun _ => dn0 ⟨rfl, T, tk, L, X, hw, hc, hm⟩)
    subst e1 e2
    exact absurd (isW_i hw.1 hp hv) g
theorem z_leads (hi : Inv C M) (v : Int) : mX7_leads v C (fun r C' => mX8_leads v M (fun r' M' => r = r' ∧ Inv C' M')) := by
  obtain ⟨T, tk, L, X, hw, hc, hm⟩ := hi
  unfold mX7_leads
  refine q7_isPlayer hw hc (fun p e1 hp => cy1 ?_) (fun g => cn0 ?_)
  · subst e1
    refine q6_bestLeadOf hw.1 hw.2.1 hp hc.1 (fun C' a b => ?_)
    unfold mX8_leads
    exact q8_isPlayer hw hm (fun _ _ _ => dy1 (q8_leadsBy hw.1 hw.2.1 hp hm.1 (fun M' o m => ⟨rfl, T, tk, L, X, hw, hc.otk a b, hm.osc o m⟩))) (fun g => by have := wf_P hw.1; omega)
  · unfold mX8_leads
    exact q8_isPlayer hw hm (fun p e hp => by have := wf_P hw.1; omega) (fun _ => dn0 ⟨rfl, T, tk, L, X, hw, hc, hm⟩)
theorem z_follow (hi : Inv C M) (v : Int) : mX7_follow v C (fun r C' => mX8_follow v M (fun r' M' => r = r' ∧ Inv C' M')) := by
  obtain ⟨T, tk, L, X, hw, hc, hm⟩ := hi
  unfold mX7_follow
  refine q7_isPlayer hw hc (fun p e1 hp => cy1 ?_) (fun g => cn0 ?_)
  · subst e1
    have hW := wf_w hw.1 hp
    have hb : lbest T tk p < wn T p := lbs_lt hW.2.1 _ (Nat.le_refl _)
    refine q6_bestLeadOf hw.1 hw.2.1 hp hc.1 (fun C1 a b => q6_settleBehind hw.1 hw.2.1 hp hb b (fun C2 a2 b2 => ?_))
    unfold mX8_follow
    refine q8_isPlayer hw hm (fun _ _ _ => dy1 (q8_leadsBy hw.1 hw.2.1 hp hm.1 (fun M1 o m => q8_ledBy hw.1 hw.2.1 hp hb m (fun M2 o2 m2 => ⟨rfl, T, _, L, X, hw.tq (ledF_wf _ _ _ (wfT_upt hw.2.1 hb)), hc.otk (a.tr a2.otk) b2, hm.osc (o.tr o2.osc) m2⟩)))) (fun g => by have := wf_P hw.1; omega)
  · unfold mX8_follow
    exact q8_isPlayer hw hm (fun p e hp => by have := wf_P hw.1; omega) (fun _ => dn0 ⟨rfl, T, tk, L, X, hw, hc, hm⟩)
theorem z_count (hi : Inv C M) (v : Int) : mX7_count v C (fun r C' => mX8_count v M (fun r' M' => r = r' ∧ Inv C' M')) := by
  obtain ⟨T, tk, L, X, hw, hc, hm⟩ := hi
  exact q7_countV hc (q8_countV (Q := fun r1 M1 => v_count T L X v = r1 ∧ Inv C M1) hm ⟨rfl, T, tk, L, X, hw, hc, hm⟩)
theorem mI_x17 (hm : mI M T tk L X) : M 0 17 = X 0 17 := xj_r hm.2.2 (by decide)
theorem cI_x17 (hw : wf T) (hc : cI C T tk L X) (v : Int) : cI (mm_up C 0 6 v) T tk L (mm_up X 0 17 v) :=
  hc.fr hw (fun q k a => up_n (by omega)) ⟨(up_n (by omega)).trans (hc.2.2.2.2.2.1.trans (up_n (by omega)).symm), fun k hk => (up_n (by omega)).trans ((hc.2.2.2.2.2.2.1 k (by rw [up_n (by omega)] at hk; exact hk)).trans (up_n (by omega)).symm), (up_n (by omega)).trans (hc.2.2.2.2.2.2.2.1.trans (up_n (by omega)).symm), (up_n (by omega)).trans (hc.2.2.2.2.2.2.2.2.1.trans (up_n (by omega)).symm), by rw [up_s, up_s]⟩
theorem wI_x17 (hw : wI T tk L X) {v : Int} (hv : mm_R v) : wI T tk L (mm_up X 0 17 v) := by
  obtain ⟨h1, h2, h3, h4, h5, h6, h7⟩ := hw
  refine ⟨h1, h2, h3, h4, by rw [up_n (by omega)]; exact h5, by rw [up_s]; exact hv, fun k hk => ?_⟩
  rw [up_n (by omega)] at hk ⊢
  exact h7 k hk
theorem z_turn (hi : Inv C M) : mX7_turn C (fun r C' => mX8_turn M (fun r' M' => r = r' ∧ Inv C' M')) := by
  obtain ⟨T, tk, L, X, hw, hc, hm⟩ := hi
  unfold mX7_turn
  refine q7_hasNet hc (fun hn => cy1 (q6_moveFirst hw.1 hw.2.1 hc.1 (fun g => ⟨fun _ => ?_, fun e => absurd rfl e⟩) (fun p C1 a1 a2 a3 a4 => ⟨fun e => by omega, fun _ => ?_⟩))) (fun hn => cn0 ?_)
  · unfold mX8_turn
    refine q8_isNetT hw hm (fun _ => cy1 (q8_turnOf hw.1 hw.2.1 hm.1 (fun M1 b1 b2 _ => ⟨fun e => absurd rfl e, fun _ => ?_⟩) (fun p' M1 _ _ b3 _ => by have := isRst_u g b3; omega))) (fun g => by omega)
    have hm1 := hm.osc b1.osc b2
    have hR := hw.2.2.2.2.2.1
    unfold mm_R at hR
    rw [mI_x17 hm1, Int.add_zero, mm_w_id hR.1 hR.2, ← mI_x17 hm1, up_same]
    exact ⟨rfl, T, tk, L, X, hw, hc, hm1⟩
  · unfold mX8_turn
    refine q8_isNetT hw hm (fun _ => cy1 (q8_turnOf hw.1 hw.2.1 hm.1 (fun M1 b1 b2 b3 => by have := isRst_u a3 b3; omega) (fun p' M1 b1 b2 b3 b4 => ⟨fun _ => ?_, fun e => by omega⟩))) (fun g => by omega)
    have e : p' = p := by have := isRst_u a3 b3; omega
    subst e
    have hm1 := hm.osc b1.osc b4
    have hc1 := hc.otk a1.otk a4
    rw [mI_x17 hm1, hc1.2.2.2.2.2.2.2.2.2]
    exact ⟨rfl, T, _, L, _, wI_x17 (hw.tq (wfT_upt hw.2.1 (bestw_lt (hw.2.1 p' a2)))) (mm_w_R _), cI_x17 hw.1 hc1 _, hm1.x (by decide) _⟩
  · unfold mX8_turn
    exact q8_isNetT hw hm (fun g => by omega) (fun _ => cn0 ⟨rfl, T, tk, L, X, hw, hc, hm⟩)
noncomputable def tki (T : mm_M) (tk : Nat → Nat) : Nat → Nat → Nat
  | 0 => tk
  | i + 1 => upt (tki T tk i) (rz T (tki T tk i) (-1)).toNat (bestw T (tki T tk i) (rz T (tki T tk i) (-1)).toNat)
def runE (T : mm_M) (tk : Nat → Nat) (n i : Nat) : Prop := i ≤ n ∧ (∀ j, j < i → rz T (tki T tk j) (-1) ≠ -1) ∧ (i = n ∨ rz T (tki T tk i) (-1) = -1)
theorem runE_u {n i i' : Nat} (h : runE T tk n i) (h' : runE T tk n i') : i = i' := by
  rcases Nat.lt_trichotomy i i' with g | g | g
  · rcases h.2.2 with e | e
    · have := h'.1; omega
    · exact absurd e (h'.2.1 i g)
  · exact g
  · rcases h'.2.2 with e | e
    · have := h.1; omega
    · exact absurd e (h.2.1 i' g)
theorem tki_s {p i : Nat} (h : isRst T (tki T tk i) (-1) p) : tki T tk (i + 1) = upt (tki T tk i) p (bestw T (tki T tk i) p) := by
  have e := rz_eq h
  show upt (tki T tk i) (rz T (tki T tk i) (-1)).toNat (bestw T (tki T tk i) (rz T (tki T tk i) (-1)).toNat) = _
  rw [e, Int.toNat_natCast]
theorem q7_runL (hw : wI T tk L X) (hc : cI C T tk L X) {n : Nat} (hn : n ≤ 60) {Q : Int → mm_M → Prop} (h : ∀ (i : Nat) C', runE T tk n i → wfT T (tki T tk i) → cI C' T (tki T tk i) L X → Q i (mm_up C' 0 6 (mm_w (X 0 17 + i)))) : ∃ j, bX7_run_25 j n 0 C Q := by
  refine pk_loop (fun j (i : Nat) (C1 : mm_M) => bX7_run_25 j n i C1 Q) (fun i C1 => wfT T (tki T tk i) ∧ cI C1 T (tki T tk i) L X ∧ ∀ j, j < i → rz T (tki T tk j) (-1) ≠ -1) n 0 C (Nat.zero_le _) ⟨hw.2.1, hc, fun j hj => by omega⟩ ?_ ?_
  · rintro j C1 ⟨h1, h2, h3⟩
    unfold bX7_run_25
    refine ⟨fun _ => ?_, fun g => by omega⟩
    rw [h2.2.2.2.2.2.2.2.2.2]
    exact h n C1 ⟨Nat.le_refl _, h3, Or.inl rfl⟩ h1 h2
  · rintro j i C1 hi ⟨h1, h2, h3⟩ ih
    unfold bX7_run_25
    refine ⟨fun g => by omega, fun _ => q6_moveFirst hw.1 h1 h2.1 (fun g => ⟨fun _ => ?_, fun e => absurd rfl e⟩) (fun p C2 a1 a2 a3 a4 => ⟨fun e => by omega, fun _ => ?_⟩)⟩
    · rw [h2.2.2.2.2.2.2.2.2.2]
      exact h i C1 ⟨by omega, h3, Or.inr (rz_eq g)⟩ h1 h2
    · rw [w_1 hi (by omega)]
      have e := tki_s a3
      refine ih C2 ⟨?_, ?_, fun j hj => ?_⟩
      · rw [e]; exact wfT_upt h1 (bestw_lt (h1 p a2))
      · rw [e]; exact h2.otk a1.otk a4
      · by_cases e2 : j = i
        · subst e2; rw [rz_eq a3]; omega
        · exact h3 j (by omega)
theorem q8_runL (hw : wI T tk L X) (hm : mI M T tk L X) {n : Nat} (hn : n ≤ 60) {Q : Int → mm_M → Prop} (h : ∀ (i : Nat) M', runE T tk n i → wfT T (tki T tk i) → mI M' T (tki T tk i) L X → Q i (mm_up M' 0 17 (mm_w (X 0 17 + i)))) : ∃ j, bX8_run_25 j n 0 M Q := by
  refine pk_loop (fun j (i : Nat) (C1 : mm_M) => bX8_run_25 j n i C1 Q) (fun i C1 => wfT T (tki T tk i) ∧ mI C1 T (tki T tk i) L X ∧ ∀ j, j < i → rz T (tki T tk j) (-1) ≠ -1) n 0 M (Nat.zero_le _) ⟨hw.2.1, hm, fun j hj => by omega⟩ ?_ ?_
  · rintro j C1 ⟨h1, h2, h3⟩
    unfold bX8_run_25
    refine ⟨fun _ => ?_, fun g => by omega⟩
    rw [mI_x17 h2]
    exact h n C1 ⟨Nat.le_refl _, h3, Or.inl rfl⟩ h1 h2
  · rintro j i C1 hi ⟨h1, h2, h3⟩ ih
    unfold bX8_run_25
    refine ⟨fun g => by omega, fun _ => q8_turnOf hw.1 h1 h2.1 (fun C2 a1 a2 g => ⟨fun _ => ?_, fun e => absurd rfl e⟩) (fun p C2 a1 a2 a3 a4 => ⟨fun e => by omega, fun _ => ?_⟩)⟩
    · have h2' := h2.osc a1.osc a2
      rw [mI_x17 h2']
      exact h i C2 ⟨by omega, h3, Or.inr (rz_eq g)⟩ h1 h2'
    · rw [w_1 hi (by omega)]
      have e := tki_s a3
      refine ih C2 ⟨?_, ?_, fun j hj => ?_⟩
      · rw [e]; exact wfT_upt h1 (bestw_lt (h1 p a2))
      · rw [e]; exact h2.osc a1.osc a4
      · by_cases e2 : j = i
        · subst e2; rw [rz_eq a3]; omega
        · exact h3 j (by omega)
theorem z_run (hi : Inv C M) (v : Int) : mX7_run v C (fun r C' => mX8_run v M (fun r' M' => r = r' ∧ Inv C' M')) := by
  obtain ⟨T, tk, L, X, hw, hc, hm⟩ := hi
  unfold mX7_run
  refine q7_within (fun g1 g2 => cy1 (q7_hasNet hc (fun hn => cy1 ?_) (fun hn => cn0 ?_))) (fun g => cn0 ?_)
  · obtain ⟨n, rfl⟩ : ∃ n : Nat, v = n := ⟨v.toNat, by omega⟩
    refine q7_runL hw hc (by omega) (fun i C1 a1 a2 a3 => ?_)
    unfold mX8_run
    refine q8_within (fun _ _ => cy1 (q8_isNetT hw hm (fun _ => cy1 (q8_runL hw hm (by omega) (fun i' M1 b1 b2 b3 => ?_))) (fun g => by omega))) (fun g => by omega)
    have e := runE_u a1 b1
    subst e
    exact ⟨rfl, T, _, L, _, wI_x17 (hw.tq a2) (mm_w_R _), cI_x17 hw.1 a3 _, b3.x (by decide) _⟩
  · unfold mX8_run
    exact q8_within (fun _ _ => cy1 (q8_isNetT hw hm (fun g => by omega) (fun _ => cn0 ⟨rfl, T, tk, L, X, hw, hc, hm⟩))) (fun g => by omega)
  · unfold mX8_run
    exact q8_within (fun _ _ => by omega) (fun _ => cn0 ⟨rfl, T, tk, L, X, hw, hc, hm⟩)
end S56
