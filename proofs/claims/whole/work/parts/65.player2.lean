/-! player -/
section S65
variable {T L X : mm_M} {tk : Nat → Nat} {C C' M M' : mm_M} {Q : Int → mm_M → Prop} {P : Nat} {x y : Int} {a : Wy}
theorem lod_new (hT : wf T) (ht : wfT T tk) (hP : Pn T = P) (r : Nat) : lod (pT T P x y a) (upt tk P 0) r = lod T tk r + cnt (pT T P x y a) P 0 r := by
  unfold lod
  rw [pT_P, hP]
  simp only [sm]
  rw [upt_s, sm_congr (f := fun p => cnt (pT T P x y a) p (upt tk P 0 p) r) (g := fun p => cnt T p (tk p) r) (fun p hp => ?_)]
  rw [upt_n (by omega)]
  exact (pT_ag hp).xcnt (by have := ht p (by omega); have := (wf_ln hT (p := p) (by omega)).1; omega) ((wf_ln hT (p := p) (by omega)).2 _ (ht p (by omega))) r
/-- what the class has laid for the new one -/
theorem pD_new (hw' : wf (pT T P x y a)) (h5 : P < 5) (ho : okA T a) (ha : 1 ≤ a.1 ∧ a.1 ≤ 12) (h0 : C (30 + 17 * P) 0 = x) (h1 : C (30 + 17 * P) 1 = y) (hc : cW C (30 + 17 * P) a) : pD C (pT T P x y a) P := by
  refine ⟨h0.trans pT_6.symm, h1.trans pT_7.symm, hc.1.trans pT_8.symm, fun w hw => ?_⟩
  have hp : P < Pn (pT T P x y a) := by rw [pT_P]; omega
  have hw2 := hw
  rw [pT_w] at hw2
  obtain ⟨c1, ⟨m, m1, m2, m3⟩, c3⟩ := hc.2 w hw2 (by omega)
  have o5 := (ho.2 w hw2).1
  refine ⟨c1.trans (pT_10 hw2).symm, fun r hr => ?_, fun k hk => ?_⟩
  · rw [m2, and_bit m1 hr]
    by_cases e : m.testBit r = true
    · obtain ⟨k, k1, k2⟩ := (m3 r hr).mp e
      rw [if_pos e]
      have := cnt_in hw' hp hw (k := k) (by rw [pT_l hw2]; exact k1)
      rw [pT_d hw2 k1 (by omega), k2] at this
      exact this.symm
    · rw [if_neg e]
      refine (sm_zero (fun k hk => ?_)).symm
      rw [pT_l hw2] at hk
      rw [if_neg]
      intro e2
      rw [pT_d hw2 hk (by omega)] at e2
      exact e ((m3 r hr).mpr ⟨k, hk, e2⟩)
  · rw [pT_l hw2] at hk
    exact (c3 k hk).trans (pT_11 hw2 hk (by omega)).symm
theorem cI.pl (hw : wf T) (hP : Pn T = P) (h : cI C T tk L X) (hf : ∀ q k, (q < 30 + 17 * P ∨ 30 + 17 * P + 16 < q) → C' q k = C q k) (h5 : P < 5) : cI C' T tk L X := by
  obtain ⟨k1, k2, ⟨wv, nx, k3⟩, k4, k5, k6⟩ := h
  have hR := wf_R hw
  have fe : ∀ q, 115 ≤ q → C' q = C q := fun q hq => funext (fun k => hf q k (by omega))
  refine ⟨⟨⟨(hf 9 2 (by omega)).trans k1.1.1, ?_, fun r hr k a b => (hf _ _ (by omega)).trans (k1.1.2.2.1 r hr k a b), fun p hp => ?_⟩, fun p hp => (hf _ _ (by omega)).trans (k1.2.1 p hp), fun r hr => (hf _ _ (by omega)).trans (k1.2.2 r hr)⟩, ?_, ⟨wv, nx, k3.1, (hf 121 2 (by omega)).trans k3.2.1, (hf 121 4 (by omega)).trans k3.2.2⟩, ?_, ?_, xC_fr k6 (fun q k a => hf q k (by omega))⟩
  · obtain ⟨n1, n2, n3, n4⟩ := k1.1.2.1
    refine ⟨(hf 9 3 (by omega)).trans n1, (hf 10 0 (by omega)).trans n2, (hf 10 1 (by omega)).trans n3, fun r hr => ?_⟩
    obtain ⟨d1, d2, d3, d4, d5⟩ := n4 r hr
    exact ⟨(hf _ _ (by omega)).trans d1, (hf _ _ (by omega)).trans d2, (hf _ _ (by omega)).trans d3, (hf _ _ (by omega)).trans d4, (hf _ _ (by omega)).trans d5⟩
  · exact agp.xpD (T := T) (T' := T) ⟨rfl, rfl, rfl, fun w _ => ⟨rfl, fun k _ => rfl⟩⟩ (wf_ln hw hp).1 (wf_ln hw hp).2 (fun q k a b _ => hf q k (by omega)) (k1.1.2.2.2 p hp)
  · unfold ch aD gD vD lD sD at *
    rw [fe 115 (by decide), fe 116 (by decide), fe 117 (by decide), fe 118 (by decide), fe 119 (by decide), fe 120 (by decide), fe 121 (by decide)]
    exact k2
  · unfold lC at *
    rw [fe 125 (by decide), fe 126 (by decide), fe 127 (by decide), fe 128 (by decide)]
    exact k4
  · unfold kD at *
    rw [fe 125 (by decide), fe 129 (by decide), fe 133 (by decide), fe 134 (by decide), fe 135 (by decide), fe 136 (by decide)]
    exact k5
theorem mI.wy (hm : mI M T tk L X) (hP : Pn T = P) (h9 : M 0 9 = (P : Int)) (o : oWy P M M') : mI M' T tk L X :=
  ⟨⟨wy_pj hm.1.1 h9 o, fun p hp => (o 9 p (by omega) (by omega) (by omega)).trans (hm.1.2 p hp)⟩, lj_fr hm.2.1 (fun q k a => o q k (by omega) (by omega) (by omega)), xj_fr hm.2.2 (fun q k a => o q k (by omega) (by omega) (by omega))⟩
noncomputable def plN (T : mm_M) (P : Nat) (x y : Int) : mm_M := pT T P x y (exw T x y 5)
/-- the class takes the new one in -/
theorem q6_admitV (hw : wI T tk L X) (hc : cI C T tk L X) (hP : Pn T = P) (h5 : P < 5) (hn6 : 2 ≤ T 0 0 ∧ T 0 0 ≤ 6) (hx : 0 ≤ x ∧ x < T 0 0)
    (K0 : ∀ C', (∀ q k, (q < 30 + 17 * P ∨ 30 + 17 * P + 16 < q) → C' q k = C q k) → ((exw T x y 5).1 = 0 ∨ 12 < (exw T x y 5).1) → Q 0 C')
    (K1 : ∀ C', (1 ≤ (exw T x y 5).1 ∧ (exw T x y 5).1 ≤ 12) → wf (plN T P x y) → (∀ q k, (q < 9 ∨ 115 ≤ q) → C' q k = C q k) → cs C' (plN T P x y) (upt (upt tk P 0) P (bestw (plN T P x y) (upt tk P 0) P)) → Q 1 C') : mX6_admit x y C Q := by
  have hPi := wf_P hw.1
  have hR := wf_R hw.1
  have e92 : C 9 2 = (P : Int) := by rw [hc.1.1.1]; omega
  have ho := exw_ok (N := T) (x := x) (y := y) 5 (Nat.le_refl _)
  unfold mX6_admit
  rw [e92, Int.toNat_natCast]
  refine ⟨by omega, mm_chk_i (kd_p h5) (mm_chk_i (kd_p h5) (mm_chk_i (kd_p h5) ?_))⟩
  have u : ∀ q k, q ≠ 30 + 17 * P → mm_up (mm_up C (30 + 17 * P) 0 x) (30 + 17 * P) 1 y q k = C q k := fun q k h => (up_n (by omega)).trans (up_n (by omega))
  obtain ⟨n1, n2, n3, n4⟩ := hc.1.1.2.1
  refine q4_findWays hw.1.1 hn6 hx h5 ⟨(u 10 1 (by omega)).trans n3, fun r hr => ⟨(u 11 r (by omega)).trans (n4 r hr).1, (u 12 r (by omega)).trans (n4 r hr).2.1⟩⟩ ((u 10 0 (by omega)).trans n2) ((up_n (by omega)).trans (up_s _ _ _ _)) (up_s _ _ _ _) (fun C1 o c => ?_)
  have f1 : ∀ q k, (q < 30 + 17 * P ∨ 30 + 17 * P + 16 < q) → C1 q k = C q k := fun q k h => (o q k (by omega)).trans ((up_n (by omega)).trans (u q k (by omega)))
  have p0 : C1 (30 + 17 * P) 0 = x := (o _ 0 (by omega)).trans ((up_n (by omega)).trans ((up_n (by omega)).trans (up_s _ _ _ _)))
  have p1 : C1 (30 + 17 * P) 1 = y := (o _ 1 (by omega)).trans ((up_n (by omega)).trans (up_s _ _ _ _))
  have p3 : C1 (30 + 17 * P) 3 = 0 := (o _ 3 (by omega)).trans (up_s _ _ _ _)
  rw [c.1]
  refine mm_chk_i (kd_p h5) ⟨fun g => ⟨Or.inl rfl, K0 C1 f1 (by omega)⟩, fun g => mm_chk_i (kd_p h5) ⟨fun g2 => ?_, fun g2 => ⟨Or.inl rfl, K0 C1 f1 (by omega)⟩⟩⟩
  have ha : 1 ≤ (exw T x y 5).1 ∧ (exw T x y 5).1 ≤ 12 := by omega
  have wf' : wf (plN T P x y) := pT_wf hw.1 hP h5 ho ha
  have hp : P < Pn (plN T P x y) := by unfold plN; rw [pT_P]; omega
  have hwn : wn (plN T P x y) P = (exw T x y 5).1 := pT_w
  have e12 : C1 9 2 = (P : Int) := (f1 9 2 (by omega)).trans e92
  rw [e12, mm_w_id (z := (P : Int) + 1) (by omega) (by omega)]
  have f2 : ∀ q k, ¬ (q = 9 ∧ k = 2) → mm_up C1 9 2 ((P : Int) + 1) q k = C1 q k := fun q k h => up_n (by omega)
  have cW2 : cW (mm_up C1 9 2 ((P : Int) + 1)) (30 + 17 * P) (exw T x y 5) := by
    obtain ⟨c1, c2⟩ := c
    refine ⟨(f2 _ _ (by omega)).trans c1, fun w w1 w2 => ?_⟩
    rw [f2 _ _ (by omega), f2 _ _ (by omega)]
    obtain ⟨d1, d2, d3⟩ := c2 w w1 w2
    exact ⟨d1, d2, fun k hk => (f2 _ _ (by omega)).trans (d3 k hk)⟩
  have dN : pD (mm_up C1 9 2 ((P : Int) + 1)) (plN T P x y) P := pD_new wf' h5 ho ha ((f2 _ _ (by omega)).trans p0) ((f2 _ _ (by omega)).trans p1) cW2
  have dO : ∀ p, p < P → pD (mm_up C1 9 2 ((P : Int) + 1)) (plN T P x y) p := fun p hp2 =>
    (pT_ag hp2).xpD (wf_ln hw.1 (p := p) (by omega)).1 (wf_ln hw.1 (p := p) (by omega)).2 (fun q k a b _ => (f2 q k (by omega)).trans (f1 q k (by omega))) (hc.1.1.2.2.2 p (by omega))
  have ht0 : wfT (plN T P x y) (upt tk P 0) := fun p hp2 => by
    unfold plN at hp2
    rw [pT_P] at hp2
    by_cases e : p = P
    · subst e; rw [upt_s, hwn]; omega
    · rw [upt_n e]
      have := (pT_ag (T := T) (P := P) (x := x) (y := y) (a := exw T x y 5) (p := p) (by omega)).xwn
      unfold plN
      rw [this]; exact hw.2.1 p (by omega)
  refine q6_burden wf' hp dN (w := 0) (by rw [hwn]; omega) ((f2 _ _ (by omega)).trans p3) (Or.inl rfl) (fun r hr => ?_) (fun C3 o3 l3 => ?_)
  · rw [f2 16 r (by omega), f1 16 r (by omega), hc.1.2.2 r hr]
    have := lod_bd hw.1 hw.2.1 r
    omega
  have cs3 : cs C3 (plN T P x y) (upt tk P 0) := by
    have g : ∀ q k, q ≠ 16 → ¬ (q = 9 ∧ k = 2) → (q < 30 + 17 * P ∨ 30 + 17 * P + 16 < q) → C3 q k = C q k := fun q k a b d => (o3 q k a).trans ((f2 q k b).trans (f1 q k d))
    refine ⟨⟨(o3 9 2 (by decide)).trans ((up_s _ _ _ _).trans (by show (P : Int) + 1 = ((P + 1 : Nat) : Int); omega)), ?_, fun r hr k k1 k2 => ?_, fun p hp2 => ?_⟩, fun p hp2 => ?_, fun r hr => ?_⟩
    · have tn : ∀ q k, q ≤ 5 → ¬ (q = 0 ∧ k = 9) → T q k = plN T P x y q k := fun q k h1 h2 => (pT_n (by omega) (by omega) (by omega) (by omega)).symm
      refine ⟨(g 9 3 (by decide) (by omega) (by omega)).trans (n1.trans (tn 0 7 (by omega) (by omega))), (g 10 0 (by decide) (by omega) (by omega)).trans (n2.trans (tn 0 0 (by omega) (by omega))), (g 10 1 (by decide) (by omega) (by omega)).trans (n3.trans (tn 0 1 (by omega) (by omega))), fun r hr => ?_⟩
      unfold plN at hr
      rw [pT_R] at hr
      obtain ⟨d1, d2, d3, d4, d5⟩ := n4 r hr
      exact ⟨(g 11 r (by decide) (by omega) (by omega)).trans (d1.trans (tn 1 r (by omega) (by omega))), (g 12 r (by decide) (by omega) (by omega)).trans (d2.trans (tn 2 r (by omega) (by omega))), (g 13 r (by decide) (by omega) (by omega)).trans (d3.trans (tn 3 r (by omega) (by omega))), (g 14 r (by decide) (by omega) (by omega)).trans (d4.trans (tn 4 r (by omega) (by omega))), (g 15 r (by decide) (by omega) (by omega)).trans (d5.trans (tn 5 r (by omega) (by omega)))⟩
    · unfold plN at hr
      rw [pT_R] at hr
      refine (g (19 + r) k (by omega) (by omega) (by omega)).trans ((hc.1.1.2.2.1 r hr k k1 k2).trans ?_)
      unfold prc plN
      rw [pT_n (by omega) (by omega) (by omega) (by omega), pT_n (by omega) (by omega) (by omega) (by omega), pT_n (by omega) (by omega) (by omega) (by omega), pT_n (by omega) (by omega) (by omega) (by omega)]
    · have hp3 := hp2
      unfold plN at hp3
      rw [pT_P] at hp3
      refine o3.otf.pD wf' hp2 ?_
      by_cases e : p = P
      · subst e; exact dN
      · exact dO p (by omega)
    · unfold plN at hp2
      rw [pT_P] at hp2
      by_cases e : p = P
      · subst e; rw [upt_s]; exact (o3 _ _ (by omega)).trans ((f2 _ _ (by omega)).trans p3)
      · rw [upt_n e]; exact (g _ _ (by omega) (by omega) (by omega)).trans (hc.1.2.1 p (by omega))
    · rw [l3 r hr, f2 16 r (by omega), f1 16 r (by omega), hc.1.2.2 r hr]
      have := lod_new (x := x) (y := y) (a := exw T x y 5) hw.1 hw.2.1 hP r
      unfold plN
      omega
  refine q6_bestWayOf wf' ht0 hp cs3 (q6_moveTo wf' ht0 hp (bestw_lt (ht0 P hp)) cs3 (fun C4 o4 c4 => ⟨Or.inr rfl, K1 C4 ha wf' (fun q k h => ?_) c4⟩))
  exact (o4 q k (by omega) (by omega)).trans ((o3 q k (by omega)).trans ((f2 q k (by omega)).trans (f1 q k (by omega))))
/-- the model takes the new one in -/
theorem q8_p82 (hw : wI T tk L X) (hm : mI M T tk L X) (hP : Pn T = P) (h5 : P < 5) (ha : 1 ≤ (exw T x y 5).1 ∧ (exw T x y 5).1 ≤ 12) (wf' : wf (plN T P x y)) (o : oWy P M M') (mw : mW M' P (exw T x y 5))
    (K : ∀ M2, mI M2 (plN T P x y) (upt (upt tk P 0) P (bestw (plN T P x y) (upt tk P 0) P)) L (mm_up X 0 16 (mm_w (X 0 16 + 1))) → Q P M2) : bX8_player_82 x y (exw T x y 5).1 M' Q := by
  have hPi := wf_P hw.1
  have h9 : M 0 9 = (P : Int) := by rw [pj_r hm.1.1 (q := 0) (k := 9) rfl]; omega
  have e9 : M' 0 9 = (P : Int) := (o 0 9 (by omega) (by omega) (by omega)).trans h9
  have ho := exw_ok (N := T) (x := x) (y := y) 5 (Nat.le_refl _)
  have hp : P < Pn (plN T P x y) := by unfold plN; rw [pT_P]; omega
  have u1 : ∀ (k : Nat) (z : Int), mm_up M' 6 k z 0 9 = (P : Int) := fun k z => (up_n (by omega)).trans e9
  have u2 : ∀ (k k2 : Nat) (z z2 : Int), mm_up (mm_up M' 6 k z) 7 k2 z2 0 9 = (P : Int) := fun k k2 z z2 => (up_n (by omega)).trans (u1 k z)
  have u3 : ∀ (k k2 k3 : Nat) (z z2 z3 : Int), mm_up (mm_up (mm_up M' 6 k z) 7 k2 z2) 8 k3 z3 0 9 = (P : Int) := fun k k2 k3 z z2 z3 => (up_n (by omega)).trans (u2 k k2 z z2)
  have u4 : ∀ (k k2 k3 k4 : Nat) (z z2 z3 z4 : Int), mm_up (mm_up (mm_up (mm_up M' 6 k z) 7 k2 z2) 8 k3 z3) 9 k4 z4 0 9 = (P : Int) := fun k k2 k3 k4 z z2 z3 z4 => (up_n (by omega)).trans (u3 k k2 k3 z z2 z3)
  have ew : mm_w ((P : Int) + 1) = ((P + 1 : Nat) : Int) := (mm_w_id (by omega) (by omega)).trans (by omega)
  have ew2 : mm_w (((P + 1 : Nat) : Int) - 1) = (P : Int) := (mm_w_id (by omega) (by omega)).trans (by omega)
  unfold bX8_player_82
  simp only [u4, u3, u2, u1, e9, Int.toNat_natCast, up_s, ew, ew2]
  refine ⟨fun g => by omega, fun _ => ⟨fun _ => ⟨by omega, by omega, by omega, by omega, ?_⟩, fun g => by omega⟩⟩
  have m2 : ms (mm_up (mm_up (mm_up (mm_up (mm_up M' 6 P x) 7 P y) 8 P ((exw T x y 5).1 : Int)) 9 P 0) 0 9 ((P + 1 : Nat) : Int)) (plN T P x y) (upt tk P 0) := by
    refine ⟨pT_pj hm.1.1 h9 (fun w hw2 => (ho.2 w hw2).1.2) ha.2 (up_s _ _ _ _) ?_ ?_ ?_ (fun w w1 w2 => ?_) (fun q k hq a1 a2 a3 a4 => ?_), fun p hp2 => ?_⟩
    · rw [up_n (by omega), up_n (by omega), up_n (by omega), up_n (by omega), up_s]
    · rw [up_n (by omega), up_n (by omega), up_n (by omega), up_s]
    · rw [up_n (by omega), up_n (by omega), up_s]
    · obtain ⟨g1, g2⟩ := mw w w1 w2
      refine ⟨?_, fun k hk => ?_⟩
      · rw [up_n (by omega), up_n (by omega), up_n (by omega), up_n (by omega), up_n (by omega)]; exact g1
      · rw [up_n (by omega), up_n (by omega), up_n (by omega), up_n (by omega), up_n (by omega)]; exact g2 k hk
    · have hi := pp_i hq
      rw [up_n (by omega), up_n (by omega), up_n (by omega), up_n (by omega), up_n (by omega)]
      exact o q k (by omega) (by omega) (by omega)
    · unfold plN at hp2
      rw [pT_P] at hp2
      by_cases e : p = P
      · subst e; rw [up_n (by omega), up_s, upt_s]; rfl
      · rw [up_n (by omega), up_n (by omega), up_n (by omega), up_n (by omega), up_n (by omega), upt_n e, o 9 p (by omega) (by omega) (by omega)]
        exact hm.1.2 p (by omega)
  have ht0 : wfT (plN T P x y) (upt tk P 0) := fun p hp2 => by
    unfold plN at hp2
    rw [pT_P] at hp2
    by_cases e : p = P
    · subst e
      have hwn : wn (plN T p x y) p = (exw T x y 5).1 := pT_w
      rw [upt_s, hwn]; omega
    · rw [upt_n e]
      have := (pT_ag (T := T) (P := P) (x := x) (y := y) (a := exw T x y 5) (p := p) (by omega)).xwn
      unfold plN
      rw [this]; exact hw.2.1 p (by omega)
  refine q8_leastPay wf' ht0 hp (upt_s _ _ _) m2 (fun M3 o3 => ?_)
  have f3 : ∀ q k, q ≠ 19 → q ≠ 6 → q ≠ 7 → q ≠ 8 → q ≠ 9 → ¬ (q = 0 ∧ k = 9) → M3 q k = M' q k := fun q k a1 a2 a3 a4 a5 a6 => (o3 q k a1).trans ((up_n (by omega)).trans ((up_n (by omega)).trans ((up_n (by omega)).trans ((up_n (by omega)).trans (up_n (by omega))))))
  have g9 : M3 0 9 = ((P + 1 : Nat) : Int) := (o3 0 9 (by decide)).trans (up_s _ _ _ _)
  have g16 : M3 0 16 = X 0 16 := (f3 0 16 (by decide) (by decide) (by decide) (by decide) (by decide) (by omega)).trans ((o 0 16 (by omega) (by omega) (by omega)).trans (xj_r hm.2.2 (by decide)))
  have m4 := ms_up9 (o3.ms m2) (p := P) (w := bestw (plN T P x y) (upt tk P 0) P)
  rw [show mm_up M3 9 P (bestw (plN T P x y) (upt tk P 0) P : Int) 0 16 = X 0 16 from (up_n (by omega)).trans g16]
  rw [show ∀ z : Int, mm_up (mm_up M3 9 P (bestw (plN T P x y) (upt tk P 0) P : Int)) 0 16 z 0 9 = ((P + 1 : Nat) : Int) from fun z => (up_n (by omega)).trans ((up_n (by omega)).trans g9), ew2]
  have hL : lj M3 = L := lj_fr hm.2.1 (fun q k a => (f3 q k (by omega) (by omega) (by omega) (by omega) (by omega) (by omega)).trans (o q k (by omega) (by omega) (by omega)))
  have hX : xj M3 = X := xj_fr hm.2.2 (fun q k a => (f3 q k (by omega) (by omega) (by omega) (by omega) (by omega) (by omega)).trans (o q k (by omega) (by omega) (by omega)))
  exact ⟨by omega, K _ (mI.x (X := X) ⟨m4, lj_fr hL (fun q k a => up_n (by omega)), xj_fr hX (fun q k a => up_n (by omega))⟩ (by decide) _)⟩
theorem q8_isNode (hw : wI T tk L X) (hm : mI M T tk L X) (hn : 2 ≤ T 0 0 ∧ T 0 0 ≤ 6) {v : Int} (h1 : 0 ≤ v → v < T 0 0 → Q 1 M) (h0 : ¬ (0 ≤ v ∧ v < T 0 0) → Q 0 M) : mX8_isNode v M Q := by
  unfold mX8_isNode
  rw [pj_r hm.1.1 (q := 0) (k := 0) rfl, mm_w_id (by omega) (by omega)]
  exact q8_within (fun a b => ⟨Or.inr rfl, h1 a (by omega)⟩) (fun g => ⟨Or.inl rfl, h0 (by omega)⟩)
theorem z_player (hi : Inv C M) (x y : Int) : mX7_player x y C (fun r C' => mX8_player x y M (fun r' M' => r = r' ∧ Inv C' M')) := by
  obtain ⟨T, tk, L, X, hw, hc, hm⟩ := hi
  have hi : Inv C M := ⟨T, tk, L, X, hw, hc, hm⟩
  have hPi := wf_P hw.1
  have hnc := hw.2.2.1
  unfold netc at hnc
  have h9 : M 0 9 = T 0 9 := pj_r hm.1.1 (q := 0) (k := 9) rfl
  have e92 : C 9 2 = T 0 9 := hc.1.1.1
  unfold mX7_player
  refine q7_hasNet hc (fun hn => cy1 ?_) (fun hn => cn0 ?_)
  · have hn6 : 2 ≤ T 0 0 ∧ T 0 0 ≤ 6 := by omega
    rw [hc.1.1.2.1.2.1, mm_w_id (by omega) (by omega)]
    have unk : ¬ ((0 ≤ x ∧ x < T 0 0) ∧ (0 ≤ y ∧ y < T 0 0) ∧ x ≠ y) → mX8_player x y M (fun r' M' => -101 = r' ∧ Inv C M') := fun h => by
      unfold mX8_player
      exact q8_isNetT hw hm (fun _ => cy1 (q8_isNode hw hm hn6 (fun a1 a2 => dy1 (q8_isNode hw hm hn6 (fun b1 b2 => dy1 ⟨fun ne => absurd ⟨⟨a1, a2⟩, ⟨b1, b2⟩, ne⟩ h, fun _ => ⟨rfl, hi⟩⟩) (fun _ => dn0 ⟨rfl, hi⟩))) (fun _ => dn0 ⟨rfl, hi⟩))) (fun g => by omega)
    refine q7_within (fun a1 a2 => dy1 (q7_within (fun b1 b2 => dy1 ⟨fun ne => ⟨fun lt => ?_, fun ge => ?_⟩, fun eq => unk (fun h => h.2.2 eq)⟩) (fun g => dn0 (unk (fun h => by omega))))) (fun g => dn0 (unk (fun h => by omega)))
    · obtain ⟨P, hP⟩ : ∃ P, Pn T = P := ⟨_, rfl⟩
      have h5 : P < 5 := by omega
      have m9 : M 0 9 = (P : Int) := by omega
      have go : ∀ Q : Int → mm_M → Prop, (∀ M', oWy P M M' → ((exw T x y 5).1 ≤ 12 → mW M' P (exw T x y 5)) → bX8_player_82 x y (exw T x y 5).1 M' Q) → mX8_player x y M Q := fun Q K => by
        unfold mX8_player
        exact q8_isNetT hw hm (fun _ => cy1 (q8_isNode hw hm hn6 (fun _ _ => dy1 (q8_isNode hw hm hn6 (fun _ _ => dy1 ⟨fun _ => ⟨fun _ => q8_ways hw.1 h5 hm.1.1 m9 K, fun e => by omega⟩, fun e => absurd e ne⟩) (fun g => by omega))) (fun g => by omega))) (fun g => by omega)
      refine q6_admitV hw hc hP h5 hn6 ⟨a1, by omega⟩ (fun C1 f n => cn0 (go _ (fun M1 o _ => ?_))) (fun C1 ha wf' f c => cy1 (go _ (fun M1 o w => ?_)))
      · have hI : Inv C1 M1 := ⟨T, tk, L, X, hw, hc.pl hw.1 hP f h5, hm.wy hP m9 o⟩
        unfold bX8_player_82
        exact ⟨fun _ => ⟨rfl, hI⟩, fun g => ⟨fun g2 => by omega, fun _ => ⟨rfl, hI⟩⟩⟩
      · have e05 : mm_up C1 115 0 0 0 5 = X 0 16 := (up_n (by omega)).trans ((f 0 5 (by omega)).trans hc.2.2.2.2.2.2.2.2.1)
        have eP : mm_w (mm_up (mm_up C1 115 0 0) 0 5 (mm_w (mm_up C1 115 0 0 0 5 + 1)) 9 2 - 1) = (P : Int) := by
          rw [up_n (by omega), up_n (by omega), c.1.1]
          unfold plN
          rw [pT_9]
          exact (mm_w_id (by omega) (by omega)).trans (by omega)
        rw [eP, e05]
        refine q8_p82 hw hm hP h5 ha wf' o (w ha.2) (fun M2 m2 => ⟨rfl, plN T P x y, _, L, _, ⟨wf', ?_, ?_, hw.2.2.2.1, ?_, ?_, ?_⟩, hc.ft (fun q k a => ?_) ?_ ?_ ⟨?_, ?_, ?_, ?_, ?_⟩, m2⟩)
        · have hp : P < Pn (plN T P x y) := by unfold plN; rw [pT_P]; omega
          have hwn : wn (plN T P x y) P = (exw T x y 5).1 := pT_w
          have ht0 : wfT (plN T P x y) (upt tk P 0) := fun p hp2 => by
            unfold plN at hp2
            rw [pT_P] at hp2
            by_cases e : p = P
            · subst e; rw [upt_s, hwn]; omega
            · rw [upt_n e]
              have := (pT_ag (T := T) (P := P) (x := x) (y := y) (a := exw T x y 5) (p := p) (by omega)).xwn
              unfold plN
              rw [this]; exact hw.2.1 p (by omega)
          exact wfT_upt ht0 (bestw_lt (ht0 P hp))
        · refine Or.inr ⟨?_, ?_⟩
          · unfold plN; rw [pT_n (by omega) (by omega) (by omega) (by omega)]; exact hn6
          · unfold plN; rw [pT_1]; omega
        · rw [up_n (by omega)]; exact hw.2.2.2.2.1
        · rw [up_n (by omega)]; exact hw.2.2.2.2.2.1
        · intro k hk
          rw [up_n (by omega)] at hk ⊢
          exact hw.2.2.2.2.2.2 k hk
        · exact (up_n (by omega)).trans ((up_n (by omega)).trans (f q k (by omega)))
        · refine cs_fr wf' (fun q k g1 g2 g3 => (up_n (by omega)).trans (up_n (by omega))) c
        · exact (up_n (by omega)).trans (up_s _ _ _ _)
        · rw [up_n (by omega), up_n (by omega), up_n (by omega), f 1 1 (by omega)]; exact hc.2.2.2.2.2.1
        · intro k hk
          rw [up_n (by omega)] at hk
          rw [up_n (by omega), up_n (by omega), up_n (by omega), f 2 k (by omega)]; exact hc.2.2.2.2.2.2.1 k hk
        · rw [up_n (by omega), up_n (by omega), up_n (by omega), f 0 4 (by omega)]; exact hc.2.2.2.2.2.2.2.1
        · rw [up_s, up_s]
        · rw [up_n (by omega), up_n (by omega), up_n (by omega), f 0 6 (by omega)]; exact hc.2.2.2.2.2.2.2.2.2
    · unfold mX8_player
      exact q8_isNetT hw hm (fun _ => cy1 (q8_isNode hw hm hn6 (fun _ _ => dy1 (q8_isNode hw hm hn6 (fun _ _ => dy1 ⟨fun _ => ⟨fun g => by omega, fun _ => ⟨rfl, hi⟩⟩, fun e => absurd e ne⟩) (fun g => by omega))) (fun g => by omega))) (fun g => by omega)
  · unfold mX8_player
    exact q8_isNetT hw hm (fun g => by omega) (fun _ => cn0 ⟨rfl, hi⟩)
end S65
