/-! digest: what is mixed, in both -/
def mxh (h v : Int) : Int := mm_wl (mm_wl (31 * h) + v)
def fo (f : Nat → Int) : Nat → Int → Int
  | 0, h => h
  | n + 1, h => mxh (fo f n h) (f n)
noncomputable def gA (T : mm_M) (tk : Nat → Nat) (k : Nat) : Int := v_about T tk (k : Int)
def gR (T : mm_M) (tk : Nat → Nat) (k : Nat) : Int := v_road T tk (k / 8) ((k % 8 : Nat) : Int)
def gW (T : mm_M) (tk : Nat → Nat) (p k : Nat) : Int := v_who T tk p (k : Int)
def gO (T : mm_M) (tk : Nat → Nat) (p k : Nat) : Int := T 11 (5 * (12 * p + tk p) + k)
noncomputable def plh (T : mm_M) (tk : Nat → Nat) : Nat → Int → Int
  | 0, h => h
  | p + 1, h => fo (gO T tk p) (ln T p (tk p)) (fo (pay T tk p) (wn T p) (fo (gW T tk p) 7 (plh T tk p h)))
noncomputable def dN (T : mm_M) (tk : Nat → Nat) (h : Int) : Int := plh T tk (Pn T) (fo (gR T tk) (8 * Rn T) (fo (gA T tk) 8 h))
noncomputable def gS (T : mm_M) (k : Nat) : Int := v_rests T (k : Int)
noncomputable def gP (T : mm_M) (k : Nat) : Int := v_price T (k : Int)
noncomputable def gE (T : mm_M) (tk : Nat → Nat) (k : Nat) : Int := v_reach T tk (k : Int)
noncomputable def gV (L : mm_M) (k : Nat) : Int := v_level L (k : Int)
noncomputable def gT (L : mm_M) (k : Nat) : Int := v_total L (k : Int)
def gC (T L X : mm_M) (k : Nat) : Int := v_count T L X (k : Int)
noncomputable def dS (T : mm_M) (tk : Nat → Nat) (h : Int) : Int := fo (gE T tk) 3 (fo (gP T) 4 (fo (gS T) 6 h))
noncomputable def dL (T : mm_M) (tk : Nat → Nat) : Nat → Int → Int
  | 0, h => h
  | p + 1, h => fo (ldp T tk p) (wn T p) (dL T tk p h)
noncomputable def gF (L : mm_M) (k : Nat) : Int := v_flow L ((k % 8 / 2 : Nat) : Int) (k / 8) ((k % 2 : Nat) : Int)
noncomputable def dF (L : mm_M) (h : Int) : Int := fo (gT L) 3 (fo (gV L) 2 (fo (gF L) (8 * Ln L) h))
def dE (T L X : mm_M) (h : Int) : Int := fo (gC T L X) 7 (fo (X 14) (X 0 23).toNat h)
section S66
variable {T L X : mm_M} {tk : Nat → Nat} {C M : mm_M} {Q : Int → mm_M → Prop} {R : mm_M → Prop} {h0 v : Int}
theorem gR_e {r i : Nat} (hi : i < 8) : gR T tk (8 * r + i) = v_road T tk r (i : Int) := by
  unfold gR; rw [show (8 * r + i) / 8 = r by omega, show (8 * r + i) % 8 = i by omega]
theorem q7_mix (h : Q (mxh h0 v) C) : mX7_mix h0 v C Q := h
theorem fo_s {f : Nat → Int} {n : Nat} {h : Int} : fo f (n + 1) h = mxh (fo f n h) (f n) := rfl
/-! the class -/
theorem q7_mixNet (hw : wI T tk L X) (hc : cI C T tk L X) (hn : 0 < T 0 1) (h : Q (fo (gR T tk) (8 * Rn T) (fo (gA T tk) 8 h0)) C) : mX7_mixNet h0 C Q := by
  have hR := wf_R hw.1
  have e1 : C 10 1 = T 0 1 := hc.1.1.2.1.2.2.1
  unfold mX7_mixNet
  refine pk_loop (fun j (k : Nat) (_ : Unit) => bX7_mixNet_5 j (fo (gA T tk) k h0) k C Q) (fun _ _ => True) 8 0 () (Nat.zero_le _) trivial ?_ ?_
  · rintro j ⟨⟩ -
    unfold bX7_mixNet_5
    refine ⟨fun _ => ?_, fun g => by omega⟩
    refine pk_loop (fun j (r : Nat) (_ : Unit) => bX7_mixNet_33 j (fo (gR T tk) (8 * r) (fo (gA T tk) 8 h0)) r C Q) (fun _ _ => True) (Rn T) 0 () (Nat.zero_le _) trivial ?_ ?_
    · rintro j ⟨⟩ -
      unfold bX7_mixNet_33
      rw [e1]
      exact ⟨fun _ => h, fun g => by omega⟩
    · rintro j r ⟨⟩ hr - ih
      unfold bX7_mixNet_33
      rw [e1]
      refine ⟨fun g => by omega, fun _ => ?_⟩
      refine pk_loop (fun i (k : Nat) (_ : Unit) => bX7_mixNet_51 (fun v3 v5 M => bX7_mixNet_33 j v3 v5 M Q) i (fo (gR T tk) (8 * r + k) (fo (gA T tk) 8 h0)) r k C Q) (fun _ _ => True) 8 0 () (Nat.zero_le _) trivial ?_ ?_
      · rintro i ⟨⟩ -
        unfold bX7_mixNet_51
        refine ⟨fun _ => ?_, fun g => by omega⟩
        rw [w_1 hr (by omega)]
        exact ih () trivial
      · rintro i k ⟨⟩ hk - ih2
        unfold bX7_mixNet_51
        refine ⟨fun g => by omega, fun _ => q7_roadV hw hc hr (by omega) ?_⟩
        have i3 := ih2 () trivial
        rw [w_1 hk (by omega)]
        show bX7_mixNet_51 _ i (mxh (fo (gR T tk) (8 * r + k) (fo (gA T tk) 8 h0)) (v_road T tk r k)) r _ C Q
        rw [← gR_e hk]
        exact i3
  · rintro j k ⟨⟩ hk - ih
    unfold bX7_mixNet_5
    refine ⟨fun g => by omega, fun _ => q7_aboutV hw hc hn (by omega) ?_⟩
    rw [w_1 hk (by omega)]
    exact ih () trivial
theorem q7_mixPlayers (hw : wI T tk L X) (hc : cI C T tk L X) (h : Q (plh T tk (Pn T) h0) C) : mX7_mixPlayers h0 C Q := by
  have hP := wf_P hw.1
  have hT := hw.1
  have e2 : C 9 2 = T 0 9 := hc.1.1.1
  unfold mX7_mixPlayers
  refine pk_loop (fun j (p : Nat) (_ : Unit) => bX7_mixPlayers_5 j (plh T tk p h0) p C Q) (fun _ _ => True) (Pn T) 0 () (Nat.zero_le _) trivial ?_ ?_
  · rintro j ⟨⟩ -
    unfold bX7_mixPlayers_5
    rw [e2]
    exact ⟨fun _ => h, fun g => by omega⟩
  · rintro j p ⟨⟩ hp - ih
    have h5 : p < 5 := by omega
    have hW := wf_w hT hp
    have ht := hw.2.1 p hp
    have hL := wf_l hT hp ht
    obtain ⟨d0, d1, d2, d3⟩ := hc.1.1.2.2.2 p hp
    have e3 := hc.1.2.1 p hp
    obtain ⟨w1, -, w3⟩ := d3 (tk p) ht
    unfold bX7_mixPlayers_5
    rw [e2, Int.toNat_natCast]
    refine ⟨fun g => by omega, fun _ => ⟨by omega, ?_⟩⟩
    refine pk_loop (fun i (k : Nat) (_ : Unit) => bX7_mixPlayers_32 (fun v3 v5 M => bX7_mixPlayers_5 j v3 v5 M Q) i (fo (gW T tk p) k (plh T tk p h0)) p (30 + 17 * p) k C Q) (fun _ _ => True) 7 0 () (Nat.zero_le _) trivial ?_ ?_
    · rintro i ⟨⟩ -
      unfold bX7_mixPlayers_32
      refine ⟨fun _ => ?_, fun g => by omega⟩
      refine pk_loop (fun i (k : Nat) (_ : Unit) => bX7_mixPlayers_62 (fun v3 v5 M => bX7_mixPlayers_5 j v3 v5 M Q) i (fo (pay T tk p) k (fo (gW T tk p) 7 (plh T tk p h0))) p (30 + 17 * p) k C Q) (fun _ _ => True) (wn T p) 0 () (Nat.zero_le _) trivial ?_ ?_
      · rintro i ⟨⟩ -
        unfold bX7_mixPlayers_62
        rw [d2]
        refine mm_chk_i (kd_p h5) ⟨fun _ => ?_, fun g => by omega⟩
        refine pk_loop (fun i (k : Nat) (_ : Unit) => bX7_mixPlayers_98 (fun v3 v5 M => bX7_mixPlayers_5 j v3 v5 M Q) i (fo (gO T tk p) k (fo (pay T tk p) (wn T p) (fo (gW T tk p) 7 (plh T tk p h0)))) p (30 + 17 * p) k C Q) (fun _ _ => True) (ln T p (tk p)) 0 () (Nat.zero_le _) trivial ?_ ?_
        · rintro i ⟨⟩ -
          unfold bX7_mixPlayers_98
          rw [kd_p h5, ak_p1 h5, e3, Int.toNat_natCast, w1]
          refine mm_chk_i rfl (mm_chk_i rfl (mm_chk_i rfl ⟨⟨by omega, by show _ < (12 : Int); omega⟩, fun _ => ?_, fun g => by omega⟩))
          rw [w_1 hp (by omega)]
          exact ih () trivial
        · rintro i k ⟨⟩ hk - ih2
          unfold bX7_mixPlayers_98
          rw [kd_p h5, ak_p1 h5, ak_p4 h5, e3, Int.toNat_natCast, w1, show mm_el ((4, 12) : Nat × Nat).1 (30 + 17 * p + 4) (tk p) = 30 + 17 * p + 5 + tk p from el_4 (30 + 17 * p) (tk p), ak_pw p h5 (tk p) (by omega), Int.toNat_natCast, w3 k hk]
          refine mm_chk_i rfl (mm_chk_i rfl (mm_chk_i rfl ⟨⟨by omega, by show _ < (12 : Int); omega⟩, fun g => by omega, fun _ => mm_chk_i rfl (mm_chk_i rfl (mm_chk_i rfl ⟨⟨by omega, by show _ < (12 : Int); omega⟩, mm_chk_i rfl ⟨⟨by omega, by show _ < (5 : Int); omega⟩, ?_⟩⟩))⟩))
          rw [w_1 hk (by omega)]
          exact ih2 () trivial
      · rintro i k ⟨⟩ hk - ih2
        unfold bX7_mixPlayers_62
        rw [d2]
        refine mm_chk_i (kd_p h5) ⟨fun g => by omega, fun _ => q6_payBy hT hw.2.1 hp hk hc.1 ?_⟩
        rw [w_1 hk (by omega)]
        exact ih2 () trivial
    · rintro i k ⟨⟩ hk - ih2
      unfold bX7_mixPlayers_32
      refine ⟨fun g => by omega, fun _ => q7_whoV hw hc hp (by omega) ?_⟩
      rw [w_1 hk (by omega)]
      exact ih2 () trivial
theorem q7_ms68 (hw : wI T tk L X) (hc : cI C T tk L X) (g1 : 1 ≤ Pn T) (g2 : all T (Pn T) ≤ 500) (h : ∀ C', cI C' T tk L X → Q (fo (gE T tk) 3 h0) C') : ∃ j, bX7_mixSets_68 j h0 0 C Q := by
  refine pk_loop (fun j (k : Nat) (C2 : mm_M) => bX7_mixSets_68 j (fo (gE T tk) k h0) k C2 Q) (fun _ C2 => cI C2 T tk L X) 3 0 C (Nat.zero_le _) hc ?_ ?_
  · rintro j C4 c4
    unfold bX7_mixSets_68
    exact ⟨fun _ => h C4 c4, fun g => by omega⟩
  · rintro j k C4 hk c4 ih
    unfold bX7_mixSets_68
    refine ⟨fun g => by omega, fun _ => q7_reachV hw c4 g1 g2 (by omega) (fun C5 c5 => ?_)⟩
    rw [w_1 hk (by omega)]
    refine q7_mix ?_
    exact ih C5 c5
theorem q7_ms41 (hw : wI T tk L X) (hc : cI C T tk L X) (g1 : 1 ≤ Pn T) (g2 : all T (Pn T) ≤ 500) (h : ∀ C', cI C' T tk L X → ∃ j, bX7_mixSets_68 j (fo (gP T) 4 h0) 0 C' Q) : ∃ j, bX7_mixSets_41 j h0 0 C Q := by
  refine pk_loop (fun j (k : Nat) (C2 : mm_M) => bX7_mixSets_41 j (fo (gP T) k h0) k C2 Q) (fun _ C2 => cI C2 T tk L X) 4 0 C (Nat.zero_le _) hc ?_ ?_
  · rintro j C4 c4
    unfold bX7_mixSets_41
    exact ⟨fun _ => h C4 c4, fun g => by omega⟩
  · rintro j k C4 hk c4 ih
    unfold bX7_mixSets_41
    refine ⟨fun g => by omega, fun _ => q7_priceV hw c4 g1 g2 (by omega) (fun C5 c5 => ?_)⟩
    rw [w_1 hk (by omega)]
    refine q7_mix ?_
    exact ih C5 c5
theorem q7_ms14 (hw : wI T tk L X) (hc : cI C T tk L X) (g1 : 1 ≤ Pn T) (g2 : all T (Pn T) ≤ 500) (h : ∀ C', cI C' T tk L X → ∃ j, bX7_mixSets_41 j (fo (gS T) 6 h0) 0 C' Q) : ∃ j, bX7_mixSets_14 j h0 0 C Q := by
  refine pk_loop (fun j (k : Nat) (C2 : mm_M) => bX7_mixSets_14 j (fo (gS T) k h0) k C2 Q) (fun _ C2 => cI C2 T tk L X) 6 0 C (Nat.zero_le _) hc ?_ ?_
  · rintro j C4 c4
    unfold bX7_mixSets_14
    exact ⟨fun _ => h C4 c4, fun g => by omega⟩
  · rintro j k C4 hk c4 ih
    unfold bX7_mixSets_14
    refine ⟨fun g => by omega, fun _ => q7_restsV hw c4 g1 g2 (by omega) (fun C5 c5 => ?_)⟩
    rw [w_1 hk (by omega)]
    refine q7_mix ?_
    exact ih C5 c5
theorem q7_mixSets (hw : wI T tk L X) (hc : cI C T tk L X) (h1 : 1 ≤ Pn T → all T (Pn T) ≤ 500 → ∀ C', cI C' T tk L X → Q (dS T tk h0) C') (h2 : ¬ (1 ≤ Pn T ∧ all T (Pn T) ≤ 500) → Q h0 C) : mX7_mixSets h0 C Q := by
  unfold mX7_mixSets
  exact q7_surveyed hw hc (fun g1 g2 C1 c1 _ => cy1 (q7_ms14 hw c1 g1 g2 (fun C2 c2 => q7_ms41 hw c2 g1 g2 (fun C3 c3 => q7_ms68 hw c3 g1 g2 (fun C4 c4 => h1 g1 g2 C4 c4))))) (fun g => cn0 (h2 g))
theorem q7_mixLeads (hw : wI T tk L X) (hc : cI C T tk L X) (h : ∀ C', cI C' T tk L X → Q (dL T tk (Pn T) h0) C') : mX7_mixLeads h0 C Q := by
  have hP := wf_P hw.1
  unfold mX7_mixLeads
  refine pk_loop (fun j (p : Nat) (C2 : mm_M) => bX7_mixLeads_5 j (dL T tk p h0) p C2 Q) (fun _ C2 => cI C2 T tk L X) (Pn T) 0 C (Nat.zero_le _) hc ?_ ?_
  · rintro j C1 c1
    unfold bX7_mixLeads_5
    rw [c1.1.1.1]
    exact ⟨fun _ => h C1 c1, fun g => by omega⟩
  · rintro j p C1 hp c1 ih
    have hW := wf_w hw.1 hp
    unfold bX7_mixLeads_5
    rw [c1.1.1.1]
    refine ⟨fun g => by omega, fun _ => ?_⟩
    refine pk_loop (fun i (k : Nat) (C2 : mm_M) => bX7_mixLeads_20 (fun v3 v5 M => bX7_mixLeads_5 j v3 v5 M Q) i (fo (ldp T tk p) k (dL T tk p h0)) p k C2 Q) (fun _ C2 => cI C2 T tk L X) (wn T p) 0 C1 (Nat.zero_le _) c1 ?_ ?_
    · rintro i C2 c2
      unfold bX7_mixLeads_20
      rw [Int.toNat_natCast, (c2.1.1.2.2.2 p hp).2.2.1]
      refine ⟨by omega, mm_chk_i (kd_p (by omega)) ⟨fun _ => ?_, fun g => by omega⟩⟩
      rw [w_1 hp (by omega)]
      exact ih C2 c2
    · rintro i k C2 hk c2 ih2
      unfold bX7_mixLeads_20
      rw [Int.toNat_natCast, (c2.1.1.2.2.2 p hp).2.2.1]
      refine ⟨by omega, mm_chk_i (kd_p (by omega)) ⟨fun g => by omega, fun _ => q6_payIfLeading hw.1 hw.2.1 hp hk c2.1 (fun C3 a b => ?_)⟩⟩
      rw [w_1 hk (by omega)]
      exact ih2 C3 (c2.otk a b)
theorem gF_0 {n i : Nat} (hi : i < 4) : gF L (8 * n + 2 * i) = v_flow L (i : Int) n 0 := by
  unfold gF; rw [show (8 * n + 2 * i) % 8 / 2 = i by omega, show (8 * n + 2 * i) / 8 = n by omega, show (8 * n + 2 * i) % 2 = 0 by omega]; rfl
theorem gF_1 {n i : Nat} (hi : i < 4) : gF L (8 * n + 2 * i + 1) = v_flow L (i : Int) n 1 := by
  unfold gF; rw [show (8 * n + 2 * i + 1) % 8 / 2 = i by omega, show (8 * n + 2 * i + 1) / 8 = n by omega, show (8 * n + 2 * i + 1) % 2 = 1 by omega]; rfl
theorem q7_mixLanes (hw : wI T tk L X) (hc : cI C T tk L X) (h : 1 ≤ Ln L → ∀ C', cI C' T tk L X → Q (dF L h0) C') (h2 : Ln L = 0 → Q h0 C) : mX7_mixLanes h0 C Q := by
  have hN := wfL_n hw.2.2.2.1
  have e3 : ∀ C', cI C' T tk L X → C' 125 3 = ((Ln L : Nat) : Int) := fun C' c => by rw [c.2.2.2.1.1]; exact hN.1.symm
  unfold mX7_mixLanes
  by_cases hz : Ln L = 0
  · refine ⟨1, ?_⟩
    unfold bX7_mixLanes_5
    rw [e3 C hc]
    exact ⟨fun _ => ⟨fun _ => h2 hz, fun g => by omega⟩, fun g => by omega⟩
  refine pk_loop (fun j (n : Nat) (C2 : mm_M) => bX7_mixLanes_5 j (fo (gF L) (8 * n) h0) n C2 Q) (fun _ C2 => cI C2 T tk L X) (Ln L) 0 C (Nat.zero_le _) hc ?_ ?_
  · rintro j C1 c1
    unfold bX7_mixLanes_5
    rw [e3 C1 c1]
    refine ⟨fun _ => ⟨fun g => by omega, fun _ => q7_levelV hw c1 (by omega) (by omega) (fun C2 c2 => ?_)⟩, fun g => by omega⟩
    refine q7_mix ?_
    refine q7_levelV hw c2 (by omega) (by omega) (fun C3 c3 => ?_)
    show ∃ j, bX7_mixLanes_103 j (fo (gV L) 2 (fo (gF L) (8 * Ln L) h0)) 0 C3 Q
    refine pk_loop (fun j (k : Nat) (C2 : mm_M) => bX7_mixLanes_103 j (fo (gT L) k (fo (gV L) 2 (fo (gF L) (8 * Ln L) h0))) k C2 Q) (fun _ C2 => cI C2 T tk L X) 3 0 C3 (Nat.zero_le _) c3 ?_ ?_
    · rintro j C4 c4
      unfold bX7_mixLanes_103
      exact ⟨fun _ => h (by omega) C4 c4, fun g => by omega⟩
    · rintro j k C4 hk c4 ih
      unfold bX7_mixLanes_103
      refine ⟨fun g => by omega, fun _ => q7_totalV hw c4 (by omega) (by omega) (fun C5 c5 => ?_)⟩
      rw [w_1 hk (by omega)]
      exact ih C5 c5
  · rintro j n C1 hn c1 ih
    unfold bX7_mixLanes_5
    rw [e3 C1 c1]
    refine ⟨fun g => by omega, fun _ => ?_⟩
    refine pk_loop (fun i (k : Nat) (C2 : mm_M) => bX7_mixLanes_20 (fun v3 v5 M => bX7_mixLanes_5 j v3 v5 M Q) i (fo (gF L) (8 * n + 2 * k) h0) n k C2 Q) (fun _ C2 => cI C2 T tk L X) 4 0 C1 (Nat.zero_le _) c1 ?_ ?_
    · rintro i C2 c2
      unfold bX7_mixLanes_20
      refine ⟨fun _ => ?_, fun g => by omega⟩
      rw [w_1 hn (by omega)]
      exact ih C2 c2
    · rintro i k C2 hk c2 ih2
      unfold bX7_mixLanes_20
      refine ⟨fun g => by omega, fun _ => q7_flowV hw c2 hn (by omega) (by omega) (fun C3 c3 => ?_)⟩
      refine q7_mix ?_
      refine q7_flowV hw c3 hn (by omega) (by omega) (fun C4 c4 => ?_)
      have i3 := ih2 C4 c4
      rw [w_1 hk (by omega)]
      show bX7_mixLanes_20 _ i (mxh (mxh (fo (gF L) (8 * n + 2 * k) h0) (v_flow L k n 0)) (v_flow L k n 1)) n _ C4 Q
      rw [← gF_0 hk, ← gF_1 hk]
      exact i3
theorem q7_dg43 (hw : wI T tk L X) (hc : cI C T tk L X) (h : Q (dE T L X h0) C) : ∃ j, bX7_digest_43 j h0 0 C Q := by
  have hX := hw.2.2.2.2.1
  obtain ⟨x1, x2, -⟩ := hc.2.2.2.2.2
  refine pk_loop (fun j (k : Nat) (_ : Unit) => bX7_digest_43 j (fo (X 14) k h0) k C Q) (fun _ _ => True) (X 0 23).toNat 0 () (Nat.zero_le _) trivial ?_ ?_
  · rintro j ⟨⟩ -
    unfold bX7_digest_43
    rw [x1]
    refine ⟨fun _ => ?_, fun g => by omega⟩
    refine pk_loop (fun j (k : Nat) (_ : Unit) => bX7_digest_77 j (fo (gC T L X) k (fo (X 14) (X 0 23).toNat h0)) k C Q) (fun _ _ => True) 7 0 () (Nat.zero_le _) trivial ?_ ?_
    · rintro j ⟨⟩ -
      unfold bX7_digest_77
      exact ⟨fun _ => h, fun g => by omega⟩
    · rintro j k ⟨⟩ hk - ih
      unfold bX7_digest_77
      refine ⟨fun g => by omega, fun _ => q7_countV hc ?_⟩
      rw [w_1 hk (by omega)]
      exact ih () trivial
  · rintro j k ⟨⟩ hk - ih
    unfold bX7_digest_43
    rw [x1, Int.toNat_natCast, x2 k (by omega), w_1 hk (by omega)]
    exact ⟨fun g => by omega, fun _ => ⟨by omega, ih () trivial⟩⟩
end S66
