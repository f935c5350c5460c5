/-! calls that change prices; the last player goes -/
def agp (T T' : mm_M) (p : Nat) : Prop := T' 6 p = T 6 p ∧ T' 7 p = T 7 p ∧ T' 8 p = T 8 p ∧ ∀ w, w < 12 → T' 10 (12 * p + w) = T 10 (12 * p + w) ∧ ∀ k, k < 5 → T' 11 (5 * (12 * p + w) + k) = T 11 (5 * (12 * p + w) + k)
section S60
variable {T T' L X : mm_M} {tk : Nat → Nat} {C C' M : mm_M} {p w k : Nat}
theorem agp.xwn (h : agp T T' p) : wn T' p = wn T p := by unfold wn; rw [h.2.2.1]
theorem agp.xln (h : agp T T' p) (hw : w < 12) : ln T' p w = ln T p w := by unfold ln; rw [(h.2.2.2 w hw).1]
theorem agp.xrd (h : agp T T' p) (hw : w < 12) (hk : k < 5) : rd T' p w k = rd T p w k := by unfold rd; rw [(h.2.2.2 w hw).2 k hk]
theorem agp.xcnt (h : agp T T' p) (hw : w < 12) (hl : ln T p w ≤ 5) (r : Nat) : cnt T' p w r = cnt T p w r := by
  unfold cnt
  rw [h.xln hw]
  exact sm_congr (fun k hk => by rw [h.xrd hw (by omega)])
theorem wfW_l (h : wfW T p w) : ln T p w ≤ 5 := by have := h.1; unfold ln; omega
theorem agp.xwfW (h : agp T T' p) (hw : w < 12) (h1 : T' 0 1 = T 0 1) (hf : wfW T p w) : wfW T' p w := by
  have hl := wfW_l hf
  obtain ⟨a, b, c⟩ := hf
  refine ⟨by rw [(h.2.2.2 w hw).1]; exact a, fun k hk => ?_, fun i j hi hj he => ?_⟩
  · rw [h.xln hw] at hk
    rw [(h.2.2.2 w hw).2 k (by omega), h1]
    exact b k hk
  · rw [h.xln hw] at hi hj
    rw [h.xrd hw (by omega), h.xrd hw (by omega)] at he
    exact c i j hi hj he
theorem agp.xpD (h : agp T T' p) (hW : wn T p ≤ 12) (hf : ∀ w, w < wn T p → ln T p w ≤ 5) (hC : ∀ q k, 30 + 17 * p ≤ q → q < 30 + 17 * p + 17 → (q = 30 + 17 * p → k ≠ 3) → C' q k = C q k) (hd : pD C T p) : pD C' T' p := by
  obtain ⟨a, b, c, d⟩ := hd
  refine ⟨(hC _ _ (by omega) (by omega) (by omega)).trans (a.trans h.1.symm), (hC _ _ (by omega) (by omega) (by omega)).trans (b.trans h.2.1.symm), (hC _ _ (by omega) (by omega) (by omega)).trans (c.trans h.2.2.1.symm), fun w hw => ?_⟩
  rw [h.xwn] at hw
  obtain ⟨d1, d2, d3⟩ := d w hw
  have hl := hf w hw
  refine ⟨(hC _ _ (by omega) (by omega) (by omega)).trans (d1.trans (h.2.2.2 w (by omega)).1.symm), fun r hr => ?_, fun k hk => ?_⟩
  · rw [hC (30 + 17 * p + 2) w (by omega) (by omega) (by omega), h.xcnt (by omega) hl]
    exact d2 r hr
  · rw [h.xln (by omega)] at hk
    exact (hC _ _ (by omega) (by omega) (by omega)).trans ((d3 k hk).trans ((h.2.2.2 w (by omega)).2 k (by omega)).symm)
theorem wfP_ag (h : wfP T) (h1 : T' 0 1 = T 0 1) (h9 : 0 ≤ T' 0 9 ∧ T' 0 9 ≤ 5) (ha : ∀ p, p < Pn T' → p < Pn T ∧ agp T T' p) : wfP T' := by
  refine ⟨h9, fun p hp => ?_⟩
  obtain ⟨g1, g2⟩ := ha p hp
  obtain ⟨a, b⟩ := h.2 p g1
  refine ⟨by rw [g2.2.2.1]; exact a, fun w hw => ?_⟩
  rw [g2.xwn] at hw
  have hx : wn T p ≤ 12 := by unfold wn; omega
  exact g2.xwfW (by omega) h1 (b w hw)
theorem wf_ln (h : wf T) (hp : p < Pn T) : wn T p ≤ 12 ∧ ∀ w, w < wn T p → ln T p w ≤ 5 := ⟨(wf_w h hp).2.2, fun w hw => (wf_l h hp hw).2.2⟩
theorem lod_ag (h : wf T) (ht : wfT T tk) (h9 : T' 0 9 = T 0 9) (ha : ∀ p, p < Pn T → agp T T' p) (r : Nat) : lod T' tk r = lod T tk r := by
  unfold lod
  have e : Pn T' = Pn T := by unfold Pn; rw [h9]
  rw [e]
  exact sm_congr (fun p hp => (ha p hp).xcnt (by have := ht p hp; have := (wf_ln h hp).1; omega) ((wf_ln h hp).2 _ (ht p hp)) r)
/-- one number of the net is other -/
def nq (q : Nat) (v : Int) : Prop := (q = 3 ∧ 0 ≤ v ∧ v ≤ 20) ∨ (q = 4 ∧ 0 ≤ v ∧ v ≤ 9) ∨ (q = 5 ∧ 0 ≤ v ∧ v ≤ 40)
theorem agp_up {q k : Nat} {v : Int} (h : q = 0 ∨ q = 3 ∨ q = 4 ∨ q = 5) : agp T (mm_up T q k v) p :=
  ⟨up_n (by omega), up_n (by omega), up_n (by omega), fun w _ => ⟨up_n (by omega), fun k _ => up_n (by omega)⟩⟩
theorem wf_mode (hw : wf T) {v : Int} (hv : 0 ≤ v ∧ v ≤ 2) : wf (mm_up T 0 7 v) := by
  obtain ⟨⟨a, b, c⟩, hp⟩ := hw
  have e1 : mm_up T 0 7 v 0 1 = T 0 1 := up_n (by omega)
  have e9 : mm_up T 0 7 v 0 9 = T 0 9 := up_n (by omega)
  have eR : Rn (mm_up T 0 7 v) = Rn T := by unfold Rn; rw [e1]
  have eP : Pn (mm_up T 0 7 v) = Pn T := by unfold Pn; rw [e9]
  refine ⟨⟨by rw [e1]; exact a, by rw [up_s]; exact hv, fun r hr => ?_⟩, wfP_ag hp e1 (by rw [e9]; exact hp.1) (fun p h => ⟨by rw [eP] at h; exact h, agp_up (by omega)⟩)⟩
  rw [eR] at hr
  rw [up_n (by omega), up_n (by omega), up_n (by omega), up_n (by omega), up_n (by omega), up_n (by omega)]
  exact c r hr
theorem wf_put (hw : wf T) {q r : Nat} {v : Int} (hq : nq q v) : wf (mm_up T q r v) := by
  obtain ⟨⟨a, b, c⟩, hp⟩ := hw
  unfold nq at hq
  have e1 : mm_up T q r v 0 1 = T 0 1 := up_n (by omega)
  have e9 : mm_up T q r v 0 9 = T 0 9 := up_n (by omega)
  have e0 : mm_up T q r v 0 0 = T 0 0 := up_n (by omega)
  have e7 : mm_up T q r v 0 7 = T 0 7 := up_n (by omega)
  have eR : Rn (mm_up T q r v) = Rn T := by unfold Rn; rw [e1]
  have eP : Pn (mm_up T q r v) = Pn T := by unfold Pn; rw [e9]
  refine ⟨⟨by rw [e1]; exact a, by rw [e7]; exact b, fun i hi => ?_⟩, wfP_ag hp e1 (by rw [e9]; exact hp.1) (fun p h => ⟨by rw [eP] at h; exact h, agp_up (by omega)⟩)⟩
  rw [eR] at hi
  obtain ⟨c1, c2, c3, c4, c5, c6⟩ := c i hi
  rw [e0, show mm_up T q r v 1 i = T 1 i from up_n (by omega), show mm_up T q r v 2 i = T 2 i from up_n (by omega)]
  refine ⟨c1, c2, c3, ?_, ?_, ?_⟩
  · by_cases e : 3 = q ∧ i = r
    · rw [e.1, e.2, up_s]; omega
    · rw [up_n (by omega)]; exact c4
  · by_cases e : 4 = q ∧ i = r
    · rw [e.1, e.2, up_s]; omega
    · rw [up_n (by omega)]; exact c5
  · by_cases e : 5 = q ∧ i = r
    · rw [e.1, e.2, up_s]; omega
    · rw [up_n (by omega)]; exact c6
/-- prices are laid anew: the class's state over another net with the same players -/
theorem cs_T (hw : wf T) (ht : wfT T tk) (h9 : T' 0 9 = T 0 9) (ha : ∀ p, p < Pn T → agp T T' p) (hc : cs C T tk) (hn : nD C' T') (hx : xD C' T') (hf : ∀ q k, ((q = 9 ∧ k = 2) ∨ q = 16 ∨ (30 ≤ q ∧ q < 115)) → C' q k = C q k) : cs C' T' tk := by
  have eP : Pn T' = Pn T := by unfold Pn; rw [h9]
  have hP := wf_P hw
  refine ⟨⟨(hf 9 2 (by omega)).trans (hc.1.1.trans h9.symm), hn, hx, fun p hp => ?_⟩, fun p hp => ?_, fun r hr => ?_⟩
  · rw [eP] at hp
    exact (ha p hp).xpD (wf_ln hw hp).1 (wf_ln hw hp).2 (fun q k a b _ => hf q k (by omega)) (hc.1.2.2.2 p hp)
  · rw [eP] at hp
    exact (hf _ _ (by omega)).trans (hc.2.1 p hp)
  · rw [hf 16 r (by omega), lod_ag hw ht h9 ha]
    exact hc.2.2 r hr
theorem wfT_ag (h9 : T' 0 9 = T 0 9) (ha : ∀ p, p < Pn T → agp T T' p) (ht : wfT T tk) : wfT T' tk := fun p hp => by
  have eP : Pn T' = Pn T := by unfold Pn; rw [h9]
  rw [eP] at hp
  rw [(ha p hp).xwn]; exact ht p hp
theorem mI.t (hm : mI M T tk L X) {q k : Nat} (hq : (q = 0 ∧ k = 7) ∨ q = 3 ∨ q = 4 ∨ q = 5) (v : Int) : mI (mm_up M q k v) (mm_up T q k v) tk L X := by
  have hpp : (pp q k && Nat.ble q 7) = true := by
    rcases hq with ⟨rfl, rfl⟩ | rfl | rfl | rfl <;> rfl
  have eP : Pn (mm_up T q k v) = Pn T := by unfold Pn; rw [up_n (by omega)]
  refine ⟨⟨by rw [pj_up hpp (by omega), hm.1.1], fun p hp => ?_⟩, lj_fr hm.2.1 (fun a i g => up_n (by omega)), xj_fr hm.2.2 (fun a i g => up_n (by omega))⟩
  rw [eP] at hp
  exact (up_n (by omega)).trans (hm.1.2 p hp)
theorem xC_fr (hx : xC C X) (hf : ∀ q k, q < 3 → C' q k = C q k) : xC C' X := ⟨(hf 1 1 (by decide)).trans hx.1, fun k hk => (hf 2 k (by decide)).trans (hx.2.1 k hk), (hf 0 4 (by decide)).trans hx.2.2.1, (hf 0 5 (by decide)).trans hx.2.2.2.1, (hf 0 6 (by decide)).trans hx.2.2.2.2⟩
theorem z_mode (hi : Inv C M) (v : Int) : mX7_mode v C (fun r C' => mX8_mode v M (fun r' M' => r = r' ∧ Inv C' M')) := by
  obtain ⟨T, tk, L, X, hw, hc, hm⟩ := hi
  have hd := hc.1.1.2.1
  unfold mX7_mode
  refine q7_within (fun g1 g2 => cy1 ?_) (fun g => cn0 ?_)
  · have hw' : wf (mm_up T 0 7 v) := wf_mode hw.1 ⟨g1, g2⟩
    have eR : Rn (mm_up T 0 7 v) = Rn T := by unfold Rn; rw [up_n (by omega)]
    have hn : nD (mm_up C 9 3 v) (mm_up T 0 7 v) := by
      refine ⟨by rw [up_s, up_s], (up_n (by omega)).trans (hd.2.1.trans (up_n (by omega)).symm), (up_n (by omega)).trans (hd.2.2.1.trans (up_n (by omega)).symm), fun r hr => ?_⟩
      rw [eR] at hr
      obtain ⟨d1, d2, d3, d4, d5⟩ := hd.2.2.2 r hr
      exact ⟨(up_n (by omega)).trans (d1.trans (up_n (by omega)).symm), (up_n (by omega)).trans (d2.trans (up_n (by omega)).symm), (up_n (by omega)).trans (d3.trans (up_n (by omega)).symm), (up_n (by omega)).trans (d4.trans (up_n (by omega)).symm), (up_n (by omega)).trans (d5.trans (up_n (by omega)).symm)⟩
    refine q6_priceRoads hw'.1 hn (fun C2 o x => ?_)
    have h9 : mm_up T 0 7 v 0 9 = T 0 9 := up_n (by omega)
    have ha : ∀ p, p < Pn T → agp T (mm_up T 0 7 v) p := fun p _ => agp_up (by omega)
    have ff : ∀ q k, q ≠ 115 → (q < 19 ∨ 28 < q) → ¬ (q = 9 ∧ k = 3) → mm_up C2 115 0 0 q k = C q k := fun q k a b c => (up_n (by omega)).trans ((o q k b).trans (up_n (by omega)))
    have f2 : ∀ q k, q ≠ 115 → mm_up C2 115 0 0 q k = C2 q k := fun q k a => up_n (by omega)
    have hR := wf_R hw'
    unfold mX8_mode
    refine q8_within (fun _ _ => cy1 ?_) (fun g => by omega)
    rw [hd.1, pj_r hm.1.1 (q := 0) (k := 7) rfl]
    refine ⟨rfl, mm_up T 0 7 v, tk, L, X, ⟨hw', wfT_ag h9 ha hw.2.1, ?_, hw.2.2.2⟩, hc.ft (fun q k a => ff q k (by omega) (by omega) (by omega)) (cs_T hw.1 hw.2.1 h9 ha hc.1 ?_ (fun r hr k a b => (f2 _ _ (by omega)).trans (x r hr k a b)) (fun q k a => ff q k (by omega) (by omega) (by omega))) (up_s _ _ _ _) (xC_fr hc.2.2.2.2.2 (fun q k a => ff q k (by omega) (by omega) (by omega))), hm.t (by decide) v⟩
    · have := hw.2.2.1
      unfold netc at this ⊢
      rw [up_n (by omega), up_n (by omega), up_n (by omega)]; exact this
    · obtain ⟨n1, n2, n3, n4⟩ := hn
      refine ⟨(f2 9 3 (by decide)).trans ((o 9 3 (by omega)).trans n1), (f2 10 0 (by decide)).trans ((o 10 0 (by omega)).trans n2), (f2 10 1 (by decide)).trans ((o 10 1 (by omega)).trans n3), fun r hr => ?_⟩
      obtain ⟨d1, d2, d3, d4, d5⟩ := n4 r hr
      exact ⟨(f2 _ _ (by decide)).trans ((o _ _ (by omega)).trans d1), (f2 _ _ (by decide)).trans ((o _ _ (by omega)).trans d2), (f2 _ _ (by decide)).trans ((o _ _ (by omega)).trans d3), (f2 _ _ (by decide)).trans ((o _ _ (by omega)).trans d4), (f2 _ _ (by decide)).trans ((o _ _ (by omega)).trans d5)⟩
  · unfold mX8_mode
    exact q8_within (fun _ _ => by omega) (fun _ => cn0 ⟨rfl, T, tk, L, X, hw, hc, hm⟩)
theorem nD_up {q r : Nat} {v : Int} (hq : q = 3 ∨ q = 4 ∨ q = 5) (hn : nD C T) : nD (mm_up C (q + 10) r v) (mm_up T q r v) := by
  have eR : Rn (mm_up T q r v) = Rn T := by unfold Rn; rw [up_n (by omega)]
  have e : ∀ a i, C (a + 10) i = T a i → mm_up C (q + 10) r v (a + 10) i = mm_up T q r v a i := fun a i h => by
    by_cases g : a = q ∧ i = r
    · rw [g.1, g.2, up_s, up_s]
    · rw [up_n (by omega), up_n (by omega)]; exact h
  obtain ⟨n1, n2, n3, n4⟩ := hn
  refine ⟨(up_n (by omega)).trans (n1.trans (up_n (by omega)).symm), (up_n (by omega)).trans (n2.trans (up_n (by omega)).symm), (up_n (by omega)).trans (n3.trans (up_n (by omega)).symm), fun r hr => ?_⟩
  rw [eR] at hr
  obtain ⟨d1, d2, d3, d4, d5⟩ := n4 r hr
  exact ⟨e 1 r d1, e 2 r d2, e 3 r d3, e 4 r d4, e 5 r d5⟩
theorem q7_put98 (hw : wI T tk L X) (hc : cI C T tk L X) {q r : Nat} {v m : Int} (hr : r < Rn T) (hq : nq q v) {Q : Int → mm_M → Prop} (h : ∀ C', wI (mm_up T q r v) tk L X → cI C' (mm_up T q r v) tk L X → Q (T q r) C') : bX7_put_98 r v m (q + 10) C Q := by
  have hR := wf_R hw.1
  have hw' : wf (mm_up T q r v) := wf_put hw.1 hq
  have hn0 := hc.1.1.2.1
  have hn := nD_up (r := r) (v := v) (q := q) (by unfold nq at hq; omega) hn0
  have e : mm_ak lay_c (q + 10) = (0, 10) := by
    unfold nq at hq
    rcases (show q = 3 ∨ q = 4 ∨ q = 5 by omega) with rfl | rfl | rfl <;> rfl
  have eq : C (q + 10) r = T q r := by
    obtain ⟨d1, d2, d3, d4, d5⟩ := hn0.2.2.2 r hr
    unfold nq at hq
    rcases (show q = 3 ∨ q = 4 ∨ q = 5 by omega) with rfl | rfl | rfl
    · exact d3
    · exact d4
    · exact d5
  unfold bX7_put_98
  rw [e, Int.toNat_natCast, eq]
  refine mm_chk_i rfl ⟨⟨by omega, by show _ < (10 : Int); omega⟩, mm_chk_i rfl ⟨⟨by omega, by show _ < (10 : Int); omega⟩, q6_priceRoads hw'.1 hn (fun C2 o x => ?_)⟩⟩
  unfold nq at hq
  have h9 : mm_up T q r v 0 9 = T 0 9 := up_n (by omega)
  have ha : ∀ p, p < Pn T → agp T (mm_up T q r v) p := fun p _ => agp_up (by omega)
  have ff : ∀ a k, a ≠ 115 → (a < 13 ∨ 28 < a ∨ a = 16) → mm_up C2 115 0 0 a k = C a k := fun a k g1 g2 => (up_n (by omega)).trans ((o a k (by omega)).trans (up_n (by omega)))
  have f2 : ∀ q k, q ≠ 115 → mm_up C2 115 0 0 q k = C2 q k := fun q k a => up_n (by omega)
  have hR' := wf_R hw'
  refine h _ ⟨hw', wfT_ag h9 ha hw.2.1, ?_, hw.2.2.2⟩ (hc.ft (fun q k a => ff q k (by omega) (by omega)) (cs_T hw.1 hw.2.1 h9 ha hc.1 ?_ (fun r hr k a b => (f2 _ _ (by omega)).trans (x r hr k a b)) (fun q k a => ff q k (by omega) (by omega))) (up_s _ _ _ _) (xC_fr hc.2.2.2.2.2 (fun q k a => ff q k (by omega) (by omega))))
  · have := hw.2.2.1
    unfold netc at this ⊢
    rw [up_n (by omega), up_n (by omega), up_n (by omega)]; exact this
  · obtain ⟨n1, n2, n3, n4⟩ := hn
    refine ⟨(f2 9 3 (by decide)).trans ((o 9 3 (by omega)).trans n1), (f2 10 0 (by decide)).trans ((o 10 0 (by omega)).trans n2), (f2 10 1 (by decide)).trans ((o 10 1 (by omega)).trans n3), fun r hr => ?_⟩
    obtain ⟨d1, d2, d3, d4, d5⟩ := n4 r hr
    exact ⟨(f2 _ _ (by decide)).trans ((o _ _ (by omega)).trans d1), (f2 _ _ (by decide)).trans ((o _ _ (by omega)).trans d2), (f2 _ _ (by decide)).trans ((o _ _ (by omega)).trans d3), (f2 _ _ (by decide)).trans ((o _ _ (by omega)).trans d4), (f2 _ _ (by decide)).trans ((o _ _ (by omega)).trans d5)⟩
theorem q8_putV (hw : wI T tk L X) (hm : mI M T tk L X) {q r : Nat} {z v : Int} (hr : r < Rn T) (hz : z + 3 = q) (hq : nq q v) {Q : Int → mm_M → Prop} (h : Q (T q r) (mm_up M q r v)) : mX8_put r z v M Q := by
  have hR := wf_R hw.1
  unfold mX8_put
  refine q8_isRoad hw hm (fun r' e hr' => cy1 ?_) (fun g => by omega)
  rcases hq with ⟨rfl, h0, h1⟩ | ⟨rfl, h0, h1⟩ | ⟨rfl, h0, h1⟩
  · have e : z = 0 := by omega
    subst e
    refine ⟨fun g => absurd rfl g, fun _ => ?_⟩
    unfold bX8_put_32
    refine q8_within (fun _ _ => dy1 (q8_within (fun _ _ => cy1 ?_) (fun g => by omega))) (fun g => by omega)
    refine ⟨fun g => absurd rfl g, fun _ => ⟨by omega, fun g => absurd rfl g, fun _ => ?_⟩⟩
    unfold bX8_put_110
    refine ⟨by omega, fun _ => ⟨by omega, ?_⟩, fun e => absurd e (by decide)⟩
    unfold bX8_put_131
    refine ⟨by omega, fun _ => ⟨by omega, by omega, ?_⟩, fun e => absurd e (by decide)⟩
    rw [Int.toNat_natCast, up_same, up_same, pj_r hm.1.1 (q := 3) (k := r) rfl]; exact h
  · have e : z = 1 := by omega
    subst e
    refine ⟨fun _ => ⟨fun g => absurd rfl g, fun _ => ?_⟩, fun e => absurd e (by decide)⟩
    unfold bX8_put_32
    refine q8_within (fun _ _ => dy1 (q8_within (fun _ _ => cy1 ?_) (fun g => by omega))) (fun g => by omega)
    refine ⟨fun _ => ⟨fun g => absurd rfl g, fun _ => ⟨by omega, fun _ => ⟨by omega, ?_⟩, fun e => absurd e (by decide)⟩⟩, fun e => absurd e (by decide)⟩
    unfold bX8_put_110
    refine ⟨by omega, fun g => absurd rfl g, fun _ => ?_⟩
    unfold bX8_put_131
    refine ⟨by omega, fun _ => ⟨by omega, by omega, ?_⟩, fun e => absurd e (by decide)⟩
    rw [Int.toNat_natCast, up_same, up_same, pj_r hm.1.1 (q := 4) (k := r) rfl]; exact h
  · have e : z = 2 := by omega
    subst e
    refine ⟨fun _ => ⟨fun _ => ?_, fun e => absurd e (by decide)⟩, fun e => absurd e (by decide)⟩
    unfold bX8_put_32
    refine q8_within (fun _ _ => dy1 (q8_within (fun _ _ => cy1 ?_) (fun g => by omega))) (fun g => by omega)
    refine ⟨fun _ => ⟨fun _ => ⟨by omega, fun _ => ⟨by omega, ?_⟩, fun e => absurd e (by decide)⟩, fun e => absurd e (by decide)⟩, fun e => absurd e (by decide)⟩
    unfold bX8_put_110
    refine ⟨by omega, fun _ => ⟨by omega, ?_⟩, fun e => absurd e (by decide)⟩
    unfold bX8_put_131
    refine ⟨by omega, fun g => absurd rfl g, fun _ => ⟨by omega, ?_⟩⟩
    rw [Int.toNat_natCast, up_same, up_same, pj_r hm.1.1 (q := 5) (k := r) rfl]; exact h
def pz (z v : Int) : Prop := (z = 0 ∧ 0 ≤ v ∧ v ≤ 20) ∨ (z = 1 ∧ 0 ≤ v ∧ v ≤ 9) ∨ (z = 2 ∧ 0 ≤ v ∧ v ≤ 40)
theorem q8_put0 (hw : wI T tk L X) (hm : mI M T tk L X) {r : Nat} {z v : Int} (hr : r < Rn T) (hz : ¬ pz z v) {Q : Int → mm_M → Prop} (h : Q (-102) M) : mX8_put r z v M Q := by
  have hR := wf_R hw.1
  unfold pz at hz
  unfold mX8_put
  have key : ∀ m : Int, (z = 0 → m = 20) → (z = 1 → m = 9) → (z = 2 → m = 40) → bX8_put_32 r z v m M Q := fun m m0 m1 m2 => by
    unfold bX8_put_32
    exact q8_within (fun _ _ => dy1 (q8_within (fun _ _ => by omega) (fun _ => cn0 h))) (fun _ => dn0 h)
  exact q8_isRoad hw hm (fun r' e hr' => cy1 ⟨fun g => ⟨fun g2 => key 40 (by omega) (by omega) (by omega), fun g2 => key 9 (by omega) (by omega) (by omega)⟩, fun g => key 20 (by omega) (by omega) (by omega)⟩) (fun g => by omega)
theorem z_put (hi : Inv C M) (u z v : Int) : mX7_put u z v C (fun r C' => mX8_put u z v M (fun r' M' => r = r' ∧ Inv C' M')) := by
  obtain ⟨T, tk, L, X, hw, hc, hm⟩ := hi
  have hR := wf_R hw.1
  by_cases hv : 0 ≤ u ∧ u < T 0 1
  · obtain ⟨r, rfl⟩ : ∃ r : Nat, u = r := ⟨u.toNat, by omega⟩
    have hr : r < Rn T := by omega
    unfold mX7_put
    refine q7_isRoad hw hc (fun r' e _ => cy1 ?_) (fun g => absurd hv g)
    by_cases hp : pz z v
    · obtain ⟨q, hq⟩ : ∃ q : Nat, z + 3 = q := ⟨(z + 3).toNat, by unfold pz at hp; omega⟩
      have hn : nq q v := by unfold pz at hp; unfold nq; omega
      have key : ∀ m : Int, bX7_put_98 r v m (q + 10) C (fun r1 C' => mX8_put r z v M (fun r' M' => r1 = r' ∧ Inv C' M')) := fun m => q7_put98 hw hc hr hn (fun C1 a b => q8_putV hw hm hr hq hn ⟨rfl, _, tk, L, X, a, b, hm.t (by unfold nq at hn; omega) v⟩)
      unfold pz at hp
      refine q7_within (fun _ _ => cy1 ⟨fun g => ⟨fun g2 => ?_, fun g2 => ?_⟩, fun g => ?_⟩) (fun g => by omega)
      · have e : q = 5 := by omega
        subst e
        unfold bX7_put_53
        exact q7_within (fun _ _ => cy1 ⟨fun _ => ⟨fun _ => key 40, fun e => absurd e g2⟩, fun e => absurd e g⟩) (fun g => by omega)
      · have e : q = 4 := by omega
        subst e
        unfold bX7_put_53
        exact q7_within (fun _ _ => cy1 ⟨fun _ => ⟨fun e => absurd g2 e, fun _ => key 9⟩, fun e => absurd e g⟩) (fun g => by omega)
      · have e : q = 3 := by omega
        subst e
        unfold bX7_put_53
        exact q7_within (fun _ _ => cy1 ⟨fun e => absurd g e, fun _ => key 20⟩) (fun g => by omega)
    · have hM := q8_put0 hw hm hr hp (Q := fun r' M' => -102 = r' ∧ Inv C M') ⟨rfl, T, tk, L, X, hw, hc, hm⟩
      have key : ∀ m : Int, (z = 0 → m = 20) → (z = 1 → m = 9) → (z = 2 → m = 40) → 0 ≤ z → z ≤ 2 → bX7_put_53 r z v m C (fun r1 C' => mX8_put r z v M (fun r' M' => r1 = r' ∧ Inv C' M')) := fun m m0 m1 m2 z0 z1 => by
        unfold pz at hp
        unfold bX7_put_53
        exact q7_within (fun _ _ => by omega) (fun _ => cn0 hM)
      exact q7_within (fun z0 z1 => cy1 ⟨fun g => ⟨fun g2 => key 40 (by omega) (by omega) (by omega) z0 z1, fun g2 => key 9 (by omega) (by omega) (by omega) z0 z1⟩, fun g => key 20 (by omega) (by omega) (by omega) z0 z1⟩) (fun _ => cn0 hM)
  · unfold mX7_put
    refine q7_isRoad hw hc (fun r e _ => by omega) (fun _ => cn0 ?_)
    unfold mX8_put
    exact q8_isRoad hw hm (fun r e _ => by omega) (fun _ => cn0 ⟨rfl, T, tk, L, X, hw, hc, hm⟩)
def dT (T : mm_M) (n : Nat) : mm_M := fun q k => if q = 0 ∧ k = 9 then (n : Int) else if (q = 10 ∧ 12 * n ≤ k) ∨ (q = 11 ∧ 60 * n ≤ k) then 0 else T q k
theorem dT_n {n q k : Nat} (h : ¬ (q = 0 ∧ k = 9)) (h2 : q ≠ 10 ∧ q ≠ 11) : dT T n q k = T q k := by
  unfold dT; rw [if_neg h, if_neg (by omega)]
theorem dT_9 {n : Nat} : dT T n 0 9 = (n : Int) := rfl
theorem dT_ag {n : Nat} (h : p < n) : agp T (dT T n) p := by
  refine ⟨dT_n (by omega) (by omega), dT_n (by omega) (by omega), dT_n (by omega) (by omega), fun w hw => ⟨?_, fun k hk => ?_⟩⟩
  · unfold dT; rw [if_neg (by omega), if_neg (by omega)]
  · unfold dT; rw [if_neg (by omega), if_neg (by omega)]
theorem dT_pj {n : Nat} (hj : pj M = T) (hn : (n : Int) ≤ M 0 9) : pj (mm_up M 0 9 (n : Int)) = dT T n := by
  subst hj
  funext q k
  have u9 : mm_up M 0 9 (n : Int) 0 9 = n := up_s _ _ _ _
  have ec : pjc (mm_up M 0 9 (n : Int)) q k ↔ (pp q k = true ∧ (q = 10 → ((k / 12 : Nat) : Int) < (n : Int) ∧ ((k % 12 : Nat) : Int) < M 8 (k / 12)) ∧ (q = 11 → ((k / 60 : Nat) : Int) < (n : Int) ∧ ((k / 5 % 12 : Nat) : Int) < M 8 (k / 60) ∧ ((k % 5 : Nat) : Int) < M 10 (k / 5))) := by
    unfold pjc
    rw [u9, up_n (by omega), up_n (by omega), up_n (by omega)]
  unfold dT
  by_cases e : q = 0 ∧ k = 9
  · obtain ⟨rfl, rfl⟩ := e
    rw [if_pos ⟨rfl, rfl⟩, pj_y (pjc_8 rfl (by omega))]; exact u9
  · rw [if_neg e]
    by_cases g : (q = 10 ∧ 12 * n ≤ k) ∨ (q = 11 ∧ 60 * n ≤ k)
    · rw [if_pos g]
      refine pj_0 (fun x => ?_)
      obtain ⟨-, x1, x2⟩ := ec.mp x
      rcases g with ⟨g1, g2⟩ | ⟨g1, g2⟩
      · have := (x1 g1).1; omega
      · have := (x2 g1).1; omega
    · rw [if_neg g]
      by_cases c : pjc M q k
      · rw [pj_y c, pj_y (ec.mpr ⟨c.1, fun e => ⟨by omega, (c.2.1 e).2⟩, fun e => ⟨by omega, (c.2.2 e).2⟩⟩), up_n (by omega)]
      · refine (pj_0 (fun x => c ?_)).trans (pj_0 c).symm
        obtain ⟨x0, x1, x2⟩ := ec.mp x
        exact ⟨x0, fun e => ⟨by have := (x1 e).1; omega, (x1 e).2⟩, fun e => ⟨by have := (x2 e).1; omega, (x2 e).2⟩⟩
theorem z_drop (hi : Inv C M) : mX7_drop C (fun r C' => mX8_drop M (fun r' M' => r = r' ∧ Inv C' M')) := by
  obtain ⟨T, tk, L, X, hw, hc, hm⟩ := hi
  have hP := wf_P hw.1
  have hR := wf_R hw.1
  have e2 : C 9 2 = T 0 9 := hc.1.1.1
  have m9 : M 0 9 = T 0 9 := pj_r hm.1.1 (q := 0) (k := 9) rfl
  unfold mX7_drop
  refine ⟨fun g => ?_, fun g => ?_⟩
  · obtain ⟨n, hn⟩ : ∃ n, Pn T = n + 1 := ⟨Pn T - 1, by omega⟩
    have e : T 0 9 - 1 = ((n : Nat) : Int) := by omega
    unfold mX6_dismissLast
    rw [e2, e, mm_w_id (z := ((n : Nat) : Int)) (by omega) (by omega), up_s, Int.toNat_natCast]
    refine ⟨fun g2 => by omega, fun _ => ⟨by omega, ?_⟩⟩
    have hd : ∀ p, p < Pn T → pD (mm_up C 9 2 (n : Int)) T p := fun p hp => by
      refine agp.xpD (T := T) (T' := T) ⟨rfl, rfl, rfl, fun w _ => ⟨rfl, fun k _ => rfl⟩⟩ (wf_ln hw.1 hp).1 (wf_ln hw.1 hp).2 (fun q k a b _ => up_n (by omega)) (hc.1.1.2.2.2 p hp)
    have htn := hw.2.1 n (by omega)
    refine q6_burden hw.1 (p := n) (by omega) (hd n (by omega)) htn ((up_n (by omega)).trans (hc.1.2.1 n (by omega))) (Or.inr rfl) (fun r hr => ?_) (fun C1 o1 o2 => ?_)
    · rw [up_n (by omega), hc.1.2.2 r hr]
      have := lod_bd hw.1 hw.2.1 r
      omega
    have f : ∀ q k, q ≠ 16 → q ≠ 115 → ¬ (q = 9 ∧ k = 2) → mm_up C1 115 0 0 q k = C q k := fun q k a b c => (up_n (by omega)).trans ((o1 q k a).trans (up_n (by omega)))
    have e92 : mm_up C1 115 0 0 9 2 = (n : Int) := (up_n (by omega)).trans ((o1 9 2 (by decide)).trans (up_s _ _ _ _))
    have T9 : dT T n 0 9 = (n : Int) := rfl
    have T1 : dT T n 0 1 = T 0 1 := rfl
    have TP : Pn (dT T n) = n := by unfold Pn; rw [T9, Int.toNat_natCast]
    have TR : Rn (dT T n) = Rn T := by unfold Rn; rw [T1]
    have ag : ∀ p, p < n → agp T (dT T n) p := fun p => dT_ag
    have hnet : 0 < T 0 1 := by
      have := hw.2.2.1
      unfold netc at this
      omega
    show mX8_drop M (fun r' M' => mm_up C1 115 0 0 9 2 = r' ∧ Inv (mm_up C1 115 0 0) M')
    unfold mX8_drop
    rw [m9, e, mm_w_id (z := ((n : Nat) : Int)) (by omega) (by omega), e92, up_s]
    refine ⟨fun _ => ⟨rfl, dT T n, tk, L, X, ⟨⟨⟨by rw [T1]; exact hw.1.1.1, by rw [dT_n (by omega) (by omega)]; exact hw.1.1.2.1, fun r hr => ?_⟩, wfP_ag hw.1.2 T1 (by rw [T9]; omega) (fun p hp => ⟨by rw [TP] at hp; omega, ag p (by rw [TP] at hp; exact hp)⟩)⟩, fun p hp => ?_, ?_, hw.2.2.2⟩, hc.ft (fun q k a => f q k (by omega) (by omega) (by omega)) ⟨⟨e92.trans T9.symm, ?_, ?_, fun p hp => ?_⟩, fun p hp => ?_, fun r hr => ?_⟩ (up_s _ _ _ _) (xC_fr hc.2.2.2.2.2 (fun q k a => f q k (by omega) (by omega) (by omega))), ⟨dT_pj hm.1.1 (by omega), fun p hp => ?_⟩, lj_fr hm.2.1 (fun a i g => up_n (by omega)), xj_fr hm.2.2 (fun a i g => up_n (by omega))⟩, fun g2 => by omega⟩
    · rw [TR] at hr
      rw [dT_n (by omega) (by omega), dT_n (by omega) (by omega), dT_n (by omega) (by omega), dT_n (by omega) (by omega), dT_n (by omega) (by omega), dT_n (by omega) (by omega)]
      exact hw.1.1.2.2 r hr
    · rw [TP] at hp
      rw [(ag p hp).xwn]; exact hw.2.1 p (by omega)
    · have := hw.2.2.1
      unfold netc at this ⊢
      rw [dT_n (q := 0) (k := 0) (by omega) (by omega), T1]
      omega
    · obtain ⟨n1, n2, n3, n4⟩ := hc.1.1.2.1
      refine ⟨(f 9 3 (by decide) (by decide) (by omega)).trans (n1.trans (dT_n (by omega) (by omega)).symm), (f 10 0 (by decide) (by decide) (by omega)).trans (n2.trans (dT_n (by omega) (by omega)).symm), (f 10 1 (by decide) (by decide) (by omega)).trans (n3.trans (dT_n (by omega) (by omega)).symm), fun r hr => ?_⟩
      rw [TR] at hr
      obtain ⟨d1, d2, d3, d4, d5⟩ := n4 r hr
      exact ⟨(f _ _ (by decide) (by decide) (by omega)).trans (d1.trans (dT_n (by omega) (by omega)).symm), (f _ _ (by decide) (by decide) (by omega)).trans (d2.trans (dT_n (by omega) (by omega)).symm), (f _ _ (by decide) (by decide) (by omega)).trans (d3.trans (dT_n (by omega) (by omega)).symm), (f _ _ (by decide) (by decide) (by omega)).trans (d4.trans (dT_n (by omega) (by omega)).symm), (f _ _ (by decide) (by decide) (by omega)).trans (d5.trans (dT_n (by omega) (by omega)).symm)⟩
    · intro r hr k k1 k2
      rw [TR] at hr
      refine (f (19 + r) k (by omega) (by omega) (by omega)).trans ((hc.1.1.2.2.1 r hr k k1 k2).trans ?_)
      unfold prc
      rw [dT_n (by omega) (by omega), dT_n (by omega) (by omega), dT_n (by omega) (by omega), dT_n (by omega) (by omega)]
    · rw [TP] at hp
      exact (ag p hp).xpD (wf_ln hw.1 (by omega)).1 (wf_ln hw.1 (by omega)).2 (fun q k a b _ => f q k (by omega) (by omega) (by omega)) (hc.1.1.2.2.2 p (by omega))
    · rw [TP] at hp
      exact (f _ _ (by omega) (by omega) (by omega)).trans (hc.1.2.1 p (by omega))
    · rw [up_n (by omega), o2 r hr, up_n (by omega), hc.1.2.2 r hr]
      unfold lod
      rw [TP, hn]
      simp only [sm]
      rw [sm_congr (f := fun p => cnt (dT T n) p (tk p) r) (g := fun p => cnt T p (tk p) r) (fun p hp => (ag p hp).xcnt (by have := hw.2.1 p (by omega); have := (wf_ln hw.1 (p := p) (by omega)).1; omega) ((wf_ln hw.1 (p := p) (by omega)).2 _ (hw.2.1 p (by omega))) r)]
      omega
    · rw [TP] at hp
      exact (up_n (by omega)).trans (hm.1.2 p (by omega))
  · unfold mX8_drop
    exact ⟨fun g2 => by omega, fun _ => ⟨rfl, T, tk, L, X, hw, hc, hm⟩⟩
end S60
