/-! the class: best ways, turns, leading, sets -/
theorem q6_bestWayOf {N : mm_M} {tk : Nat → Nat} (hN : wf N) (ht : wfT N tk) {p : Nat} (hp : p < Pn N) {C : mm_M} (hc : cs C N tk) {Q : Int → mm_M → Prop} (h : Q (bestw N tk p) C) : mX6_bestWayOf (30 + 17 * p) C Q := by
  have hP := wf_P hN
  have hW := wf_w hN hp
  have h5 : p < 5 := by omega
  unfold mX6_bestWayOf
  rw [hc.2.1 p hp]
  refine mm_chk_i (kd_p h5) (mm_chk_i (kd_p h5) (q6_payBy hN ht hp (ht p hp) hc ?_))
  refine pk_loop (fun n (k : Nat) (z : Int × Int) => bX6_bestWayOf_18 n (30 + 17 * p) z.1 z.2 k C Q) (fun k z => z.1 = (bst N tk p k : Int) ∧ z.2 = pay N tk p (bst N tk p k)) (wn N p) 0 ((tk p : Int), pay N tk p (tk p)) (Nat.zero_le _) ⟨rfl, rfl⟩ ?_ ?_
  · rintro n ⟨z1, z2⟩ ⟨rfl, rfl⟩
    dsimp only
    unfold bX6_bestWayOf_18
    rw [(hc.1.2.2.2 p hp).2.2.1]
    exact mm_chk_i (kd_p h5) ⟨fun _ => h, fun g => by omega⟩
  · rintro n k ⟨z1, z2⟩ hk ⟨rfl, rfl⟩ ih
    dsimp only
    unfold bX6_bestWayOf_18
    rw [(hc.1.2.2.2 p hp).2.2.1]
    refine mm_chk_i (kd_p h5) ⟨fun g => by omega, fun _ => q6_payBy hN ht hp hk hc ?_⟩
    rw [w_1 hk (by omega)]
    refine ⟨fun g => ?_, fun g => ?_⟩
    · exact ih ((bst N tk p k : Int), pay N tk p (bst N tk p k)) ⟨by rw [bst_s0 g], by rw [bst_s0 g]⟩
    · exact ih ((k : Int), pay N tk p k) ⟨by rw [bst_s1 g], by rw [bst_s1 g]⟩
theorem q6_restsNow {N : mm_M} {tk : Nat → Nat} (hN : wf N) (ht : wfT N tk) {C : mm_M} (hc : cs C N tk) {Q : Int → mm_M → Prop} (h1 : isRst N tk (-1) (-1) → Q 1 C) (h0 : ∀ z, ¬ z = -1 → isRst N tk (-1) z → Q 0 C) : mX6_restsNow C Q := by
  have hP := wf_P hN
  refine pk_loop (fun n (k : Nat) (_ : Unit) => bX6_restsNow_2 n k C Q) (fun k _ => ∀ q, q < k → bestw N tk q = tk q) (Pn N) 0 () (Nat.zero_le _) (fun q hq => by omega) ?_ ?_
  · rintro n - g
    unfold bX6_restsNow_2
    rw [hc.1.1]
    exact ⟨fun _ => ⟨Or.inr rfl, h1 (Or.inl ⟨rfl, fun p hp _ => g p hp⟩)⟩, fun g => by omega⟩
  · rintro n k - hk g ih
    unfold bX6_restsNow_2
    rw [hc.1.1, Int.toNat_natCast, w_1 hk (by omega)]
    refine ⟨fun g => by omega, fun _ => ⟨by omega, q6_bestWayOf hN ht hk hc ⟨by omega, mm_chk_i (kd_p (by omega)) ?_⟩⟩⟩
    rw [hc.2.1 k hk]
    refine ⟨fun e => ih () (fun q hq => ?_), fun e => ⟨Or.inl rfl, h0 k (by omega) (Or.inr ⟨k, hk, rfl, by omega, by omega, fun q hq _ => g q hq⟩)⟩⟩
    by_cases z : q = k
    · subst z; omega
    · exact g q (by omega)
theorem q6_moveFirst {N : mm_M} {tk : Nat → Nat} (hN : wf N) (ht : wfT N tk) {but : Int} {C : mm_M} (hc : cs C N tk) {Q : Int → mm_M → Prop}
    (h0 : isRst N tk but (-1) → Q (-1) C)
    (h1 : ∀ (p : Nat) C', otf C C' → p < Pn N → isRst N tk but p → cs C' N (upt tk p (bestw N tk p)) → Q p C') : mX6_moveFirst but C Q := by
  have hP := wf_P hN
  refine pk_loop (fun n (k : Nat) (_ : Unit) => bX6_moveFirst_2 n but k C Q) (fun k _ => ∀ q, q < k → (q : Int) ≠ but → bestw N tk q = tk q) (Pn N) 0 () (Nat.zero_le _) (fun q hq => by omega) ?_ ?_
  · rintro n - g
    unfold bX6_moveFirst_2
    rw [hc.1.1]
    exact ⟨fun _ => h0 (Or.inl ⟨rfl, g⟩), fun g => by omega⟩
  · rintro n k - hk g ih
    unfold bX6_moveFirst_2
    rw [hc.1.1, Int.toNat_natCast]
    refine ⟨fun g => by omega, fun _ => ⟨by omega, fun e => q6_bestWayOf hN ht hk hc ?_, fun e => mm_chk_i (kd_p (by omega)) ?_⟩⟩
    · unfold bX6_moveFirst_34
      rw [hc.2.1 k hk, w_1 hk (by omega)]
      refine mm_chk_i (kd_p (by omega)) ⟨fun e2 => ih () (fun q hq hb => ?_), fun e2 => ?_⟩
      · by_cases z : q = k
        · subst z; omega
        · exact g q (by omega) hb
      · exact q6_moveTo hN ht hk (bestw_lt (ht k hk)) hc (fun C' a b => h1 k C' a hk (Or.inr ⟨k, hk, rfl, e, by omega, g⟩) b)
    · unfold bX6_moveFirst_34
      rw [hc.2.1 k hk, w_1 hk (by omega)]
      refine mm_chk_i (kd_p (by omega)) ⟨fun e2 => ih () (fun q hq hb => ?_), fun e2 => absurd rfl e2⟩
      by_cases z : q = k
      · subst z; exact absurd e hb
      · exact g q (by omega) hb
theorem q6_settleBehind {N : mm_M} {tk : Nat → Nat} (hN : wf N) (ht : wfT N tk) {p w : Nat} (hp : p < Pn N) (hw : w < wn N p) {C : mm_M} (hc : cs C N tk) {Q : Int → mm_M → Prop}
    (h : ∀ C', otf C C' → cs C' N (led N p (upt tk p w)) → Q (ldp N tk p w) C') : mX6_settleBehind p w C Q := by
  have hP := wf_P hN
  have ht0 := wfT_upt ht hw
  unfold mX6_settleBehind
  rw [Int.toNat_natCast]
  refine ⟨by omega, q6_moveTo hN ht hp hw hc (fun C1 a1 a2 => ?_)⟩
  have hb0 := pot_bd hN ht0
  refine loop_m (fun n (z : (Nat × mm_M) × (Nat → Nat)) => bX6_settleBehind_13 n p w z.1.1 z.1.2 Q) (fun z => otf C z.1.2 ∧ cs z.1.2 N z.2 ∧ wfT N z.2 ∧ (z.1.1 : Int) + pot N z.2 ≤ 4350 ∧ led N p z.2 = led N p (upt tk p w)) (fun z => (pot N z.2).toNat) ?_ ((0, C1), upt tk p w) ⟨a1, a2, ht0, by show ((0 : Nat) : Int) + pot N (upt tk p w) ≤ 4350; omega, rfl⟩
  rintro n ⟨⟨i, C2⟩, t1⟩ ⟨h1, h2, h3, h4, h5⟩ ih
  dsimp only at h1 h2 h3 h4 h5 ⊢
  have hpb := pot_bd hN h3
  unfold bX6_settleBehind_13
  refine ⟨fun g => by omega, fun _ => q6_moveFirst hN h3 h2 (fun g3 => ⟨fun e => absurd rfl e, fun _ => ⟨by omega, ?_⟩⟩) (fun q C3 g1 g2 g3 g4 => ⟨fun _ => ?_, fun e => by omega⟩)⟩
  · have e1 : led N p (upt tk p w) = t1 := by rw [← h5]; exact led_0 g3
    rw [Int.toNat_natCast]
    refine q6_payBy hN h3 hp hw h2 ?_
    have h6 := h C2 h1 (by rw [e1]; exact h2)
    unfold ldp at h6
    rw [e1] at h6
    exact h6
  · have hb : bestw N t1 q ≠ t1 q := by
      rcases g3 with ⟨e, -⟩ | ⟨q2, -, e, hn, hb, -⟩
      · omega
      · have : q = q2 := by omega
        subst this
        exact hb
    have ht2 := wfT_upt h3 (bestw_lt (h3 q g2))
    have a1 := turn_pot hN h3 g2 hb
    have a2 := (pot_bd hN ht2).1
    rw [mm_w_id (z := (i : Int) + 1) (by omega) (by omega), show (i : Int) + 1 = ((i + 1 : Nat) : Int) by omega]
    refine ih ((i + 1, C3), upt t1 q (bestw N t1 q)) ⟨h1.tr g1, g4, ht2, ?_, ?_⟩ ?_
    · show ((i + 1 : Nat) : Int) + pot N (upt t1 q _) ≤ 4350
      omega
    · show led N p (upt t1 q _) = _
      rw [led_s hN h3 g2 g3]; exact h5
    · show (pot N (upt t1 q _)).toNat < (pot N t1).toNat
      omega
/-- traffic's own: loads, taken ways, what is kept -/
def otk (C C' : mm_M) : Prop := ∀ q k, q ≠ 16 → q ≠ 17 → (k = 3 → ∀ p, p < 5 → q ≠ 30 + 17 * p) → C' q k = C q k
theorem otk.rf (C : mm_M) : otk C C := fun _ _ _ _ _ => rfl
theorem otk.tr {C C' C'' : mm_M} (h : otk C C') (h2 : otk C' C'') : otk C C'' := fun q k a b c => (h2 q k a b c).trans (h q k a b c)
theorem otf.otk {C C' : mm_M} (h : otf C C') : otk C C' := fun q k a _ c => h q k a c
def ckept (C N : mm_M) (tk : Nat → Nat) : Prop := ∀ p, p < Pn N → C 17 p = (tk p : Int)
theorem ckept.otf {C C' N : mm_M} {tk : Nat → Nat} (h : ckept C N tk) (h2 : otf C C') : ckept C' N tk := fun p hp => (h2 17 p (by decide) (fun _ q _ e => by omega)).trans (h p hp)
def o17 (C C' : mm_M) : Prop := ∀ q k, q ≠ 17 → C' q k = C q k
theorem o17.otk {C C' : mm_M} (h : o17 C C') : otk C C' := fun q k _ b _ => h q k b
theorem o17.cs {C C' N : mm_M} {tk : Nat → Nat} (h : o17 C C') (hN : wf N) (hc : cs C N tk) : cs C' N tk := by
  have hP := wf_P hN
  have hR := wf_R hN
  refine ⟨⟨(h 9 2 (by decide)).trans hc.1.1, ?_, fun r hr k a b => (h _ _ (by omega)).trans (hc.1.2.2.1 r hr k a b), fun p hp => ?_⟩, fun p hp => (h _ _ (by omega)).trans (hc.2.1 p hp), fun r hr => (h _ _ (by omega)).trans (hc.2.2 r hr)⟩
  · obtain ⟨a, b, c, d⟩ := hc.1.2.1
    refine ⟨(h 9 3 (by decide)).trans a, (h 10 0 (by decide)).trans b, (h 10 1 (by decide)).trans c, fun r hr => ?_⟩
    obtain ⟨d1, d2, d3, d4, d5⟩ := d r hr
    exact ⟨(h 11 r (by decide)).trans d1, (h 12 r (by decide)).trans d2, (h 13 r (by decide)).trans d3, (h 14 r (by decide)).trans d4, (h 15 r (by decide)).trans d5⟩
  · have hW := wf_w hN hp
    obtain ⟨a, b, c, d⟩ := hc.1.2.2.2 p hp
    refine ⟨(h _ 0 (by omega)).trans a, (h _ 1 (by omega)).trans b, (h _ 2 (by omega)).trans c, fun w hw => ?_⟩
    obtain ⟨d1, d2, d3⟩ := d w hw
    refine ⟨(h _ _ (by omega)).trans d1, fun r hr => ?_, fun k hk => (h _ _ (by omega)).trans (d3 k hk)⟩
    rw [h (30 + 17 * p + 2) w (by omega)]
    exact d2 r hr
theorem q6_keepSet {N : mm_M} {tk : Nat → Nat} (hN : wf N) {C : mm_M} (hc : cs C N tk) {Q : mm_M → Prop} (h : ∀ C', o17 C C' → cs C' N tk → ckept C' N tk → Q C') : mX6_keepSet C Q := by
  have hP := wf_P hN
  refine pk_loop (fun n (k : Nat) (C1 : mm_M) => bX6_keepSet_2 n k C1 Q) (fun k C1 => o17 C C1 ∧ ∀ p, p < k → C1 17 p = (tk p : Int)) (Pn N) 0 C (Nat.zero_le _) ⟨fun _ _ _ => rfl, fun p hp => by omega⟩ ?_ ?_
  · rintro n C1 ⟨h1, h2⟩
    unfold bX6_keepSet_2
    have hc1 := h1.cs hN hc
    rw [hc1.1.1]
    exact ⟨fun _ => h C1 h1 hc1 h2, fun g => by omega⟩
  · rintro n k C1 hk ⟨h1, h2⟩ ih
    unfold bX6_keepSet_2
    have hc1 := h1.cs hN hc
    rw [hc1.1.1, Int.toNat_natCast, hc1.2.1 k hk, w_1 hk (by omega)]
    refine ⟨fun g => by omega, fun _ => ⟨by omega, mm_chk_i (kd_p (by omega)) ⟨by omega, ih _ ⟨fun q i hq => (up_n (Or.inl hq)).trans (h1 q i hq), fun p hp => ?_⟩⟩⟩⟩
    by_cases e : p = k
    · subst e; rw [up_s]
    · rw [up_n (Or.inr e)]; exact h2 p (by omega)
theorem q6_takeKeptSet {N : mm_M} {tk t1 : Nat → Nat} (hN : wf N) (ht : wfT N tk) (ht1 : wfT N t1) {C : mm_M} (hc : cs C N t1) (hk : ckept C N tk) {Q : mm_M → Prop} (h : ∀ C', otf C C' → cs C' N tk → Q C') : mX6_takeKeptSet C Q := by
  have hP := wf_P hN
  refine pk_loop (fun n (k : Nat) (z : mm_M × (Nat → Nat)) => bX6_takeKeptSet_2 n k z.1 Q) (fun k z => otf C z.1 ∧ cs z.1 N z.2 ∧ wfT N z.2 ∧ ∀ p, p < k → z.2 p = tk p) (Pn N) 0 (C, t1) (Nat.zero_le _) ⟨otf.rf C, hc, ht1, fun p hp => by omega⟩ ?_ ?_
  · rintro n ⟨C1, t2⟩ ⟨h1, h2, h3, h4⟩
    dsimp only at h1 h2 h3 h4 ⊢
    unfold bX6_takeKeptSet_2
    rw [h2.1.1]
    refine ⟨fun _ => h C1 h1 ⟨h2.1, fun p hp => by rw [h2.2.1 p hp, h4 p hp], fun r hr => ?_⟩, fun g => by omega⟩
    rw [h2.2.2 r hr]; exact lod_congr h4 r
  · rintro n k ⟨C1, t2⟩ hk2 ⟨h1, h2, h3, h4⟩ ih
    dsimp only at h1 h2 h3 h4 ⊢
    unfold bX6_takeKeptSet_2
    rw [h2.1.1, Int.toNat_natCast, (hk.otf h1) k hk2, w_1 hk2 (by omega)]
    refine ⟨fun g => by omega, fun _ => ⟨by omega, by omega, q6_moveTo hN h3 hk2 (ht k hk2) h2 (fun C2 a1 a2 => ih (C2, upt t2 k (tk k)) ⟨h1.tr a1, a2, wfT_upt h3 (ht k hk2), fun p hp => ?_⟩)⟩⟩
    show upt t2 k (tk k) p = tk p
    unfold upt
    split
    · rename_i e; rw [e]
    · exact h4 p (by omega)
theorem q6_payIfLeading {N : mm_M} {tk : Nat → Nat} (hN : wf N) (ht : wfT N tk) {p w : Nat} (hp : p < Pn N) (hw : w < wn N p) {C : mm_M} (hc : cs C N tk) {Q : Int → mm_M → Prop}
    (h : ∀ C', otk C C' → cs C' N tk → Q (ldp N tk p w) C') : mX6_payIfLeading p w C Q :=
  q6_keepSet hN hc (fun _ h1 h2 h3 => q6_settleBehind hN ht hp hw h2 (fun _ h4 h5 => q6_takeKeptSet hN ht (ledF_wf _ _ _ (wfT_upt ht hw)) h5 (h3.otf h4) (fun C3 h6 h7 => h C3 ((h1.otk.tr h4.otk).tr h6.otk) h7)))
theorem q6_bestLeadOf {N : mm_M} {tk : Nat → Nat} (hN : wf N) (ht : wfT N tk) {p : Nat} (hp : p < Pn N) {C : mm_M} (hc : cs C N tk) {Q : Int → mm_M → Prop}
    (h : ∀ C', otk C C' → cs C' N tk → Q (lbest N tk p) C') : mX6_bestLeadOf p C Q := by
  have hP := wf_P hN
  have hW := wf_w hN hp
  refine q6_payIfLeading (w := 0) hN ht hp (by omega) hc (fun C1 h1 h2 => ?_)
  refine pk_loop (fun n (k : Nat) (z : (Int × Int) × mm_M) => bX6_bestLeadOf_12 n p z.1.1 z.1.2 k z.2 Q) (fun k z => z.1.1 = (lbs N tk p k : Int) ∧ z.1.2 = ldp N tk p (lbs N tk p k) ∧ otk C z.2 ∧ cs z.2 N tk) (wn N p) 1 ((0, ldp N tk p 0), C1) (by omega) ⟨by rw [lbs_1]; rfl, by rw [lbs_1], h1, h2⟩ ?_ ?_
  · rintro n ⟨⟨z1, z2⟩, C2⟩ ⟨rfl, rfl, h3, h4⟩
    dsimp only at h3 h4 ⊢
    unfold bX6_bestLeadOf_12
    rw [Int.toNat_natCast, (h4.1.2.2.2 p hp).2.2.1]
    exact ⟨by omega, mm_chk_i (kd_p (by omega)) ⟨fun _ => h C2 h3 h4, fun g => by omega⟩⟩
  · rintro n k ⟨⟨z1, z2⟩, C2⟩ hk ⟨rfl, rfl, h3, h4⟩ ih
    dsimp only at h3 h4 ⊢
    unfold bX6_bestLeadOf_12
    rw [Int.toNat_natCast, (h4.1.2.2.2 p hp).2.2.1]
    refine ⟨by omega, mm_chk_i (kd_p (by omega)) ⟨fun g => by omega, fun _ => q6_payIfLeading hN ht hp hk h4 (fun C3 h5 h6 => ?_)⟩⟩
    rw [w_1 hk (by omega)]
    refine ⟨fun g => ?_, fun g => ?_⟩
    · exact ih (((lbs N tk p k : Int), ldp N tk p (lbs N tk p k)), C3) ⟨by rw [lbs_s0 g], by rw [lbs_s0 g], h3.tr h5, h6⟩
    · exact ih (((k : Int), ldp N tk p k), C3) ⟨by rw [lbs_s1 g], by rw [lbs_s1 g], h3.tr h5, h6⟩
