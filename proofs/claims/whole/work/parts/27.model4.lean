/-! the model: keeping the set, sets by number, leading -/
def osc (M M' : mm_M) : Prop := ∀ q k, (q = 0 → k < 35 ∨ 41 < k) → q ≠ 9 → q ≠ 19 → q ≠ 21 → q ≠ 22 → q ≠ 23 → q ≠ 24 → M' q k = M q k
theorem osc.rf (M : mm_M) : osc M M := fun _ _ _ _ _ _ _ _ _ => rfl
theorem osc.tr {M M' M'' : mm_M} (h : osc M M') (h2 : osc M' M'') : osc M M'' := fun q k a b c d e f g => (h2 q k a b c d e f g).trans (h q k a b c d e f g)
theorem o9.osc {M M' : mm_M} (h : o9 M M') : osc M M' := fun q k _ b c _ _ _ _ => h q k c b
theorem o19.osc {M M' : mm_M} (h : o19 M M') : osc M M' := h.o9.osc
theorem ble_f {a b : Nat} (h : b < a) : Nat.ble a b = false := by
  cases hb : Nat.ble a b with
  | false => rfl
  | true => have := Nat.le_of_ble_eq_true hb; omega
theorem pp_osc {q k : Nat} (h : pp q k = true) : (q = 0 → k < 35 ∨ 41 < k) ∧ q ≠ 9 ∧ q ≠ 19 ∧ q ≠ 21 ∧ q ≠ 22 ∧ q ≠ 23 ∧ q ≠ 24 := by
  have := pp_i h
  omega
theorem osc.pj {M M' N : mm_M} (h : osc M M') (hm : pj M = N) : pj M' = N := pj_fr hm (fun q k hp => by
  obtain ⟨a, b, c, d, e, f, g⟩ := pp_osc hp
  exact h q k a b c d e f g)
def of9 (M M' : mm_M) : Prop := ∀ q k, q ≠ 9 → M' q k = M q k
theorem of9.o9 {M M' : mm_M} (h : of9 M M') : o9 M M' := fun q k _ b => h q k b
theorem of9.osc {M M' : mm_M} (h : of9 M M') : osc M M' := h.o9.osc
def of21 (M M' : mm_M) : Prop := ∀ q k, q ≠ 21 → M' q k = M q k
theorem of21.osc {M M' : mm_M} (h : of21 M M') : osc M M' := fun q k _ _ _ d _ _ _ => h q k d
def kept (M N : mm_M) (tk : Nat → Nat) : Prop := ∀ p, p < Pn N → M 21 p = (tk p : Int)
theorem kept.o9 {M M' N : mm_M} {tk : Nat → Nat} (h : kept M N tk) (h2 : o9 M M') : kept M' N tk := fun p hp => (h2 21 p (by decide) (by decide)).trans (h p hp)
theorem q8_keep {N : mm_M} {tk : Nat → Nat} (hN : wf N) {M : mm_M} (hm : ms M N tk) {Q : mm_M → Prop} (h : ∀ M', of21 M M' → ms M' N tk → kept M' N tk → Q M') : mX8_keep M Q := by
  have hP := wf_P hN
  refine pk_loop (fun n (k : Nat) (M1 : mm_M) => bX8_keep_2 n k M1 Q) (fun k M1 => of21 M M1 ∧ ∀ p, p < k → M1 21 p = (tk p : Int)) (Pn N) 0 M (Nat.zero_le _) ⟨fun _ _ _ => rfl, fun p hp => by omega⟩ ?_ ?_
  · rintro n M1 ⟨h1, h2⟩
    unfold bX8_keep_2
    have hm1 : ms M1 N tk := ⟨h1.osc.pj hm.1, fun p hp => (h1 9 p (by decide)).trans (hm.2 p hp)⟩
    rw [pj_r hm1.1 (q := 0) (k := 9) rfl]
    exact ⟨fun _ => h M1 h1 hm1 h2, fun g => by omega⟩
  · rintro n k M1 hk ⟨h1, h2⟩ ih
    unfold bX8_keep_2
    rw [pj_r (h1.osc.pj hm.1) (q := 0) (k := 9) rfl, Int.toNat_natCast, h1 9 k (by decide), hm.2 k hk, w_1 hk (by omega)]
    refine ⟨fun g => by omega, fun _ => ⟨by omega, by omega, ih _ ⟨fun q i hq => (up_n (Or.inl hq)).trans (h1 q i hq), fun p hp => ?_⟩⟩⟩
    by_cases e : p = k
    · subst e; rw [up_s]
    · rw [up_n (Or.inr e)]; exact h2 p (by omega)
theorem q8_putBack {N : mm_M} {tk : Nat → Nat} (hN : wf N) {M : mm_M} (hj : pj M = N) (hk : kept M N tk) {Q : mm_M → Prop} (h : ∀ M', of9 M M' → ms M' N tk → Q M') : mX8_putBack M Q := by
  have hP := wf_P hN
  refine pk_loop (fun n (k : Nat) (M1 : mm_M) => bX8_putBack_2 n k M1 Q) (fun k M1 => of9 M M1 ∧ ∀ p, p < k → M1 9 p = (tk p : Int)) (Pn N) 0 M (Nat.zero_le _) ⟨fun _ _ _ => rfl, fun p hp => by omega⟩ ?_ ?_
  · rintro n M1 ⟨h1, h2⟩
    unfold bX8_putBack_2
    rw [pj_r (h1.osc.pj hj) (q := 0) (k := 9) rfl]
    exact ⟨fun _ => h M1 h1 ⟨h1.osc.pj hj, h2⟩, fun g => by omega⟩
  · rintro n k M1 hk2 ⟨h1, h2⟩ ih
    unfold bX8_putBack_2
    rw [pj_r (h1.osc.pj hj) (q := 0) (k := 9) rfl, Int.toNat_natCast, h1 21 k (by decide), hk k hk2, w_1 hk2 (by omega)]
    refine ⟨fun g => by omega, fun _ => ⟨by omega, by omega, ih _ ⟨fun q i hq => (up_n (Or.inl hq)).trans (h1 q i hq), fun p hp => ?_⟩⟩⟩
    by_cases e : p = k
    · subst e; rw [up_s]
    · rw [up_n (Or.inr e)]; exact h2 p (by omega)
/-! sets by their numbers -/
def lf (N : mm_M) (n : Nat) : Nat → Nat
  | 0 => n
  | i + 1 => lf N n i / wn N (Pn N - 1 - i)
def tkn (N : mm_M) (n p : Nat) : Nat := lf N n (Pn N - 1 - p) % wn N p
theorem lf_le (N : mm_M) (n : Nat) : ∀ i, lf N n i ≤ n
  | 0 => Nat.le_refl _
  | i + 1 => Nat.le_trans (Nat.div_le_self _ _) (lf_le N n i)
theorem tkn_wf {N : mm_M} (h : wf N) (n : Nat) : wfT N (tkn N n) := fun p hp => Nat.mod_lt _ (wf_w h hp).2.1
theorem q8_take {N : mm_M} (hN : wf N) {M : mm_M} (hj : pj M = N) {n : Nat} (hn : n < 1000000) {Q : mm_M → Prop} (h : ∀ M', of9 M M' → ms M' N (tkn N n) → Q M') : mX8_take n M Q := by
  have hP := wf_P hN
  unfold mX8_take
  rw [pj_r hj (q := 0) (k := 9) rfl, mm_w_id (by omega) (by omega)]
  have key : ∃ j, bX8_take_9 j n ((lf N n 0 : Nat) : Int) (N 0 9 - 1 - ((0 : Nat) : Int)) M Q := by
    refine pk_loop (fun j (i : Nat) (M1 : mm_M) => bX8_take_9 j n ((lf N n i : Nat) : Int) (N 0 9 - 1 - (i : Int)) M1 Q) (fun i M1 => of9 M M1 ∧ ∀ p, p < Pn N → Pn N ≤ p + i → M1 9 p = (tkn N n p : Int)) (Pn N) 0 M (Nat.zero_le _) ⟨fun _ _ _ => rfl, fun p hp hq => by omega⟩ ?_ ?_
    · rintro j M1 ⟨h1, h2⟩
      unfold bX8_take_9
      exact ⟨fun _ => h M1 h1 ⟨h1.osc.pj hj, fun p hp => h2 p hp (by omega)⟩, fun g => by omega⟩
    · rintro j i M1 hi ⟨h1, h2⟩ ih
      unfold bX8_take_9
      have hp : Pn N - 1 - i < Pn N := by omega
      have hW := wf_w hN hp
      have e1 : (N 0 9 - 1 - (i : Int)).toNat = Pn N - 1 - i := by omega
      have e2 : M1 8 (Pn N - 1 - i) = (wn N (Pn N - 1 - i) : Int) := by rw [pj_r (h1.osc.pj hj) (q := 8) (k := Pn N - 1 - i) rfl]; exact hW.1.symm
      rw [e1, up_n (a := 8) (Or.inl (by decide)), e2]
      have hle := lf_le N n i
      have e3 : mm_rem ((lf N n i : Nat) : Int) ((wn N (Pn N - 1 - i) : Nat) : Int) = ((tkn N n (Pn N - 1 - i) : Nat) : Int) := by
        unfold mm_rem tkn
        rw [← Int.ofNat_tmod, show Pn N - 1 - (Pn N - 1 - i) = i by omega]
      have e4 : mm_div ((lf N n i : Nat) : Int) ((wn N (Pn N - 1 - i) : Nat) : Int) = ((lf N n (i + 1) : Nat) : Int) := by
        unfold mm_div
        rw [← Int.ofNat_tdiv]
        have := lf_le N n (i + 1)
        show mm_w ((lf N n (i + 1) : Nat) : Int) = _
        exact mm_w_id (by omega) (by omega)
      rw [e3, e4, mm_w_id (z := N 0 9 - 1 - (i : Int) + -1) (by omega) (by omega), show N 0 9 - 1 - (i : Int) + -1 = N 0 9 - 1 - ((i + 1 : Nat) : Int) by omega]
      refine ⟨fun g => by omega, fun _ => ⟨by omega, by omega, by omega, by omega, by omega, ih _ ⟨fun q k hq => (up_n (Or.inl hq)).trans (h1 q k hq), fun p hp2 hq => ?_⟩⟩⟩
      by_cases e : p = Pn N - 1 - i
      · subst e; rw [up_s]
      · rw [up_n (Or.inr e)]; exact h2 p hp2 (by omega)
  obtain ⟨j, hj2⟩ := key
  exact ⟨j, by rw [show N 0 9 - 1 = N 0 9 - 1 - ((0 : Nat) : Int) by omega]; exact hj2⟩
def nmb (N : mm_M) (tk : Nat → Nat) : Nat → Nat
  | 0 => 0
  | k + 1 => nmb N tk k * wn N k + tk k
theorem nmb_lt {N : mm_M} {tk : Nat → Nat} (ht : wfT N tk) : ∀ k, k ≤ Pn N → nmb N tk k < all N k
  | 0, _ => by unfold nmb all; omega
  | k + 1, hk => by
    have h1 := nmb_lt ht k (by omega)
    have h2 := ht k (by omega)
    unfold nmb all
    calc nmb N tk k * wn N k + tk k < nmb N tk k * wn N k + wn N k := by omega
      _ = (nmb N tk k + 1) * wn N k := by rw [Nat.add_mul, Nat.one_mul]
      _ ≤ all N k * wn N k := Nat.mul_le_mul_right _ h1
theorem q8_numberNow {N : mm_M} {tk : Nat → Nat} (hN : wf N) (ht : wfT N tk) {M : mm_M} (hm : ms M N tk) {Q : Int → mm_M → Prop} (h : Q (nmb N tk (Pn N)) M) : mX8_numberNow M Q := by
  have hP := wf_P hN
  refine pk_loop (fun n (k : Nat) (z : Int) => bX8_numberNow_4 n z k M Q) (fun k z => z = (nmb N tk k : Int)) (Pn N) 0 0 (Nat.zero_le _) rfl ?_ ?_
  · rintro n z rfl
    unfold bX8_numberNow_4
    rw [pj_r hm.1 (q := 0) (k := 9) rfl]
    exact ⟨fun _ => h, fun g => by omega⟩
  · rintro n k z hk rfl ih
    unfold bX8_numberNow_4
    have hW := wf_w hN hk
    have h1 := nmb_lt ht (k + 1) (by omega)
    have h2 := all_5 hN (show k + 1 ≤ Pn N by omega)
    have h3 : nmb N tk (k + 1) = nmb N tk k * wn N k + tk k := rfl
    rw [pj_r hm.1 (q := 0) (k := 9) rfl, Int.toNat_natCast, pj_r hm.1 (q := 8) (k := k) rfl, ← hW.1, hm.2 k hk, w_1 hk (by omega)]
    refine ⟨fun g => by omega, fun _ => ⟨by omega, by omega, ih _ ?_⟩⟩
    rw [← Int.natCast_mul]
    generalize nmb N tk k * wn N k = z at h3
    rw [mm_w_id (z := (z : Int)) (by omega) (by omega), mm_w_id (by omega) (by omega)]
    omega
/-! one that leads -/
theorem q8_ledBy {N : mm_M} {tk : Nat → Nat} (hN : wf N) (ht : wfT N tk) {p w : Nat} (hp : p < Pn N) (hw : w < wn N p) {M : mm_M} (hm : ms M N tk) {Q : Int → mm_M → Prop}
    (h : ∀ M', o9 M M' → ms M' N (led N p (upt tk p w)) → Q (ldp N tk p w) M') : mX8_ledBy p w M Q := by
  have hP := wf_P hN
  have ht0 := wfT_upt ht hw
  unfold mX8_ledBy
  rw [Int.toNat_natCast]
  refine ⟨by omega, ?_⟩
  refine loop_m (fun n (z : mm_M × (Nat → Nat)) => bX8_ledBy_7 n p w z.1 Q) (fun z => o9 M z.1 ∧ ms z.1 N z.2 ∧ wfT N z.2 ∧ z.2 p = w ∧ led N p z.2 = led N p (upt tk p w)) (fun z => (pot N z.2).toNat) ?_ (mm_up M 9 p w, upt tk p w) ⟨o9.up, ms_up9 hm, ht0, by simp [upt], rfl⟩
  rintro n ⟨M1, t1⟩ ⟨h1, h2, h3, h4, h5⟩ ih
  dsimp only at h1 h2 h3 h4 h5 ⊢
  unfold bX8_ledBy_7
  refine q8_turnOf hN h3 h2 (fun M2 g1 g2 g3 => ⟨fun _ => ?_, fun e => absurd rfl e⟩) (fun q M2 g1 g2 g3 g4 => ⟨fun e => by omega, fun _ => ?_⟩)
  · have e1 : led N p (upt tk p w) = t1 := by rw [← h5]; exact led_0 g3
    refine q8_payOf hN h3 hp hw g2 (fun M3 k1 k2 => ?_)
    have h6 := h M3 ((h1.tr g1).tr k1.o9) (by rw [e1]; exact k1.ms g2)
    unfold ldp at h6
    rw [e1] at h6
    exact h6
  · have hb : bestw N t1 q ≠ t1 q ∧ q ≠ p := by
      rcases g3 with ⟨e, -⟩ | ⟨q2, -, e, hn, hb, -⟩
      · omega
      · have : q = q2 := by omega
        subst this
        exact ⟨hb, fun e2 => hn (by rw [e2])⟩
    have ht2 := wfT_upt h3 (bestw_lt (h3 q g2))
    refine q8_layLoad hN ht2 g4 (fun M3 k1 k2 => ?_)
    refine ih (M3, upt t1 q (bestw N t1 q)) ⟨(h1.tr g1).tr k1.o9, k1.ms g4, ht2, ?_, ?_⟩ ?_
    · show upt t1 q _ p = w
      unfold upt
      rw [if_neg (fun e => hb.2 e.symm)]; exact h4
    · show led N p (upt t1 q _) = _
      rw [led_s hN h3 g2 g3]; exact h5
    · show (pot N (upt t1 q _)).toNat < (pot N t1).toNat
      have a1 := turn_pot hN h3 g2 hb.1
      have a2 := (pot_bd hN ht2).1
      omega
theorem q8_leadNow {N : mm_M} {tk : Nat → Nat} (hN : wf N) (ht : wfT N tk) {p w : Nat} (hp : p < Pn N) (hw : w < wn N p) {M : mm_M} (hm : ms M N tk) {Q : Int → mm_M → Prop}
    (h : ∀ M', osc M M' → ms M' N tk → Q (ldp N tk p w) M') : mX8_leadNow p w M Q :=
  q8_keep hN hm (fun M1 h1 h2 h3 => q8_ledBy hN ht hp hw h2 (fun M2 h4 h5 => q8_putBack hN h5.1 (h3.o9 h4) (fun M3 h6 h7 => h M3 ((h1.osc.tr h4.osc).tr h6.osc) h7)))
theorem lbs_s0 {N : mm_M} {tk : Nat → Nat} {p k : Nat} (h : ldp N tk p (lbs N tk p k) ≤ ldp N tk p k) : lbs N tk p (k + 1) = lbs N tk p k := if_neg (by omega)
theorem lbs_s1 {N : mm_M} {tk : Nat → Nat} {p k : Nat} (h : ldp N tk p k < ldp N tk p (lbs N tk p k)) : lbs N tk p (k + 1) = k := if_pos h
theorem lbs_1 {N : mm_M} {tk : Nat → Nat} {p : Nat} : lbs N tk p 1 = 0 := if_neg (Int.lt_irrefl _)
theorem q8_leadsBy {N : mm_M} {tk : Nat → Nat} (hN : wf N) (ht : wfT N tk) {p : Nat} (hp : p < Pn N) {M : mm_M} (hm : ms M N tk) {Q : Int → mm_M → Prop}
    (h : ∀ M', osc M M' → ms M' N tk → Q (lbest N tk p) M') : mX8_leadsBy p M Q := by
  have hP := wf_P hN
  have hW := wf_w hN hp
  refine q8_leadNow (w := 0) hN ht hp (by omega) hm (fun M1 h1 h2 => ?_)
  refine pk_loop (fun n (k : Nat) (z : (Int × Int) × mm_M) => bX8_leadsBy_12 n p z.1.1 z.1.2 k z.2 Q) (fun k z => z.1.1 = (lbs N tk p k : Int) ∧ z.1.2 = ldp N tk p (lbs N tk p k) ∧ osc M z.2 ∧ ms z.2 N tk) (wn N p) 1 ((0, ldp N tk p 0), M1) (by omega) ⟨by rw [lbs_1]; rfl, by rw [lbs_1], h1, h2⟩ ?_ ?_
  · rintro n ⟨⟨z1, z2⟩, M2⟩ ⟨rfl, rfl, h3, h4⟩
    dsimp only at h3 h4 ⊢
    unfold bX8_leadsBy_12
    rw [Int.toNat_natCast, pj_r h4.1 (q := 8) (k := p) rfl]
    exact ⟨by omega, fun _ => h M2 h3 h4, fun g => by omega⟩
  · rintro n k ⟨⟨z1, z2⟩, M2⟩ hk ⟨rfl, rfl, h3, h4⟩ ih
    dsimp only at h3 h4 ⊢
    unfold bX8_leadsBy_12
    rw [Int.toNat_natCast, pj_r h4.1 (q := 8) (k := p) rfl]
    refine ⟨by omega, fun g => by omega, fun _ => q8_leadNow hN ht hp hk h4 (fun M3 h5 h6 => ?_)⟩
    unfold bX8_leadsBy_44
    rw [w_1 hk (by omega)]
    refine ⟨fun g => ⟨fun _ => ?_, fun g2 => by omega⟩, fun g => ⟨fun g2 => by omega, fun _ => ?_⟩⟩
    · refine ih ((_, _), _) ⟨?_, ?_, h3.tr h5, h6⟩
      · show _ = ((lbs N tk p (k + 1) : Nat) : Int)
        rw [lbs_s0 g]
      · show _ = ldp N tk p (lbs N tk p (k + 1))
        rw [lbs_s0 g]; rfl
    · refine ih ((_, _), _) ⟨?_, ?_, h3.tr h5, h6⟩
      · show _ = ((lbs N tk p (k + 1) : Nat) : Int)
        rw [lbs_s1 g]
      · show _ = ldp N tk p (lbs N tk p (k + 1))
        rw [lbs_s1 g]; rfl
