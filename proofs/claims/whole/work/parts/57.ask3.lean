/-! calls on all sets -/
theorem rem_n (a b : Nat) : mm_rem (a : Int) (b : Int) = ((a % b : Nat) : Int) := by unfold mm_rem; rw [← Int.ofNat_tmod]
theorem div_n {a b : Nat} (h : a < 2147483648) : mm_div (a : Int) (b : Int) = ((a / b : Nat) : Int) := by
  unfold mm_div
  rw [← Int.ofNat_tdiv]
  have h2 := Nat.div_le_self a b
  generalize a / b = c at h2
  exact mm_w_id (by omega) (by omega)
noncomputable def v_rests (T : mm_M) (z : Int) : Int := if z = 0 then (rM T (all T (Pn T)) : Int) else if z = 1 then rL T (all T (Pn T)) else if z = 2 then rX T (all T (Pn T)) else if z = 3 then aL T (all T (Pn T)) else if z = 4 then aP T (all T (Pn T)) else aM T (all T (Pn T))
def pr (a b w : Int) : Int := if w = 0 then mm_w (frA a.toNat b.toNat) else mm_w (frB a.toNat b.toNat)
noncomputable def v_price (T : mm_M) (z : Int) : Int := pr (if z < 2 then rX T (all T (Pn T)) else rL T (all T (Pn T))) (aL T (all T (Pn T))) (mm_rem z 2)
noncomputable def v_reach (T : mm_M) (tk : Nat → Nat) (z : Int) : Int := the (fun r => ∃ K, isLng T (nmb T tk (Pn T)) K ∧ r = rea T (nmb T tk (Pn T)) z K)
theorem v_reach_eq {T : mm_M} {tk : Nat → Nat} {z : Int} {K : Nat} (h : isLng T (nmb T tk (Pn T)) K) : rea T (nmb T tk (Pn T)) z K = v_reach T tk z :=
  the_eq (p := fun r => ∃ K, isLng T (nmb T tk (Pn T)) K ∧ r = rea T (nmb T tk (Pn T)) z K) ⟨K, h, rfl⟩ (fun a b ha hb => by
    obtain ⟨x, x1, rfl⟩ := ha
    obtain ⟨y, y1, rfl⟩ := hb
    rw [isLng_u x1 y1])
theorem so_bd {T : mm_M} (hT : wf T) (n : Nat) : 0 ≤ so T n ∧ so T n ≤ 3250 := soc_bd hT (tkn_wf hT n)
theorem aL_bd {T : mm_M} (hT : wf T) : ∀ k, 0 ≤ aL T k ∧ aL T k ≤ 3250
  | 0 => by unfold aL; omega
  | k + 1 => by
    have h1 := aL_bd hT k
    have h2 := so_bd hT k
    unfold aL
    split <;> omega
theorem rL_bd {T : mm_M} (hT : wf T) : ∀ k, 0 ≤ rL T k ∧ rL T k ≤ 3250
  | 0 => by unfold rL; omega
  | k + 1 => by
    have h1 := rL_bd hT k
    have h2 := so_bd hT k
    unfold rL
    split
    · split <;> omega
    · omega
theorem rX_bd {T : mm_M} (hT : wf T) : ∀ k, 0 ≤ rX T k ∧ rX T k ≤ 3250
  | 0 => by unfold rX; omega
  | k + 1 => by
    have h1 := rX_bd hT k
    have h2 := so_bd hT k
    unfold rX
    split
    · split <;> omega
    · omega
theorem aF_ok {T : mm_M} : ∀ k : Nat, ∃ n : Nat, n < k + 1 ∧ aF T (k + 1) = (n : Int) ∧ aL T (k + 1) = so T n
  | 0 => ⟨0, by omega, by unfold aF; rw [if_pos (Or.inl rfl)], by unfold aL; rw [if_pos (Or.inl rfl)]⟩
  | k + 1 => by
    obtain ⟨n, h1, h2, h3⟩ := aF_ok (T := T) k
    by_cases e : k + 1 = 0 ∨ so T (k + 1) < aL T (k + 1)
    · exact ⟨k + 1, by omega, by unfold aF; rw [if_pos e], by unfold aL; rw [if_pos e]⟩
    · exact ⟨n, by omega, by unfold aF; rw [if_neg e]; exact h2, by unfold aL; rw [if_neg e]; exact h3⟩
theorem gd_l {M : mm_M} {Q : Int → mm_M → Prop} : ∀ (k a b i n : Nat), b < 2 ^ k → i + 2 * k ≤ 190 → 2 * k + 1 ≤ n → Q ((Nat.gcd a b : Nat) : Int) M → bX7_greatestDivisor_9 n a b i M Q := by
  intro k
  induction k with
  | zero =>
    intro a b i n hb hi hn h
    obtain ⟨n', rfl⟩ : ∃ n', n = n' + 1 := ⟨n - 1, by omega⟩
    have e : b = 0 := by rw [Nat.pow_zero] at hb; omega
    subst e
    rw [Nat.gcd_zero_right] at h
    unfold bX7_greatestDivisor_9
    exact ⟨fun _ => h, fun _ => ⟨fun _ => h, fun e => absurd ((mm_cmp0 _).mpr rfl) e⟩⟩
  | succ k ih =>
    intro a b i n hb hi hn h
    obtain ⟨n', rfl⟩ : ∃ n', n = n' + 1 + 1 := ⟨n - 2, by omega⟩
    unfold bX7_greatestDivisor_9
    rw [mm_cmp0, reml_n]
    refine ⟨fun g => by omega, fun _ => ⟨fun e => ?_, fun e => ⟨e, ?_⟩⟩⟩
    · have e2 : b = 0 := by omega
      subst e2
      rw [Nat.gcd_zero_right] at h; exact h
    · rw [w_1 (k := i) (n := 200) (by omega) (by omega)]
      have hg : Nat.gcd a b = Nat.gcd b (a % b) := by rw [Nat.gcd_comm b (a % b), ← Nat.gcd_rec b a, Nat.gcd_comm]
      have h1 : a % b < b := Nat.mod_lt _ (by omega)
      rw [hg] at h
      generalize a % b = r at h h1 ⊢
      unfold bX7_greatestDivisor_9
      rw [mm_cmp0, reml_n]
      refine ⟨fun g => by omega, fun _ => ⟨fun e2 => ?_, fun e2 => ⟨e2, ?_⟩⟩⟩
      · have e3 : r = 0 := by omega
        subst e3
        rw [Nat.gcd_zero_right] at h; exact h
      · rw [w_1 (k := i + 1) (n := 200) (by omega) (by omega)]
        refine ih r (b % r) (i + 1 + 1) n' ?_ (by omega) (by omega) ?_
        · have h2 : b % r < r := Nat.mod_lt _ (by omega)
          have h3 := Nat.div_add_mod b r
          have h4 : 1 ≤ b / r := Nat.div_pos (Nat.le_of_lt h1) (by omega)
          have h5 : r * 1 ≤ r * (b / r) := Nat.mul_le_mul_left _ h4
          rw [Nat.pow_succ] at hb
          omega
        · have hg2 : Nat.gcd b r = Nat.gcd r (b % r) := by rw [Nat.gcd_comm r (b % r), ← Nat.gcd_rec r b, Nat.gcd_comm]
          rw [hg2] at h; exact h
theorem q7_lowA {a b : Nat} (ha : a < 1099511627776) (hb : 0 < b ∧ b < 1099511627776) {M : mm_M} {Q : Int → mm_M → Prop} (h : Q (mm_w (frA a b)) M) : mX7_lowestAbove a b M Q := by
  refine ⟨100, gd_l 40 a b 0 100 (by omega) (by omega) (by omega) ?_⟩
  have hg : 0 < Nat.gcd a b := Nat.gcd_pos_of_pos_right _ hb.1
  rw [mm_cmp0, divl_n (by omega)]
  refine ⟨fun _ => ⟨by omega, ?_⟩, fun e => by omega⟩
  unfold frA at h; rw [if_neg (by omega)] at h; exact h
theorem q7_lowB {a b : Nat} (ha : a < 1099511627776) (hb : 0 < b ∧ b < 1099511627776) {M : mm_M} {Q : Int → mm_M → Prop} (h : Q (mm_w (frB a b)) M) : mX7_lowestBelow a b M Q := by
  refine ⟨100, gd_l 40 a b 0 100 (by omega) (by omega) (by omega) ?_⟩
  have hg : 0 < Nat.gcd a b := Nat.gcd_pos_of_pos_right _ hb.1
  rw [mm_cmp0, divl_n (by omega)]
  refine ⟨fun _ => ⟨by omega, ?_⟩, fun e => by omega⟩
  unfold frB at h; rw [if_neg (by omega)] at h; exact h
theorem q7_price44 {z w0 b : Int} (ha : 0 ≤ w0 ∧ w0 ≤ 3250) (hb : 0 ≤ b ∧ b ≤ 3250) {C : mm_M} {Q : Int → mm_M → Prop} (h11 : C 115 11 = b) (h : Q (pr w0 b (mm_rem z 2)) C) : bX7_price_44 z w0 C Q := by
  obtain ⟨x, rfl⟩ : ∃ x : Nat, w0 = x := ⟨w0.toNat, by omega⟩
  obtain ⟨y, rfl⟩ : ∃ y : Nat, b = y := ⟨b.toNat, by omega⟩
  unfold bX7_price_44
  unfold pr at h
  rw [Int.toNat_natCast, Int.toNat_natCast] at h
  rw [h11]
  refine ⟨fun g => ⟨by decide, fun g2 => q7_lowB (by omega) (by omega) ?_, fun g2 => q7_lowA (by omega) (by omega) ?_⟩, fun g => ⟨by decide, fun g2 => ?_, fun g2 => ⟨fun g3 => ?_, fun g3 => ?_⟩⟩⟩
  · rw [if_neg g2] at h; exact h
  · rw [if_pos g2] at h; exact h
  · have e : y = 0 := by omega
    subst e
    rw [if_pos g2] at h
    have e2 : frA x 0 = 1 := by
      unfold frA
      split
      · rfl
      · rename_i q
        rw [Nat.gcd_zero_right]
        exact Nat.div_self (by omega)
    rw [e2] at h
    exact h
  · have e : y = 0 := by omega
    subst e
    rw [if_neg g2] at h
    have e2 : frB x 0 = 0 := by
      unfold frB
      rw [if_neg (by omega)]
      exact Nat.zero_div _
    rw [e2] at h
    exact h
  · have e : y = 0 := by omega
    have e3 : x = 0 := by omega
    subst e e3
    rw [if_neg g2] at h
    have e2 : frB 0 0 = 1 := by
      unfold frB
      rw [if_pos ⟨rfl, rfl⟩]
    rw [e2] at h
    exact h
section S57
variable {T L X : mm_M} {tk : Nat → Nat} {C M : mm_M} {Q : Int → mm_M → Prop} {hh : Int}
theorem q7_restsV (hw : wI T tk L X) (hc : cI C T tk L X) (h1 : 1 ≤ Pn T) (ha : all T (Pn T) ≤ 500) {z : Int} (hz : 0 ≤ z ∧ z ≤ 5) (h : ∀ C', cI C' T tk L X → Q (v_rests T z) C') : mX7_rests z C Q := by
  unfold mX7_rests
  refine q7_within (fun _ _ => cy1 (q7_surveyed hw hc (fun _ _ C' a b => cy1 ?_) (fun g => absurd ⟨h1, ha⟩ g))) (fun g => by omega)
  have hq := h C' a
  obtain ⟨-, ⟨-, -, l, r8, r9, r10, -⟩, -⟩ := b
  rw [l.2.2.1, r8, r9, r10, l.1, l.2.2.2]
  refine ⟨fun g => ?_, fun g => ?_, fun g => ?_, fun g => ?_, fun g => ?_, fun g => ?_, trivial⟩
  · have e : z = 5 := by omega
    subst e; exact hq
  all_goals (subst g; exact hq)
theorem q8_restsV (hw : wI T tk L X) (hm : mJ M T tk L X hh) (ha : all T (Pn T) ≤ 500) {z : Int} (hz : 0 ≤ z ∧ z ≤ 5) (k : ∀ M', mJ M' T tk L X hh → Q (v_rests T z) M') : mX8_restsNow z M Q := by
  unfold mX8_restsNow
  refine q8_layRests hw.1 ha hm.1.1 (fun M' o m s => ?_)
  have hq := k M' (hm.osc o m)
  obtain ⟨s1, s2, s3, s4, s5, s6, s7⟩ := s
  rw [s6, s1, s2, s3, s4, s5]
  refine ⟨fun g => ?_, fun g => ?_, fun g => ?_, fun g => ?_, fun g => ?_, fun g => ?_, trivial⟩
  · have e : z = 5 := by omega
    subst e; exact hq
  all_goals (subst g; exact hq)
theorem q7_priceV (hw : wI T tk L X) (hc : cI C T tk L X) (h1 : 1 ≤ Pn T) (ha : all T (Pn T) ≤ 500) {z : Int} (hz : 0 ≤ z ∧ z ≤ 3) (h : ∀ C', cI C' T tk L X → Q (v_price T z) C') : mX7_price z C Q := by
  unfold mX7_price
  refine q7_within (fun _ _ => cy1 (q7_surveyed hw hc (fun _ _ C' a b => cy1 ?_) (fun g => absurd ⟨h1, ha⟩ g))) (fun g => by omega)
  have hq := h C' a
  obtain ⟨-, ⟨-, -, l, r8, r9, r10, -⟩, -⟩ := b
  unfold v_price at hq
  rw [r9, r10]
  refine ⟨fun g => q7_price44 (rL_bd hw.1 _) (aL_bd hw.1 _) l.1 ?_, fun g => q7_price44 (rX_bd hw.1 _) (aL_bd hw.1 _) l.1 ?_⟩
  · rw [if_neg (by omega)] at hq; exact hq
  · rw [if_pos g] at hq; exact hq
theorem q8_partI {a b w : Int} (ha : 0 ≤ a ∧ a < 9223372036854775808) (hb : 0 ≤ b ∧ b < 9223372036854775808) (h : Q (pr a b w) M) : mX8_part a b w M Q := by
  obtain ⟨x, rfl⟩ : ∃ x : Nat, a = x := ⟨a.toNat, by omega⟩
  obtain ⟨y, rfl⟩ : ∃ y : Nat, b = y := ⟨b.toNat, by omega⟩
  unfold pr at h
  rw [Int.toNat_natCast, Int.toNat_natCast] at h
  exact q8_part (by omega) (by omega) (fun e => by rw [if_pos e] at h; exact h) (fun e => by rw [if_neg e] at h; exact h)
theorem q8_priceV (hw : wI T tk L X) (hm : mJ M T tk L X hh) (ha : all T (Pn T) ≤ 500) {z : Int} (k : ∀ M', mJ M' T tk L X hh → Q (v_price T z) M') : mX8_priceNow z M Q := by
  unfold mX8_priceNow
  refine q8_layRests hw.1 ha hm.1.1 (fun M' o m s => ?_)
  have hq := k M' (hm.osc o m)
  obtain ⟨s1, s2, s3, s4, s5, s6, s7⟩ := s
  have b1 := rL_bd hw.1 (all T (Pn T))
  have b2 := rX_bd hw.1 (all T (Pn T))
  have b3 := aL_bd hw.1 (all T (Pn T))
  unfold v_price at hq
  rw [s2, s3, s4]
  refine ⟨fun g => ⟨by decide, q8_partI (by omega) (by omega) ?_⟩, fun g => ⟨by decide, q8_partI (by omega) (by omega) ?_⟩⟩
  · rw [if_neg (by omega)] at hq; exact hq
  · rw [if_pos g] at hq; exact hq
theorem q7_reachV (hw : wI T tk L X) (hc : cI C T tk L X) (h1 : 1 ≤ Pn T) (ha : all T (Pn T) ≤ 500) {z : Int} (hz : 0 ≤ z ∧ z ≤ 2) (h : ∀ C', cI C' T tk L X → Q (v_reach T tk z) C') : mX7_reach z C Q := by
  obtain ⟨hT, ht, -⟩ := id hw
  unfold mX7_reach
  refine q7_within (fun _ _ => cy1 (q7_surveyed hw hc (fun _ _ C1 a b => cy1 (q6_numberOfSet hT ht a.1 ?_)) (fun g => absurd ⟨h1, ha⟩ g))) (fun g => by omega)
  obtain ⟨a1, a2, ⟨wv, nx, a3⟩, a4, a5, a6⟩ := id a
  obtain ⟨b1, b2, b3⟩ := b
  refine q0_spreadFrom hT ha (nmb_lt ht _ (Nat.le_refl _)) b2 a3 (fun e => ?_) (fun C2 wv2 nx2 o1 o2 o3 o4 => ?_)
  · rcases b3 with g | ⟨n0, g1, g2⟩
    · omega
    · have : n0 = nmb T tk (Pn T) := by omega
      subst this
      exact g2
  · have f : ∀ q k, q < 115 → C2 q k = C1 q k := fun q k hq => o1 q k (by omega) (by omega) (by omega) (by omega) (by omega)
    have fe : ∀ q, 125 ≤ q → C2 q = C1 q := fun q hq => funext (fun k => o1 q k (by omega) (by omega) (by omega) (by omega) (by omega))
    have hq := h C2 ⟨cs_off hT (fun q k x _ => f q k x) a1, Or.inr ⟨(o1 115 0 (by omega) (by omega) (by omega) (by omega) (by omega)).trans b1, h1, ha, o1.aD b2, Or.inr ⟨_, o3, o4⟩⟩, ⟨wv2, nx2, o2⟩, by
      unfold lC at *
      rw [fe 125 (by decide), fe 126 (by decide), fe 127 (by decide), fe 128 (by decide)]
      exact a4, by
      unfold kD at *
      rw [fe 125 (by decide), fe 129 (by decide), fe 133 (by decide), fe 134 (by decide), fe 135 (by decide), fe 136 (by decide)]
      exact a5, (f 1 1 (by decide)).trans a6.1, fun i hi => (f 2 i (by decide)).trans (a6.2.1 i hi), (f 0 4 (by decide)).trans a6.2.2.1, (f 0 5 (by decide)).trans a6.2.2.2.1, (f 0 6 (by decide)).trans a6.2.2.2.2⟩
    obtain ⟨s1, s2, K, s3, s4⟩ := o4
    rw [← v_reach_eq s4] at hq
    rw [s1, s2, s3]
    refine ⟨fun g g2 => ?_, fun g => ?_, fun g => ?_, trivial⟩
    · have e : z = 2 := by omega
      subst e; exact hq
    all_goals (subst g; exact hq)
theorem q8_reachV (hw : wI T tk L X) (hm : mJ M T tk L X hh) (ha : all T (Pn T) ≤ 500) {z : Int} (k : ∀ M', mJ M' T tk L X hh → Q (v_reach T tk z) M') : mX8_reachNow z M Q :=
  q8_reachNow hw.1 hw.2.1 ha hm.1.1 (fun K M' o m s => by rw [v_reach_eq s]; exact k M' (hm.osc o m))
theorem z_rests (hi : Inv C M) (z : Int) : mX7_rests z C (fun r C' => mX8_rests z M (fun r' M' => r = r' ∧ Inv C' M')) := by
  obtain ⟨T, tk, L, X, hw, hc, hm⟩ := hi
  by_cases hz : 0 ≤ z ∧ z ≤ 5
  · by_cases hn : 1 ≤ Pn T ∧ all T (Pn T) ≤ 500
    · refine q7_restsV hw hc hn.1 hn.2 hz (fun C1 a => ?_)
      unfold mX8_rests
      exact q8_within (fun _ _ => cy1 (q8_isCounted hw hm (fun _ _ => dy1 (q8_restsV hw hm.J hn.2 hz (fun M' k => ⟨rfl, T, tk, L, X, hw, a, k.1⟩))) (fun g => absurd hn g))) (fun g => by omega)
    · unfold mX7_rests
      refine q7_within (fun _ _ => cy1 (q7_surveyed hw hc (fun g1 g2 => absurd ⟨g1, g2⟩ hn) (fun _ => cn0 ?_))) (fun g => by omega)
      unfold mX8_rests
      exact q8_within (fun _ _ => cy1 (q8_isCounted hw hm (fun g1 g2 => absurd ⟨g1, g2⟩ hn) (fun g => dn0 ⟨rfl, T, tk, L, X, hw, hc, hm⟩))) (fun g => by omega)
  · unfold mX7_rests
    refine q7_within (fun _ _ => by omega) (fun _ => cn0 ?_)
    unfold mX8_rests
    exact q8_within (fun _ _ => by omega) (fun _ => cn0 ⟨rfl, T, tk, L, X, hw, hc, hm⟩)
theorem z_price (hi : Inv C M) (z : Int) : mX7_price z C (fun r C' => mX8_price z M (fun r' M' => r = r' ∧ Inv C' M')) := by
  obtain ⟨T, tk, L, X, hw, hc, hm⟩ := hi
  by_cases hz : 0 ≤ z ∧ z ≤ 3
  · by_cases hn : 1 ≤ Pn T ∧ all T (Pn T) ≤ 500
    · refine q7_priceV hw hc hn.1 hn.2 hz (fun C1 a => ?_)
      unfold mX8_price
      exact q8_within (fun _ _ => cy1 (q8_isCounted hw hm (fun _ _ => dy1 (q8_priceV hw hm.J hn.2 (fun M' k => ⟨rfl, T, tk, L, X, hw, a, k.1⟩))) (fun g => absurd hn g))) (fun g => by omega)
    · unfold mX7_price
      refine q7_within (fun _ _ => cy1 (q7_surveyed hw hc (fun g1 g2 => absurd ⟨g1, g2⟩ hn) (fun _ => cn0 ?_))) (fun g => by omega)
      unfold mX8_price
      exact q8_within (fun _ _ => cy1 (q8_isCounted hw hm (fun g1 g2 => absurd ⟨g1, g2⟩ hn) (fun g => dn0 ⟨rfl, T, tk, L, X, hw, hc, hm⟩))) (fun g => by omega)
  · unfold mX7_price
    refine q7_within (fun _ _ => by omega) (fun _ => cn0 ?_)
    unfold mX8_price
    exact q8_within (fun _ _ => by omega) (fun _ => cn0 ⟨rfl, T, tk, L, X, hw, hc, hm⟩)
theorem z_reach (hi : Inv C M) (z : Int) : mX7_reach z C (fun r C' => mX8_reach z M (fun r' M' => r = r' ∧ Inv C' M')) := by
  obtain ⟨T, tk, L, X, hw, hc, hm⟩ := hi
  by_cases hz : 0 ≤ z ∧ z ≤ 2
  · by_cases hn : 1 ≤ Pn T ∧ all T (Pn T) ≤ 500
    · refine q7_reachV hw hc hn.1 hn.2 hz (fun C1 a => ?_)
      unfold mX8_reach
      exact q8_within (fun _ _ => cy1 (q8_isCounted hw hm (fun _ _ => dy1 (q8_reachV hw hm.J hn.2 (fun M' k => ⟨rfl, T, tk, L, X, hw, a, k.1⟩))) (fun g => absurd hn g))) (fun g => by omega)
    · unfold mX7_reach
      refine q7_within (fun _ _ => cy1 (q7_surveyed hw hc (fun g1 g2 => absurd ⟨g1, g2⟩ hn) (fun _ => cn0 ?_))) (fun g => by omega)
      unfold mX8_reach
      exact q8_within (fun _ _ => cy1 (q8_isCounted hw hm (fun g1 g2 => absurd ⟨g1, g2⟩ hn) (fun g => dn0 ⟨rfl, T, tk, L, X, hw, hc, hm⟩))) (fun g => by omega)
  · unfold mX7_reach
    refine q7_within (fun _ _ => by omega) (fun _ => cn0 ?_)
    unfold mX8_reach
    exact q8_within (fun _ _ => by omega) (fun _ => cn0 ⟨rfl, T, tk, L, X, hw, hc, hm⟩)
theorem q8_rest40 (hT : wf T) (hm : ms M T tk) {n p : Nat} (hp : p < Pn T) (hn : n < 1000000) (h : Q (tkn T n p) M) : ∃ j, bX8_rest_40 j p n (mm_w (M 0 9 - 1)) M Q := by
  have hP := wf_P hT
  rw [pj_r hm.1 (q := 0) (k := 9) rfl, mm_w_id (by omega) (by omega), show T 0 9 - 1 = ((Pn T - 1 - 0 : Nat) : Int) by omega]
  refine pk_loop (fun j (i : Nat) (_ : Unit) => bX8_rest_40 j p (lf T n i : Nat) ((Pn T - 1 - i : Nat) : Int) M Q) (fun _ _ => True) (Pn T - 1 - p) 0 () (Nat.zero_le _) trivial ?_ ?_
  · rintro j ⟨⟩ -
    unfold bX8_rest_40
    have hW := wf_w hT hp
    rw [Int.toNat_natCast, pj_r hm.1 (q := 8) (k := p) rfl, ← hW.1, rem_n]
    exact ⟨fun _ => ⟨by omega, by omega, h⟩, fun g => by omega⟩
  · rintro j i ⟨⟩ hi - ih
    unfold bX8_rest_40
    have hW := wf_w hT (show Pn T - 1 - i < Pn T by omega)
    have hl := lf_le T n i
    rw [Int.toNat_natCast (Pn T - 1 - i), pj_r hm.1 (q := 8) (k := Pn T - 1 - i) rfl, ← hW.1, div_n (by omega), mm_w_id (z := ((Pn T - 1 - i : Nat) : Int) + -1) (by omega) (by omega), show ((Pn T - 1 - i : Nat) : Int) + -1 = ((Pn T - 1 - (i + 1) : Nat) : Int) by omega]
    exact ⟨fun g => by omega, fun _ => ⟨by omega, by omega, ih () trivial⟩⟩
theorem z_rest (hi : Inv C M) (v u : Int) (hR : mm_R v) : mX7_rest v u C (fun r C' => mX8_rest v u M (fun r' M' => r = r' ∧ Inv C' M')) := by
  obtain ⟨T, tk, L, X, hw, hc, hm⟩ := hi
  have hP := wf_P hw.1
  have hrl := rM_le T (all T (Pn T))
  unfold mX7_rest
  refine q7_surveyed hw hc (fun g1 g2 C1 a b => cy1 ?_) (fun g => cn0 ?_)
  · obtain ⟨-, ⟨gd, -, -, r8, -, -, r120⟩, -⟩ := b
    rw [r8, mm_w_id (by omega) (by omega)]
    refine q7_within (fun k1 k2 => dy1 (q7_isPlayer hw a (fun p e hp => cy1 ?_) (fun g => cn0 ?_))) (fun g => dn0 ?_)
    · subst e
      obtain ⟨k, rfl⟩ : ∃ k : Nat, v = k := ⟨v.toNat, by omega⟩
      obtain ⟨n, n1, n2, n3⟩ := rM_inv (N := T) (all T (Pn T)) k (by omega)
      subst n3
      rw [Int.toNat_natCast, r120 n n1 n2]
      refine ⟨by omega, q0_wayIn hw.1 hp (by omega) gd ?_⟩
      unfold mX8_rest
      refine q8_isCounted hw hm (fun _ _ => cy1 (q8_restAt hw.1 g2 hR hm.1 (fun z M1 o m s => ?_))) (fun g => absurd ⟨g1, g2⟩ g)
      have e := isRA_u s (Or.inr ⟨n, n1, rfl, n2, rfl⟩)
      subst e
      have hm1 := hm.osc o m
      exact ⟨fun e => by omega, fun _ => q8_isPlayer hw hm1 (fun _ _ _ => cy1 (q8_rest40 hw.1 m hp (by omega) ⟨rfl, T, tk, L, X, hw, a, hm1⟩)) (fun g => by omega)⟩
    · unfold mX8_rest
      refine q8_isCounted hw hm (fun _ _ => cy1 (q8_restAt hw.1 g2 hR hm.1 (fun z M1 o m s => ?_))) (fun g => absurd ⟨g1, g2⟩ g)
      have hm1 := hm.osc o m
      exact ⟨fun e => ⟨rfl, T, tk, L, X, hw, a, hm1⟩, fun _ => q8_isPlayer hw hm1 (fun p e hp => by omega) (fun g => cn0 ⟨rfl, T, tk, L, X, hw, a, hm1⟩)⟩
    · unfold mX8_rest
      refine q8_isCounted hw hm (fun _ _ => cy1 (q8_restAt hw.1 g2 hR hm.1 (fun z M1 o m s => ?_))) (fun g => absurd ⟨g1, g2⟩ g)
      have hm1 := hm.osc o m
      have e := isRA_u s (Or.inl ⟨rfl, by omega⟩)
      subst e
      exact ⟨fun e => ⟨rfl, T, tk, L, X, hw, a, hm1⟩, fun e => absurd rfl e⟩
  · unfold mX8_rest
    exact q8_isCounted hw hm (fun k1 k2 => absurd ⟨k1, k2⟩ g) (fun _ => cn0 ⟨rfl, T, tk, L, X, hw, hc, hm⟩)
theorem z_go (hi : Inv C M) (v : Int) (hR : mm_R v) : mX7_go v C (fun r C' => mX8_go v M (fun r' M' => r = r' ∧ Inv C' M')) := by
  obtain ⟨T, tk, L, X, hw, hc, hm⟩ := hi
  have hrl := rM_le T (all T (Pn T))
  unfold mX7_go
  refine q7_surveyed hw hc (fun g1 g2 C1 a b => cy1 ?_) (fun g => cn0 ?_)
  · obtain ⟨-, ⟨gd, -, -, r8, -, -, r120⟩, -⟩ := b
    rw [r8, mm_w_id (by omega) (by omega)]
    refine q7_within (fun k1 k2 => cy1 ?_) (fun g => cn0 ?_)
    · obtain ⟨k, rfl⟩ : ∃ k : Nat, v = k := ⟨v.toNat, by omega⟩
      obtain ⟨n, n1, n2, n3⟩ := rM_inv (N := T) (all T (Pn T)) k (by omega)
      subst n3
      rw [Int.toNat_natCast, r120 n n1 n2]
      have hn := tkn_wf hw.1 n
      refine ⟨by omega, q6_takeSet hw.1 hw.2.1 a.1 (by omega) (fun C2 o1 o2 => q6_socialNow hw.1 hn o2 ?_)⟩
      unfold mX8_go
      refine q8_isCounted hw hm (fun _ _ => cy1 (q8_restAt hw.1 g2 hR hm.1 (fun z M1 o m s => ?_))) (fun g => absurd ⟨g1, g2⟩ g)
      have e := isRA_u s (Or.inr ⟨n, n1, rfl, n2, rfl⟩)
      subst e
      exact ⟨fun _ => q8_take hw.1 m.1 (by omega) (fun M2 p1 p2 => q8_socialNow hw.1 hn p2 (fun M3 p3 _ => ⟨rfl, T, _, L, X, hw.tq hn, a.otk o1.otk o2, (hm.osc (o.tr p1.osc) p2).o19 p3⟩)), fun e => by omega⟩
    · unfold mX8_go
      refine q8_isCounted hw hm (fun _ _ => cy1 (q8_restAt hw.1 g2 hR hm.1 (fun z M1 o m s => ?_))) (fun g => absurd ⟨g1, g2⟩ g)
      have hm1 := hm.osc o m
      have e := isRA_u s (Or.inl ⟨rfl, by omega⟩)
      subst e
      exact ⟨fun e => absurd rfl e, fun e => ⟨rfl, T, tk, L, X, hw, a, hm1⟩⟩
  · unfold mX8_go
    exact q8_isCounted hw hm (fun k1 k2 => absurd ⟨k1, k2⟩ g) (fun _ => cn0 ⟨rfl, T, tk, L, X, hw, hc, hm⟩)
theorem z_best (hi : Inv C M) : mX7_best C (fun r C' => mX8_best M (fun r' M' => r = r' ∧ Inv C' M')) := by
  obtain ⟨T, tk, L, X, hw, hc, hm⟩ := hi
  unfold mX7_best
  refine q7_surveyed hw hc (fun g1 g2 C1 a b => cy1 ?_) (fun g => cn0 ?_)
  · obtain ⟨-, ⟨-, -, l, -⟩, -⟩ := b
    have hA := all_bd hw.1 (Pn T) (Nat.le_refl _)
    obtain ⟨n, n1, n2, n3⟩ := aF_ok (T := T) (all T (Pn T) - 1)
    rw [show all T (Pn T) - 1 + 1 = all T (Pn T) by omega] at n1 n2 n3
    have hn := tkn_wf hw.1 n
    rw [l.2.1, n2]
    refine q6_takeSet hw.1 hw.2.1 a.1 (by omega) (fun C2 o1 o2 => q6_socialNow hw.1 hn o2 ?_)
    unfold mX8_best
    refine q8_isCounted hw hm (fun _ _ => cy1 (q8_layRests hw.1 g2 hm.1 (fun M1 o m s => ?_))) (fun g => absurd ⟨g1, g2⟩ g)
    rw [s.2.2.2.2.2.2, n2]
    refine q8_take hw.1 m.1 (by omega) (fun M2 p1 p2 => ?_)
    rw [p1 0 38 (by decide), s.2.2.2.1, n3]
    exact ⟨rfl, T, _, L, X, hw.tq hn, a.otk o1.otk o2, hm.osc (o.tr p1.osc) p2⟩
  · unfold mX8_best
    exact q8_isCounted hw hm (fun k1 k2 => absurd ⟨k1, k2⟩ g) (fun _ => cn0 ⟨rfl, T, tk, L, X, hw, hc, hm⟩)
end S57
