/-! a player comes: the pure state -/
def pT (T : mm_M) (P : Nat) (x y : Int) (a : Wy) : mm_M := fun q k =>
  if q = 0 ∧ k = 9 then ((P + 1 : Nat) : Int) else if q = 6 ∧ k = P then x else if q = 7 ∧ k = P then y else if q = 8 ∧ k = P then (a.1 : Int)
  else if q = 10 ∧ 12 * P ≤ k then (if k < 12 * P + a.1 then (a.2.1 (k - 12 * P) : Int) else 0)
  else if q = 11 ∧ 60 * P ≤ k then (if k < 60 * P + 5 * a.1 ∧ k % 5 < a.2.1 ((k - 60 * P) / 5) then (a.2.2 ((k - 60 * P) / 5) (k % 5) : Int) else 0)
  else T q k
section S64
variable {T L X : mm_M} {tk : Nat → Nat} {C C' M M' : mm_M} {Q : Int → mm_M → Prop} {P p w k : Nat} {x y : Int} {a : Wy}
theorem pT_9 : pT T P x y a 0 9 = ((P + 1 : Nat) : Int) := rfl
theorem pT_6 : pT T P x y a 6 P = x := by unfold pT; rw [if_neg (by omega), if_pos (by omega)]
theorem pT_7 : pT T P x y a 7 P = y := by unfold pT; rw [if_neg (by omega), if_neg (by omega), if_pos (by omega)]
theorem pT_8 : pT T P x y a 8 P = (a.1 : Int) := by unfold pT; rw [if_neg (by omega), if_neg (by omega), if_neg (by omega), if_pos (by omega)]
theorem pT_10 (hw : w < a.1) : pT T P x y a 10 (12 * P + w) = (a.2.1 w : Int) := by
  unfold pT
  rw [if_neg (by omega), if_neg (by omega), if_neg (by omega), if_neg (by omega), if_pos (by omega), if_pos (by omega), show 12 * P + w - 12 * P = w by omega]
theorem pT_11 (hw : w < a.1) (hk : k < a.2.1 w) (h5 : k < 5) : pT T P x y a 11 (5 * (12 * P + w) + k) = (a.2.2 w k : Int) := by
  unfold pT
  rw [if_neg (by omega), if_neg (by omega), if_neg (by omega), if_neg (by omega), if_neg (by omega), if_pos (by omega), show (5 * (12 * P + w) + k - 60 * P) / 5 = w by omega, show (5 * (12 * P + w) + k) % 5 = k by omega, if_pos (by omega)]
theorem pT_n {q : Nat} (h : ¬ (q = 0 ∧ k = 9)) (h6 : 6 ≤ q → q ≤ 8 → k ≠ P) (h10 : q = 10 → k < 12 * P) (h11 : q = 11 → k < 60 * P) : pT T P x y a q k = T q k := by
  unfold pT
  rw [if_neg h, if_neg (by omega), if_neg (by omega), if_neg (by omega), if_neg (by omega), if_neg (by omega)]
theorem pT_ag (hp : p < P) : agp T (pT T P x y a) p :=
  ⟨pT_n (by omega) (by omega) (by omega) (by omega), pT_n (by omega) (by omega) (by omega) (by omega), pT_n (by omega) (by omega) (by omega) (by omega), fun w hw => ⟨pT_n (by omega) (by omega) (by omega) (by omega), fun k hk => pT_n (by omega) (by omega) (by omega) (by omega)⟩⟩
theorem pT_1 : pT T P x y a 0 1 = T 0 1 := pT_n (by omega) (by omega) (by omega) (by omega)
theorem pT_R : Rn (pT T P x y a) = Rn T := by unfold Rn; rw [pT_1]
theorem pT_P : Pn (pT T P x y a) = P + 1 := by unfold Pn; rw [pT_9, Int.toNat_natCast]
theorem pT_w : wn (pT T P x y a) P = a.1 := by unfold wn; rw [pT_8, Int.toNat_natCast]
theorem pT_l (hw : w < a.1) : ln (pT T P x y a) P w = a.2.1 w := by unfold ln; rw [pT_10 hw, Int.toNat_natCast]
theorem pT_d (hw : w < a.1) (hk : k < a.2.1 w) (h5 : k < 5) : rd (pT T P x y a) P w k = a.2.2 w k := by unfold rd; rw [pT_11 hw hk h5, Int.toNat_natCast]
theorem pT_wf (hT : wf T) (hP : Pn T = P) (h5 : P < 5) (ho : okA T a) (ha : 1 ≤ a.1 ∧ a.1 ≤ 12) : wf (pT T P x y a) := by
  have hR := wf_R hT
  refine ⟨⟨by rw [pT_1]; exact hT.1.1, by rw [pT_n (by omega) (by omega) (by omega) (by omega)]; exact hT.1.2.1, fun r hr => ?_⟩, ⟨by rw [pT_9]; omega, fun p hp => ?_⟩⟩
  · rw [pT_R] at hr
    rw [pT_n (by omega) (by omega) (by omega) (by omega), pT_n (by omega) (by omega) (by omega) (by omega), pT_n (by omega) (by omega) (by omega) (by omega), pT_n (by omega) (by omega) (by omega) (by omega), pT_n (by omega) (by omega) (by omega) (by omega), pT_n (by omega) (by omega) (by omega) (by omega)]
    exact hT.1.2.2 r hr
  · rw [pT_P] at hp
    by_cases e : p = P
    · subst e
      refine ⟨by rw [pT_8]; omega, fun w hw => ?_⟩
      rw [pT_w] at hw
      obtain ⟨o1, o2, o3⟩ := ho.2 w hw
      refine ⟨by rw [pT_10 hw]; omega, fun k hk => ?_, fun i j hi hj he => ?_⟩
      · rw [pT_l hw] at hk
        rw [pT_11 hw hk (by omega), pT_1]
        have := o2 k hk
        omega
      · rw [pT_l hw] at hi hj
        rw [pT_d hw hi (by omega), pT_d hw hj (by omega)] at he
        exact o3 i j hi hj he
    · have hpP : p < P := by omega
      obtain ⟨g1, g2⟩ := hT.2.2 p (by omega)
      have ag := pT_ag (T := T) (x := x) (y := y) (a := a) hpP
      refine ⟨by rw [ag.2.2.1]; exact g1, fun w hw => ?_⟩
      rw [ag.xwn] at hw
      have hx : wn T p ≤ 12 := by unfold wn; omega
      exact ag.xwfW (by omega) pT_1 (g2 w hw)
/-- the model's memory with the new player -/
theorem pT_pj (hj : pj M = T) (h9 : M 0 9 = (P : Int)) (ho : ∀ w, w < a.1 → a.2.1 w ≤ 5) (ha : a.1 ≤ 12) (m9 : M' 0 9 = ((P + 1 : Nat) : Int)) (m6 : M' 6 P = x) (m7 : M' 7 P = y) (m8 : M' 8 P = (a.1 : Int)) (mw : mW M' P a)
    (hf : ∀ q k, pp q k = true → ¬ (q = 0 ∧ k = 9) → (6 ≤ q → q ≤ 8 → k ≠ P) → (q = 10 → k < 12 * P) → (q = 11 → k < 60 * P) → M' q k = M q k) : pj M' = pT T P x y a := by
  subst hj
  funext q k
  by_cases e0 : q = 0 ∧ k = 9
  · obtain ⟨rfl, rfl⟩ := e0
    rw [pj_y (pjc_8 rfl (by omega)), m9]; rfl
  by_cases e6 : q = 6 ∧ k = P
  · obtain ⟨rfl, rfl⟩ := e6
    rw [pj_y (pjc_8 rfl (by omega)), m6, pT_6]
  by_cases e7 : q = 7 ∧ k = P
  · obtain ⟨rfl, rfl⟩ := e7
    rw [pj_y (pjc_8 rfl (by omega)), m7, pT_7]
  by_cases e8 : q = 8 ∧ k = P
  · obtain ⟨rfl, rfl⟩ := e8
    rw [pj_y (pjc_8 rfl (by omega)), m8, pT_8]
  by_cases e10 : q = 10 ∧ 12 * P ≤ k
  · obtain ⟨rfl, hk⟩ := e10
    obtain ⟨w, rfl⟩ : ∃ w, k = 12 * P + w := ⟨k - 12 * P, by omega⟩
    by_cases hw : w < a.1
    · rw [pT_10 hw, pj_y ⟨rfl, fun _ => ?_, fun e => absurd e (by decide)⟩]
      · exact (mw w hw (by omega)).1
      · rw [show (12 * P + w) / 12 = P by omega, show (12 * P + w) % 12 = w by omega, m9, m8]; omega
    · have e : pT (pj M) P x y a 10 (12 * P + w) = 0 := by
        unfold pT
        rw [if_neg (by omega), if_neg (by omega), if_neg (by omega), if_neg (by omega), if_pos (by omega), if_neg (by omega)]
      rw [e]
      refine pj_0 (fun g => ?_)
      obtain ⟨g1, g2⟩ := g.2.1 rfl
      rw [m9] at g1
      by_cases h12 : w < 12
      · rw [show (12 * P + w) / 12 = P by omega, show (12 * P + w) % 12 = w by omega, m8] at g2; omega
      · omega
  by_cases e11 : q = 11 ∧ 60 * P ≤ k
  · obtain ⟨rfl, hk⟩ := e11
    obtain ⟨w, i, hi, rfl⟩ : ∃ w i, i < 5 ∧ k = 5 * (12 * P + w) + i := ⟨(k - 60 * P) / 5, k % 5, by omega, by omega⟩
    by_cases hw : w < a.1 ∧ i < a.2.1 w
    · rw [pT_11 hw.1 hw.2 hi, pj_y ⟨rfl, fun e => absurd e (by decide), fun _ => ?_⟩]
      · exact (mw w hw.1 (by omega)).2 i hw.2
      · rw [show (5 * (12 * P + w) + i) / 60 = P by omega, show (5 * (12 * P + w) + i) / 5 = 12 * P + w by omega, show (12 * P + w) % 12 = w by omega, show (5 * (12 * P + w) + i) % 5 = i by omega, m9, m8, (mw w hw.1 (by omega)).1]; omega
    · have e : pT (pj M) P x y a 11 (5 * (12 * P + w) + i) = 0 := by
        unfold pT
        rw [if_neg (by omega), if_neg (by omega), if_neg (by omega), if_neg (by omega), if_neg (by omega), if_pos (by omega), show (5 * (12 * P + w) + i - 60 * P) / 5 = w by omega, show (5 * (12 * P + w) + i) % 5 = i by omega, if_neg (by omega)]
      rw [e]
      refine pj_0 (fun g => ?_)
      obtain ⟨g1, g2, g3⟩ := g.2.2 rfl
      rw [m9] at g1
      by_cases h12 : w < 12
      · rw [show (5 * (12 * P + w) + i) / 60 = P by omega, show (5 * (12 * P + w) + i) / 5 = 12 * P + w by omega, show (12 * P + w) % 12 = w by omega, m8] at g2
        rw [show (5 * (12 * P + w) + i) / 5 = 12 * P + w by omega, show (5 * (12 * P + w) + i) % 5 = i by omega, (mw w (by omega) h12).1] at g3
        omega
      · omega
  rw [pT_n (q := q) (k := k) e0 (by omega) (by omega) (by omega)]
  have ec : pjc M' q k ↔ pjc M q k := by
    unfold pjc
    rw [m9, h9]
    constructor
    · rintro ⟨g1, g2, g3⟩
      refine ⟨g1, fun e => ?_, fun e => ?_⟩
      · obtain ⟨g4, g5⟩ := g2 e
        rw [hf 8 (k / 12) rfl (by omega) (by omega) (by omega) (by omega)] at g5
        exact ⟨by omega, g5⟩
      · obtain ⟨g4, g5, g6⟩ := g3 e
        rw [hf 8 (k / 60) rfl (by omega) (by omega) (by omega) (by omega)] at g5
        rw [hf 10 (k / 5) rfl (by omega) (by omega) (by omega) (by omega)] at g6
        exact ⟨by omega, g5, g6⟩
    · rintro ⟨g1, g2, g3⟩
      refine ⟨g1, fun e => ?_, fun e => ?_⟩
      · obtain ⟨g4, g5⟩ := g2 e
        rw [hf 8 (k / 12) rfl (by omega) (by omega) (by omega) (by omega)]
        exact ⟨by omega, g5⟩
      · obtain ⟨g4, g5, g6⟩ := g3 e
        rw [hf 8 (k / 60) rfl (by omega) (by omega) (by omega) (by omega), hf 10 (k / 5) rfl (by omega) (by omega) (by omega) (by omega)]
        exact ⟨by omega, g5, g6⟩
  by_cases c : pjc M q k
  · rw [pj_y c, pj_y (ec.mpr c)]
    exact hf q k c.1 e0 (by omega) (by omega) (by omega)
  · rw [pj_0 c, pj_0 (fun g => c (ec.mp g))]
/-- what lies behind the players isn't seen -/
theorem wy_pj (hj : pj M = T) (h9 : M 0 9 = (P : Int)) (o : oWy P M M') : pj M' = T := by
  subst hj
  funext q k
  have o0 : ∀ q k, q ≤ 9 → M' q k = M q k := fun q k h => o q k (by omega) (by omega) (by omega)
  have ec : pjc M' q k ↔ pjc M q k := by
    unfold pjc
    rw [o0 0 9 (by omega), o0 8 _ (by omega), o0 8 _ (by omega), h9]
    constructor
    · rintro ⟨g1, g2, g3⟩
      refine ⟨g1, g2, fun e => ?_⟩
      obtain ⟨g4, g5, g6⟩ := g3 e
      rw [o 10 (k / 5) (by omega) (by omega) (by omega)] at g6
      exact ⟨g4, g5, g6⟩
    · rintro ⟨g1, g2, g3⟩
      refine ⟨g1, g2, fun e => ?_⟩
      obtain ⟨g4, g5, g6⟩ := g3 e
      rw [o 10 (k / 5) (by omega) (by omega) (by omega)]
      exact ⟨g4, g5, g6⟩
  by_cases c : pjc M q k
  · rw [pj_y c, pj_y (ec.mpr c)]
    obtain ⟨c1, c2, c3⟩ := c
    rw [h9] at c2 c3
    exact o q k (by have := pp_i c1; omega) (fun e => by have := (c2 e).1; omega) (fun e => by have := (c3 e).1; omega)
  · rw [pj_0 c, pj_0 (fun g => c (ec.mp g))]
theorem q8_leastPay {N : mm_M} {tk : Nat → Nat} (hN : wf N) (ht : wfT N tk) {p : Nat} (hp : p < Pn N) (h0 : tk p = 0) {M : mm_M} (hm : ms M N tk) {Q : Int → mm_M → Prop}
    (h : ∀ M', o19 M M' → Q (bestw N tk p) M') : mX8_leastPay p M Q := by
  have hP := wf_P hN
  have hW := wf_w hN hp
  have b1 : bst N tk p 1 = 0 := by
    show (if pay N tk p 0 < pay N tk p (tk p) then 0 else tk p) = 0
    rw [h0]; split <;> rfl
  refine q8_payOf hN ht hp (w := 0) (by omega) hm (fun M2 h1 _ => ?_)
  refine pk_loop (fun n (k : Nat) (z : (Int × Int) × mm_M) => bX8_leastPay_12 n p z.1.1 z.1.2 k z.2 Q) (fun k z => z.1.1 = (bst N tk p k : Int) ∧ z.1.2 = pay N tk p (bst N tk p k) ∧ o19 M z.2) (wn N p) 1 ((0, pay N tk p 0), M2) (by omega) ⟨by rw [b1]; rfl, by rw [b1], h1⟩ ?_ ?_
  · rintro n ⟨⟨z1, z2⟩, M3⟩ ⟨rfl, rfl, h5⟩
    dsimp only at h5 ⊢
    unfold bX8_leastPay_12
    rw [Int.toNat_natCast, pj_r (h5.ms hm).1 (q := 8) (k := p) rfl]
    exact ⟨by omega, fun _ => h M3 h5, fun g => by omega⟩
  · rintro n k ⟨⟨z1, z2⟩, M3⟩ hk ⟨rfl, rfl, h5⟩ ih
    dsimp only at h5 ⊢
    unfold bX8_leastPay_12
    have hm3 := h5.ms hm
    rw [Int.toNat_natCast, pj_r hm3.1 (q := 8) (k := p) rfl]
    refine ⟨by omega, fun g => by omega, fun _ => q8_payOf hN ht hp hk hm3 (fun M4 h7 _ => ?_)⟩
    unfold bX8_leastPay_44
    rw [w_1 hk (by omega)]
    refine ⟨fun g => ⟨fun g2 => ?_, fun g2 => by omega⟩, fun g => ⟨fun g2 => by omega, fun g2 => ?_⟩⟩
    · refine ih (((_, _), _)) ⟨?_, ?_, h5.tr h7⟩
      · show _ = ((bst N tk p (k + 1) : Nat) : Int)
        rw [bst_s0 g]
      · show _ = pay N tk p (bst N tk p (k + 1))
        rw [bst_s0 g]; rfl
    · refine ih (((_, _), _)) ⟨?_, ?_, h5.tr h7⟩
      · show _ = ((bst N tk p (k + 1) : Nat) : Int)
        rw [bst_s1 g]
      · show _ = pay N tk p (bst N tk p (k + 1))
        rw [bst_s1 g]; rfl
theorem exw_st {N : mm_M} {s : Nat} (h : 12 < (exw N x y s).1) : ∀ t, exw N x y (s + t) = exw N x y s
  | 0 => rfl
  | t + 1 => by
    have e := exw_st h t
    show exf (exg N x 0 (fun _ => 0) (exs N x y (s + t))) (Rn N) 0 (exw N x y (s + t)) = _
    rw [e]
    exact exf_stop _ _ _ h
/-- the model's search -/
theorem q8_ways (hT : wf T) (h5 : P < 5) (hj : pj M = T) (h9 : M 0 9 = (P : Int)) (K : ∀ M', oWy P M M' → ((exw T x y 5).1 ≤ 12 → mW M' P (exw T x y 5)) → bX8_player_82 x y (exw T x y 5).1 M' Q) : ∃ j, bX8_player_50 j x y 0 1 M Q := by
  have hR := wf_R hT
  have mr : mR M T := ⟨pj_r hj rfl, fun r _ => ⟨pj_r hj rfl, pj_r hj rfl⟩⟩
  refine pk_loop (fun j (s : Nat) (M1 : mm_M) => bX8_player_50 j x y (exw T x y s).1 ((s + 1 : Nat) : Int) M1 Q) (fun s M1 => oWy P M M1 ∧ mW M1 P (exw T x y s)) 5 0 M (Nat.zero_le _) ⟨oWy.rf P M, fun w hw => absurd hw (Nat.not_lt_zero _)⟩ ?_ ?_
  · rintro j M1 ⟨g1, g2⟩
    unfold bX8_player_50
    exact ⟨fun _ => K M1 g1 (fun _ => g2), fun g => by omega⟩
  · rintro j s M1 hs ⟨g1, g2⟩ ih
    unfold bX8_player_50
    refine ⟨fun g => by omega, fun _ => ⟨fun g => ?_, fun g => ?_⟩⟩
    · have e := exw_st (N := T) (x := x) (y := y) (s := s) (by omega) (5 - s)
      rw [show s + (5 - s) = 5 by omega] at e
      rw [← e]
      exact K M1 g1 (fun g => by rw [e] at g; omega)
    · rw [(g1 0 9 (by omega) (by omega) (by omega)).trans h9, w_1 (k := s + 1) (n := 10) (by omega) (by omega)]
      refine q8_layWays hT.1 h5 (by omega) (exw_ok s (by omega)) (by omega) (g1.mR mr) g2 (fun M2 o1 o2 => ?_)
      exact ih M2 ⟨g1.tr o1, o2⟩
end S64
