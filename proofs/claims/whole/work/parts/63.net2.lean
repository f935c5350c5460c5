/-! net -/
section S63
variable {T L X : mm_M} {tk : Nat → Nat} {C C' M M' R : mm_M} {Q : Int → mm_M → Prop} {n : Nat}
theorem nT_0 : nT T R n 0 0 = R 0 26 := rfl
theorem nT_1 : nT T R n 0 1 = (n : Int) := rfl
theorem nT_9 : nT T R n 0 9 = 0 := rfl
theorem nT_7 : nT T R n 0 7 = T 0 7 := rfl
theorem nT_R : Rn (nT T R n) = n := by unfold Rn; rw [nT_1, Int.toNat_natCast]
theorem nT_P : Pn (nT T R n) = 0 := by unfold Pn; rw [nT_9]; rfl
theorem nT_r {q r : Nat} (hq : 1 ≤ q ∧ q ≤ 4) (hr : r < n) : nT T R n q r = R (q + 14) r := by
  unfold nT; rw [if_neg (by omega), if_pos (by omega), if_pos hr]
theorem nT_5 {r : Nat} (hr : r < n) : nT T R n 5 r = 0 := by
  unfold nT; rw [if_neg (by omega), if_neg (by omega), if_pos rfl, if_pos hr]
theorem nT_wf (hw : wf T) (hv : rvv C R n 1) (h1 : 1 ≤ n) : wf (nT T R n) ∧ netc (nT T R n) := by
  obtain ⟨⟨v1, v2, v3⟩, -, -, v6, -, v8, -⟩ := hv
  have h6 := v6 (by omega)
  refine ⟨⟨⟨by rw [nT_1]; omega, hw.1.2.1, fun r hr => ?_⟩, ⟨by rw [nT_9]; omega, fun p hp => by rw [nT_P] at hp; omega⟩⟩, Or.inr ⟨by rw [nT_0]; exact h6.2, by rw [nT_1]; omega⟩⟩
  rw [nT_R] at hr
  obtain ⟨f, t, a, b⟩ := v8 r hr
  unfold rv_f at f
  unfold rv_t at t
  unfold rv_a at a
  unfold rv_b at b
  rw [nT_0, nT_r (q := 1) (by omega) hr, nT_r (q := 2) (by omega) hr, nT_r (q := 3) (by omega) hr, nT_r (q := 4) (by omega) hr, nT_5 hr]
  exact ⟨f.2, t.2.1, t.2.2, a.2, b.2, by omega, by omega⟩
theorem nT_pj (hj : pj M = T) (o : oR8 M R) (h1 : ∀ q k, ¬ (1 ≤ q ∧ q ≤ 5 ∧ k < n) → ¬ (q = 0 ∧ k ≤ 1) → M' q k = R q k) (h00 : M' 0 0 = R 0 26) (h01 : M' 0 1 = n) (h2 : ∀ r, r < n → M' 1 r = R 15 r ∧ M' 2 r = R 16 r ∧ M' 3 r = R 17 r ∧ M' 4 r = R 18 r ∧ M' 5 r = 0) (x y : Int) : pj (mm_up (mm_up (mm_up M' 0 9 0) 0 8 x) 0 23 y) = nT T R n := by
  funext q k
  have u9 : mm_up (mm_up (mm_up M' 0 9 0) 0 8 x) 0 23 y 0 9 = 0 := (up_n (by omega)).trans ((up_n (by omega)).trans (up_s _ _ _ _))
  by_cases hp : pp q k = true ∧ q ≠ 10 ∧ q ≠ 11
  · have e1 : pj (mm_up (mm_up (mm_up M' 0 9 0) 0 8 x) 0 23 y) q k = mm_up (mm_up (mm_up M' 0 9 0) 0 8 x) 0 23 y q k := pj_y (pjc_8 hp.1 hp.2)
    have hT : T q k = M q k := by rw [← hj]; exact pj_y (pjc_8 hp.1 hp.2)
    rw [e1]
    rcases pp_i hp.1 with ⟨rfl, h⟩ | h | h
    · rcases (show k = 0 ∨ k = 1 ∨ k = 7 ∨ k = 9 by omega) with rfl | rfl | rfl | rfl
      · rw [up_n (by omega), up_n (by omega), up_n (by omega)]; exact h00
      · rw [up_n (by omega), up_n (by omega), up_n (by omega)]; exact h01
      · rw [up_n (by omega), up_n (by omega), up_n (by omega), h1 0 7 (by omega) (by omega), o 0 7 (by omega) (by omega), nT_7]; exact hT.symm
      · rw [up_n (by omega), up_n (by omega), up_s]; rfl
    · rw [up_n (by omega), up_n (by omega), up_n (by omega)]
      by_cases hk : k < n ∧ q ≤ 5
      · obtain ⟨a1, a2, a3, a4, a5⟩ := h2 k hk.1
        rcases (show q = 1 ∨ q = 2 ∨ q = 3 ∨ q = 4 ∨ q = 5 by omega) with rfl | rfl | rfl | rfl | rfl
        · rw [nT_r (by omega) hk.1]; exact a1
        · rw [nT_r (by omega) hk.1]; exact a2
        · rw [nT_r (by omega) hk.1]; exact a3
        · rw [nT_r (by omega) hk.1]; exact a4
        · rw [nT_5 hk.1]; exact a5
      · rw [h1 q k (by omega) (by omega), o q k (by omega) (by omega), ← hT]
        unfold nT
        rw [if_neg (by omega)]
        by_cases q4 : q ≤ 4
        · rw [if_pos q4, if_neg (by omega)]
        · rw [if_neg q4]
          by_cases q5 : q = 5
          · rw [if_pos q5, if_neg (by omega)]
          · rw [if_neg q5, if_neg (by omega)]
    · omega
  · have e1 : pj (mm_up (mm_up (mm_up M' 0 9 0) 0 8 x) 0 23 y) q k = 0 := pj_0 (fun g => hp ⟨g.1, fun e => by
      have := (g.2.1 e).1
      rw [u9] at this
      omega, fun e => by
      have := (g.2.2 e).1
      rw [u9] at this
      omega⟩)
    rw [e1]
    unfold nT
    by_cases q10 : q = 10 ∨ q = 11
    · rw [if_neg (by omega), if_neg (by omega), if_neg (by omega), if_pos q10]
    have hp' : ¬ pp q k = true := fun e => hp ⟨e, by omega, by omega⟩
    have hT : T q k = 0 := by rw [← hj]; exact pj_0 (fun g => hp' g.1)
    by_cases q0 : q = 0
    · subst q0
      have k0 : k ≠ 0 := fun e => hp' (by subst e; rfl)
      have k1 : k ≠ 1 := fun e => hp' (by subst e; rfl)
      have k9 : k ≠ 9 := fun e => hp' (by subst e; rfl)
      rw [if_pos rfl, if_neg k0, if_neg k1, if_neg k9, hT]
    · have q1 : ¬ (1 ≤ q ∧ q ≤ 5) := fun e => hp' (by
        rcases (show q = 1 ∨ q = 2 ∨ q = 3 ∨ q = 4 ∨ q = 5 by omega) with rfl | rfl | rfl | rfl | rfl <;> rfl)
      rw [if_neg q0, if_neg (by omega), if_neg (by omega), if_neg q10, hT]
theorem z_net (hi : Inv C M) : mX7_net C (fun r C' => mX8_net M (fun r' M' => r = r' ∧ Inv C' M')) := by
  obtain ⟨T, tk, L, X, hw, hc, hm⟩ := hi
  obtain ⟨z, hz, hX, h11, h23, h2, hl⟩ := pg hw hc hm
  unfold mX7_net
  refine q3_read hz h11 h2 hl (fun k C1 a b o d => ?_)
  have hk := a.1
  have c11 : C1 1 1 = z := (o 1 1 (by omega) (by omega)).trans h11
  have hc1 := hc.rd hw.1 o
  rw [c11]
  refine ⟨fun g => ?_, fun g => ?_⟩
  · unfold mX8_net
    refine q8_read hz h23 hl a b (fun M1 o2 _ => ⟨fun _ => ⟨rfl, T, tk, L, X, hw, hc1, hm.rd o2⟩, fun g2 => ?_⟩)
    rw [o2 0 23 (by omega) (by omega), h23] at g2
    omega
  · have ek : k = z := by omega
    subst ek
    obtain ⟨n, s, r1, r2, r3⟩ := d rfl
    have hs := r1.2.1
    by_cases hwh : s = 1 ∧ 1 ≤ n
    · obtain ⟨rfl, hn⟩ := hwh
      obtain ⟨⟨v1, v2, v3⟩, -, -, v6, -, v8, -⟩ := id r1
      have h6 := v6 (by omega)
      have e13 : C1 1 3 = 1 := r2
      obtain ⟨wf', nc'⟩ := nT_wf hw.1 r1 hn
      refine ⟨fun g => absurd e13 g, fun _ => ⟨fun g => by omega, fun _ => ⟨Or.inr rfl, cy1 ?_⟩⟩⟩
      refine q6_begin (N := nT T (mk M k) n) wf'.1 v1 v3 nT_R (h6.1.trans nT_0.symm) nT_1.symm (hc1.1.1.2.1.1.trans nT_7.symm) (fun r hr => ?_) (fun C2 f1 f2 f3 f4 f5 => ?_)
      · obtain ⟨x1, x2, x3, x4⟩ := v8 r hr
        rw [nT_r (q := 1) (by omega) hr, nT_r (q := 2) (by omega) hr, nT_r (q := 3) (by omega) hr, nT_r (q := 4) (by omega) hr, nT_5 hr]
        exact ⟨x1.1, x2.1, x3.1, x4.1, rfl⟩
      have e04 : C2 0 4 = X 0 8 := (f1 0 4 (by omega)).trans hc1.2.2.2.2.2.2.2.1
      show mX8_net M (fun r' M' => mm_up (mm_up (mm_up C2 115 0 0) 1 1 0) 0 4 (mm_w (mm_up (mm_up C2 115 0 0) 1 1 0 0 4 + 1)) 10 1 = r' ∧ Inv (mm_up (mm_up (mm_up C2 115 0 0) 1 1 0) 0 4 (mm_w (mm_up (mm_up C2 115 0 0) 1 1 0 0 4 + 1))) M')
      rw [show mm_up (mm_up C2 115 0 0) 1 1 0 0 4 = X 0 8 from (up_n (by omega)).trans ((up_n (by omega)).trans e04), show mm_up (mm_up (mm_up C2 115 0 0) 1 1 0) 0 4 (mm_w (X 0 8 + 1)) 10 1 = (n : Int) from (up_n (by omega)).trans ((up_n (by omega)).trans ((up_n (by omega)).trans (f3.2.2.1.trans nT_1)))]
      have ff : ∀ q i, ¬ (q = 115 ∧ i = 0) → ¬ (q = 1 ∧ i = 1) → ¬ (q = 0 ∧ i = 4) → mm_up (mm_up (mm_up C2 115 0 0) 1 1 0) 0 4 (mm_w (X 0 8 + 1)) q i = C2 q i := fun q i x1 x2 x3 => (up_n (by omega)).trans ((up_n (by omega)).trans (up_n (by omega)))
      have hcF : cI (mm_up (mm_up (mm_up C2 115 0 0) 1 1 0) 0 4 (mm_w (X 0 8 + 1))) (nT T (mk M k) n) tk L (mm_up (mm_up X 0 8 (mm_w (X 0 8 + 1))) 0 23 0) := by
        refine hc1.ft (fun q i x => (ff q i (by omega) (by omega) (by omega)).trans (f1 q i (by omega))) ⟨⟨(ff 9 2 (by omega) (by omega) (by omega)).trans (f2.trans nT_9.symm), ?_, fun r hr i x1 x2 => ?_, fun p hp => by rw [nT_P] at hp; omega⟩, fun p hp => by rw [nT_P] at hp; omega, fun r hr => ?_⟩ ((up_n (by omega)).trans ((up_n (by omega)).trans (up_s _ _ _ _))) ⟨?_, fun i hi => ?_, ?_, ?_, ?_⟩
        · obtain ⟨n1, n2, n3, n4⟩ := f3
          refine ⟨(ff 9 3 (by omega) (by omega) (by omega)).trans n1, (ff 10 0 (by omega) (by omega) (by omega)).trans n2, (ff 10 1 (by omega) (by omega) (by omega)).trans n3, fun r hr => ?_⟩
          obtain ⟨d1, d2, d3, d4, d5⟩ := n4 r hr
          exact ⟨(ff 11 r (by omega) (by omega) (by omega)).trans d1, (ff 12 r (by omega) (by omega) (by omega)).trans d2, (ff 13 r (by omega) (by omega) (by omega)).trans d3, (ff 14 r (by omega) (by omega) (by omega)).trans d4, (ff 15 r (by omega) (by omega) (by omega)).trans d5⟩
        · have hr' := hr
          rw [nT_R] at hr'
          exact (ff (19 + r) i (by omega) (by omega) (by omega)).trans (f4 r hr i x1 x2)
        · rw [ff 16 r (by omega) (by omega) (by omega), f5 r hr]
          unfold lod
          rw [nT_P]; rfl
        · rw [up_n (by omega), up_s, up_s]
        · rw [up_s] at hi; omega
        · rw [up_s, up_n (by omega), up_s]
        · rw [up_n (by omega), up_n (by omega)]
          exact (ff 0 5 (by omega) (by omega) (by omega)).trans ((f1 0 5 (by omega)).trans hc1.2.2.2.2.2.2.2.2.1)
        · rw [up_n (by omega), up_n (by omega)]
          exact (ff 0 6 (by omega) (by omega) (by omega)).trans ((f1 0 6 (by omega)).trans hc1.2.2.2.2.2.2.2.2.2)
      have hwF : wI (nT T (mk M k) n) tk L (mm_up (mm_up X 0 8 (mm_w (X 0 8 + 1))) 0 23 0) := by
        refine ⟨wf', fun p hp => by rw [nT_P] at hp; omega, nc', hw.2.2.2.1, by rw [up_s]; omega, ?_, fun i hi => by rw [up_s] at hi; omega⟩
        rw [up_n (by omega), up_n (by omega)]; exact hw.2.2.2.2.2.1
      unfold mX8_net
      refine q8_read hz h23 hl a b (fun M1 o2 e2 => ?_)
      have e3 := e2 rfl
      subst e3
      rw [o2 0 23 (by omega) (by omega), h23, v2]
      refine ⟨fun g => by omega, fun _ => ⟨fun g => absurd r3 g, fun _ => ⟨fun _ => ?_, fun g => by omega⟩⟩⟩
      rw [show mm_up (mk M k) 0 0 (mk M k 0 26) 0 27 = (n : Int) from (up_n (by omega)).trans v2]
      refine q8_net47 (up_s _ _ _ _) v3 (fun M2 x1 x2 => ?_)
      have u0 : ∀ q i, ¬ (q = 0 ∧ i ≤ 1) → mm_up (mm_up (mk M k) 0 0 (mk M k 0 26)) 0 1 (n : Int) q i = mk M k q i := fun q i x => (up_n (by omega)).trans (up_n (by omega))
      have y08 : M2 0 8 = X 0 8 := (x1 0 8 (by omega)).trans ((u0 0 8 (by omega)).trans ((o2 0 8 (by omega) (by omega)).trans (xj_r hm.2.2 (by decide))))
      rw [show mm_up M2 0 9 0 0 8 = X 0 8 from (up_n (by omega)).trans y08]
      have x2' : ∀ r, r < n → M2 1 r = mk M k 15 r ∧ M2 2 r = mk M k 16 r ∧ M2 3 r = mk M k 17 r ∧ M2 4 r = mk M k 18 r ∧ M2 5 r = 0 := fun r hr => by
        obtain ⟨y1, y2, y3, y4, y5⟩ := x2 r hr
        exact ⟨y1.trans (u0 15 r (by omega)), y2.trans (u0 16 r (by omega)), y3.trans (u0 17 r (by omega)), y4.trans (u0 18 r (by omega)), y5⟩
      have fm : ∀ q i, ¬ (1 ≤ q ∧ q ≤ 5 ∧ i < n) → ¬ (q = 0 ∧ i ≤ 1) → M2 q i = mk M k q i := fun q i y1 y2 => (x1 q i y1).trans (u0 q i y2)
      refine ⟨?_, nT T (mk M k) n, tk, L, _, hwF, hcF, ⟨nT_pj hm.1.1 o2 fm ((x1 0 0 (by omega)).trans ((up_n (by omega)).trans (up_s _ _ _ _))) ((x1 0 1 (by omega)).trans (up_s _ _ _ _)) x2' _ _, fun p hp => by rw [nT_P] at hp; omega⟩, ?_, ?_⟩
      · rw [up_n (by omega), up_n (by omega), up_n (by omega)]
        exact ((x1 0 1 (by omega)).trans (up_s _ _ _ _)).symm
      · refine lj_fr hm.2.1 (fun q i y => ?_)
        rw [up_n (by omega), up_n (by omega), up_n (by omega), fm q i (by omega) (by omega)]
        exact o2 q i (by omega) (by omega)
      · have hX0 : xj M2 = X := xj_fr hm.2.2 (fun q i y => (fm q i (by omega) (by omega)).trans (o2 q i (by omega) (by omega)))
        rw [xj_up (by decide), xj_up (by decide), xj_fr hX0 (fun q i y => up_n (by omega))]
    · have hM : mX8_net M (fun r' M' => -103 = r' ∧ Inv C1 M') := by
        unfold mX8_net
        refine q8_read hz h23 hl a b (fun M1 o2 e2 => ?_)
        have hI : Inv C1 M1 := ⟨T, tk, L, X, hw, hc1, hm.rd o2⟩
        have e3 := e2 rfl
        subst e3
        refine ⟨fun _ => ⟨rfl, hI⟩, fun _ => ⟨fun _ => ⟨rfl, hI⟩, fun g1 => ⟨fun g2 => ?_, fun _ => ⟨rfl, hI⟩⟩⟩⟩
        have := r1.1.2.1
        omega
      have hN : ¬ (C1 1 3 = 1 ∧ 0 < C1 3 1) := fun g => hwh ⟨by
        have := g.1
        rw [r2] at this
        unfold pf at this
        split at this <;> omega, by have := r1.1.1; omega⟩
      exact ⟨fun _ => ⟨Or.inl rfl, cn0 hM⟩, fun g1 => ⟨fun _ => ⟨Or.inl rfl, cn0 hM⟩, fun g2 => absurd ⟨g1, g2⟩ hN⟩⟩
end S63
