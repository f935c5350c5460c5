/-! one set more is processed; the model's reach -/
theorem DI_skip {N : mm_M} (hN : wf N) {n0 : Nat} {v : Int} {n m : Nat} {c1 c2 c3 : Int} {M : mm_M} (hmn : m < n) (hn : n ≤ all N (Pn N)) (hv : po N m = v) (hb : ∀ k, m < k → k < n → po N k ≠ v) (h : DI N n0 v n c1 c2 c3 M) (hd : M 24 m = -1) : DI N n0 v m c1 c2 c3 M := by
  have hmax := DI_max hN h hv
  have hno : ∀ s, ¬ Pth N n0 s m := fun s hs => by have := hmax s hs; omega
  obtain ⟨h1, h2, h3, h4, h5, h6, h7, h8⟩ := h
  have hp : ∀ k, k < all N (Pn N) → prc' N v m k → prc' N v n k ∨ k = m := fun k hk hpr => by
    rcases hpr with z | ⟨z1, z2⟩
    · exact Or.inl (Or.inl z)
    · by_cases e : k = m
      · exact Or.inr e
      · by_cases e2 : n ≤ k
        · exact Or.inl (Or.inr ⟨z1, e2⟩)
        · exact absurd z1 (hb k (by omega) (by omega))
  refine ⟨h1, h2, fun p hpA hpr s o hs => ?_, ?_, ?_, h6, fun k hk hpr s hs => ?_, h8⟩
  · rcases hp p hpA hpr with z | z
    · exact h3 p hpA z s o hs
    · subst z; exact absurd hs (hno s)
  · rw [pI_step _ hmn hn hv hb, ← h4, rchI_0 hno, Int.add_zero]
  · rw [pI_step _ hmn hn hv hb, ← h5, rchI_0 hno]
    simp
  · rcases hp k hk hpr with z | z
    · exact h7 k hk z s hs
    · subst z; exact absurd hs (hno s)
theorem DI_do {N : mm_M} (hN : wf N) {n0 : Nat} {v : Int} {n m : Nat} {c1 c2 c3 c3' : Int} {M M' : mm_M} (hmn : m < n) (hn : n ≤ all N (Pn N)) (hv : po N m = v) (hb : ∀ k, m < k → k < n → po N k ≠ v) (h : DI N n0 v n c1 c2 c3 M) (hd : ¬ M 24 m = -1) (hs : SP N m M M' (fun _ _ => True)) (hc : c3' = if c3 < M 24 m then M 24 m else c3) : DI N n0 v m (c1 + 1) (c2 + (if rq N m = -1 then 1 else 0)) c3' M' := by
  have hmax := DI_max hN h hv
  obtain ⟨h1, h2, h3, h4, h5, h6, h7, h8⟩ := h
  obtain ⟨s1, s2, s3, s4, s5, s6⟩ := hs
  have hmA : m < all N (Pn N) := by omega
  have hd0 : 0 ≤ M 24 m := by have := (h1 m hmA).1; omega
  have hpm := (h1 m hmA).2 hd0
  have hr1 := rchI_1 hpm
  have up : ∀ o, M 24 o ≤ M' 24 o := fun o => by
    rcases s4 o with z | ⟨z1, z2, z3⟩ <;> omega
  have hp : ∀ k, k < all N (Pn N) → prc' N v m k → prc' N v n k ∨ k = m := fun k hk hpr => by
    rcases hpr with z | ⟨z1, z2⟩
    · exact Or.inl (Or.inl z)
    · by_cases e : k = m
      · exact Or.inr e
      · by_cases e2 : n ≤ k
        · exact Or.inl (Or.inr ⟨z1, e2⟩)
        · exact absurd z1 (hb k (by omega) (by omega))
  refine ⟨fun k hk => ?_, by have := up n0; omega, fun p hpA hpr s o hs he => ?_, ?_, ?_, ?_, fun k hk hpr s hs => ?_, ?_⟩
  · rcases s4 k with z | ⟨z1, z2, z3⟩
    · rw [z]; exact h1 k hk
    · refine ⟨by omega, fun _ => ?_⟩
      rw [z2, show (M 24 m + 1).toNat = (M 24 m).toNat + 1 by omega]
      exact ⟨m, hmA, hpm, z1⟩
  · rcases hp p hpA hpr with z | z
    · have := h3 p hpA z s o hs he
      have := up o
      omega
    · subst z
      have h9 := hmax s hs
      obtain ⟨p', w', a1, a2, a3, a4⟩ := he
      have := s5 p' w' trivial a1 a2 a4 o a3
      omega
  · rw [pI_step _ hmn hn hv hb, ← h4, hr1]
  · rw [pI_step _ hmn hn hv hb, ← h5, hr1]
  · rw [hc]; split <;> omega
  · rcases hp k hk hpr with z | z
    · have := h7 k hk z s hs
      rw [hc]; split <;> omega
    · subst z
      have := hmax s hs
      rw [hc]; split <;> omega
  · rw [hc]
    split
    · right; exact ⟨m, hpm⟩
    · exact h8
/-- the three answers of reach -/
noncomputable def rea (N : mm_M) (n0 : Nat) (what : Int) (L : Nat) : Int := if what = 0 then sm (all N (Pn N)) (rchI N n0) else if what = 1 then sm (all N (Pn N)) (fun m => if rq N m = -1 then rchI N n0 m else 0) else (L : Int)
theorem q8_reachNow {N : mm_M} {tk : Nat → Nat} (hN : wf N) (ht : wfT N tk) (ha : all N (Pn N) ≤ 500) {what : Int} {M : mm_M} (hm : ms M N tk) {Q : Int → mm_M → Prop}
    (h : ∀ L M', osc M M' → ms M' N tk → isLng N (nmb N tk (Pn N)) L → Q (rea N (nmb N tk (Pn N)) what L) M') : mX8_reachNow what M Q := by
  have h0 := nmb_lt ht (Pn N) (Nat.le_refl _)
  refine q8_keep hN hm (fun M1 a1 a2 a3 => q8_numberNow hN ht a2 (q8_layChains hN ha a2 (fun M2 b1 b2 b3 => ?_)))
  generalize nmb N tk (Pn N) = n0 at h0 h ⊢
  rw [Int.toNat_natCast]
  refine ⟨by omega, ?_⟩
  generalize hM3 : mm_up M2 24 n0 0 = M3
  have c1 : oc M1 M3 := by
    rw [← hM3]; exact b1.tr (fun q i _ _ _ _ e => up_n (Or.inl e))
  have c2 : chn M3 N (all N (Pn N)) := by
    rw [← hM3]
    exact ⟨fun v hv => (up_n (Or.inl (by decide))).trans (b2.1 v hv), fun n hn => (up_n (Or.inl (by decide))).trans (b2.2 n hn)⟩
  have c3 : DI N n0 4350 (all N (Pn N)) 0 0 0 M3 := by
    have hno : ∀ k, k < all N (Pn N) → ¬ prc' N 4350 (all N (Pn N)) k := fun k hk => by
      have := po_bd hN k
      rintro (z | ⟨-, z⟩) <;> omega
    have hz : ∀ f, sm (all N (Pn N)) (pI N 4350 (all N (Pn N)) f) = 0 := fun f => sm_zero (fun k hk => by unfold pI; rw [if_neg (hno k hk)])
    refine ⟨fun k hk => ?_, ?_, fun p hp hpr => absurd hpr (hno p hp), (hz _).symm, (hz _).symm, Int.le_refl _, fun k hk hpr => absurd hpr (hno k hk), Or.inl rfl⟩
    · rw [← hM3]
      by_cases e : k = n0
      · subst e; rw [up_s]; exact ⟨by omega, fun _ => rfl⟩
      · rw [up_n (Or.inr e), b3 k hk]; exact ⟨by omega, fun z => by omega⟩
    · rw [← hM3, up_s]; exact Int.le_refl _
  have key : ∃ j, bX8_reachNow_33 j what n0 0 0 0 (4350 - ((0 : Nat) : Int)) M3 Q := by
    refine pk_loop (fun j (i : Nat) (s : (Int × Int × Int) × mm_M) => bX8_reachNow_33 j what n0 s.1.1 s.1.2.1 s.1.2.2 (4350 - (i : Int)) s.2 Q) (fun i s => oc M1 s.2 ∧ chn s.2 N (all N (Pn N)) ∧ DI N n0 (4350 - (i : Int)) (all N (Pn N)) s.1.1 s.1.2.1 s.1.2.2 s.2) 4351 0 ((0, 0, 0), M3) (Nat.zero_le _) ⟨c1, c2, (show DI N n0 (4350 - ((0 : Nat) : Int)) (all N (Pn N)) 0 0 0 M3 by rw [show (4350 : Int) - ((0 : Nat) : Int) = 4350 by omega]; exact c3)⟩ ?_ ?_
    · rintro j ⟨⟨x1, x2, x3⟩, M4⟩ ⟨d1, d2, d3⟩
      dsimp only at d1 d2 d3 ⊢
      unfold bX8_reachNow_33
      refine ⟨fun _ => q8_putBack hN (d1.osc.pj a2.1) (d1.kept a3) (fun M5 e1 e2 => ?_), fun g => by omega⟩
      obtain ⟨h1, h2, h3, h4, h5, h6, h7, h8⟩ := d3
      have hall : ∀ k, prc' N (4350 - ((4351 : Nat) : Int)) (all N (Pn N)) k := fun k => by
        have := po_bd hN k
        left; omega
      have hsm : ∀ f, sm (all N (Pn N)) (pI N (4350 - ((4351 : Nat) : Int)) (all N (Pn N)) f) = sm (all N (Pn N)) f := fun f => sm_congr (fun k _ => by unfold pI; rw [if_pos (hall k)])
      rw [hsm] at h4 h5
      have hL : isLng N n0 x3.toNat := by
        refine ⟨?_, fun s k hs => ?_⟩
        · rcases h8 with z | z
          · rw [z]; exact ⟨n0, rfl⟩
          · exact z
        · have hk := (Pth_bd hN h0 s k hs).1
          have := h7 k hk (hall k) s hs
          omega
      have hq := h x3.toNat M5 ((a1.osc.tr d1.osc).tr e1.osc) e2 hL
      unfold rea at hq
      refine ⟨fun g => ⟨fun g2 => ?_, fun g2 => ?_⟩, fun g => ?_⟩
      · rw [if_neg g, if_neg g2, Int.toNat_of_nonneg h6] at hq; exact hq
      · rw [if_neg g, if_pos g2, ← h5] at hq; exact hq
      · rw [if_pos g, ← h4] at hq; exact hq
    · rintro j i ⟨⟨x1, x2, x3⟩, M4⟩ hi ⟨d1, d2, d3⟩ ih
      dsimp only at d1 d2 d3 ⊢
      unfold bX8_reachNow_33
      have ev : (4350 - (i : Int)) = ((4350 - i : Nat) : Int) := by omega
      rw [ev, Int.toNat_natCast, d2.1 (4350 - i) (by omega)]
      rw [ev] at d3
      refine ⟨fun g => by omega, fun _ => ⟨by omega, ?_⟩⟩
      generalize hvv : ((4350 - i : Nat) : Int) = v at d3 ⊢
      refine loop_m (fun j2 (s : (Nat × Int × Int × Int) × mm_M) => bX8_reachNow_47 (fun v1 v2 v3 v4 v5 v6 M => bX8_reachNow_33 j v1 v2 v3 v4 v5 v6 M Q) j2 what n0 s.1.2.1 s.1.2.2.1 s.1.2.2.2 v (prv N v s.1.1) s.2 Q) (fun s => s.1.1 ≤ all N (Pn N) ∧ oc M1 s.2 ∧ chn s.2 N (all N (Pn N)) ∧ DI N n0 v s.1.1 s.1.2.1 s.1.2.2.1 s.1.2.2.2 s.2) (fun s => s.1.1) ?_ ((all N (Pn N), x1, x2, x3), M4) ⟨Nat.le_refl _, d1, d2, d3⟩
      rintro j2 ⟨⟨n, y1, y2, y3⟩, M5⟩ ⟨e1, e2, e3, e4⟩ ih2
      dsimp only at e1 e2 e3 e4 ⊢
      unfold bX8_reachNow_47
      rcases prv_ok N v n with ⟨p1, p2⟩ | ⟨m, p1, p2, p3, p4⟩
      · refine ⟨fun _ => ?_, fun g => absurd p1 g⟩
        rw [mm_w_id (z := v + -1) (by omega) (by omega), show v + -1 = 4350 - ((i + 1 : Nat) : Int) by omega]
        refine ih ((y1, y2, y3), M5) ⟨e2, e3, ?_⟩
        have := DI_next p2 e4
        rw [show v - 1 = 4350 - ((i + 1 : Nat) : Int) by omega] at this
        exact this
      · rw [p2, Int.toNat_natCast]
        have hmA : m < all N (Pn N) := by omega
        have hdm := DI_le hN h0 e4 hmA
        have hnx : M5 23 m = prv N v m := by rw [e3.2 m hmA, p3]
        have hy3 := e4.2.2.2.2.2.1
        refine ⟨fun g => by omega, fun _ => ⟨by omega, fun g => ⟨by omega, ?_⟩, fun g => ?_⟩⟩
        · rw [hnx]
          exact ih2 ((m, y1, y2, y3), M5) ⟨by show m ≤ _; omega, e2, e3, DI_skip hN p1 e1 p3 p4 e4 g⟩ p1
        · refine q8_spread hN ha hmA (e2.osc.pj a2.1) (by omega) (fun M6 f1 => q8_restless hN (tkn_wf hN m) f1.2.1 (fun z M7 g1 g2 => ?_))
          have hz : rq N m = z := rz_eq g2
          have hs7 : ∀ i, M7 24 i = M6 24 i := fun i => g1 24 i (by decide)
          have o7 : o24 M5 M7 := f1.1.tr g1.o9.o24
          have c7 : chn M7 N (all N (Pn N)) := ⟨fun v hv => (o7 22 v (by decide) (by decide) (by decide)).trans (e3.1 v hv), fun k hk => (o7 23 k (by decide) (by decide) (by decide)).trans (e3.2 k hk)⟩
          have hnx7 : M7 23 m = prv N v m := by rw [c7.2 m hmA, p3]
          have hb1 : ∀ c, c = y1 → 0 ≤ c ∧ c ≤ 500 := fun c hc => by
            rw [hc, e4.2.2.2.1]
            have := sm_bd (n := all N (Pn N)) (f := pI N v n (rchI N n0)) (c := 1) (fun k _ => by
              unfold pI
              split
              · unfold rchI; split <;> omega
              · omega)
            omega
          have hb2 : 0 ≤ y2 ∧ y2 ≤ 500 := by
            rw [e4.2.2.2.2.1]
            have := sm_bd (n := all N (Pn N)) (f := pI N v n (fun m => if rq N m = -1 then rchI N n0 m else 0)) (c := 1) (fun k _ => by
              unfold pI
              split
              · dsimp only
                split
                · unfold rchI; split <;> omega
                · omega
              · omega)
            omega
          have hb1 := hb1 y1 rfl
          have hd7 : M7 24 m = M5 24 m := (hs7 m).trans f1.2.2.2.2.2
          have fin : ∀ (f c3' : Int), f = (if rq N m = -1 then 1 else 0) → c3' = (if y3 < M5 24 m then M5 24 m else y3) → bX8_reachNow_47 (fun v1 v2 v3 v4 v5 v6 M => bX8_reachNow_33 j v1 v2 v3 v4 v5 v6 M Q) j2 what n0 (y1 + 1) (y2 + f) c3' v (prv N v m) M7 Q := fun f c3' hf hc => by
            have hdi := DI_do hN p1 e1 p3 p4 e4 g f1 hc
            rw [← hf] at hdi
            have hdi7 : DI N n0 v m (y1 + 1) (y2 + f) c3' M7 := by
              obtain ⟨h1, h2, h3, h4⟩ := hdi
              exact ⟨fun k hk => by rw [hs7]; exact h1 k hk, by rw [hs7]; exact h2, fun p hp hpr s o hs he => by rw [hs7]; exact h3 p hp hpr s o hs he, h4⟩
            exact ih2 ((m, y1 + 1, y2 + f, c3'), M7) ⟨by show m ≤ _; omega, e2.tr o7.oc, c7, hdi7⟩ p1
          rw [mm_w_id (z := y1 + 1) (by omega) (by omega)]
          unfold bX8_reachNow_89
          rw [Int.toNat_natCast, hd7, hnx7, mm_w_id (z := y2 + 0) (by omega) (by omega), mm_w_id (z := y2 + 1) (by omega) (by omega)]
          refine ⟨fun q => ⟨by omega, fun q2 => ⟨by omega, fin 0 y3 ?_ ?_⟩, fun q2 => ⟨by omega, by omega, fin 0 _ ?_ ?_⟩⟩, fun q => ⟨by omega, fun q2 => ⟨by omega, fin 1 y3 ?_ ?_⟩, fun q2 => ⟨by omega, by omega, fin 1 _ ?_ ?_⟩⟩⟩
          · rw [hz, if_neg q]
          · rw [if_neg (by omega)]
          · rw [hz, if_neg q]
          · rw [if_pos q2]
          · rw [hz, if_pos q]
          · rw [if_neg (by omega)]
          · rw [hz, if_pos q]
          · rw [if_pos q2]
  exact key
