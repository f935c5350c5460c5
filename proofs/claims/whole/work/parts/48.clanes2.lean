/-! the class: the four partings -/
def isEv (N : mm_M) (V W P : Int) (x : Nat → Int) : Prop := isLv N (N 12) (4 * N 0 21) V W ∧ (0 ≤ V ∧ V ≤ 100000000) ∧ P = 4 * W ∧ ∀ k, k < Ln N → x k = wt N k * mx (V - N 12 k * W)
def isWi (N : mm_M) (P : Int) (x : Nat → Int) : Prop := ∃ V W, isLv N (N 12) (8 * N 0 21) V W ∧ P = 8 * W ∧ ∀ k, k < Ln N → x k = wt N k * mx (V - N 12 k * W)
noncomputable def ldN (N : mm_M) (P : Int) (x : Nat → Int) (k : Nat) : Int := ldf N P x (P * N 0 22 * N 0 21) k
def isLe (N : mm_M) (P : Int) (y : Nat → Int) : Prop := ∃ Pw x, isWi N Pw x ∧ P = 10 * Pw ∧ ∀ k, k < Ln N → y k = ldN N Pw x k
noncomputable def bas (N : mm_M) (P : Int) (x : Nat → Int) (k : Nat) : Int := N 12 k * (10 * P) + N 13 k * ldN N P x k
def isLd (N : mm_M) (P : Int) (y : Nat → Int) : Prop := ∃ Pw x, isWi N Pw x ∧ ((∃ V W, isLv N (bas N Pw x) (4 * (Pw * (10 - N 0 22) * N 0 21)) V W ∧ P = 4 * W * (10 * Pw) ∧ ∀ k, k < Ln N → y k = wt N k * mx (V - bas N Pw x k * W) + 4 * W * ldN N Pw x k) ∨ (N 0 22 = 10 ∧ P = 10 * Pw ∧ ∀ k, k < Ln N → y k = ldN N Pw x k))
theorem wi_bd {N : mm_M} (hL : wfL N) {P : Int} {x : Nat → Int} (h : isWi N P x) : (8 ≤ P ∧ P ≤ 160) ∧ ∀ k, k < Ln N → 0 ≤ x k ∧ x k ≤ 40 * P := by
  obtain ⟨V, W, h1, h2, h3⟩ := h
  have hW := h1.1
  refine ⟨by omega, fun k hk => ?_⟩
  have := lv_le h1 hk
  rw [h3 k hk]
  have h4 : N 0 21 * W ≤ 40 * W := Int.mul_le_mul_of_nonneg_right hL.2.2.1.2 (by omega)
  have h5 : 8 * N 0 21 * W = 8 * (N 0 21 * W) := by grind
  rw [h5] at this
  generalize N 0 21 * W = t at *
  omega
theorem ld_bd {N : mm_M} (hL : wfL N) {P : Int} {x : Nat → Int} (h : isWi N P x) {k : Nat} (hk : k < Ln N) : 0 ≤ ldN N P x k ∧ ldN N P x k ≤ 64000 := by
  have h1 := wi_bd hL h
  have h2 := h1.2 k hk
  have h3 := ldf_bd (N := N) (P := P) (L := P * N 0 22 * N 0 21) (x := x) (k := k) h2.1
  show 0 ≤ ldf N P x (P * N 0 22 * N 0 21) k ∧ ldf N P x (P * N 0 22 * N 0 21) k ≤ _
  generalize ldf N P x (P * N 0 22 * N 0 21) k = t at *
  omega
theorem bas_bd {N : mm_M} (hL : wfL N) {P : Int} {x : Nat → Int} (h : isWi N P x) {k : Nat} (hk : k < Ln N) : (0 ≤ N 12 k * (10 * P) ∧ N 12 k * (10 * P) ≤ 32000) ∧ (0 ≤ N 13 k * ldN N P x k ∧ N 13 k * ldN N P x k ≤ 256000) ∧ 0 ≤ bas N P x k ∧ bas N P x k ≤ 2000000 := by
  have h1 := wi_bd hL h
  have h2 := ld_bd hL h hk
  have h3 := mul_bd (A := 20) (B := 1600) (hL.2.1 k hk).1 (show 0 ≤ 10 * P ∧ 10 * P ≤ 1600 by omega)
  have h4 := mul_bd (A := 4) (B := 64000) (show 0 ≤ N 13 k ∧ N 13 k ≤ 4 by have := (hL.2.1 k hk).2; omega) h2
  unfold bas
  generalize N 12 k * (10 * P) = s at *
  generalize N 13 k * ldN N P x k = t at *
  omega
theorem rst_bd {N : mm_M} (hL : wfL N) {P : Int} (h : 8 ≤ P ∧ P ≤ 160) : (0 ≤ P * N 0 22 ∧ P * N 0 22 ≤ 1600) ∧ (0 ≤ P * N 0 22 * N 0 21 ∧ P * N 0 22 * N 0 21 ≤ 64000) ∧ (0 ≤ P * (10 - N 0 22) ∧ P * (10 - N 0 22) ≤ 1600) ∧ (0 ≤ P * (10 - N 0 22) * N 0 21 ∧ P * (10 - N 0 22) * N 0 21 ≤ 64000) := by
  have a := mul_bd (A := 160) (B := 10) (show 0 ≤ P ∧ P ≤ 160 by omega) hL.2.2.2
  have b := mul_bd (A := 1600) (B := 40) a (show 0 ≤ N 0 21 ∧ N 0 21 ≤ 40 by have := hL.2.2.1; omega)
  have c := mul_bd (A := 160) (B := 10) (show 0 ≤ P ∧ P ≤ 160 by omega) (show 0 ≤ 10 - N 0 22 ∧ 10 - N 0 22 ≤ 10 by have := hL.2.2.2; omega)
  have d := mul_bd (A := 1600) (B := 40) c (show 0 ≤ N 0 21 ∧ N 0 21 ≤ 40 by have := hL.2.2.1; omega)
  exact ⟨a, b, c, d⟩
/-- off the lanes' own answers -/
def oLa (C C' : mm_M) : Prop := ∀ q i, q < 129 → (q = 125 → i ≠ 9 ∧ i ≠ 10 ∧ i ≠ 13 ∧ i ≠ 14) → C' q i = C q i
theorem oLa.tr {C C' C'' : mm_M} (h : oLa C C') (h2 : oLa C' C'') : oLa C C'' := fun q k a b => (h2 q k a b).trans (h q k a b)
theorem oLa.lC {C C' N : mm_M} (h : oLa C C') (hl : lC C N) : lC C' N := ⟨(h 125 3 (by decide) (by decide)).trans hl.1, (h 125 4 (by decide) (by decide)).trans hl.2.1, (h 125 5 (by decide) (by decide)).trans hl.2.2.1, fun k hk => ⟨(h 126 k (by decide) (by omega)).trans (hl.2.2.2 k hk).1, (h 127 k (by decide) (by omega)).trans (hl.2.2.2 k hk).2.1, (h 128 k (by decide) (by omega)).trans (hl.2.2.2 k hk).2.2⟩⟩
theorem oPr.oLa {v : Nat} {C C' : mm_M} (h : oPr v C C') (hv : 132 < v) : oLa C C' := fun q i a b => h q i (fun e => ⟨(b e).2.2.1, (b e).2.2.2⟩) (by omega) (by omega)
theorem q1_layGround {N : mm_M} (hL : wfL N) {C : mm_M} (hl : lC C N) {Q : mm_M → Prop} (h : ∀ C', (∀ q i, q ≠ 130 → C' q i = C q i) → grd C' N (N 12) → Q C') : mX1_layGround C Q := by
  have hn := wfL_n hL
  refine pk_loop (fun j (k : Nat) (C1 : mm_M) => bX1_layGround_2 j k C1 Q) (fun k C1 => (∀ q i, q ≠ 130 → C1 q i = C q i) ∧ ∀ i, i < k → C1 130 i = N 12 i) (Ln N) 0 C (Nat.zero_le _) ⟨fun _ _ _ => rfl, fun i hi => by omega⟩ ?_ ?_
  · rintro j C1 ⟨g1, g2⟩
    unfold bX1_layGround_2
    rw [(g1 125 3 (by decide)).trans hl.1]
    exact ⟨fun _ => h C1 g1 g2, fun g => by omega⟩
  · rintro j k C1 hk ⟨g1, g2⟩ ih
    unfold bX1_layGround_2
    rw [(g1 125 3 (by decide)).trans hl.1, Int.toNat_natCast, (g1 126 k (by decide)).trans (hl.2.2.2 k hk).1, w_1 hk (by omega)]
    refine ⟨fun g => by omega, fun _ => ⟨by omega, by omega, ih _ ⟨fun q i a => (up_n (Or.inl a)).trans (g1 q i a), fun i hi => ?_⟩⟩⟩
    by_cases e : i = k
    · subst e; rw [up_s]
    · rw [up_n (Or.inr e)]; exact g2 i (by omega)
theorem gB_A {N : mm_M} (hL : wfL N) : gB N (N 12) := fun k hk => by have := (hL.2.1 k hk).1; omega
theorem q1_partEven {N : mm_M} (hL : wfL N) (hn1 : 1 ≤ Ln N) {C : mm_M} (hl : lC C N) (hg : grd C N (N 12)) {Q : mm_M → Prop} (h : ∀ C' V W, oLa C C' → grd C' N (N 12) → isEv N V W (4 * W) (C' 133) → C' 125 9 = V → C' 125 10 = W → C' 129 0 = 4 * W → Q C') : mX1_partEven C Q := by
  refine ⟨by decide, ?_⟩
  rw [hl.2.1]
  have hD := hL.2.2.1
  refine q1_pour hL hn1 (by decide) hl hg (gB_A hL) (c := 4 * N 0 21) (by omega) (mm_wl_id (by omega) (by omega)) (fun C1 V W o1 lv v0 v1 h13 h14 hx => ⟨by decide, ?_⟩)
  have hW := lv.1
  rw [h13, mm_wl_id (z := 4 * W) (by omega) (by omega)]
  have u1 : ∀ z, (mm_up C1 129 0 z) 125 14 = V := fun z => (up_n (Or.inl (by decide))).trans h14
  have u2 : ∀ z y, (mm_up (mm_up C1 129 0 z) 125 9 y) 125 13 = W := fun z y => (up_n (Or.inr (by decide))).trans ((up_n (Or.inl (by decide))).trans h13)
  rw [u1, u2]
  refine h _ V W ((o1.oLa (by decide)).tr (fun q i a b => ?_)) (fun k hk => ?_) ⟨lv, ⟨v0, v1⟩, rfl, fun k hk => ?_⟩ ?_ ?_ ?_
  · have : q ≠ 125 ∨ (i ≠ 9 ∧ i ≠ 10) := by
      by_cases e : q = 125
      · exact Or.inr ⟨(b e).1, (b e).2.1⟩
      · exact Or.inl e
    rw [up_n (by omega), up_n (by omega), up_n (by omega)]
  · rw [up_n (Or.inl (by decide)), up_n (Or.inl (by decide)), up_n (Or.inl (by decide)), o1 130 k (by omega) (by decide) (by decide)]; exact hg k hk
  · rw [up_n (Or.inl (by decide)), up_n (Or.inl (by decide)), up_n (Or.inl (by decide))]; exact hx k hk
  · rw [up_n (Or.inr (by decide)), up_s]
  · rw [up_s]
  · rw [up_n (Or.inl (by decide)), up_n (Or.inl (by decide)), up_s]
theorem q1_partWise {N : mm_M} (hL : wfL N) (hn1 : 1 ≤ Ln N) {C : mm_M} (hl : lC C N) (hg : grd C N (N 12)) {Q : mm_M → Prop} (h : ∀ C', oPr 134 C (fun q i => if q = 129 ∧ i = 1 then C 129 1 else C' q i) → isWi N (C' 129 1) (C' 134) → Q C') : mX1_partWise C Q := by
  refine ⟨by decide, ?_⟩
  rw [hl.2.1]
  have hD := hL.2.2.1
  refine q1_pour hL hn1 (by decide) hl hg (gB_A hL) (c := 8 * N 0 21) (by omega) (mm_wl_id (by omega) (by omega)) (fun C1 V W o1 lv v0 v1 h13 h14 hx => ⟨by decide, ?_⟩)
  have hW := lv.1
  rw [h13, mm_wl_id (z := 8 * W) (by omega) (by omega)]
  refine h _ (fun q i a b c => ?_) ⟨V, W, lv, up_s _ _ _ _, fun k hk => (up_n (Or.inl (by decide))).trans (hx k hk)⟩
  dsimp only
  by_cases e : q = 129 ∧ i = 1
  · rw [if_pos e, e.1, e.2]
  · rw [if_neg e, up_n (by omega)]; exact o1 q i a b c
theorem q1_dearestOpen {N : mm_M} (hL : wfL N) {P : Int} (hP : 8 ≤ P ∧ P ≤ 160) {x : Nat → Int} (hx : ∀ k, k < Ln N → 0 ≤ x k ∧ x k ≤ 6400) {C : mm_M} (hl : lC C N) (h1 : C 129 1 = P) (h2 : ∀ k, k < Ln N → C 134 k = x k) {D : Nat → Bool} (hd : ∀ k, k < Ln N → C 131 k = if D k = true then 0 else 1) (hc : nO N D < Ln N) {Q : Int → mm_M → Prop} (h : ∀ m : Nat, top N P x D m → Q m C) : mX1_dearestOpenByWise C Q := by
  have hn := wfL_n hL
  refine pk_loop (fun j (k : Nat) (z : Int × Int) => bX1_dearestOpenByWise_9 j z.1 z.2 k C Q) (fun k z => (z.1 = 0 ∧ z.2 = -1 ∧ ∀ j, j < k → D j = true) ∨ ∃ m : Nat, m < k ∧ z.1 = m ∧ z.2 = cst N P x m ∧ ¬ D m = true ∧ ∀ j, j < k → ¬ D j = true → j ≠ m → cm N P x m j) (Ln N) 0 (0, -1) (Nat.zero_le _) (Or.inl ⟨rfl, rfl, fun j hj => by omega⟩) ?_ ?_
  · rintro j ⟨b, s⟩ g
    dsimp only at g ⊢
    unfold bX1_dearestOpenByWise_9
    rw [hl.1]
    refine ⟨fun _ => ?_, fun g => by omega⟩
    rcases g with ⟨-, -, a⟩ | ⟨m, m1, m2, m3, m4, m5⟩
    · exfalso
      have : nO N D = sm (Ln N) (fun _ => 1) := sm_congr (fun k hk => if_pos (a k hk))
      rw [sm_const] at this
      omega
    · subst m2; exact h m ⟨m1, m4, m5⟩
  · rintro j k ⟨b, s⟩ hk g ih
    dsimp only at g ih ⊢
    unfold bX1_dearestOpenByWise_9
    have b1 := mul_bd (A := 20) (B := 160) (hL.2.1 k hk).1 (show 0 ≤ P ∧ P ≤ 160 by omega)
    have b2 := mul_bd (A := 4) (B := 6400) (show 0 ≤ N 13 k ∧ N 13 k ≤ 4 by have := (hL.2.1 k hk).2; omega) (hx k hk)
    have e1 : cst N P x k = N 12 k * P + N 13 k * x k := rfl
    rw [hl.1, Int.toNat_natCast, (hl.2.2.2 k hk).1, (hl.2.2.2 k hk).2.1, h1, h2 k hk, hd k hk, w_1 hk (by omega), mm_wl_id (z := N 12 k * P) (by omega) (by omega), mm_wl_id (z := N 13 k * x k) (by omega) (by omega), mm_wl_id (z := N 12 k * P + N 13 k * x k) (by omega) (by omega), ← e1, cmp_le, cmp_gt]
    have hc0 : 0 ≤ cst N P x k := by omega
    generalize N 12 k * P = t1 at *
    generalize N 13 k * x k = t2 at *
    refine ⟨fun g => by omega, fun _ => ⟨by omega, by decide, by omega, by decide, by omega, by omega, fun e => ?_, fun e => ⟨fun q => ?_, fun q => ?_⟩⟩⟩
    · have dk : D k = true := by
        by_cases z : D k = true
        · exact z
        · rw [if_neg z] at e; omega
      refine ih (b, s) ?_
      rcases g with ⟨a1, a2, a3⟩ | ⟨m, m1, m2, m3, m4, m5⟩
      · exact Or.inl ⟨a1, a2, fun j hj => by
          by_cases ej : j = k
          · subst ej; exact dk
          · exact a3 j (by omega)⟩
      · exact Or.inr ⟨m, by omega, m2, m3, m4, fun j hj hdj he => by
          by_cases ej : j = k
          · subst ej; exact absurd dk hdj
          · exact m5 j (by omega) hdj he⟩
    · have dk : ¬ D k = true := fun z => by rw [if_pos z] at e; exact e rfl
      refine ih (b, s) ?_
      rcases g with ⟨a1, a2, a3⟩ | ⟨m, m1, m2, m3, m4, m5⟩
      · omega
      · exact Or.inr ⟨m, by omega, m2, m3, m4, fun j hj hdj he => by
          by_cases ej : j = k
          · subst ej; unfold cm; omega
          · exact m5 j (by omega) hdj he⟩
    · have dk : ¬ D k = true := fun z => by rw [if_pos z] at e; exact e rfl
      refine ih ((k : Int), cst N P x k) (Or.inr ⟨k, by omega, rfl, rfl, dk, fun j hj hdj he => ?_⟩)
      rcases g with ⟨a1, a2, a3⟩ | ⟨m, m1, m2, m3, m4, m5⟩
      · exact absurd (a3 j (by omega)) hdj
      · by_cases ej : j = m
        · subst ej; unfold cm; omega
        · have c1 := m5 j (by omega) hdj ej
          have c2 : cm N P x k m := by unfold cm; omega
          exact cm_tr c2 c1
