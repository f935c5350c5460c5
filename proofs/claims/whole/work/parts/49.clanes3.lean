/-! the class: leaders and led; all partings -/
theorem qJ_minl {x y : Int} {M : mm_M} {Q : Int → mm_M → Prop} (h : Q (mn x y) M) : mJ9_min_f86c9 x y M Q := by
  unfold mJ9_min_f86c9
  rw [cmp_gt, cmp_le]
  refine ⟨fun g => ?_, fun g => ?_⟩
  · have : mn x y = y := by unfold mn; rw [if_neg (by omega)]
    rw [this] at h; exact h
  · have : mn x y = x := by unfold mn; split <;> omega
    rw [this] at h; exact h
theorem sD_bd {N : mm_M} {x : Nat → Int} (hx : ∀ k, k < Ln N → 0 ≤ x k ∧ x k ≤ 6400) (D : Nat → Bool) : 0 ≤ sD' N x D ∧ sD' N x D ≤ Ln N * 6400 := sm_bd (fun k hk => by
  have := hx k hk
  split <;> omega)
theorem q1_partLeaders {N : mm_M} (hL : wfL N) {C : mm_M} (hl : lC C N) (hw : isWi N (C 129 1) (C 134)) {Q : mm_M → Prop} (h : ∀ C', (∀ q i, q ≠ 131 → q ≠ 136 → (q = 129 → i ≠ 3) → C' q i = C q i) → C' 129 3 = 10 * C 129 1 → (∀ k, k < Ln N → C' 136 k = ldN N (C 129 1) (C 134) k) → Q C') : mX1_partLeaders C Q := by
  have hn := wfL_n hL
  have hb := wi_bd hL hw
  generalize hP : C 129 1 = P at *
  have hr := rst_bd hL hb.1
  have hx : ∀ k, k < Ln N → 0 ≤ C 134 k ∧ C 134 k ≤ 6400 := fun k hk => by have := hb.2 k hk; omega
  refine ⟨by decide, by decide, by decide, ?_⟩
  rw [hP, mm_wl_id (z := 10 * P) (by omega) (by omega)]
  have u1 : (mm_up C 129 3 (10 * P)) 129 1 = P := (up_n (Or.inr (by decide))).trans hP
  have u2 : (mm_up C 129 3 (10 * P)) 125 5 = N 0 22 := (up_n (Or.inl (by decide))).trans hl.2.2.1
  have u3 : (mm_up C 129 3 (10 * P)) 125 4 = N 0 21 := (up_n (Or.inl (by decide))).trans hl.2.1
  rw [u1, u2, u3, mm_wl_id (z := P * N 0 22) (by omega) (by omega), mm_wl_id (z := P * N 0 22 * N 0 21) (by omega) (by omega)]
  have hLb := hr.2.1
  have eld : ∀ k, ldN N P (C 134) k = ldf N P (C 134) (P * N 0 22 * N 0 21) k := fun _ => rfl
  simp only [eld] at h
  clear eld hr
  generalize P * N 0 22 * N 0 21 = L at *
  have lC' : ∀ C1 : mm_M, (∀ q i, q ≠ 131 → q ≠ 136 → (q = 129 → i ≠ 3) → C1 q i = C q i) → lC C1 N := fun C1 g => ⟨(g 125 3 (by decide) (by decide) (by decide)).trans hl.1, (g 125 4 (by decide) (by decide) (by decide)).trans hl.2.1, (g 125 5 (by decide) (by decide) (by decide)).trans hl.2.2.1, fun k hk => ⟨(g 126 k (by decide) (by decide) (by omega)).trans (hl.2.2.2 k hk).1, (g 127 k (by decide) (by decide) (by omega)).trans (hl.2.2.2 k hk).2.1, (g 128 k (by decide) (by decide) (by omega)).trans (hl.2.2.2 k hk).2.2⟩⟩
  have main : ∀ C1 : mm_M, (∀ q i, q ≠ 131 → q ≠ 136 → (q = 129 → i ≠ 3) → C1 q i = C q i) → C1 129 3 = 10 * P → (∀ k, k < Ln N → C1 131 k = 1) → ∃ j, bX1_partLeaders_60 j L ((0 : Nat) : Int) C1 Q := by
    intro C1 o1 o2 o3
    refine pk_loop (fun j (k : Nat) (z : (Int × mm_M) × (Nat → Bool)) => bX1_partLeaders_60 j z.1.1 k z.1.2 Q) (fun k z => (∀ q i, q ≠ 131 → q ≠ 136 → (q = 129 → i ≠ 3) → z.1.2 q i = C q i) ∧ z.1.2 129 3 = 10 * P ∧ (∀ i, i < Ln N → z.1.2 131 i = if z.2 i = true then 0 else 1) ∧ cl N P (C 134) z.2 ∧ nO N z.2 = k ∧ z.1.1 = mx (L - 10 * sD' N (C 134) z.2) ∧ ∀ i, i < Ln N → z.2 i = true → z.1.2 136 i = ldf N P (C 134) L i) (Ln N) 0 ((L, C1), fun _ => false) (Nat.zero_le _) ⟨o1, o2, fun i hi => (o3 i hi).trans (if_neg Bool.false_ne_true).symm, fun j k _ _ q => absurd q Bool.false_ne_true, ?_, ?_, fun i _ q => absurd q Bool.false_ne_true⟩ ?_ ?_
    · show sm (Ln N) (fun k => if false = true then (1 : Int) else 0) = _
      rw [sm_zero (fun k _ => if_neg (by decide))]; rfl
    · show L = mx (L - 10 * sm (Ln N) (fun j => if false = true then C 134 j else 0))
      rw [sm_zero (fun k _ => if_neg (by decide)), mx_p (by omega)]; omega
    · rintro j ⟨⟨b, C2⟩, D⟩ ⟨g1, g2, g3, g4, g5, g6, g7⟩
      dsimp only at g1 g2 g3 g4 g5 g6 g7 ⊢
      unfold bX1_partLeaders_60
      rw [(lC' C2 g1).1]
      refine ⟨fun _ => h C2 g1 g2 (fun k hk => g7 k hk ?_), fun g => by omega⟩
      by_cases d : D k = true
      · exact d
      · have := sm_lt (n := Ln N) (j := k) (f := fun j => if D j = true then (1 : Int) else 0) (g := fun _ => 1) hk (fun i _ => by split <;> omega) (by rw [if_neg d]; omega)
        rw [sm_const] at this
        unfold nO at g5
        omega
    · rintro j k ⟨⟨b, C2⟩, D⟩ hk ⟨g1, g2, g3, g4, g5, g6, g7⟩ ih
      dsimp only at g1 g2 g3 g4 g5 g6 g7 ih ⊢
      unfold bX1_partLeaders_60
      have l2 := lC' C2 g1
      rw [l2.1, w_1 hk (by omega)]
      refine ⟨fun g => by omega, fun _ => ?_⟩
      have f134 : ∀ i, C2 134 i = C 134 i := fun i => g1 134 i (by decide) (by decide) (by omega)
      refine q1_dearestOpen hL hb.1 hx l2 ((g1 129 1 (by decide) (by decide) (by decide)).trans hP) (fun i _ => f134 i) g3 (by omega) (fun m tm => ?_)
      have hm := tm.1
      have hxm := hx m hm
      rw [Int.toNat_natCast, f134, mm_wl_id (z := 10 * C 134 m) (by omega) (by omega)]
      refine ⟨by decide, by omega, qJ_minl ⟨by decide, by omega, by omega, ?_⟩⟩
      have hsb := sD_bd hx D
      have e1 : mn b (10 * C 134 m) = ldf N P (C 134) L m := by
        unfold ldf
        rw [ahd_top g4 tm, g6]
      have e2 : b - mn b (10 * C 134 m) = mx (L - 10 * sD' N (C 134) (add1 D m)) := by
        rw [g6, mn_sub _ _ (by omega), sD_add hm tm.2.1]
        congr 1
        omega
      have hmb := mx_0 (L - 10 * sD' N (C 134) D)
      have hmb2 : mx (L - 10 * sD' N (C 134) D) ≤ 64000 := by unfold mx; split <;> omega
      have hmb3 : 0 ≤ mn b (10 * C 134 m) ∧ mn b (10 * C 134 m) ≤ 64000 := by unfold mn; split <;> omega
      rw [mm_wl_id (z := b - mn b (10 * C 134 m)) (by omega) (by omega)]
      refine ih ((_, mm_up (mm_up C2 136 m (mn b (10 * C 134 m))) 131 m 0), add1 D m) ⟨fun q i a1 a2 a3 => ?_, ?_, fun i hi => ?_, cl_add g4 tm, ?_, e2, fun i hi hd => ?_⟩
      · show (mm_up (mm_up C2 136 m (mn b (10 * C 134 m))) 131 m 0) q i = _
        rw [up_n (Or.inl a1), up_n (Or.inl a2)]; exact g1 q i a1 a2 a3
      · show (mm_up (mm_up C2 136 m (mn b (10 * C 134 m))) 131 m 0) 129 3 = _
        rw [up_n (Or.inl (by decide)), up_n (Or.inl (by decide))]; exact g2
      · show (mm_up (mm_up C2 136 m (mn b (10 * C 134 m))) 131 m 0) 131 i = _
        by_cases e : i = m
        · subst e; rw [up_s, if_pos (add1_iff.mpr (Or.inr rfl))]
        · rw [up_n (Or.inr e), up_n (Or.inl (by decide)), g3 i hi]
          by_cases d : D i = true
          · rw [if_pos d, if_pos (add1_iff.mpr (Or.inl d))]
          · rw [if_neg d, if_neg (fun q => by rcases add1_iff.mp q with z | z; exact d z; exact e z)]
      · rw [nO_add hm tm.2.1, g5]; omega
      · show (mm_up (mm_up C2 136 m (mn b (10 * C 134 m))) 131 m 0) 136 i = _
        rw [up_n (Or.inl (by decide))]
        by_cases e : i = m
        · subst e; rw [up_s, e1]
        · rw [up_n (Or.inr e)]
          refine g7 i hi ?_
          rcases add1_iff.mp hd with z | z
          · exact z
          · exact absurd z e
  refine pk_loop (fun j (k : Nat) (C1 : mm_M) => bX1_partLeaders_37 j L k C1 Q) (fun k C1 => (∀ q i, q ≠ 131 → q ≠ 136 → (q = 129 → i ≠ 3) → C1 q i = C q i) ∧ C1 129 3 = 10 * P ∧ ∀ i, i < k → C1 131 i = 1) (Ln N) 0 _ (Nat.zero_le _) ⟨fun q i a b c => up_n (by omega), up_s _ _ _ _, fun i hi => by omega⟩ ?_ ?_
  · rintro j C1 ⟨g1, g2, g3⟩
    unfold bX1_partLeaders_37
    rw [(lC' C1 g1).1]
    exact ⟨fun _ => main C1 g1 g2 g3, fun g => by omega⟩
  · rintro j k C1 hk ⟨g1, g2, g3⟩ ih
    unfold bX1_partLeaders_37
    rw [(lC' C1 g1).1, Int.toNat_natCast, w_1 hk (by omega)]
    refine ⟨fun g => by omega, fun _ => ⟨by omega, ih _ ⟨fun q i a b c => (up_n (Or.inl a)).trans (g1 q i a b c), (up_n (Or.inl (by decide))).trans g2, fun i hi => ?_⟩⟩⟩
    by_cases e : i = k
    · subst e; rw [up_s]
    · rw [up_n (Or.inr e)]; exact g3 i (by omega)
theorem ldt_bd {W z : Int} (hW : 1 ≤ W ∧ W ≤ 20) (hz : 0 ≤ z ∧ z ≤ 64000) : 0 ≤ 4 * W * z ∧ 4 * W * z ≤ 5120000 := by
  have := mul_bd (A := 80) (B := 64000) (show 0 ≤ 4 * W ∧ 4 * W ≤ 80 by omega) hz
  omega
theorem q1_partLed {N : mm_M} (hL : wfL N) (hn1 : 1 ≤ Ln N) {C : mm_M} (hl : lC C N) (hw : isWi N (C 129 1) (C 134)) (h3 : C 129 3 = 10 * C 129 1) (h136 : ∀ k, k < Ln N → C 136 k = ldN N (C 129 1) (C 134) k) {Q : mm_M → Prop} (h : ∀ C', (∀ q i, q ≠ 130 → q ≠ 131 → q ≠ 135 → (q = 129 → i ≠ 2) → (q = 125 → i ≠ 13 ∧ i ≠ 14) → C' q i = C q i) → isLd N (C' 129 2) (C' 135) → Q C') : mX1_partLed C Q := by
  have hn := wfL_n hL
  have hb := wi_bd hL hw
  have hld : ∀ k, k < Ln N → 0 ≤ ldN N (C 129 1) (C 134) k ∧ ldN N (C 129 1) (C 134) k ≤ 64000 := fun k hk => ld_bd hL hw hk
  have hbs : ∀ k, k < Ln N → _ := fun k hk => bas_bd hL hw hk
  refine ⟨by decide, ?_⟩
  rw [h3]
  refine pk_loop (fun j (k : Nat) (C1 : mm_M) => bX1_partLed_9 j (10 * C 129 1) k C1 Q) (fun k C1 => (∀ q i, q ≠ 130 → C1 q i = C q i) ∧ ∀ i, i < k → C1 130 i = bas N (C 129 1) (C 134) i) (Ln N) 0 C (Nat.zero_le _) ⟨fun _ _ _ => rfl, fun i hi => by omega⟩ ?_ ?_
  · rintro j C1 ⟨g1, g2⟩
    unfold bX1_partLed_9
    have l1 : lC C1 N := ⟨(g1 125 3 (by decide)).trans hl.1, (g1 125 4 (by decide)).trans hl.2.1, (g1 125 5 (by decide)).trans hl.2.2.1, fun k hk => ⟨(g1 126 k (by decide)).trans (hl.2.2.2 k hk).1, (g1 127 k (by decide)).trans (hl.2.2.2 k hk).2.1, (g1 128 k (by decide)).trans (hl.2.2.2 k hk).2.2⟩⟩
    have hr := rst_bd hL hb.1
    have hs := hL.2.2.2
    rw [l1.1, g1 129 1 (by decide), l1.2.2.1, l1.2.1, mm_w_id (z := 10 - N 0 22) (by omega) (by omega), mm_wl_id (z := C 129 1 * (10 - N 0 22)) (by omega) (by omega), mm_wl_id (z := C 129 1 * (10 - N 0 22) * N 0 21) (by omega) (by omega)]
    refine ⟨fun _ => ⟨by decide, by decide, ?_⟩, fun g => by omega⟩
    refine q1_pour hL hn1 (v := 135) (by decide) l1 g2 (fun k hk => (hbs k hk).2.2) (c := 4 * (C 129 1 * (10 - N 0 22) * N 0 21)) (by omega) (mm_wl_id (by omega) (by omega)) (fun C2 V W o1 lv v0 v1 h13 h14 hx => ⟨by decide, ?_⟩)
    have hW := lv.1
    have hP4 := mul_bd (A := 80) (B := 1600) (show 0 ≤ 4 * W ∧ 4 * W ≤ 80 by omega) (show 0 ≤ 10 * C 129 1 ∧ 10 * C 129 1 ≤ 1600 by omega)
    rw [h13, mm_wl_id (z := 4 * W) (by omega) (by omega), mm_wl_id (z := 4 * W * (10 * C 129 1)) (by omega) (by omega)]
    have hoC : ∀ q i, q ≠ 130 → q ≠ 131 → q ≠ 135 → (q = 125 → i ≠ 13 ∧ i ≠ 14) → C2 q i = C q i := fun q i a b c d => (o1 q i d b c).trans (g1 q i a)
    have hxb : ∀ k, k < Ln N → 0 ≤ wt N k * mx (V - bas N (C 129 1) (C 134) k * W) ∧ wt N k * mx (V - bas N (C 129 1) (C 134) k * W) ≤ 5120000 := fun k hk => by
      have a := lv_le lv hk
      have b := mul_bd (A := 256000) (B := 20) (show 0 ≤ 4 * (C 129 1 * (10 - N 0 22) * N 0 21) ∧ 4 * (C 129 1 * (10 - N 0 22) * N 0 21) ≤ 256000 by omega) (show 0 ≤ W ∧ W ≤ 20 by omega)
      exact ⟨a.1, Int.le_trans a.2 (Int.le_trans b.2 (by decide))⟩
    refine pk_loop (fun j (k : Nat) (C3 : mm_M) => bX1_partLed_107 j k C3 Q) (fun k C3 => (∀ q i, q ≠ 135 → C3 q i = (mm_up C2 129 2 (4 * W * (10 * C 129 1))) q i) ∧ ∀ i, i < Ln N → C3 135 i = if i < k then wt N i * mx (V - bas N (C 129 1) (C 134) i * W) + 4 * W * ldN N (C 129 1) (C 134) i else wt N i * mx (V - bas N (C 129 1) (C 134) i * W)) (Ln N) 0 _ (Nat.zero_le _) ⟨fun _ _ _ => rfl, fun i hi => ?_⟩ ?_ ?_
    · rw [if_neg (by omega), up_n (Or.inl (by decide))]; exact hx i hi
    · rintro j C3 ⟨k1, k2⟩
      unfold bX1_partLed_107
      rw [(k1 125 3 (by decide)).trans ((up_n (Or.inl (by decide))).trans ((o1 125 3 (by decide) (by decide) (by decide)).trans l1.1))]
      refine ⟨fun _ => h C3 (fun q i a b c d e => ?_) ⟨C 129 1, C 134, hw, Or.inl ⟨V, W, lv, ?_, fun k hk => ?_⟩⟩, fun g => by omega⟩
      · rw [k1 q i c, up_n (by omega)]; exact hoC q i a b c e
      · rw [k1 129 2 (by decide), up_s]
      · rw [k2 k hk, if_pos hk]
    · rintro j k C3 hk ⟨k1, k2⟩ ih
      unfold bX1_partLed_107
      have f13 : C3 125 13 = W := (k1 125 13 (by decide)).trans ((up_n (Or.inl (by decide))).trans h13)
      have f136 : C3 136 k = ldN N (C 129 1) (C 134) k := (k1 136 k (by decide)).trans ((up_n (Or.inl (by decide))).trans ((hoC 136 k (by decide) (by decide) (by decide) (by omega)).trans (h136 k hk)))
      have b1 := ldt_bd hW (hld k hk)
      have b2 := hxb k hk
      rw [(k1 125 3 (by decide)).trans ((up_n (Or.inl (by decide))).trans ((o1 125 3 (by decide) (by decide) (by decide)).trans l1.1)), Int.toNat_natCast, f13, f136, k2 k hk, if_neg (Nat.lt_irrefl k), w_1 hk (by omega), mm_wl_id (z := 4 * W) (by omega) (by omega)]
      have ek : ∀ i, i < Ln N → (if i < k + 1 then wt N i * mx (V - bas N (C 129 1) (C 134) i * W) + 4 * W * ldN N (C 129 1) (C 134) i else wt N i * mx (V - bas N (C 129 1) (C 134) i * W)) = if i = k then wt N k * mx (V - bas N (C 129 1) (C 134) k * W) + 4 * W * ldN N (C 129 1) (C 134) k else C3 135 i := fun i hi => by
        by_cases e : i = k
        · subst e; rw [if_pos (Nat.lt_succ_self _), if_pos rfl]
        · rw [if_neg e, k2 i hi]
          by_cases e2 : i < k
          · rw [if_pos e2, if_pos (by omega)]
          · rw [if_neg e2, if_neg (by omega)]
      generalize 4 * W * ldN N (C 129 1) (C 134) k = t1 at *
      generalize wt N k * mx (V - bas N (C 129 1) (C 134) k * W) = t2 at *
      rw [mm_wl_id (z := t1) (by omega) (by omega), mm_wl_id (z := t2 + t1) (by omega) (by omega)]
      refine ⟨fun g => by omega, fun _ => ⟨by decide, by omega, by decide, by omega, by omega, ih _ ⟨fun q i a => (up_n (Or.inl a)).trans (k1 q i a), fun i hi => ?_⟩⟩⟩
      rw [ek i hi]
      by_cases e : i = k
      · subst e; rw [up_s, if_pos rfl]
      · rw [up_n (Or.inr e), if_neg e]
  · rintro j k C1 hk ⟨g1, g2⟩ ih
    unfold bX1_partLed_9
    have b := hbs k hk
    have eb : bas N (C 129 1) (C 134) k = N 12 k * (10 * C 129 1) + N 13 k * ldN N (C 129 1) (C 134) k := rfl
    rw [(g1 125 3 (by decide)).trans hl.1, Int.toNat_natCast, (g1 126 k (by decide)).trans (hl.2.2.2 k hk).1, (g1 127 k (by decide)).trans (hl.2.2.2 k hk).2.1, (g1 136 k (by decide)).trans (h136 k hk), w_1 hk (by omega), mm_wl_id (z := N 12 k * (10 * C 129 1)) (by omega) (by omega), mm_wl_id (z := N 13 k * ldN N (C 129 1) (C 134) k) (by omega) (by omega), mm_wl_id (z := N 12 k * (10 * C 129 1) + N 13 k * ldN N (C 129 1) (C 134) k) (by omega) (by omega)]
    refine ⟨fun g => by omega, fun _ => ⟨by omega, by omega, by decide, by omega, by omega, ih _ ⟨fun q i a => (up_n (Or.inl a)).trans (g1 q i a), fun i hi => ?_⟩⟩⟩
    by_cases e : i = k
    · subst e; rw [up_s, eb]
    · rw [up_n (Or.inr e)]; exact g2 i (by omega)
/-- all that the class knows of the partings -/
def kD (C N : mm_M) : Prop := isEv N (C 125 9) (C 125 10) (C 129 0) (C 133) ∧ isWi N (C 129 1) (C 134) ∧ isLd N (C 129 2) (C 135) ∧ isLe N (C 129 3) (C 136)
theorem q1_partAll {N : mm_M} (hL : wfL N) (hn1 : 1 ≤ Ln N) {C : mm_M} (hl : lC C N) (hk : C 125 6 ≠ 0 → kD C N) {Q : mm_M → Prop} (h : ∀ C', (∀ q i, q < 125 → C' q i = C q i) → lC C' N → C' 125 6 ≠ 0 → kD C' N → Q C') : mX1_partAll C Q := by
  have hn := wfL_n hL
  unfold mX1_partAll
  refine ⟨fun g => h C (fun _ _ _ => rfl) hl g (hk g), fun g => ⟨fun _ => ?_, fun g2 => by rw [hl.1] at g2; omega⟩⟩
  refine q1_layGround hL hl (fun C1 a1 a2 => ?_)
  have l1 : lC C1 N := ⟨(a1 125 3 (by decide)).trans hl.1, (a1 125 4 (by decide)).trans hl.2.1, (a1 125 5 (by decide)).trans hl.2.2.1, fun k hk => ⟨(a1 126 k (by decide)).trans (hl.2.2.2 k hk).1, (a1 127 k (by decide)).trans (hl.2.2.2 k hk).2.1, (a1 128 k (by decide)).trans (hl.2.2.2 k hk).2.2⟩⟩
  refine q1_partEven hL hn1 l1 a2 (fun C2 V W b1 b2 b3 b4 b5 b6 => ?_)
  have l2 := b1.lC l1
  refine q1_partWise hL hn1 l2 b2 (fun C3 c1 c2 => ?_)
  have o3 : ∀ q i, (q = 125 → i ≠ 13 ∧ i ≠ 14) → q ≠ 131 → q ≠ 134 → (q = 129 → i ≠ 1) → C3 q i = C2 q i := fun q i a b c d => by
    have := c1 q i a b c
    dsimp only at this
    rw [if_neg (by omega)] at this
    exact this
  have l3 : lC C3 N := ⟨(o3 125 3 (by decide) (by decide) (by decide) (by decide)).trans l2.1, (o3 125 4 (by decide) (by decide) (by decide) (by decide)).trans l2.2.1, (o3 125 5 (by decide) (by decide) (by decide) (by decide)).trans l2.2.2.1, fun k hk => ⟨(o3 126 k (by omega) (by decide) (by decide) (by omega)).trans (l2.2.2.2 k hk).1, (o3 127 k (by omega) (by decide) (by decide) (by omega)).trans (l2.2.2.2 k hk).2.1, (o3 128 k (by omega) (by decide) (by decide) (by omega)).trans (l2.2.2.2 k hk).2.2⟩⟩
  refine q1_partLeaders hL l3 c2 (fun C4 d1 d2 d3 => ?_)
  have l4 : lC C4 N := ⟨(d1 125 3 (by decide) (by decide) (by decide)).trans l3.1, (d1 125 4 (by decide) (by decide) (by decide)).trans l3.2.1, (d1 125 5 (by decide) (by decide) (by decide)).trans l3.2.2.1, fun k hk => ⟨(d1 126 k (by decide) (by decide) (by omega)).trans (l3.2.2.2 k hk).1, (d1 127 k (by decide) (by decide) (by omega)).trans (l3.2.2.2 k hk).2.1, (d1 128 k (by decide) (by decide) (by omega)).trans (l3.2.2.2 k hk).2.2⟩⟩
  have f1 : C4 129 1 = C3 129 1 := d1 129 1 (by decide) (by decide) (by decide)
  have f2 : C4 134 = C3 134 := funext (fun k => d1 134 k (by decide) (by decide) (by omega))
  rw [← f1] at d2
  rw [← f1, ← f2] at d3 c2
  refine q1_partLed hL hn1 l4 c2 d2 d3 (fun C5 e1 e2 => ?_)
  have l5 : lC C5 N := ⟨(e1 125 3 (by decide) (by decide) (by decide) (by decide) (by decide)).trans l4.1, (e1 125 4 (by decide) (by decide) (by decide) (by decide) (by decide)).trans l4.2.1, (e1 125 5 (by decide) (by decide) (by decide) (by decide) (by decide)).trans l4.2.2.1, fun k hk => ⟨(e1 126 k (by decide) (by decide) (by decide) (by omega) (by omega)).trans (l4.2.2.2 k hk).1, (e1 127 k (by decide) (by decide) (by decide) (by omega) (by omega)).trans (l4.2.2.2 k hk).2.1, (e1 128 k (by decide) (by decide) (by decide) (by omega) (by omega)).trans (l4.2.2.2 k hk).2.2⟩⟩
  have up : ∀ q i, (q = 125 → i ≠ 6) → (mm_up C5 125 6 1) q i = C5 q i := fun q i a => up_n (by omega)
  refine h _ (fun q i a => ?_) ⟨(up _ _ (by decide)).trans l5.1, (up _ _ (by decide)).trans l5.2.1, (up _ _ (by decide)).trans l5.2.2.1, fun k hk => ⟨(up 126 k (by omega)).trans (l5.2.2.2 k hk).1, (up 127 k (by omega)).trans (l5.2.2.2 k hk).2.1, (up 128 k (by omega)).trans (l5.2.2.2 k hk).2.2⟩⟩ (by rw [up_s]; decide) ?_
  · rw [up q i (by omega), e1 q i (by omega) (by omega) (by omega) (by omega) (by omega), d1 q i (by omega) (by omega) (by omega), o3 q i (by omega) (by omega) (by omega) (by omega), b1 q i (by omega) (by omega), a1 q i (by omega)]
  · have g9 : ∀ i, (i = 9 ∨ i = 10) → (mm_up C5 125 6 1) 125 i = C2 125 i := fun i hi => by
      rw [up 125 i (by omega), e1 125 i (by decide) (by decide) (by decide) (by omega) (by omega), d1 125 i (by decide) (by decide) (by omega), o3 125 i (by omega) (by decide) (by decide) (by omega)]
    have g129 : (mm_up C5 125 6 1) 129 0 = C2 129 0 := by
      rw [up 129 0 (by decide), e1 129 0 (by decide) (by decide) (by decide) (by decide) (by decide), d1 129 0 (by decide) (by decide) (by decide), o3 129 0 (by decide) (by decide) (by decide) (by decide)]
    have g133 : (mm_up C5 125 6 1) 133 = C2 133 := funext (fun i => by
      rw [up 133 i (by omega), e1 133 i (by decide) (by decide) (by decide) (by omega) (by omega), d1 133 i (by decide) (by decide) (by omega), o3 133 i (by omega) (by decide) (by decide) (by omega)])
    have g134 : (mm_up C5 125 6 1) 134 = C4 134 := funext (fun i => by
      rw [up 134 i (by omega), e1 134 i (by decide) (by decide) (by decide) (by omega) (by omega)])
    have g136 : ∀ i, (mm_up C5 125 6 1) 136 i = C4 136 i := fun i => by
      rw [up 136 i (by omega), e1 136 i (by decide) (by decide) (by decide) (by omega) (by omega)]
    have g1291 : (mm_up C5 125 6 1) 129 1 = C4 129 1 := by rw [up 129 1 (by decide), e1 129 1 (by decide) (by decide) (by decide) (by decide) (by decide)]
    have g1293 : (mm_up C5 125 6 1) 129 3 = C4 129 3 := by rw [up 129 3 (by decide), e1 129 3 (by decide) (by decide) (by decide) (by decide) (by decide)]
    refine ⟨?_, ?_, ?_, ?_⟩
    · rw [g9 9 (Or.inl rfl), g9 10 (Or.inr rfl), g129, g133, b4, b5, b6]; exact b3
    · rw [g1291, g134]; exact c2
    · have x1 : (mm_up C5 125 6 1) 129 2 = C5 129 2 := up 129 2 (by decide)
      have x2 : (mm_up C5 125 6 1) 135 = C5 135 := funext (fun i => up 135 i (by omega))
      rw [x1, x2]; exact e2
    · exact ⟨C4 129 1, C4 134, c2, by rw [g1293]; exact d2, fun k hk => by rw [g136]; exact d3 k hk⟩
