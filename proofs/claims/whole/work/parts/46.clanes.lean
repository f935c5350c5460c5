/-! the class: lanes, pouring -/
theorem cmp_le {x y : Int} : mm_cmp x y ≤ 0 ↔ x ≤ y := by unfold mm_cmp; split; omega; split <;> omega
theorem cmp_gt {x y : Int} : 0 < mm_cmp x y ↔ y < x := by unfold mm_cmp; split; omega; split <;> omega
theorem cmp_ge {x y : Int} : 0 ≤ mm_cmp x y ↔ y ≤ x := by unfold mm_cmp; split; omega; split <;> omega
theorem cmp_lt {x y : Int} : mm_cmp x y < 0 ↔ x < y := by unfold mm_cmp; split; omega; split <;> omega
theorem cmp_eq {x y : Int} : mm_cmp x y = 0 ↔ x = y := by unfold mm_cmp; split; omega; split <;> omega
def lC (C N : mm_M) : Prop := C 125 3 = N 0 18 ∧ C 125 4 = N 0 21 ∧ C 125 5 = N 0 22 ∧ ∀ k, k < Ln N → C 126 k = N 12 k ∧ C 127 k = N 13 k ∧ C 128 k = wt N k
def oPr (v : Nat) (C C' : mm_M) : Prop := ∀ q i, (q = 125 → i ≠ 13 ∧ i ≠ 14) → q ≠ 131 → q ≠ v → C' q i = C q i
theorem oPr.tr {v : Nat} {C C' C'' : mm_M} (h : oPr v C C') (h2 : oPr v C' C'') : oPr v C C'' := fun q k a b c => (h2 q k a b c).trans (h q k a b c)
theorem oPr.lC {v : Nat} {C C' N : mm_M} (h : oPr v C C') (hv : 132 < v) (hl : lC C N) : lC C' N := ⟨(h 125 3 (by decide) (by decide) (by omega)).trans hl.1, (h 125 4 (by decide) (by decide) (by omega)).trans hl.2.1, (h 125 5 (by decide) (by decide) (by omega)).trans hl.2.2.1, fun k hk => ⟨(h 126 k (by omega) (by decide) (by omega)).trans (hl.2.2.2 k hk).1, (h 127 k (by omega) (by decide) (by omega)).trans (hl.2.2.2 k hk).2.1, (h 128 k (by omega) (by decide) (by omega)).trans (hl.2.2.2 k hk).2.2⟩⟩
def grd (C N : mm_M) (g : Nat → Int) : Prop := ∀ k, k < Ln N → C 130 k = g k
def opn (C N : mm_M) (O : Nat → Bool) : Prop := ∀ k, k < Ln N → C 131 k = if O k = true then 1 else 0
def gB (N : mm_M) (g : Nat → Int) : Prop := ∀ k, k < Ln N → 0 ≤ g k ∧ g k ≤ 2000000
theorem q1_weighOpen {N : mm_M} (hL : wfL N) {C : mm_M} (hl : lC C N) {g : Nat → Int} (hg : grd C N g) (hb : gB N g) {O : Nat → Bool} (ho : opn C N O) {c : Int} (hc : 0 ≤ c ∧ c ≤ 10000000) {Q : mm_M → Prop}
    (h : ∀ C', (∀ q i, (q = 125 → i ≠ 13 ∧ i ≠ 14) → C' q i = C q i) → C' 125 13 = WO N O → C' 125 14 = c + SO N g O → Q C') : mX1_weighOpen c C Q := by
  have hn := wfL_n hL
  refine pk_loop (fun j (k : Nat) (C1 : mm_M) => bX1_weighOpen_12 j k C1 Q) (fun k C1 => (∀ q i, (q = 125 → i ≠ 13 ∧ i ≠ 14) → C1 q i = C q i) ∧ C1 125 13 = sm k (fun k => if O k = true then wt N k else 0) ∧ C1 125 14 = c + sm k (fun k => if O k = true then wt N k * g k else 0)) (Ln N) 0 _ (Nat.zero_le _) ⟨fun q i a => ?_, ?_, ?_⟩ ?_ ?_
  · rw [up_n (by omega), up_n (by omega)]
  · rw [up_n (Or.inr (by decide)), up_s]; rfl
  · rw [up_s]; show c = c + 0; omega
  · rintro j C1 ⟨g1, g2, g3⟩
    unfold bX1_weighOpen_12
    rw [(g1 125 3 (by decide)).trans hl.1]
    exact ⟨fun _ => h C1 g1 g2 g3, fun g => by omega⟩
  · rintro j k C1 hk ⟨g1, g2, g3⟩ ih
    have b1 := sm_bd (n := k) (f := fun k => if O k = true then wt N k else 0) (c := 4) (fun k _ => by have := wt_bd N k; split <;> omega)
    have b2 := sm_bd (n := k) (f := fun k => if O k = true then wt N k * g k else 0) (c := 8000000) (fun i hi => by
      have := mul_bd (A := 4) (B := 2000000) (show 0 ≤ wt N i ∧ wt N i ≤ 4 by have := wt_bd N i; omega) (hb i (by omega))
      split <;> omega)
    have b3 := mul_bd (A := 4) (B := 2000000) (show 0 ≤ wt N k ∧ wt N k ≤ 4 by have := wt_bd N k; omega) (hb k hk)
    have s1 : sm (k + 1) (fun k => if O k = true then wt N k else 0) = sm k (fun k => if O k = true then wt N k else 0) + (if O k = true then wt N k else 0) := rfl
    have s2 : sm (k + 1) (fun k => if O k = true then wt N k * g k else 0) = sm k (fun k => if O k = true then wt N k * g k else 0) + (if O k = true then wt N k * g k else 0) := rfl
    have hw := wt_bd N k
    rw [s1, s2] at ih
    generalize sm k (fun k => if O k = true then wt N k else 0) = x at *
    generalize sm k (fun k => if O k = true then wt N k * g k else 0) = y at *
    unfold bX1_weighOpen_12
    have f131 : C1 131 k = if O k = true then 1 else 0 := (g1 131 k (by omega)).trans (ho k hk)
    have f128 : C1 128 k = wt N k := (g1 128 k (by omega)).trans (hl.2.2.2 k hk).2.2
    have f130 : C1 130 k = g k := (g1 130 k (by omega)).trans (hg k hk)
    have u1 : ∀ z, (mm_up C1 125 13 z) 128 k = wt N k := fun z => (up_n (Or.inl (by decide))).trans f128
    have u2 : ∀ z, (mm_up C1 125 13 z) 130 k = g k := fun z => (up_n (Or.inl (by decide))).trans f130
    have u3 : ∀ z, (mm_up C1 125 13 z) 125 14 = c + y := fun z => (up_n (Or.inr (by decide))).trans g3
    rw [(g1 125 3 (by decide)).trans hl.1, Int.toNat_natCast, f131, g2, f128, u1, u2, u3, w_1 hk (by omega)]
    generalize wt N k * g k = t at *
    rw [mm_wl_id (z := t) (by omega) (by omega), mm_wl_id (z := x + wt N k) (by omega) (by omega), mm_wl_id (z := c + y + t) (by omega) (by omega)]
    refine ⟨fun g => by omega, fun _ => ⟨by omega, fun e => ?_, fun e => ⟨by omega, by omega, by omega, ?_⟩⟩⟩
    · have eo : ¬ O k = true := fun q => by rw [if_pos q] at e; omega
      rw [if_neg eo, if_neg eo] at ih
      exact ih C1 ⟨g1, by omega, by omega⟩
    · have eo : O k = true := by
        by_cases q : O k = true
        · exact q
        · rw [if_neg q] at e; exact absurd rfl e
      rw [if_pos eo, if_pos eo] at ih
      refine ih _ ⟨fun q i a => ?_, ?_, ?_⟩
      · rw [up_n (by omega), up_n (by omega)]; exact g1 q i a
      · rw [up_n (Or.inr (by decide)), up_s]
      · rw [up_s]; omega
theorem q1_shutAbove {N : mm_M} (hL : wfL N) {C : mm_M} (hl : C 125 3 = N 0 18) {g : Nat → Int} (hg : grd C N g) (hb : gB N g) {O : Nat → Bool} (ho : opn C N O) {V W : Int} (hW : 0 ≤ W ∧ W ≤ 20) (h13 : C 125 13 = W) (h14 : C 125 14 = V) {Q : Int → mm_M → Prop}
    (h1 : ∀ C' O', (∀ q i, q ≠ 131 → C' q i = C q i) → opn C' N O' → (∀ k, k < Ln N → (O' k = true ↔ O k = true ∧ g k * W ≤ V)) → (∃ k, k < Ln N ∧ O k = true ∧ ¬ O' k = true) → Q 1 C') (h0 : (∀ k, k < Ln N → O k = true → g k * W ≤ V) → Q 0 C) : mX1_shutAbove C Q := by
  have hn := wfL_n hL
  refine pk_loop (fun j (k : Nat) (z : Int × mm_M) => bX1_shutAbove_4 j z.1 k z.2 Q) (fun k z => (∀ q i, q ≠ 131 → z.2 q i = C q i) ∧ (∀ i, i < Ln N → z.2 131 i = if O i = true ∧ (i < k → g i * W ≤ V) then 1 else 0) ∧ ((z.1 = 0 ∧ z.2 = C ∧ ∀ i, i < k → O i = true → g i * W ≤ V) ∨ (z.1 = 1 ∧ ∃ i, i < k ∧ O i = true ∧ ¬ g i * W ≤ V))) (Ln N) 0 (0, C) (Nat.zero_le _) ⟨fun _ _ _ => rfl, fun i hi => ?_, Or.inl ⟨rfl, rfl, fun i hi => by omega⟩⟩ ?_ ?_
  · show C 131 i = _
    rw [ho i hi]
    by_cases e : O i = true
    · rw [if_pos e, if_pos ⟨e, fun q => by omega⟩]
    · rw [if_neg e, if_neg (fun q => e q.1)]
  · rintro j ⟨b, C1⟩ ⟨g1, g2, g3⟩
    dsimp only at g1 g2 g3 ⊢
    unfold bX1_shutAbove_4
    rw [(g1 125 3 (by decide)).trans hl]
    refine ⟨fun _ => ?_, fun g => by omega⟩
    rcases g3 with ⟨e1, e2, e3⟩ | ⟨e1, i, i1, i2, i3⟩
    · subst e1; subst e2; exact ⟨Or.inl rfl, h0 e3⟩
    · subst e1
      refine ⟨Or.inr rfl, h1 C1 (fun k => O k && decide (g k * W ≤ V)) g1 (fun k hk => ?_) (fun k hk => by simp) ⟨i, i1, i2, by simp [i3]⟩⟩
      rw [g2 k hk]
      by_cases e : O k = true ∧ g k * W ≤ V
      · rw [if_pos ⟨e.1, fun _ => e.2⟩, if_pos (by simp [e.1, e.2])]
      · rw [if_neg (fun q => e ⟨q.1, q.2 hk⟩), if_neg (by simp; intro a; exact (by have : ¬ g k * W ≤ V := fun q => e ⟨a, q⟩; omega))]
  · rintro j k ⟨b, C1⟩ hk ⟨g1, g2, g3⟩ ih
    dsimp only at g1 g2 g3 ih ⊢
    unfold bX1_shutAbove_4
    have b1 := mul_bd (A := 2000000) (B := 20) (hb k hk) hW
    have f131 := g2 k hk
    rw [(g1 125 3 (by decide)).trans hl, Int.toNat_natCast, (g1 130 k (by omega)).trans (hg k hk), (g1 125 13 (by decide)).trans h13, (g1 125 14 (by decide)).trans h14, w_1 hk (by omega), mm_wl_id (z := g k * W) (by omega) (by omega), cmp_le, cmp_gt, f131]
    refine ⟨fun g => by omega, fun _ => ⟨by omega, fun e => ?_, fun e => ⟨by omega, fun e2 => ?_, fun e2 => ⟨by omega, ?_⟩⟩⟩⟩
    · have eo : ¬ O k = true := fun q => by rw [if_pos ⟨q, fun z => by omega⟩] at e; omega
      refine ih (b, C1) ⟨g1, fun i hi => ?_, ?_⟩
      · show C1 131 i = _
        rw [g2 i hi]
        by_cases ei : i = k
        · subst ei; rw [if_neg (fun q => eo q.1), if_neg (fun q => eo q.1)]
        · have : (O i = true ∧ (i < k + 1 → g i * W ≤ V)) ↔ (O i = true ∧ (i < k → g i * W ≤ V)) := ⟨fun q => ⟨q.1, fun z => q.2 (by omega)⟩, fun q => ⟨q.1, fun z => q.2 (by omega)⟩⟩
          simp only [this]
      · rcases g3 with ⟨e1, e2, e3⟩ | ⟨e1, i, i1, i2, i3⟩
        · refine Or.inl ⟨e1, e2, fun i hi q => ?_⟩
          by_cases ei : i = k
          · subst ei; exact absurd q eo
          · exact e3 i (by omega) q
        · exact Or.inr ⟨e1, i, by omega, i2, i3⟩
    · refine ih (b, C1) ⟨g1, fun i hi => ?_, ?_⟩
      · show C1 131 i = _
        rw [g2 i hi]
        have : (O i = true ∧ (i < k + 1 → g i * W ≤ V)) ↔ (O i = true ∧ (i < k → g i * W ≤ V)) := ⟨fun q => ⟨q.1, fun z => q.2 (by omega)⟩, fun q => ⟨q.1, fun z => by
          by_cases ei : i = k
          · subst ei; exact e2
          · exact q.2 (by omega)⟩⟩
        simp only [this]
      · rcases g3 with ⟨e1, e3, e4⟩ | ⟨e1, i, i1, i2, i3⟩
        · refine Or.inl ⟨e1, e3, fun i hi q => ?_⟩
          by_cases ei : i = k
          · subst ei; exact e2
          · exact e4 i (by omega) q
        · exact Or.inr ⟨e1, i, by omega, i2, i3⟩
    · have eo : O k = true := by
        by_cases q : O k = true
        · exact q
        · rw [if_neg (fun z => q z.1)] at e; exact absurd rfl e
      refine ih (1, mm_up C1 131 k 0) ⟨fun q i a => (up_n (Or.inl a)).trans (g1 q i a), fun i hi => ?_, Or.inr ⟨rfl, k, by omega, eo, by omega⟩⟩
      show (mm_up C1 131 k 0) 131 i = _
      by_cases ei : i = k
      · subst ei; rw [up_s, if_neg (fun q => by have := q.2 (by omega); omega)]
      · rw [up_n (Or.inr ei), g2 i hi]
        have : (O i = true ∧ (i < k + 1 → g i * W ≤ V)) ↔ (O i = true ∧ (i < k → g i * W ≤ V)) := ⟨fun q => ⟨q.1, fun z => q.2 (by omega)⟩, fun q => ⟨q.1, fun z => q.2 (by omega)⟩⟩
        simp only [this]
theorem q1_pour {N : mm_M} (hL : wfL N) (hn1 : 1 ≤ Ln N) {v : Nat} (hv : 133 ≤ v ∧ v ≤ 136) {C : mm_M} (hl : lC C N) {g : Nat → Int} (hg : grd C N g) (hb : gB N g) {c am sc : Int} (hc : 0 ≤ c ∧ c ≤ 10000000) (he : mm_wl (sc * am) = c) {Q : mm_M → Prop}
    (h : ∀ C' V W, oPr v C C' → isLv N g c V W → 0 ≤ V → V ≤ 100000000 → C' 125 13 = W → C' 125 14 = V → (∀ k, k < Ln N → C' v k = wt N k * mx (V - g k * W)) → Q C') : mX1_pour v am sc C Q := by
  have hn := wfL_n hL
  have hak : mm_ak lay_c v = (1, 5) := by
    have : v = 133 ∨ v = 134 ∨ v = 135 ∨ v = 136 := by omega
    rcases this with e | e | e | e <;> subst e <;> rfl
  -- the last loop
  have last : ∀ C1 O v6, oPr v C C1 → opn C1 N O → C1 125 13 = WO N O → C1 125 14 = c + SO N g O → (∃ k, k < Ln N ∧ O k = true) → (∀ k, k < Ln N → O k = true → g k * WO N O ≤ c + SO N g O) → (∀ k, k < Ln N → ¬ O k = true → c + SO N g O < g k * WO N O) → ∃ j, bX1_pour_69 j v v6 ((0 : Nat) : Int) C1 Q := by
    intro C1 O v6 o1 o2 o3 o4 o5 o6 o7
    have hW := WO_bd hL O
    have hS := SO_bd hL (G := 2000000) hb (by omega) O
    have lv := open_lv hL o5 o6 (fun k hk q => by have := o7 k hk q; omega)
    refine pk_loop (fun j (k : Nat) (C2 : mm_M) => bX1_pour_69 j v v6 k C2 Q) (fun k C2 => (∀ q i, q ≠ v → C2 q i = C1 q i) ∧ ∀ i, i < k → C2 v i = wt N i * mx (c + SO N g O - g i * WO N O)) (Ln N) 0 C1 (Nat.zero_le _) ⟨fun _ _ _ => rfl, fun i hi => by omega⟩ ?_ ?_
    · rintro j C2 ⟨g1, g2⟩
      unfold bX1_pour_69
      rw [(g1 125 3 (by omega)).trans (o1.lC (by omega) hl).1]
      refine ⟨fun _ => h C2 _ _ (o1.tr (fun q i a b d => g1 q i d)) lv (by omega) (by omega) ((g1 _ _ (by omega)).trans o3) ((g1 _ _ (by omega)).trans o4) g2, fun g => by omega⟩
    · rintro j k C2 hk ⟨g1, g2⟩ ih
      unfold bX1_pour_69
      have lC1 := o1.lC (by omega) hl
      have b1 := mul_bd (A := 2000000) (B := 20) (hb k hk) hW
      have hw := wt_bd N k
      have e130 : C2 130 k = g k := (g1 130 k (by omega)).trans ((o1 130 k (by omega) (by decide) (by omega)).trans (hg k hk))
      rw [(g1 125 3 (by omega)).trans lC1.1, Int.toNat_natCast, (g1 131 k (by omega)).trans (o2 k hk), (g1 128 k (by omega)).trans (lC1.2.2.2 k hk).2.2, (g1 125 14 (by omega)).trans o4, (g1 125 13 (by omega)).trans o3, e130, hak, w_1 hk (by omega), mm_wl_id (z := g k * WO N O) (by omega) (by omega), mm_wl_id (z := c + SO N g O - g k * WO N O) (by omega) (by omega)]
      refine ⟨fun g => by omega, fun _ => ⟨by omega, by omega, fun e => mm_chk_i rfl ⟨by omega, ih _ ⟨fun q i a => (up_n (Or.inl a)).trans (g1 q i a), fun i hi => ?_⟩⟩, fun e => ⟨by omega, mm_chk_i rfl ⟨by omega, ih _ ⟨fun q i a => (up_n (Or.inl a)).trans (g1 q i a), fun i hi => ?_⟩⟩⟩⟩⟩
      · by_cases ei : i = k
        · subst ei
          have eo : ¬ O i = true := fun q => by rw [if_pos q] at e; omega
          rw [up_s, mx_n (by have := o7 i hk eo; omega)]; omega
        · rw [up_n (Or.inr ei)]; exact g2 i (by omega)
      · by_cases ei : i = k
        · subst ei
          have eo : O i = true := by
            by_cases q : O i = true
            · exact q
            · rw [if_neg q] at e; exact absurd rfl e
          have h6 := o6 i hk eo
          have b2 := mul_bd (A := 4) (B := 100000000) (show 0 ≤ wt N i ∧ wt N i ≤ 4 by omega) (show 0 ≤ c + SO N g O - g i * WO N O ∧ c + SO N g O - g i * WO N O ≤ 100000000 by omega)
          rw [up_s, mx_p (by omega)]
          exact mm_wl_id (by omega) (by omega)
        · rw [up_n (Or.inr ei)]; exact g2 i (by omega)
  -- the rounds
  have rounds : ∀ C1 O, oPr v C C1 → opn C1 N O → (∀ k, k < Ln N → O k = true) → ∃ j, bX1_pour_32 j v am sc 1 ((0 : Nat) : Int) C1 Q := by
    intro C1 O o1 o2 o3
    refine pk_loop (fun j (k : Nat) (z : (Int × mm_M) × (Nat → Bool)) => bX1_pour_32 j v am sc z.1.1 k z.1.2 Q) (fun k z => oPr v C z.1.2 ∧ opn z.1.2 N z.2 ∧ (∃ k, k < Ln N ∧ z.2 k = true) ∧ (∀ k, k < Ln N → ¬ z.2 k = true → c + SO N g z.2 < g k * WO N z.2) ∧ ((z.1.1 = 1 ∧ nO N z.2 + k ≤ Ln N) ∨ (z.1.1 = 0 ∧ z.1.2 125 13 = WO N z.2 ∧ z.1.2 125 14 = c + SO N g z.2 ∧ ∀ k, k < Ln N → z.2 k = true → g k * WO N z.2 ≤ c + SO N g z.2))) (Ln N) 0 ((1, C1), O) (Nat.zero_le _) ⟨o1, o2, ⟨0, by omega, o3 0 (by omega)⟩, fun k hk q => absurd (o3 k hk) q, Or.inl ⟨rfl, by have := nO_bd N O; show nO N O + (0 : Nat) ≤ _; omega⟩⟩ ?_ ?_
    · rintro j ⟨⟨b, C2⟩, O2⟩ ⟨g1, g2, g3, g4, g5⟩
      dsimp only at g1 g2 g3 g4 g5 ⊢
      unfold bX1_pour_32
      rw [(g1.lC (by omega) hl).1]
      rcases g5 with ⟨-, e2⟩ | ⟨-, e2, e3, e4⟩
      · have := nO_pos g3; omega
      · exact ⟨fun _ => last C2 O2 b g1 g2 e2 e3 g3 e4 g4, fun g => by omega⟩
    · rintro j k ⟨⟨b, C2⟩, O2⟩ hk ⟨g1, g2, g3, g4, g5⟩ ih
      dsimp only at g1 g2 g3 g4 g5 ih ⊢
      unfold bX1_pour_32
      have lC2 := g1.lC (by omega) hl
      rw [lC2.1, he, w_1 hk (by omega)]
      refine ⟨fun g => by omega, fun _ => ⟨fun e => ?_, fun e => ?_⟩⟩
      · rcases g5 with ⟨e1, -⟩ | ⟨-, e2, e3, e4⟩
        · omega
        · exact last C2 O2 b g1 g2 e2 e3 g3 e4 g4
      · rcases g5 with ⟨e1, e2⟩ | ⟨e1, -⟩
        · have hg2 : grd C2 N g := fun i hi => (g1 130 i (by omega) (by decide) (by omega)).trans (hg i hi)
          refine q1_weighOpen hL lC2 hg2 hb g2 hc (fun C3 k1 k2 k3 => ?_)
          have hg3 : grd C3 N g := fun i hi => (k1 130 i (by omega)).trans (hg2 i hi)
          have ho3 : opn C3 N O2 := fun i hi => (k1 131 i (by omega)).trans (g2 i hi)
          have op3 : oPr v C C3 := g1.tr (fun q i a _ _ => k1 q i a)
          refine q1_shutAbove hL (op3.lC (by omega) hl).1 hg3 hb ho3 (WO_bd hL O2) k2 k3 (fun C4 O4 l1 l2 l3 l4 => ?_) (fun l => ?_)
          · have hs := shut_ok hc.1 g3 l3 g4
            refine ih ((1, C4), O4) ⟨op3.tr (fun q i _ a _ => l1 q i a), l2, hs.1, hs.2, Or.inl ⟨rfl, ?_⟩⟩
            obtain ⟨i, i1, i2, i3⟩ := l4
            have := nO_lt (fun i hi q => ((l3 i hi).mp q).1) i1 i2 i3
            show nO N O4 + ((k + 1 : Nat) : Int) ≤ _
            omega
          · exact ih ((0, C3), O2) ⟨op3, ho3, g3, g4, Or.inr ⟨rfl, k2, k3, l⟩⟩
        · omega
  refine pk_loop (fun j (k : Nat) (C1 : mm_M) => bX1_pour_3 j v am sc k C1 Q) (fun k C1 => (∀ q i, q ≠ 131 → C1 q i = C q i) ∧ ∀ i, i < k → C1 131 i = 1) (Ln N) 0 C (Nat.zero_le _) ⟨fun _ _ _ => rfl, fun i hi => by omega⟩ ?_ ?_
  · rintro j C1 ⟨g1, g2⟩
    unfold bX1_pour_3
    rw [(g1 125 3 (by decide)).trans hl.1]
    exact ⟨fun _ => rounds C1 (fun _ => true) (fun q i _ a _ => g1 q i a) (fun i hi => by rw [if_pos rfl]; exact g2 i hi) (fun _ _ => rfl), fun g => by omega⟩
  · rintro j k C1 hk ⟨g1, g2⟩ ih
    unfold bX1_pour_3
    rw [(g1 125 3 (by decide)).trans hl.1, Int.toNat_natCast, w_1 hk (by omega)]
    refine ⟨fun g => by omega, fun _ => ⟨by omega, ih _ ⟨fun q i a => (up_n (Or.inl a)).trans (g1 q i a), fun i hi => ?_⟩⟩⟩
    by_cases ei : i = k
    · subst ei; rw [up_s]
    · rw [up_n (Or.inr ei)]; exact g2 i (by omega)
