/-! the class: rest sets; the survey -/
theorem min_ex (A : Nat) (f : Nat → Int) (hA : 1 ≤ A) : ∃ n, n < A ∧ ∀ m, m < A → f n ≤ f m := by
  induction A with
  | zero => omega
  | succ A ih =>
    by_cases h : A = 0
    · subst h; exact ⟨0, by omega, fun m hm => by have : m = 0 := by omega
                                                  subst this; exact Int.le_refl _⟩
    · obtain ⟨n, h1, h2⟩ := ih (by omega)
      by_cases g : f A < f n
      · exact ⟨A, by omega, fun m hm => by
          by_cases e : m = A
          · subst e; exact Int.le_refl _
          · have := h2 m (by omega); omega⟩
      · exact ⟨n, by omega, fun m hm => by
          by_cases e : m = A
          · subst e; omega
          · exact h2 m (by omega)⟩
theorem rM_1 {N : mm_M} (hN : wf N) : 1 ≤ rM N (all N (Pn N)) := by
  have h1 := (all_bd hN (Pn N) (Nat.le_refl _)).1
  obtain ⟨n, hn, hmin⟩ := min_ex _ (po N) h1
  have hq : rq N n = -1 := (rq_iff hN hn).mpr (fun p hp w hw => by
    obtain ⟨m, m1, m2, -, m4⟩ := num_upt hN hn hp hw
    have := hmin m m1
    omega)
  have h2 := rM_s1 hq
  have h3 := rM_mono N (show n + 1 ≤ all N (Pn N) by omega)
  omega
def rD (C N : mm_M) (k : Nat) : Prop := C 115 8 = (rM N k : Int) ∧ (1 ≤ rM N k → C 115 9 = rL N k ∧ C 115 10 = rX N k) ∧ ∀ n, n < k → rq N n = -1 → C 120 (rM N n) = (n : Int)
theorem q0_findRests {N : mm_M} (hN : wf N) (ha : all N (Pn N) ≤ 500) {C : mm_M} (hg : gD C N) (hv : vD C N) {Q : mm_M → Prop} (h : ∀ C', o115 C C' → (∀ i, i ≠ 8 → i ≠ 9 → i ≠ 10 → C' 115 i = C 115 i) → rD C' N (all N (Pn N)) → Q C') : mX0_findRests C Q := by
  refine pk_loop (fun j (k : Nat) (C1 : mm_M) => bX0_findRests_7 j k C1 Q) (fun k C1 => o115 C C1 ∧ (∀ i, i ≠ 8 → i ≠ 9 → i ≠ 10 → C1 115 i = C 115 i) ∧ rD C1 N k) (all N (Pn N)) 0 (mm_up C 115 8 0) (Nat.zero_le _) ⟨fun q i a b => up_n (Or.inl a), fun i a b c => up_n (Or.inr a), up_s _ _ _ _, fun g => by unfold rM at g; omega, fun n hn => by omega⟩ ?_ ?_
  · rintro j C1 ⟨g1, g2, g3⟩
    unfold bX0_findRests_7
    rw [(g2 1 (by decide) (by decide) (by decide)).trans hg.1]
    exact ⟨fun _ => h C1 g1 g2 g3, fun g => by omega⟩
  · rintro j k C1 hk ⟨g1, g2, g3⟩ ih
    have hg1 : gD C1 N := ⟨(g2 1 (by decide) (by decide) (by decide)).trans hg.1, (g2 2 (by decide) (by decide) (by decide)).trans hg.2.1, fun p hp => ⟨(g1 116 p (by decide) (by decide)).trans (hg.2.2 p hp).1, (g1 117 p (by decide) (by decide)).trans (hg.2.2 p hp).2⟩⟩
    have hv1 := vD_k g1 hv
    have hr := rM_le N k
    unfold bX0_findRests_7
    rw [hg1.1]
    refine ⟨fun g => by omega, fun _ => q0_isRest hN ha hk hg1 (fun n hn => (hv1 n hn).2) (fun hq => ⟨fun e => by omega, fun _ => ⟨bd500 hk ha, ?_⟩⟩) (fun hq => ⟨fun _ => ?_, fun e => absurd rfl e⟩)⟩
    · rw [Int.toNat_natCast, (hv1 k hk).1, g3.1]
      have eM := rM_s1 hq
      have eL : rL N (k + 1) = if rM N k = 0 ∨ so N k < rL N k then so N k else rL N k := by show (if rq N k = -1 then _ else _) = _; rw [if_pos hq]
      have eX : rX N (k + 1) = if rM N k = 0 ∨ rX N k < so N k then so N k else rX N k := by show (if rq N k = -1 then _ else _) = _; rw [if_pos hq]
      have fin : ∀ x y : Int, x = rL N (k + 1) → y = rX N (k + 1) → bX0_findRests_73 (fun v1 M => bX0_findRests_7 j v1 M Q) k y (mm_up C1 115 9 x) Q := fun x y hx hy => by
        subst hx; subst hy
        unfold bX0_findRests_73
        have v1 : (mm_up (mm_up C1 115 9 (rL N (k + 1))) 115 10 (rX N (k + 1))) 115 8 = (rM N k : Int) := by
          rw [up_n (Or.inr (by decide)), up_n (Or.inr (by decide))]; exact g3.1
        have v2 : ∀ z, (mm_up (mm_up (mm_up C1 115 9 (rL N (k + 1))) 115 10 (rX N (k + 1))) 120 (rM N k) z) 115 8 = (rM N k : Int) := fun z => by
          rw [up_n (Or.inl (by decide))]; exact v1
        rw [v1, Int.toNat_natCast, v2, w_1 hk (by omega), mm_w_id (z := (rM N k : Int) + 1) (by omega) (by omega)]
        refine ⟨by omega, ih _ ⟨g1.tr (fun q i a b => ?_), fun i a b c => ?_, ?_, fun _ => ⟨?_, ?_⟩, fun n hn hqn => ?_⟩⟩
        · rw [up_n (Or.inl a), up_n (Or.inl b), up_n (Or.inl a), up_n (Or.inl a)]
        · rw [up_n (Or.inr a), up_n (Or.inl (by decide)), up_n (Or.inr c), up_n (Or.inr b)]; exact g2 i a b c
        · rw [up_s, eM]; omega
        · rw [up_n (Or.inr (by decide)), up_n (Or.inl (by decide)), up_n (Or.inr (by decide)), up_s]
        · rw [up_n (Or.inr (by decide)), up_n (Or.inl (by decide)), up_s]
        · rw [up_n (Or.inl (by decide))]
          by_cases e : n = k
          · subst e; rw [up_s]
          · have h4 := rM_s1 hqn
            have h5 := rM_mono N (show n + 1 ≤ k by omega)
            rw [up_n (Or.inr (by omega)), up_n (Or.inl (by decide)), up_n (Or.inl (by decide))]
            exact g3.2.2 n (by omega) hqn
      have f50 : ∀ x : Int, x = rL N (k + 1) → ∀ C2, C2 = C1 → bX0_findRests_50 (fun v1 M => bX0_findRests_7 j v1 M Q) k (so N k) x C2 Q := fun x hx C2 hC2 => by
        subst hC2
        unfold bX0_findRests_50
        have v1 : (mm_up C2 115 9 x) 115 8 = (rM N k : Int) := (up_n (Or.inr (by decide))).trans g3.1
        have v2 : (mm_up C2 115 9 x) 115 10 = C2 115 10 := up_n (Or.inr (by decide))
        rw [v1, v2]
        refine ⟨fun e => qJ_max (fin x _ hx ?_), fun e => fin x _ hx ?_⟩
        · rw [eX, (g3.2.1 (by omega)).2]
          by_cases z : rX N k < so N k
          · rw [if_pos z, if_pos (Or.inr z)]
          · rw [if_neg z, if_neg (by omega)]
        · rw [eX, if_pos (Or.inl (by omega))]
      refine ⟨fun e => qJ_min (f50 _ ?_ _ rfl), fun e => f50 _ ?_ _ rfl⟩
      · rw [eL, (g3.2.1 (by omega)).1]
        by_cases z : so N k < rL N k
        · rw [if_pos z, if_pos (Or.inr z)]
        · rw [if_neg z, if_neg (by omega)]
      · rw [eL, if_pos (Or.inl (by omega))]
    · rw [w_1 hk (by omega)]
      have e0 := rM_s0 hq
      refine ih C1 ⟨g1, g2, by rw [e0]; exact g3.1, fun g => ?_, fun n hn hqn => ?_⟩
      · rw [e0] at g
        have eL : rL N (k + 1) = rL N k := by show (if rq N k = -1 then _ else _) = _; rw [if_neg hq]
        have eX : rX N (k + 1) = rX N k := by show (if rq N k = -1 then _ else _) = _; rw [if_neg hq]
        rw [eL, eX]; exact g3.2.1 g
      · by_cases e : n = k
        · subst e; exact absurd hqn hq
        · exact g3.2.2 n (by omega) hqn
/-- all that a survey finds -/
def aD (C N : mm_M) : Prop := gD C N ∧ vD C N ∧ lD C N (all N (Pn N)) ∧ C 115 8 = (rM N (all N (Pn N)) : Int) ∧ C 115 9 = rL N (all N (Pn N)) ∧ C 115 10 = rX N (all N (Pn N)) ∧ ∀ n, n < all N (Pn N) → rq N n = -1 → C 120 (rM N n) = (n : Int)
/-- what a survey leaves as it is: all below 115 but traffic's own; and what lies behind AllSets' arrays but for the spread's start -/
def osv (C C' : mm_M) : Prop := (∀ q k, q < 115 → q ≠ 16 → q ≠ 17 → (k = 3 → ∀ p, p < 5 → q ≠ 30 + 17 * p) → C' q k = C q k) ∧ ∀ q k, 121 ≤ q → (q = 121 → k ≠ 0) → C' q k = C q k
def opre (C C' : mm_M) : Prop := ∀ q k, q ≠ 16 → q ≠ 17 → q ≠ 115 → q ≠ 116 → q ≠ 117 → q ≠ 118 → q ≠ 119 → (k = 3 → ∀ p, p < 5 → q ≠ 30 + 17 * p) → C' q k = C q k
theorem opre.rf (C : mm_M) : opre C C := fun _ _ _ _ _ _ _ _ _ _ => rfl
theorem opre.tr {C C' C'' : mm_M} (h : opre C C') (h2 : opre C' C'') : opre C C'' := fun q k a b c d e f g i => (h2 q k a b c d e f g i).trans (h q k a b c d e f g i)
theorem otk.opre {C C' : mm_M} (h : otk C C') : opre C C' := fun q k a b _ _ _ _ _ i => h q k a b i
theorem cs_off {C C' N : mm_M} {tk : Nat → Nat} (hN : wf N) (h : ∀ q k, q < 115 → q ≠ 17 → C' q k = C q k) (hc : cs C N tk) : cs C' N tk := by
  have hP := wf_P hN
  have hR := wf_R hN
  refine ⟨⟨(h 9 2 (by omega) (by omega)).trans hc.1.1, ?_, fun r hr k a b => (h _ _ (by omega) (by omega)).trans (hc.1.2.2.1 r hr k a b), fun p hp => ?_⟩, fun p hp => (h _ _ (by omega) (by omega)).trans (hc.2.1 p hp), fun r hr => (h _ _ (by omega) (by omega)).trans (hc.2.2 r hr)⟩
  · obtain ⟨a, b, c, d⟩ := hc.1.2.1
    refine ⟨(h 9 3 (by omega) (by omega)).trans a, (h 10 0 (by omega) (by omega)).trans b, (h 10 1 (by omega) (by omega)).trans c, fun r hr => ?_⟩
    obtain ⟨d1, d2, d3, d4, d5⟩ := d r hr
    exact ⟨(h 11 r (by omega) (by omega)).trans d1, (h 12 r (by omega) (by omega)).trans d2, (h 13 r (by omega) (by omega)).trans d3, (h 14 r (by omega) (by omega)).trans d4, (h 15 r (by omega) (by omega)).trans d5⟩
  · have hW := wf_w hN hp
    obtain ⟨a, b, c, d⟩ := hc.1.2.2.2 p hp
    refine ⟨(h _ 0 (by omega) (by omega)).trans a, (h _ 1 (by omega) (by omega)).trans b, (h _ 2 (by omega) (by omega)).trans c, fun w hw => ?_⟩
    obtain ⟨d1, d2, d3⟩ := d w hw
    refine ⟨(h _ _ (by omega) (by omega)).trans d1, fun r hr => ?_, fun k hk => (h _ _ (by omega) (by omega)).trans (d3 k hk)⟩
    rw [h (30 + 17 * p + 2) w (by omega) (by omega)]
    exact d2 r hr
theorem q0_survey {N : mm_M} {tk : Nat → Nat} (hN : wf N) (ht : wfT N tk) (ha : all N (Pn N) ≤ 500) {C : mm_M} (hc : cs C N tk) {Q : mm_M → Prop} (h : ∀ C', osv C C' → cs C' N tk → aD C' N → C' 121 0 = -1 → C' 115 0 = 1 → Q C') : mX0_survey C Q := by
  have hP := wf_P hN
  refine q6_setsInAll hN hc.1 (qJ_min ?_)
  have e0 : (if (500 : Int) < (all N (Pn N) : Int) then (500 : Int) else (all N (Pn N) : Int)) = (all N (Pn N) : Int) := if_neg (by omega)
  rw [e0]
  have u1 : (mm_up C 115 1 ((all N (Pn N) : Nat) : Int)) 9 2 = N 0 9 := (up_n (Or.inl (by decide))).trans hc.1.1
  rw [u1]
  generalize hC1 : mm_up (mm_up C 115 1 ((all N (Pn N) : Nat) : Int)) 115 2 (N 0 9) = C1
  have w1 : C1 115 1 = ((all N (Pn N) : Nat) : Int) := by rw [← hC1]; rfl
  have w2 : C1 115 2 = N 0 9 := by rw [← hC1]; rfl
  have o1 : ∀ q k, q ≠ 115 → C1 q k = C q k := fun q k hq => by rw [← hC1, up_n (Or.inl hq), up_n (Or.inl hq)]
  rw [w2, mm_w_id (z := N 0 9 - 1) (by omega) (by omega)]
  have key : ∃ j, bX0_survey_31 j ((ww N 0 : Nat) : Int) (N 0 9 - 1 - ((0 : Nat) : Int)) C1 Q := by
    refine pk_loop (fun j (i : Nat) (C2 : mm_M) => bX0_survey_31 j ((ww N i : Nat) : Int) (N 0 9 - 1 - (i : Int)) C2 Q) (fun i C2 => (∀ q k, q ≠ 116 → q ≠ 117 → C2 q k = C1 q k) ∧ ∀ p, p < Pn N → Pn N ≤ p + i → C2 116 p = (wn N p : Int) ∧ C2 117 p = (ww N (Pn N - 1 - p) : Int)) (Pn N) 0 C1 (Nat.zero_le _) ⟨fun _ _ _ _ => rfl, fun p hp hq => by omega⟩ ?_ ?_
    · rintro j C2 ⟨g1, g2⟩
      unfold bX0_survey_31
      refine ⟨fun _ => ?_, fun g => by omega⟩
      have hg2 : gD C2 N := ⟨(g1 115 1 (by decide) (by decide)).trans w1, (g1 115 2 (by decide) (by decide)).trans w2, fun p hp => g2 p hp (by omega)⟩
      have oC2 : opre C C2 := fun q k a b c d e f g i => (g1 q k d e).trans (o1 q k c)
      have hc2 : cs C2 N tk := cs_off hN (fun q k a b => (g1 q k (by omega) (by omega)).trans (o1 q k (by omega))) hc
      refine q6_keepSet hN hc2 (fun C3 k1 k2 k3 => ?_)
      have hg3 : gD C3 N := ⟨(k1 115 1 (by decide)).trans hg2.1, (k1 115 2 (by decide)).trans hg2.2.1, fun p hp => ⟨(k1 116 p (by decide)).trans (hg2.2.2 p hp).1, (k1 117 p (by decide)).trans (hg2.2.2 p hp).2⟩⟩
      refine pk_loop (fun j (k : Nat) (z : mm_M × (Nat → Nat)) => bX0_survey_78 j ((ww N (Pn N) : Nat) : Int) k z.1 Q) (fun k z => opre C z.1 ∧ cs z.1 N z.2 ∧ wfT N z.2 ∧ ckept z.1 N tk ∧ gD z.1 N ∧ ∀ n, n < k → z.1 118 n = so N n ∧ z.1 119 n = po N n) (all N (Pn N)) 0 (C3, tk) (Nat.zero_le _) ⟨oC2.tr k1.otk.opre, k2, ht, k3, hg3, fun n hn => by omega⟩ ?_ ?_
      · rintro j ⟨C4, t4⟩ ⟨l1, l2, l3, l4, l5, l6⟩
        dsimp only at l1 l2 l3 l4 l5 l6 ⊢
        unfold bX0_survey_78
        rw [l5.1]
        refine ⟨fun _ => q6_takeKeptSet hN ht l3 l2 l4 (fun C5 m1 m2 => ?_), fun g => by omega⟩
        have hq : ∀ q k, 114 < q → C5 q k = C4 q k := fun q k hq => m1 q k (by omega) (fun _ p hp => by omega)
        have hg5 : gD C5 N := ⟨(hq 115 1 (by omega)).trans l5.1, (hq 115 2 (by omega)).trans l5.2.1, fun p hp => ⟨(hq 116 p (by omega)).trans (l5.2.2 p hp).1, (hq 117 p (by omega)).trans (l5.2.2 p hp).2⟩⟩
        have hv5 : vD C5 N := fun n hn => ⟨(hq 118 n (by omega)).trans (l6 n hn).1, (hq 119 n (by omega)).trans (l6 n hn).2⟩
        refine q0_findLeast hN ha hg5 hv5 (fun C6 n1 n2 n3 => ?_)
        have hg6 := gD_k n1 (fun k hk => n2 k (by omega)) hg5
        refine q0_findRests hN ha hg6 (vD_k n1 hv5) (fun C7 p1 p2 p3 => ?_)
        have r1 := p3.2.1 (rM_1 hN)
        generalize hC8 : mm_up (mm_up C7 121 0 (-1)) 115 0 1 = C8
        have o8 : ∀ q k, q ≠ 115 → q ≠ 121 → C8 q k = C7 q k := fun q k a b => by rw [← hC8, up_n (Or.inl a), up_n (Or.inl b)]
        have o8' : ∀ k, k ≠ 0 → C8 115 k = C7 115 k := fun k hk => by rw [← hC8, up_n (Or.inr hk), up_n (Or.inl (by decide))]
        have o67 : o115 C5 C7 := n1.tr p1
        have cs8 : cs C8 N tk := cs_off hN (fun q k a b => (o8 q k (by omega) (by omega)).trans (o67 q k (by omega) (by omega))) m2
        refine h C8 ⟨fun q k a b c d => ?_, fun q k a b => ?_⟩ cs8 ⟨?_, ?_, ?_, ?_, ?_, ?_, ?_⟩ (by rw [← hC8]; rfl) (by rw [← hC8]; rfl)
        · rw [o8 q k (by omega) (by omega), o67 q k (by omega) (by omega), m1 q k b d]
          exact l1 q k b c (by omega) (by omega) (by omega) (by omega) (by omega) d
        · have e1 : C8 q k = C7 q k := by
            by_cases e : q = 121
            · subst e; rw [← hC8, up_n (Or.inl (by decide)), up_n (Or.inr (b rfl))]
            · exact o8 q k (by omega) e
          rw [e1, o67 q k (by omega) (by omega), hq q k (by omega)]
          exact l1 q k (by omega) (by omega) (by omega) (by omega) (by omega) (by omega) (by omega) (fun _ p hp => by omega)
        · exact ⟨(o8' 1 (by decide)).trans ((p2 1 (by decide) (by decide) (by decide)).trans hg6.1), (o8' 2 (by decide)).trans ((p2 2 (by decide) (by decide) (by decide)).trans hg6.2.1), fun p hp => ⟨(o8 116 p (by decide) (by decide)).trans ((p1 116 p (by decide) (by decide)).trans (hg6.2.2 p hp).1), (o8 117 p (by decide) (by decide)).trans ((p1 117 p (by decide) (by decide)).trans (hg6.2.2 p hp).2)⟩⟩
        · exact fun n hn => ⟨(o8 118 n (by decide) (by decide)).trans ((o67 118 n (by decide) (by decide)).trans (hv5 n hn).1), (o8 119 n (by decide) (by decide)).trans ((o67 119 n (by decide) (by decide)).trans (hv5 n hn).2)⟩
        · exact ⟨(o8' 11 (by decide)).trans ((p2 11 (by decide) (by decide) (by decide)).trans n3.1), (o8' 12 (by decide)).trans ((p2 12 (by decide) (by decide) (by decide)).trans n3.2.1), (o8' 13 (by decide)).trans ((p2 13 (by decide) (by decide) (by decide)).trans n3.2.2.1), (o8' 14 (by decide)).trans ((p2 14 (by decide) (by decide) (by decide)).trans n3.2.2.2)⟩
        · exact (o8' 8 (by decide)).trans p3.1
        · exact (o8' 9 (by decide)).trans r1.1
        · exact (o8' 10 (by decide)).trans r1.2
        · exact fun n hn hqn => (o8 120 _ (by decide) (by decide)).trans (p3.2.2 n hn hqn)
      · rintro j k ⟨C4, t4⟩ hk ⟨l1, l2, l3, l4, l5, l6⟩ ih
        dsimp only at l1 l2 l3 l4 l5 l6 ⊢
        unfold bX0_survey_78
        rw [l5.1]
        refine ⟨fun g => by omega, fun _ => q6_takeSet hN l3 l2 (by omega) (fun C5 m1 m2 => q6_socialNow hN (tkn_wf hN k) m2 ⟨bd500 hk ha, ?_⟩)⟩
        rw [Int.toNat_natCast]
        have hc6 : cs (mm_up C5 118 k (soc N (tkn N k))) N (tkn N k) := cs_off hN (fun q i a b => up_n (Or.inl (by omega))) m2
        refine q6_potentialNow hN (tkn_wf hN k) hc6 ⟨bd500 hk ha, ?_⟩
        rw [w_1 hk (by omega)]
        have hq : ∀ q i, 114 < q → C5 q i = C4 q i := fun q i hq => m1 q i (by omega) (fun _ p hp => by omega)
        have hq2 : ∀ q i, q ≠ 118 → q ≠ 119 → (mm_up (mm_up C5 118 k (soc N (tkn N k))) 119 k (pot N (tkn N k))) q i = C5 q i := fun q i a b => by rw [up_n (Or.inl b), up_n (Or.inl a)]
        refine ih (mm_up (mm_up C5 118 k (soc N (tkn N k))) 119 k (pot N (tkn N k)), tkn N k) ⟨?_, cs_off hN (fun q i a b => hq2 q i (by omega) (by omega)) m2, tkn_wf hN k, ?_, ?_, fun n hn => ?_⟩
        · intro q i a b c d e f g s
          show (mm_up (mm_up C5 118 k (soc N (tkn N k))) 119 k (pot N (tkn N k))) q i = _
          rw [hq2 q i f g, m1 q i a s]
          exact l1 q i a b c d e f g s
        · intro p hp
          show (mm_up (mm_up C5 118 k (soc N (tkn N k))) 119 k (pot N (tkn N k))) 17 p = _
          rw [hq2 17 p (by decide) (by decide)]
          exact (l4.otf m1) p hp
        · exact ⟨(hq2 115 1 (by decide) (by decide)).trans ((hq 115 1 (by omega)).trans l5.1), (hq2 115 2 (by decide) (by decide)).trans ((hq 115 2 (by omega)).trans l5.2.1), fun p hp => ⟨(hq2 116 p (by decide) (by decide)).trans ((hq 116 p (by omega)).trans (l5.2.2 p hp).1), (hq2 117 p (by decide) (by decide)).trans ((hq 117 p (by omega)).trans (l5.2.2 p hp).2)⟩⟩
        · show (mm_up (mm_up C5 118 k (soc N (tkn N k))) 119 k (pot N (tkn N k))) 118 n = _ ∧ (mm_up (mm_up C5 118 k (soc N (tkn N k))) 119 k (pot N (tkn N k))) 119 n = _
          by_cases e : n = k
          · subst e
            rw [up_s, up_n (Or.inl (by decide)), up_s]
            exact ⟨rfl, rfl⟩
          · rw [up_n (Or.inl (by decide)), up_n (Or.inr e), up_n (Or.inr e), up_n (Or.inl (by decide)), hq 118 n (by omega), hq 119 n (by omega)]
            exact l6 n (by omega)
    · rintro j i C2 hi ⟨g1, g2⟩ ih
      unfold bX0_survey_31
      have hp : Pn N - 1 - i < Pn N := by omega
      have hW := wf_w hN hp
      have e1 : (N 0 9 - 1 - (i : Int)).toNat = Pn N - 1 - i := by omega
      have hcw : C2 (30 + 17 * (Pn N - 1 - i)) 2 = (wn N (Pn N - 1 - i) : Int) := by
        rw [g1 _ _ (by omega) (by omega), o1 _ _ (by omega), (hc.1.2.2.2 _ hp).2.2.1]; exact hW.1.symm
      rw [e1, hcw]
      have v1 : (mm_up (mm_up C2 116 (Pn N - 1 - i) ((wn N (Pn N - 1 - i) : Nat) : Int)) 117 (Pn N - 1 - i) ((ww N i : Nat) : Int)) 116 (Pn N - 1 - i) = ((wn N (Pn N - 1 - i) : Nat) : Int) := (up_n (Or.inl (by decide))).trans (up_s _ _ _ _)
      rw [v1, ← Int.natCast_mul]
      have hwi := ww_le hN (show i + 1 ≤ Pn N by omega)
      have hws : ww N i * wn N (Pn N - 1 - i) = ww N (i + 1) := rfl
      rw [hws, mm_w_id (z := ((ww N (i + 1) : Nat) : Int)) (by omega) (by omega), mm_w_id (z := N 0 9 - 1 - (i : Int) + -1) (by omega) (by omega), show N 0 9 - 1 - (i : Int) + -1 = N 0 9 - 1 - ((i + 1 : Nat) : Int) by omega]
      refine ⟨fun g => by omega, fun _ => ⟨by omega, mm_chk_i (kd_p (by omega)) ⟨by omega, by omega, by omega, ih _ ⟨fun q k a b => ?_, fun p hp2 hq => ?_⟩⟩⟩⟩
      · rw [up_n (Or.inl b), up_n (Or.inl a)]; exact g1 q k a b
      · by_cases e : p = Pn N - 1 - i
        · subst e
          rw [up_s, up_n (Or.inl (by decide)), up_s, show Pn N - 1 - (Pn N - 1 - i) = i by omega]
          exact ⟨rfl, rfl⟩
        · rw [up_n (Or.inl (by decide)), up_n (Or.inr e), up_n (Or.inr e), up_n (Or.inl (by decide))]
          exact g2 p hp2 (by omega)
  obtain ⟨j, hj⟩ := key
  exact ⟨j, by rw [show N 0 9 - 1 = N 0 9 - 1 - ((0 : Nat) : Int) by omega]; exact hj⟩
