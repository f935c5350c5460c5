/-! the class: all sets looked through -/
def gD (C N : mm_M) : Prop := C 115 1 = (all N (Pn N) : Int) ∧ C 115 2 = N 0 9 ∧ ∀ p, p < Pn N → C 116 p = (wn N p : Int) ∧ C 117 p = (ww N (Pn N - 1 - p) : Int)
def vD (C N : mm_M) : Prop := ∀ n, n < all N (Pn N) → C 118 n = so N n ∧ C 119 n = po N n
theorem ww_le {N : mm_M} (hN : wf N) {i : Nat} (hi : i ≤ Pn N) : 1 ≤ ww N i ∧ ww N i ≤ all N (Pn N) := by
  have h1 := all_ww N i hi
  have h2 := (all_bd hN (Pn N - i) (by omega)).1
  have h3 : 1 * ww N i ≤ all N (Pn N - i) * ww N i := Nat.mul_le_mul_right _ h2
  exact ⟨ww_pos hN i hi, by omega⟩
theorem q0_wayIn {N : mm_M} (hN : wf N) {p n : Nat} (hp : p < Pn N) (hn : n < 1000000) {C : mm_M} (hg : gD C N) {Q : Int → mm_M → Prop} (h : Q (tkn N n p) C) : mX0_wayIn n p C Q := by
  have hP := wf_P hN
  have hW := wf_w hN hp
  have h1 := (ww_le hN (show Pn N - 1 - p ≤ Pn N by omega)).1
  obtain ⟨e1, e2⟩ := hg.2.2 p hp
  unfold mX0_wayIn
  rw [Int.toNat_natCast, e1, e2]
  have e3 : mm_div (n : Int) ((ww N (Pn N - 1 - p) : Nat) : Int) = ((n / ww N (Pn N - 1 - p) : Nat) : Int) := by
    unfold mm_div
    rw [← Int.ofNat_tdiv]
    have := Nat.div_le_self n (ww N (Pn N - 1 - p))
    generalize n / ww N (Pn N - 1 - p) = z at this ⊢
    exact mm_w_id (by omega) (by omega)
  have e4 : mm_rem ((n / ww N (Pn N - 1 - p) : Nat) : Int) ((wn N p : Nat) : Int) = ((tkn N n p : Nat) : Int) := by
    unfold mm_rem
    rw [← Int.ofNat_tmod, tkn_ww]
  rw [e3, e4]
  exact ⟨by omega, by omega, fun g => by omega, fun _ => ⟨fun g => by omega, fun _ => ⟨by omega, by omega, h⟩⟩⟩
/-- rest, seen by potentials -/
theorem rq_iff {N : mm_M} (hN : wf N) {n : Nat} (hn : n < all N (Pn N)) : rq N n = -1 ↔ ∀ p, p < Pn N → ∀ w, w < wn N p → pay N (tkn N n) p (tkn N n p) ≤ pay N (tkn N n) p w := by
  constructor
  · intro h p hp
    have h1 := rz_ok N (tkn N n) (-1)
    unfold rq at h
    rw [h] at h1
    rcases h1 with ⟨-, h2⟩ | ⟨q, -, e, -⟩
    · exact bestw_iff.mp (h2 p hp (by omega))
    · omega
  · intro h
    exact rz_eq (Or.inl ⟨rfl, fun p hp _ => bestw_iff.mpr (h p hp)⟩)
/-- the number of the set with another way of one player, as the class reckons it -/
theorem oth {N : mm_M} (hN : wf N) (ha : all N (Pn N) ≤ 500) {n p w : Nat} (hn : n < all N (Pn N)) (hp : p < Pn N) (hw : w < wn N p) : ∃ m : Nat, m < all N (Pn N) ∧ mm_w (mm_w ((n : Int) - mm_w (((tkn N n p : Nat) : Int) * ((ww N (Pn N - 1 - p) : Nat) : Int))) + mm_w ((w : Int) * ((ww N (Pn N - 1 - p) : Nat) : Int))) = (m : Int) ∧ (m : Int) = n + ((w : Int) - tkn N n p) * ww N (Pn N - 1 - p) ∧ po N m = po N n + pay N (tkn N n) p w - pay N (tkn N n) p (tkn N n p) := by
  have hP := wf_P hN
  have hW := wf_w hN hp
  obtain ⟨m, h1, h2, -, h4⟩ := num_upt hN hn hp hw
  refine ⟨m, h1, ?_, h2, h4⟩
  have h5 := ww_le hN (show Pn N - 1 - p ≤ Pn N by omega)
  have h6 := tkn_wf hN n p hp
  have h7 : ((tkn N n p : Nat) : Int) * ((ww N (Pn N - 1 - p) : Nat) : Int) ≤ 12 * 500 := Int.le_trans (Int.mul_le_mul_of_nonneg_right (by omega) (by omega)) (Int.mul_le_mul_of_nonneg_left (by omega) (by omega))
  have h8 : 0 ≤ ((tkn N n p : Nat) : Int) * ((ww N (Pn N - 1 - p) : Nat) : Int) := Int.mul_nonneg (by omega) (by omega)
  have h9 : (w : Int) * ((ww N (Pn N - 1 - p) : Nat) : Int) ≤ 12 * 500 := Int.le_trans (Int.mul_le_mul_of_nonneg_right (by omega) (by omega)) (Int.mul_le_mul_of_nonneg_left (by omega) (by omega))
  have h10 : 0 ≤ (w : Int) * ((ww N (Pn N - 1 - p) : Nat) : Int) := Int.mul_nonneg (by omega) (by omega)
  rw [Int.sub_mul] at h2
  generalize ((tkn N n p : Nat) : Int) * ((ww N (Pn N - 1 - p) : Nat) : Int) = x at *
  generalize (w : Int) * ((ww N (Pn N - 1 - p) : Nat) : Int) = y at *
  rw [mm_w_id (z := x) (by omega) (by omega), mm_w_id (z := y) (by omega) (by omega), mm_w_id (z := (n : Int) - x) (by omega) (by omega), mm_w_id (by omega) (by omega)]
  omega
theorem bd500 {m a : Nat} (h : m < a) (ha : a ≤ 500) : (0 : Int) ≤ (m : Int) ∧ (m : Int) < 500 := by omega
theorem q0_isRest {N : mm_M} (hN : wf N) (ha : all N (Pn N) ≤ 500) {n : Nat} (hn : n < all N (Pn N)) {C : mm_M} (hg : gD C N) (hv : ∀ n, n < all N (Pn N) → C 119 n = po N n) {Q : Int → mm_M → Prop} (h1 : rq N n = -1 → Q 1 C) (h0 : ¬ rq N n = -1 → Q 0 C) : mX0_isRest n C Q := by
  have hP := wf_P hN
  refine pk_loop (fun j (k : Nat) (_ : Unit) => bX0_isRest_2 j n k C Q) (fun k _ => ∀ p, p < k → ∀ w, w < wn N p → pay N (tkn N n) p (tkn N n p) ≤ pay N (tkn N n) p w) (Pn N) 0 () (Nat.zero_le _) (fun q hq => by omega) ?_ ?_
  · rintro j - g
    unfold bX0_isRest_2
    rw [hg.2.1]
    exact ⟨fun _ => ⟨Or.inr rfl, h1 ((rq_iff hN hn).mpr g)⟩, fun g => by omega⟩
  · rintro j k - hk g ih
    unfold bX0_isRest_2
    have hW := wf_w hN hk
    obtain ⟨e1, e2⟩ := hg.2.2 k hk
    rw [hg.2.1, Int.toNat_natCast, e2]
    refine ⟨fun g => by omega, fun _ => ⟨by omega, q0_wayIn hN hk (by omega) hg ?_⟩⟩
    refine pk_loop (fun i (w : Nat) (_ : Unit) => bX0_isRest_32 (fun v1 v2 M => bX0_isRest_2 j v1 v2 M Q) i n k ((ww N (Pn N - 1 - k) : Nat) : Int) (mm_w ((n : Int) - mm_w (((tkn N n k : Nat) : Int) * ((ww N (Pn N - 1 - k) : Nat) : Int)))) w C Q) (fun w _ => ∀ w', w' < w → pay N (tkn N n) k (tkn N n k) ≤ pay N (tkn N n) k w') (wn N k) 0 () (Nat.zero_le _) (fun q hq => by omega) ?_ ?_
    · rintro i - g2
      unfold bX0_isRest_32
      rw [Int.toNat_natCast, e1, w_1 hk (by omega)]
      refine ⟨by omega, fun _ => ih () (fun p hp => ?_), fun g => by omega⟩
      by_cases e : p = k
      · subst e; exact g2
      · exact g p (by omega)
    · rintro i w - hw g2 ih2
      unfold bX0_isRest_32
      obtain ⟨m, m1, m2, m3, m4⟩ := oth hN ha hn hk hw
      rw [m2, Int.toNat_natCast, Int.toNat_natCast, Int.toNat_natCast, e1, hv n hn, hv m m1, w_1 hw (by omega)]
      refine ⟨by omega, fun g => by omega, fun _ => ⟨bd500 m1 ha, bd500 hn ha, fun q => ih2 () (fun w' hw' => ?_), fun q => ⟨Or.inl rfl, h0 (fun e => ?_)⟩⟩⟩
      · by_cases e : w' = w
        · subst e; omega
        · exact g2 w' (by omega)
      · have := (rq_iff hN hn).mp e k hk w hw
        omega
/-- off the fields and arrays of AllSets -/
def o115 (C C' : mm_M) : Prop := ∀ q k, q ≠ 115 → q ≠ 120 → C' q k = C q k
theorem o115.rf (C : mm_M) : o115 C C := fun _ _ _ _ => rfl
theorem o115.tr {C C' C'' : mm_M} (h : o115 C C') (h2 : o115 C' C'') : o115 C C'' := fun q k a b => (h2 q k a b).trans (h q k a b)
/-- of AllSets itself: size and players stay -/
def k115 (C C' : mm_M) : Prop := ∀ k, k < 8 → C' 115 k = C 115 k
theorem gD_k {C C' N : mm_M} (h : o115 C C') (hk : k115 C C') (hg : gD C N) : gD C' N := ⟨(hk 1 (by decide)).trans hg.1, (hk 2 (by decide)).trans hg.2.1, fun p hp => ⟨(h 116 p (by decide) (by decide)).trans (hg.2.2 p hp).1, (h 117 p (by decide) (by decide)).trans (hg.2.2 p hp).2⟩⟩
theorem vD_k {C C' N : mm_M} (h : o115 C C') (hv : vD C N) : vD C' N := fun n hn => ⟨(h 118 n (by decide) (by decide)).trans (hv n hn).1, (h 119 n (by decide) (by decide)).trans (hv n hn).2⟩
def lD (C N : mm_M) (k : Nat) : Prop := C 115 11 = aL N k ∧ C 115 12 = aF N k ∧ C 115 13 = aM N k ∧ C 115 14 = aP N k
theorem q0_findLeast {N : mm_M} (hN : wf N) (ha : all N (Pn N) ≤ 500) {C : mm_M} (hg : gD C N) (hv : vD C N) {Q : mm_M → Prop} (h : ∀ C', o115 C C' → (∀ k, k < 11 → C' 115 k = C 115 k) → lD C' N (all N (Pn N)) → Q C') : mX0_findLeast C Q := by
  have h1a := (all_bd hN (Pn N) (Nat.le_refl _)).1
  refine ⟨by omega, by omega, ?_⟩
  have u1 : (mm_up (mm_up C 115 12 0) 115 13 0) 118 0 = so N 0 := (hv 0 (by omega)).1
  have u2 : (mm_up (mm_up (mm_up C 115 12 0) 115 13 0) 115 11 ((mm_up (mm_up C 115 12 0) 115 13 0) 118 0)) 119 0 = po N 0 := (hv 0 (by omega)).2
  rw [u2, u1]
  refine pk_loop (fun j (k : Nat) (C1 : mm_M) => bX0_findLeast_32 j k C1 Q) (fun k C1 => o115 C C1 ∧ (∀ i, i < 11 → C1 115 i = C 115 i) ∧ ((k = 0 ∧ C1 115 11 = so N 0 ∧ C1 115 12 = 0 ∧ C1 115 13 = 0 ∧ C1 115 14 = po N 0) ∨ (1 ≤ k ∧ lD C1 N k))) (all N (Pn N)) 0 _ (Nat.zero_le _) ⟨?_, ?_, Or.inl ⟨rfl, rfl, rfl, rfl, rfl⟩⟩ ?_ ?_
  · intro q k a b
    rw [up_n (Or.inl a), up_n (Or.inl a), up_n (Or.inl a), up_n (Or.inl a)]
  · intro i hi
    rw [up_n (Or.inr (by omega)), up_n (Or.inr (by omega)), up_n (Or.inr (by omega)), up_n (Or.inr (by omega))]
  · rintro j C1 ⟨g1, g2, g3⟩
    unfold bX0_findLeast_32
    rw [(g2 1 (by decide)).trans hg.1]
    rcases g3 with ⟨e, -⟩ | ⟨-, g3⟩
    · omega
    · exact ⟨fun _ => h C1 g1 g2 g3, fun g => by omega⟩
  · rintro j k C1 hk ⟨g1, g2, g3⟩ ih
    have hb := aM_bd N k
    have hv1 := vD_k g1 hv
    unfold bX0_findLeast_32
    rw [(g2 1 (by decide)).trans hg.1, Int.toNat_natCast, (hv1 k hk).2]
    refine ⟨fun g => by omega, fun _ => ⟨by omega, qJ_min ⟨by omega, ?_⟩⟩⟩
    generalize hp : (if po N k < C1 115 14 then po N k else C1 115 14) = pz
    have hpz : pz = aP N (k + 1) := by
      rw [← hp]
      show _ = (if k = 0 ∨ po N k < aP N k then po N k else aP N k)
      rcases g3 with ⟨rfl, -, -, -, e4⟩ | ⟨h0, -, -, -, e4⟩
      · rw [e4, if_neg (by omega), if_pos (Or.inl rfl)]
      · rw [e4]
        by_cases e : po N k < aP N k
        · rw [if_pos e, if_pos (Or.inr e)]
        · rw [if_neg e, if_neg (by omega)]
    have v1 : (mm_up C1 115 14 pz) 115 11 = C1 115 11 := up_n (Or.inr (by decide))
    have v2 : (mm_up C1 115 14 pz) 118 k = so N k := (up_n (Or.inl (by decide))).trans (hv1 k hk).1
    rw [v1, v2]
    have o1 : o115 C1 (mm_up C1 115 14 pz) := fun q i a b => up_n (Or.inl a)
    have eL : aL N (k + 1) = if k = 0 ∨ so N k < aL N k then so N k else aL N k := rfl
    have eM : aM N (k + 1) = if k = 0 ∨ so N k < aL N k then 1 else if so N k = aL N k then aM N k + 1 else aM N k := rfl
    have eF : aF N (k + 1) = if k = 0 ∨ so N k < aL N k then (k : Int) else aF N k := rfl
    refine ⟨fun q => ?_, fun q => ⟨by omega, ?_⟩⟩
    · unfold bX0_findLeast_90
      rw [Int.toNat_natCast, v1, v2, w_1 hk (by omega)]
      have v3 : (mm_up C1 115 14 pz) 115 13 = C1 115 13 := up_n (Or.inr (by decide))
      rw [v3]
      refine ⟨by omega, fun q2 => ih _ ⟨g1.tr o1, fun i hi => (up_n (Or.inr (by omega))).trans (g2 i hi), Or.inr ⟨by omega, ?_⟩⟩, fun q2 => ih _ ⟨(g1.tr o1).tr (fun q i a b => up_n (Or.inl a)), fun i hi => (up_n (Or.inr (by omega))).trans ((up_n (Or.inr (by omega))).trans (g2 i hi)), Or.inr ⟨by omega, ?_⟩⟩⟩
      · rcases g3 with ⟨rfl, e1, -⟩ | ⟨h0, e1, e2, e3, e4⟩
        · exact absurd e1.symm q2
        · have hn : ¬ (k = 0 ∨ so N k < aL N k) := by omega
          refine ⟨?_, ?_, ?_, (up_s _ _ _ _).trans hpz⟩
          · rw [up_n (Or.inr (by decide)), eL, if_neg hn, e1]
          · rw [up_n (Or.inr (by decide)), eF, if_neg hn, e2]
          · rw [up_n (Or.inr (by decide)), eM, if_neg hn, if_neg (by omega), e3]
      · refine ⟨?_, ?_, ?_, (up_n (Or.inr (by decide))).trans ((up_s _ _ _ _).trans hpz)⟩
        · rw [up_n (Or.inr (by decide)), up_n (Or.inr (by decide)), eL]
          rcases g3 with ⟨rfl, e1, -⟩ | ⟨h0, e1, -⟩
          · rw [if_pos (Or.inl rfl), e1]
          · rw [if_neg (by omega), e1]
        · rw [up_n (Or.inr (by decide)), up_n (Or.inr (by decide)), eF]
          rcases g3 with ⟨rfl, e1, e2, -⟩ | ⟨h0, e1, e2, -⟩
          · rw [if_pos (Or.inl rfl), e2]; rfl
          · rw [if_neg (by omega), e2]
        · rw [up_s, eM]
          rcases g3 with ⟨rfl, e1, e2, e3, -⟩ | ⟨h0, e1, e2, e3, -⟩
          · rw [if_pos (Or.inl rfl), e3]; rfl
          · rw [if_neg (by omega), if_pos (by omega), e3, mm_w_id (by omega) (by omega)]
    · have hyes : k = 0 ∨ so N k < aL N k := by
        rcases g3 with ⟨rfl, -⟩ | ⟨h0, e1, -⟩
        · exact Or.inl rfl
        · right; omega
      generalize hC2 : mm_up (mm_up (mm_up (mm_up C1 115 14 pz) 115 11 (so N k)) 115 12 (k : Int)) 115 13 0 = C2
      have o2 : o115 C1 C2 := fun q i a b => by rw [← hC2, up_n (Or.inl a), up_n (Or.inl a), up_n (Or.inl a), up_n (Or.inl a)]
      have w1 : C2 115 11 = so N k := by rw [← hC2]; rfl
      have w2 : C2 115 12 = (k : Int) := by rw [← hC2]; rfl
      have w3 : C2 115 13 = 0 := by rw [← hC2]; rfl
      have w4 : C2 115 14 = aP N (k + 1) := by rw [← hC2, ← hpz]; rfl
      have w5 : ∀ i, i < 11 → C2 115 i = C1 115 i := fun i hi => by rw [← hC2, up_n (Or.inr (by omega)), up_n (Or.inr (by omega)), up_n (Or.inr (by omega)), up_n (Or.inr (by omega))]
      unfold bX0_findLeast_90
      rw [Int.toNat_natCast, w1, (o2 118 k (by decide) (by decide)).trans (hv1 k hk).1, w3, w_1 hk (by omega)]
      refine ⟨by omega, fun q2 => absurd rfl q2, fun q2 => ih _ ⟨(g1.tr o2).tr (fun q i a b => up_n (Or.inl a)), fun i hi => (up_n (Or.inr (by omega))).trans ((w5 i hi).trans (g2 i hi)), Or.inr ⟨by omega, ?_, ?_, ?_, ?_⟩⟩⟩
      · rw [up_n (Or.inr (by decide)), w1, eL, if_pos hyes]
      · rw [up_n (Or.inr (by decide)), w2, eF, if_pos hyes]
      · rw [up_s, eM, if_pos hyes]; rfl
      · rw [up_n (Or.inr (by decide)), w4]
