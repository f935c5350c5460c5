/-! the class: spreading from a set -/
theorem rM_inv {N : mm_M} : ∀ m k, k < rM N m → ∃ n, n < m ∧ rq N n = -1 ∧ rM N n = k
  | 0, k, h => by unfold rM at h; omega
  | m + 1, k, h => by
    by_cases e : rq N m = -1
    · have h1 := rM_s1 e
      by_cases e2 : k = rM N m
      · exact ⟨m, by omega, e, e2.symm⟩
      · obtain ⟨n, n1, n2, n3⟩ := rM_inv (N := N) m k (by omega)
        exact ⟨n, by omega, n2, n3⟩
    · have h1 := rM_s0 e
      obtain ⟨n, n1, n2, n3⟩ := rM_inv (N := N) m k (by omega)
      exact ⟨n, by omega, n2, n3⟩
theorem sm_rM {N : mm_M} (F G : Nat → Int) : ∀ m, (∀ n, n < m → rq N n = -1 → F (rM N n) = G n) → sm (rM N m) F = sm m (fun n => if rq N n = -1 then G n else 0)
  | 0, _ => rfl
  | m + 1, h => by
    have ih := sm_rM F G m (fun n hn => h n (by omega))
    by_cases e : rq N m = -1
    · rw [rM_s1 e]
      show sm (rM N m) F + F (rM N m) = sm m _ + (if rq N m = -1 then G m else 0)
      rw [ih, if_pos e, h m (by omega) e]
    · rw [rM_s0 e, ih]
      show _ = sm m _ + (if rq N m = -1 then G m else 0)
      rw [if_neg e]; omega
def osp (C C' : mm_M) : Prop := ∀ q k, q ≠ 121 → q ≠ 122 → q ≠ 123 → q ≠ 124 → (q = 115 → k ≠ 16 ∧ k ≠ 17 ∧ k ≠ 18) → C' q k = C q k
theorem osp.rf (C : mm_M) : osp C C := fun _ _ _ _ _ _ _ => rfl
theorem osp.tr {C C' C'' : mm_M} (h : osp C C') (h2 : osp C' C'') : osp C C'' := fun q k a b c d e => (h2 q k a b c d e).trans (h q k a b c d e)
theorem osp.aD {C C' N : mm_M} (h : osp C C') (g : aD C N) : aD C' N := by
  obtain ⟨⟨g1, g2, g3⟩, v, ⟨l1, l2, l3, l4⟩, r1, r2, r3, r4⟩ := g
  have f : ∀ k, k < 16 → C' 115 k = C 115 k := fun k hk => h 115 k (by decide) (by decide) (by decide) (by decide) (by omega)
  have f2 : ∀ q k, 115 < q → q < 121 → C' q k = C q k := fun q k a b => h q k (by omega) (by omega) (by omega) (by omega) (by omega)
  exact ⟨⟨(f 1 (by decide)).trans g1, (f 2 (by decide)).trans g2, fun p hp => ⟨(f2 116 p (by decide) (by decide)).trans (g3 p hp).1, (f2 117 p (by decide) (by decide)).trans (g3 p hp).2⟩⟩, fun n hn => ⟨(f2 118 n (by decide) (by decide)).trans (v n hn).1, (f2 119 n (by decide) (by decide)).trans (v n hn).2⟩, ⟨(f 11 (by decide)).trans l1, (f 12 (by decide)).trans l2, (f 13 (by decide)).trans l3, (f 14 (by decide)).trans l4⟩, (f 8 (by decide)).trans r1, (f 9 (by decide)).trans r2, (f 10 (by decide)).trans r3, fun n hn hq => (f2 120 _ (by decide) (by decide)).trans (r4 n hn hq)⟩
def wvs (C : mm_M) (wv nx : Nat) : Prop := ((wv = 123 ∧ nx = 124) ∨ (wv = 124 ∧ nx = 123)) ∧ C 121 2 = (wv : Int) ∧ C 121 4 = (nx : Int)
theorem q5_begin {N : mm_M} (ha : all N (Pn N) ≤ 500) {n0 wv nx : Nat} (h0 : n0 < all N (Pn N)) {C : mm_M} (hw : wvs C wv nx) {Q : mm_M → Prop} (h : ∀ C', osp C C' → (∀ k, C' 115 k = C 115 k) → C' 121 0 = (n0 : Int) → wvs C' wv nx → C' 121 3 = 1 → C' 121 5 = 0 → C' wv 0 = (n0 : Int) → (∀ n, n < all N (Pn N) → C' 122 n = if n = n0 then 0 else -1) → Q C') : mX5_begin n0 (all N (Pn N) : Int) C Q := by
  refine pk_loop (fun j (k : Nat) (C1 : mm_M) => bX5_begin_2 j n0 (all N (Pn N) : Int) k C1 Q) (fun k C1 => (∀ q i, q ≠ 122 → C1 q i = C q i) ∧ ∀ n, n < k → C1 122 n = -1) (all N (Pn N)) 0 C (Nat.zero_le _) ⟨fun _ _ _ => rfl, fun n hn => by omega⟩ ?_ ?_
  · rintro j C1 ⟨g1, g2⟩
    unfold bX5_begin_2
    refine ⟨fun _ => ⟨bd500 h0 ha, ?_⟩, fun g => by omega⟩
    rw [Int.toNat_natCast]
    have u2 : (mm_up (mm_up C1 121 0 (n0 : Int)) 122 n0 0) 121 2 = (wv : Int) := by
      rw [up_n (Or.inl (by decide)), up_n (Or.inr (by decide)), g1 _ _ (by decide)]; exact hw.2.1
    have hak : mm_ak lay_c wv = (0, 500) := by rcases hw.1 with ⟨e, -⟩ | ⟨e, -⟩ <;> subst e <;> rfl
    have hwn : wv ≠ 121 ∧ wv ≠ 122 ∧ wv ≠ 115 := by have := hw.1; omega
    rw [u2, Int.toNat_natCast, hak]
    refine mm_chk_i rfl ⟨by decide, h _ (fun q k a b c d e => ?_) (fun k => ?_) ?_ ⟨hw.1, ?_, ?_⟩ ?_ ?_ ?_ (fun n hn => ?_)⟩
    · have : q ≠ wv := by have := hw.1; omega
      rw [up_n (Or.inl a), up_n (Or.inl a), up_n (Or.inl this), up_n (Or.inl b), up_n (Or.inl a)]; exact g1 q k b
    · rw [up_n (Or.inl (by decide)), up_n (Or.inl (by decide)), up_n (Or.inl (Ne.symm hwn.2.2)), up_n (Or.inl (by decide)), up_n (Or.inl (by decide))]; exact g1 _ k (by decide)
    · rw [up_n (Or.inr (by decide)), up_n (Or.inr (by decide)), up_n (Or.inl (Ne.symm hwn.1)), up_n (Or.inl (by decide)), up_s]
    · rw [up_n (Or.inr (by decide)), up_n (Or.inr (by decide)), up_n (Or.inl (Ne.symm hwn.1))]; exact u2
    · rw [up_n (Or.inr (by decide)), up_n (Or.inr (by decide)), up_n (Or.inl (Ne.symm hwn.1)), up_n (Or.inl (by decide)), up_n (Or.inr (by decide)), g1 _ _ (by decide)]; exact hw.2.2
    · rw [up_n (Or.inr (by decide)), up_s]
    · rw [up_s]
    · rw [up_n (Or.inl hwn.1), up_n (Or.inl hwn.1), up_s]
    · rw [up_n (Or.inl (by decide)), up_n (Or.inl (by decide)), up_n (Or.inl (Ne.symm hwn.2.1))]
      by_cases e : n = n0
      · subst e; rw [up_s, if_pos rfl]
      · rw [up_n (Or.inr e), if_neg e, up_n (Or.inl (by decide))]; exact g2 n hn
  · rintro j k C1 hk ⟨g1, g2⟩ ih
    unfold bX5_begin_2
    rw [Int.toNat_natCast, Int.toNat_natCast, w_1 hk (by omega)]
    refine ⟨fun g => by omega, fun _ => ⟨bd500 hk ha, ih _ ⟨fun q i hq => by rw [up_n (Or.inl hq)]; exact g1 q i hq, fun n hn => ?_⟩⟩⟩
    by_cases e : n = k
    · subst e; rw [up_s]
    · rw [up_n (Or.inr e)]; exact g2 n (by omega)
theorem rchI_bd (N : mm_M) (n0 n : Nat) : 0 ≤ rchI N n0 n ∧ rchI N n0 n ≤ 1 := by unfold rchI; split <;> omega
theorem q0_countReached {N : mm_M} (ha : all N (Pn N) ≤ 500) {n0 : Nat} {C : mm_M} (hd : aD C N) (hr : ∀ n, n < all N (Pn N) → (C 122 n = -1 ∧ ∀ t, ¬ Pth N n0 t n) ∨ (C 122 n ≠ -1 ∧ ∃ t, Pth N n0 t n)) {Q : mm_M → Prop} (h : Q (mm_up (mm_up C 115 16 (rea N n0 0 0)) 115 17 (rea N n0 1 0)) ) : mX0_countReached C Q := by
  have hr1 : ∀ n, n < all N (Pn N) → (if C 122 n = -1 then (0 : Int) else 1) = rchI N n0 n := fun n hn => by
    rcases hr n hn with ⟨a, b⟩ | ⟨a, t, b⟩
    · rw [if_pos a, rchI_0 b]
    · rw [if_neg a, rchI_1 b]
  have hml := rM_le N (all N (Pn N))
  refine pk_loop (fun j (k : Nat) (_ : Unit) => bX0_countReached_7 j k (mm_up C 115 16 (sm k (rchI N n0))) Q) (fun k _ => True) (all N (Pn N)) 0 () (Nat.zero_le _) trivial ?_ ?_
  · rintro j - -
    unfold bX0_countReached_7
    have u1 : ∀ z, (mm_up C 115 16 z) 115 1 = (all N (Pn N) : Int) := fun z => (up_n (Or.inr (by decide))).trans hd.1.1
    rw [u1]
    refine ⟨fun _ => ?_, fun g => by omega⟩
    have e0 : rea N n0 0 0 = sm (all N (Pn N)) (rchI N n0) := if_pos rfl
    have e1 : rea N n0 1 0 = sm (rM N (all N (Pn N))) (fun k => if C 122 (C 120 k).toNat = -1 then 0 else 1) := by
      rw [sm_rM (fun k => if C 122 (C 120 k).toNat = -1 then 0 else 1) (rchI N n0) _ (fun n hn hq => ?_)]
      · rfl
      · rw [hd.2.2.2.2.2.2 n hn hq, Int.toNat_natCast]; exact hr1 n hn
    rw [← e0]
    have key := pk_loop (fun j (k : Nat) (_ : Unit) => bX0_countReached_53 j k (mm_up (mm_up C 115 16 (rea N n0 0 0)) 115 17 (sm k (fun k => if C 122 (C 120 k).toNat = -1 then 0 else 1))) Q) (fun k _ => True) (rM N (all N (Pn N))) 0 () (Nat.zero_le _) trivial ?_ ?_
    · exact key
    · rintro j - -
      unfold bX0_countReached_53
      have u2 : ∀ y z, (mm_up (mm_up C 115 16 y) 115 17 z) 115 8 = (rM N (all N (Pn N)) : Int) := fun y z => (up_n (Or.inr (by decide))).trans ((up_n (Or.inr (by decide))).trans hd.2.2.2.1)
      rw [u2, ← e1]
      exact ⟨fun _ => h, fun g => by omega⟩
    · rintro j k - hk - ih
      unfold bX0_countReached_53
      have u2 : ∀ y z, (mm_up (mm_up C 115 16 y) 115 17 z) 115 8 = (rM N (all N (Pn N)) : Int) := fun y z => (up_n (Or.inr (by decide))).trans ((up_n (Or.inr (by decide))).trans hd.2.2.2.1)
      obtain ⟨n, n1, n2, n3⟩ := rM_inv _ k hk
      have ev : C 120 k = (n : Int) := by rw [← n3]; exact hd.2.2.2.2.2.2 n n1 n2
      have u3 : ∀ y z, (mm_up (mm_up C 115 16 y) 115 17 z) 120 k = (n : Int) := fun y z => (up_n (Or.inl (by decide))).trans ((up_n (Or.inl (by decide))).trans ev)
      have u4 : ∀ y z, (mm_up (mm_up C 115 16 y) 115 17 z) 122 n = C 122 n := fun y z => (up_n (Or.inl (by decide))).trans (up_n (Or.inl (by decide)))
      have hb := (sm_bd (n := k) (f := fun k => if C 122 (C 120 k).toNat = -1 then (0 : Int) else 1) (c := 1) (fun k _ => by split <;> omega))
      have hss : sm (k + 1) (fun k => if C 122 (C 120 k).toNat = -1 then (0 : Int) else 1) = sm k (fun k => if C 122 (C 120 k).toNat = -1 then (0 : Int) else 1) + (if C 122 n = -1 then 0 else 1) := by
        show sm k _ + (if C 122 (C 120 k).toNat = -1 then (0 : Int) else 1) = _
        rw [ev, Int.toNat_natCast]
      have ih' := ih () trivial
      rw [hss] at ih'
      generalize sm k (fun k => if C 122 (C 120 k).toNat = -1 then (0 : Int) else 1) = z at hb ih' ⊢
      rw [u2, Int.toNat_natCast, u3, w_1 hk (by omega), up_s]
      refine ⟨fun g => by omega, fun _ => ⟨by omega, ?_⟩⟩
      unfold mX5_isReached
      rw [Int.toNat_natCast, u4]
      have upp : ∀ y z z', mm_up (mm_up (mm_up C 115 16 y) 115 17 z) 115 17 z' = mm_up (mm_up C 115 16 y) 115 17 z' := fun y z z' => by
        funext q i
        by_cases e : q = 115 ∧ i = 17
        · rw [e.1, e.2, up_s, up_s]
        · have : q ≠ 115 ∨ i ≠ 17 := by omega
          rw [up_n this, up_n this, up_n this]
      refine ⟨bd500 n1 ha, fun g => ⟨Or.inl rfl, fun _ => ?_, fun g => absurd rfl g⟩, fun g => ⟨Or.inr rfl, fun g => by omega, fun _ => ?_⟩⟩
      · rw [mm_w_id (by omega) (by omega), upp]; rw [if_pos g] at ih'; exact ih'
      · rw [mm_w_id (by omega) (by omega), upp]; rw [if_neg g] at ih'; exact ih'
  · rintro j k - hk - ih
    unfold bX0_countReached_7
    have u1 : ∀ z, (mm_up C 115 16 z) 115 1 = (all N (Pn N) : Int) := fun z => (up_n (Or.inr (by decide))).trans hd.1.1
    have u4 : ∀ z, (mm_up C 115 16 z) 122 k = C 122 k := fun z => up_n (Or.inl (by decide))
    have hb := (sm_bd (n := k) (f := rchI N n0) (c := 1) (fun k _ => rchI_bd N n0 k))
    have hss : sm (k + 1) (rchI N n0) = sm k (rchI N n0) + (if C 122 k = -1 then 0 else 1) := by
      rw [hr1 k hk]; rfl
    have ih' := ih () trivial
    rw [hss] at ih'
    generalize sm k (rchI N n0) = z at hb ih' ⊢
    rw [u1, w_1 hk (by omega), up_s]
    refine ⟨fun g => by omega, fun _ => ?_⟩
    unfold mX5_isReached
    rw [Int.toNat_natCast, u4]
    have upp : ∀ z z', mm_up (mm_up C 115 16 z) 115 16 z' = mm_up C 115 16 z' := fun z z' => by
      funext q i
      by_cases e : q = 115 ∧ i = 16
      · rw [e.1, e.2, up_s, up_s]
      · have : q ≠ 115 ∨ i ≠ 16 := by omega
        rw [up_n this, up_n this, up_n this]
    refine ⟨bd500 hk ha, fun g => ⟨Or.inl rfl, fun _ => ?_, fun g => absurd rfl g⟩, fun g => ⟨Or.inr rfl, fun g => by omega, fun _ => ?_⟩⟩
    · rw [mm_w_id (by omega) (by omega), upp]; rw [if_pos g] at ih'; exact ih'
    · rw [mm_w_id (by omega) (by omega), upp]; rw [if_neg g] at ih'; exact ih'
/-- between two steps -/
def OI (N : mm_M) (n0 k wv nx : Nat) (C C1 : mm_M) : Prop := osp C C1 ∧ C1 121 0 = (n0 : Int) ∧ wvs C1 wv nx ∧ C1 121 5 = 0
  ∧ (∃ c : Nat, C1 121 3 = (c : Int) ∧ c ≤ all N (Pn N) ∧ (∀ i, i < c → ∃ n : Nat, C1 wv i = (n : Int) ∧ Pth N n0 k n) ∧ ∀ n, Pth N n0 k n → ∃ i, i < c ∧ C1 wv i = (n : Int))
  ∧ (∀ n, n < all N (Pn N) → (C1 122 n = -1 ∧ ∀ t, t ≤ k → ¬ Pth N n0 t n) ∨ ∃ t : Nat, t ≤ k ∧ C1 122 n = (t : Int) ∧ Pth N n0 t n)
  ∧ ((∃ n, Pth N n0 k n) → C1 115 18 = (k : Int)) ∧ ((∀ n, ¬ Pth N n0 k n) → ∃ L : Nat, C1 115 18 = (L : Int) ∧ isLng N n0 L)
/-- what is known of the last spreading -/
def sD (C N : mm_M) (n0 : Nat) : Prop := C 115 16 = rea N n0 0 0 ∧ C 115 17 = rea N n0 1 0 ∧ ∃ L : Nat, C 115 18 = (L : Int) ∧ isLng N n0 L
theorem q0_spreadFrom {N : mm_M} (hN : wf N) (ha : all N (Pn N) ≤ 500) {n0 wv nx : Nat} (h0 : n0 < all N (Pn N)) {C : mm_M} (hd : aD C N) (hw : wvs C wv nx) (hs : C 121 0 = (n0 : Int) → sD C N n0) {Q : mm_M → Prop}
    (h : ∀ C' wv nx, osp C C' → wvs C' wv nx → C' 121 0 = (n0 : Int) → sD C' N n0 → Q C') : mX0_spreadFrom n0 C Q := by
  unfold mX0_spreadFrom
  refine ⟨fun _ => ?_, fun g => h C wv nx (osp.rf C) hw g (hs g)⟩
  rw [hd.1.1]
  refine q5_begin ha h0 hw (fun C1 b1 b2 b3 b4 b5 b6 b7 b8 => ?_)
  have fin : ∀ k wv nx C2, OI N n0 k wv nx C C2 → (∀ n, ¬ Pth N n0 k n) → mX0_countReached C2 (fun M1 => Q M1) := by
    rintro k wv nx C2 ⟨o1, o2, o3, -, -, o6, -, o8⟩ hno
    obtain ⟨L, L1, L2⟩ := o8 hno
    refine q0_countReached (n0 := n0) ha (o1.aD hd) (fun n hn => ?_) (h _ wv nx (fun q i a b c d e => ?_) ⟨o3.1, o3.2.1, o3.2.2⟩ o2 ⟨rfl, rfl, L, L1, L2⟩)
    · rcases o6 n hn with ⟨p1, p2⟩ | ⟨t, -, t2, t3⟩
      · refine Or.inl ⟨p1, fun t ht => ?_⟩
        by_cases e : t ≤ k
        · exact p2 t e ht
        · obtain ⟨m, hm⟩ := Pth_dn k t n (by omega) ht
          exact hno m hm
      · exact Or.inr ⟨by omega, t, t3⟩
    · have hq : q ≠ 115 ∨ (i ≠ 16 ∧ i ≠ 17) := by
        by_cases e1 : q = 115
        · exact Or.inr ⟨(e e1).1, (e e1).2.1⟩
        · exact Or.inl e1
      rw [up_n (by omega), up_n (by omega)]; exact o1 q i a b c d e
  refine pk_loop (fun j (k : Nat) (z : mm_M × (Nat × Nat)) => bX0_spreadFrom_31 j n0 ((k + 1 : Nat) : Int) z.1 Q) (fun k z => OI N n0 k z.2.1 z.2.2 C z.1) (all N (Pn N)) 0 (mm_up C1 115 18 0, (wv, nx)) (Nat.zero_le _) ?_ ?_ ?_
  · dsimp only
    refine ⟨fun q i a b c d e => ?_, ?_, ⟨b4.1, ?_, ?_⟩, ?_, ⟨1, ?_, by omega, fun i hi => ⟨n0, ?_, rfl⟩, fun n hn => ⟨0, by omega, ?_⟩⟩, fun n hn => ?_, fun _ => up_s _ _ _ _, fun hno => absurd rfl (hno n0)⟩
    · have hq : q ≠ 115 ∨ i ≠ 18 := by
        by_cases e1 : q = 115
        · exact Or.inr (e e1).2.2
        · exact Or.inl e1
      rw [up_n hq]; exact b1 q i a b c d e
    · rw [up_n (Or.inl (by decide))]; exact b3
    · rw [up_n (Or.inl (by decide))]; exact b4.2.1
    · rw [up_n (Or.inl (by decide))]; exact b4.2.2
    · rw [up_n (Or.inl (by decide))]; exact b6
    · rw [up_n (Or.inl (by decide))]; exact b5
    · have : i = 0 := by omega
      subst this
      rw [up_n (Or.inl (by have := b4.1; omega))]; exact b7
    · have hn : n = n0 := hn
      subst hn
      rw [up_n (Or.inl (by have := b4.1; omega))]; exact b7
    · rw [up_n (Or.inl (by decide)), b8 n hn]
      by_cases e : n = n0
      · rw [if_pos e]; exact Or.inr ⟨0, by omega, rfl, e⟩
      · rw [if_neg e]
        refine Or.inl ⟨rfl, fun t ht hp => ?_⟩
        have : t = 0 := by omega
        subst this; exact e hp
  · rintro j ⟨C2, wv, nx⟩ ho
    dsimp only at ho ⊢
    unfold bX0_spreadFrom_31
    have ho' := ho
    obtain ⟨o1, o2, o3, o4, o5, o6, o7, o8⟩ := ho'
    rw [(o1.aD hd).1.1]
    exact ⟨fun _ => fin _ wv nx C2 ho (fun n hp => by have := Pth_all hN h0 hp; omega), fun g => by omega⟩
  · rintro j k ⟨C2, wv, nx⟩ hk ho ih
    dsimp only at ho ih ⊢
    unfold bX0_spreadFrom_31
    have ho' := ho
    obtain ⟨o1, o2, o3, o4, ⟨c, c1, c2, c3, c4⟩, o6, o7, o8⟩ := ho'
    rw [(o1.aD hd).1.1]
    refine ⟨fun g => by omega, fun _ => ⟨fun g => fin _ wv nx C2 ho (fun n hp => ?_), fun g => ?_⟩⟩
    · obtain ⟨i, hi, -⟩ := c4 n hp
      omega
    have hx : nx = 123 ∨ nx = 124 := by have := o3.1; omega
    have hlw : ∀ n, n < all N (Pn N) → C2 122 n ≠ (k : Int) + 1 := fun n hn => by
      rcases o6 n hn with ⟨a, -⟩ | ⟨t, t1, t2, -⟩ <;> omega
    have ws0 : WS N n0 k nx C2 C2 := by
      refine ⟨fun _ _ _ _ _ => rfl, ⟨0, o4, ?_, fun i hi => by omega, fun n hn hq => absurd hq (hlw n hn)⟩, fun _ _ _ => rfl⟩
      rw [sm_zero (fun n hn => if_neg (hlw n hn))]; rfl
    have hdD := o1.aD hd
    refine pk_loop (fun i (l : Nat) (C3 : mm_M) => bX0_spreadFrom_51 (fun v1 v2 M => bX0_spreadFrom_31 j v1 v2 M Q) i n0 ((k + 1 : Nat) : Int) l C3 Q) (fun l C3 => WS N n0 k nx C2 C3 ∧ ∀ i m, i < l → C2 wv i = (m : Nat) → ∀ o, Edge N m o → C3 122 o = (k : Int) + 1) c 0 C2 (Nat.zero_le _) ⟨ws0, fun i m hi => by omega⟩ ?_ ?_
    · rintro i C3 ⟨w1, w2⟩
      unfold bX0_spreadFrom_51
      have fr : ∀ q z, q ≠ 122 → q ≠ nx → (q = 121 → z ≠ 5) → C3 q z = C2 q z := w1.1
      rw [(fr 121 3 (by decide) (by omega) (by decide)).trans c1]
      refine ⟨fun _ => ?_, fun g => by omega⟩
      unfold mX5_goOn
      obtain ⟨-, ⟨c', d1, d2, d3, d4⟩, d5⟩ := w1
      have x4 : C3 121 4 = (nx : Int) := (fr 121 4 (by decide) (by omega) (by decide)).trans o3.2.2
      have x2 : C3 121 2 = (wv : Int) := (fr 121 2 (by decide) (by omega) (by decide)).trans o3.2.1
      have x5 : ∀ z, (mm_up C3 121 2 z) 121 5 = (c' : Int) := fun z => (up_n (Or.inr (by decide))).trans d1
      rw [x4, x2, x5, Int.toNat_natCast, Int.toNat_natCast, mm_w_id (z := ((k + 1 : Nat) : Int) + 1) (by omega) (by omega), show ((k + 1 : Nat) : Int) + 1 = ((k + 1 + 1 : Nat) : Int) by omega]
      generalize hC4 : mm_up (mm_up (mm_up (mm_up C3 121 2 (Int.ofNat nx)) 121 3 (c' : Int)) 121 4 (Int.ofNat wv)) 121 5 0 = C4
      have y3 : C4 121 3 = (c' : Int) := by rw [← hC4]; rfl
      have y2 : C4 121 2 = (nx : Int) := by rw [← hC4]; rfl
      have y4 : C4 121 4 = (wv : Int) := by rw [← hC4]; rfl
      have y5 : C4 121 5 = 0 := by rw [← hC4]; rfl
      have y0 : C4 121 0 = (n0 : Int) := by rw [← hC4]; exact (fr 121 0 (by decide) (by omega) (by decide)).trans o2
      have yq : ∀ q z, q ≠ 121 → C4 q z = C3 q z := fun q z hq => by rw [← hC4, up_n (Or.inl hq), up_n (Or.inl hq), up_n (Or.inl hq), up_n (Or.inl hq)]
      have hcl : c' ≤ all N (Pn N) := by
        have := (sm_bd (n := all N (Pn N)) (f := fun n => if C3 122 n = (k : Int) + 1 then (1 : Int) else 0) (c := 1) (fun k _ => by split <;> omega)).2
        omega
      have hin : ∀ n, Pth N n0 (k + 1) n → n < all N (Pn N) ∧ C3 122 n = (k : Int) + 1 := fun n hp => by
        refine ⟨(Pth_bd hN h0 _ _ hp).1, ?_⟩
        obtain ⟨m, -, m2, m3⟩ := hp
        obtain ⟨i, i1, i2⟩ := c4 m m2
        exact w2 i m i1 i2 n m3
      have oi : ∀ C5, (∀ q z, (q = 115 → z ≠ 18) → C5 q z = C4 q z) → (((c' : Int) ≤ 0 ∧ C5 115 18 = C4 115 18) ∨ (0 < (c' : Int) ∧ C5 115 18 = ((k + 1 : Nat) : Int))) → OI N n0 (k + 1) nx wv C C5 := by
        intro C5 f5 h5
        have f5' : ∀ q z, q ≠ 115 → C5 q z = C4 q z := fun q z hq => f5 q z (fun e => absurd e hq)
        refine ⟨o1.tr (fun q z a b d e f => ?_), ?_, ⟨by have := o3.1; omega, ?_, ?_⟩, ?_, ⟨c', ?_, hcl, fun i hi => ?_, fun n hp => ?_⟩, fun n hn => ?_, ?_, ?_⟩
        · rw [f5 q z (fun e2 => (f e2).2.2), yq q z a]; exact fr q z b (by omega) (fun e2 => absurd e2 a)
        · rw [f5' _ _ (by decide)]; exact y0
        · rw [f5' _ _ (by decide)]; exact y2
        · rw [f5' _ _ (by decide)]; exact y4
        · rw [f5' _ _ (by decide)]; exact y5
        · rw [f5' _ _ (by decide)]; exact y3
        · obtain ⟨n, n1, n2, n3⟩ := d3 i hi
          exact ⟨n, by rw [f5' _ _ (by omega), yq _ _ (by omega)]; exact n2, (d4 n n1 n3).2⟩
        · obtain ⟨n1, n2⟩ := hin n hp
          obtain ⟨⟨i, i1, i2⟩, -⟩ := d4 n n1 n2
          exact ⟨i, i1, by rw [f5' _ _ (by omega), yq _ _ (by omega)]; exact i2⟩
        · rw [f5' _ _ (by decide), yq _ _ (by decide)]
          by_cases e : C3 122 n = (k : Int) + 1
          · exact Or.inr ⟨k + 1, by omega, by rw [e]; omega, (d4 n hn e).2⟩
          · have e' := d5 n hn e
            rw [e']
            rcases o6 n hn with ⟨p1, p2⟩ | ⟨t, t1, t2, t3⟩
            · refine Or.inl ⟨p1, fun t ht hp => ?_⟩
              by_cases et : t = k + 1
              · subst et; exact e (hin n hp).2
              · exact p2 t (by omega) hp
            · exact Or.inr ⟨t, by omega, t2, t3⟩
        · rintro ⟨n, hp⟩
          obtain ⟨n1, n2⟩ := hin n hp
          obtain ⟨⟨i, i1, i2⟩, -⟩ := d4 n n1 n2
          rcases h5 with ⟨h5, -⟩ | ⟨-, h5⟩
          · omega
          · exact h5
        · intro hno
          rcases h5 with ⟨h5, h6⟩ | ⟨h5, -⟩
          · have hz : ∃ n, Pth N n0 k n := by
              obtain ⟨n, -, hn⟩ := c3 0 (by omega)
              exact ⟨n, hn⟩
            refine ⟨k, ?_, hz, fun s n hp => ?_⟩
            · rw [h6, yq _ _ (by decide), fr 115 18 (by decide) (by omega) (by decide)]; exact o7 hz
            · by_cases e : s ≤ k
              · exact e
              · obtain ⟨m, hm⟩ := Pth_dn (k + 1) s n (by omega) hp
                exact absurd hm (hno m)
          · obtain ⟨n, n1, n2, n3⟩ := d3 0 (by omega)
            exact absurd (d4 n n1 n3).2 (hno n)
      rw [y3]
      refine ⟨fun g2 => ih (C4, (nx, wv)) (oi C4 (fun _ _ _ => rfl) (Or.inl ⟨g2, rfl⟩)), fun g2 => ih (mm_up C4 115 18 ((k + 1 : Nat) : Int), (nx, wv)) (oi (mm_up C4 115 18 ((k + 1 : Nat) : Int)) (fun q z hq => ?_) (Or.inr ⟨g2, up_s _ _ _ _⟩))⟩
      by_cases e : q = 115
      · exact up_n (Or.inr (hq e))
      · exact up_n (Or.inl e)
    · rintro i l C3 hl ⟨w1, w2⟩ ih2
      unfold bX0_spreadFrom_51
      have fr : ∀ q z, q ≠ 122 → q ≠ nx → (q = 121 → z ≠ 5) → C3 q z = C2 q z := w1.1
      have x2 : C3 121 2 = (wv : Int) := (fr 121 2 (by decide) (by omega) (by decide)).trans o3.2.1
      have hak : mm_ak lay_c wv = (0, 500) := by rcases o3.1 with ⟨e, -⟩ | ⟨e, -⟩ <;> subst e <;> rfl
      obtain ⟨m, m1, m2⟩ := c3 l hl
      have hm := (Pth_bd hN h0 _ _ m2).1
      have x6 : C3 wv l = (m : Int) := (fr wv l (by have := o3.1; omega) (by have := o3.1; omega) (by have := o3.1; omega)).trans m1
      rw [(fr 121 3 (by decide) (by omega) (by decide)).trans c1, x2, Int.toNat_natCast, Int.toNat_natCast, hak, x6, w_1 hl (by omega)]
      refine ⟨fun g => by omega, fun _ => mm_chk_i rfl ⟨bd500 (show l < all N (Pn N) by omega) ha, q0_offerChanges hN ha (by omega) hx o3.2.2 hdD.1 hdD.2.1 w1 hm m2 (fun C4 l1 l2 l3 => ih2 C4 ⟨l1, fun i' m' hi' hm' o ho => ?_⟩)⟩⟩
      by_cases e : i' = l
      · subst e
        have : m' = m := Int.ofNat.inj (hm'.symm.trans m1)
        subst this; exact l3 o ho
      · exact l2 o (w2 i' m' (by omega) hm' o ho)
