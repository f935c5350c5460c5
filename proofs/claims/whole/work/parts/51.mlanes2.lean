/-! the model: finding the level; even and wise -/
theorem bits5 : ∀ a b c d e : Bool, (a.toNat + 2 * b.toNat + 4 * c.toNat + 8 * d.toNat + 16 * e.toNat < 32) ∧ (a.toNat + 2 * b.toNat + 4 * c.toNat + 8 * d.toNat + 16 * e.toNat).testBit 0 = a ∧ (a.toNat + 2 * b.toNat + 4 * c.toNat + 8 * d.toNat + 16 * e.toNat).testBit 1 = b ∧ (a.toNat + 2 * b.toNat + 4 * c.toNat + 8 * d.toNat + 16 * e.toNat).testBit 2 = c ∧ (a.toNat + 2 * b.toNat + 4 * c.toNat + 8 * d.toNat + 16 * e.toNat).testBit 3 = d ∧ (a.toNat + 2 * b.toNat + 4 * c.toNat + 8 * d.toNat + 16 * e.toNat).testBit 4 = e := by decide
theorem bits_ex (T : Nat → Bool) : ∃ m, m < 32 ∧ ∀ k, k < 5 → bO m k = T k := by
  obtain ⟨h, h0, h1, h2, h3, h4⟩ := bits5 (T 0) (T 1) (T 2) (T 3) (T 4)
  refine ⟨_, h, fun k hk => ?_⟩
  have : k = 0 ∨ k = 1 ∨ k = 2 ∨ k = 3 ∨ k = 4 := by omega
  rcases this with e | e | e | e | e <;> subst e
  · exact h0
  · exact h1
  · exact h2
  · exact h3
  · exact h4
theorem WO_c {N : mm_M} {O O' : Nat → Bool} (h : ∀ k, k < Ln N → O k = O' k) : WO N O = WO N O' := sm_congr (fun k hk => by rw [h k hk])
theorem SO_c {N : mm_M} {g : Nat → Int} {O O' : Nat → Bool} (h : ∀ k, k < Ln N → O k = O' k) : SO N g O = SO N g O' := sm_congr (fun k hk => by rw [h k hk])
/-- some set of lanes is the one -/
theorem fit_ex {N : mm_M} (hL : wfL N) (hn1 : 1 ≤ Ln N) {g : Nat → Int} {c : Int} (hc : 0 < c) : ∃ m, m < 32 ∧ 1 ≤ m ∧ ∀ k, k < Ln N → (bO m k = true ↔ g k * WO N (bO m) < c + SO N g (bO m)) := by
  have hn := wfL_n hL
  obtain ⟨O, o1, o2, o3⟩ := open_ex (N := N) (g := g) (c := c) (by omega) (Ln N) (fun _ => true) (nO_bd N _).2 ⟨0, by omega, rfl⟩ (fun k _ q => absurd rfl q)
  have lv := open_lv hL o1 o2 (fun k hk q => by have := o3 k hk q; omega)
  obtain ⟨m, m1, m2⟩ := bits_ex (fun k => decide (g k * WO N O < c + SO N g O))
  have hT : ∀ k, k < Ln N → (bO m k = true ↔ g k * WO N O < c + SO N g O) := fun k hk => by rw [m2 k (by omega)]; simp
  have hW := lv.1
  -- one of them has some
  obtain ⟨j, j1, j2⟩ := sm_pos_ex (n := Ln N) (f := fun k => wt N k * mx (c + SO N g O - g k * WO N O)) (by rw [lv.2]; exact Int.mul_pos hc (by omega))
  have j3 : g j * WO N O < c + SO N g O := by
    by_cases e : g j * WO N O < c + SO N g O
    · exact e
    · rw [mx_n (by omega), Int.mul_zero] at j2; omega
  have hj : bO m j = true := (hT j j1).mpr j3
  have hWT := WO_pos j1 hj
  have key : (c + SO N g (bO m)) * WO N O = (c + SO N g O) * WO N (bO m) := by
    have e : sm (Ln N) (fun k => (c + SO N g O) * ((if O k = true then wt N k else 0) - (if bO m k = true then wt N k else 0)) - WO N O * ((if O k = true then wt N k * g k else 0) - (if bO m k = true then wt N k * g k else 0))) = 0 := by
      refine sm_zero (fun k hk => ?_)
      have ht := hT k hk
      by_cases a : O k = true
      · have := o2 k hk a
        by_cases b : bO m k = true
        · simp [a, b]
        · have : g k * WO N O = c + SO N g O := by
            have : ¬ g k * WO N O < c + SO N g O := fun q => b (ht.mpr q)
            omega
          simp [a, b]
          rw [← this]; grind
      · have := o3 k hk a
        have b : ¬ bO m k = true := fun q => by have := ht.mp q; omega
        simp [a, b]
    rw [sm_sub, sm_mul, sm_mul, sm_sub, sm_sub] at e
    have e : (c + SO N g O) * (WO N O - WO N (bO m)) - WO N O * (SO N g O - SO N g (bO m)) = 0 := e
    grind
  refine ⟨m, m1, ?_, fun k hk => ?_⟩
  · by_cases e : m = 0
    · subst e
      unfold bO at hj
      rw [Nat.zero_testBit] at hj; cases hj
    · omega
  · rw [hT k hk]
    have q1 : g k * WO N O < c + SO N g O ↔ g k * WO N O * WO N (bO m) < (c + SO N g O) * WO N (bO m) := ⟨fun q => Int.mul_lt_mul_of_pos_right q (by omega), fun q => Int.lt_of_mul_lt_mul_right q (by omega)⟩
    have q2 : g k * WO N (bO m) < c + SO N g (bO m) ↔ g k * WO N (bO m) * WO N O < (c + SO N g (bO m)) * WO N O := ⟨fun q => Int.mul_lt_mul_of_pos_right q (by omega), fun q => Int.lt_of_mul_lt_mul_right q (by omega)⟩
    rw [q1, q2, key, show g k * WO N (bO m) * WO N O = g k * WO N O * WO N (bO m) by grind]
theorem fit_lv {N : mm_M} (hL : wfL N) (hn1 : 1 ≤ Ln N) {g : Nat → Int} {c : Int} (hc : 0 < c) {m : Nat} (h : ∀ k, k < Ln N → (bO m k = true ↔ g k * WO N (bO m) < c + SO N g (bO m))) : isLv N g c (c + SO N g (bO m)) (WO N (bO m)) := by
  refine open_lv hL ?_ (fun k hk q => by have := (h k hk).mp q; omega) (fun k hk q => by
    have : ¬ g k * WO N (bO m) < c + SO N g (bO m) := fun z => q ((h k hk).mpr z)
    omega)
  by_cases e : ∃ k, k < Ln N ∧ bO m k = true
  · exact e
  · exfalso
    have e1 : WO N (bO m) = 0 := sm_zero (fun k hk => if_neg (fun q => e ⟨k, hk, q⟩))
    have e2 : SO N g (bO m) = 0 := sm_zero (fun k hk => if_neg (fun q => e ⟨k, hk, q⟩))
    exact e ⟨0, by omega, (h 0 (by omega)).mpr (by rw [e1, e2]; omega)⟩
def o45 (M M' : mm_M) : Prop := ∀ q i, (q = 0 → i ≠ 45 ∧ i ≠ 46) → M' q i = M q i
theorem o45.oln {M M' : mm_M} (h : o45 M M') : oln M M' := fun q i a _ => h q i (by omega)
theorem q8_findLevel {N : mm_M} (hL : wfL N) (hn1 : 1 ≤ Ln N) {M : mm_M} (hl : lM M N) {g : Nat → Int} (hg : bsM M N g) (hb : gB N g) {c am tm be : Int} (hc : 0 < c ∧ c ≤ 10000000) (ham : 0 < am) (he : mm_wl (mm_wl (4 * tm) * am) = c) (hbe : 0 ≤ be ∧ be ≤ 10000) {Q : Int → mm_M → Prop}
    (h : ∀ (m : Nat) M' V W, m < 32 → 1 ≤ m → o45 M M' → isLv N g c V W → (0 ≤ V ∧ V ≤ 100000000) → M' 0 45 = V → M' 0 46 = be * W → (∀ k, k < Ln N → (bO m k = true ↔ g k * W < V)) → Q m M') : mX8_findLevel am be tm M Q := by
  obtain ⟨m0, p1, p2, p3⟩ := fit_ex hL hn1 (g := g) hc.1
  unfold mX8_findLevel
  have fin : ∀ (m : Nat) M1, m < 32 → 1 ≤ m → o45 M M1 → (∀ k, k < Ln N → (bO m k = true ↔ g k * WO N (bO m) < c + SO N g (bO m))) → Q m (mm_up (mm_up M1 0 45 (c + SO N g (bO m))) 0 46 (be * WO N (bO m))) := fun m M1 h1 h2 h3 h4 => by
    have hS := SO_bd hL (G := 2000000) hb (by omega) (bO m)
    exact h m _ _ _ h1 h2 (fun q i a => by rw [up_n (by omega), up_n (by omega)]; exact h3 q i a) (fit_lv hL hn1 hc.1 h4) (by omega) ((up_n (Or.inr (by decide))).trans (up_s _ _ _ _)) (up_s _ _ _ _) h4
  have stepS : ∀ (m : Nat) M1 (K : mm_M → Prop), m < 32 → 1 ≤ m → o45 M M1 → (¬ (∀ k, k < Ln N → (bO m k = true ↔ g k * WO N (bO m) < c + SO N g (bO m))) → ∀ M2, o45 M M2 → K M2) → mX8_isLevel m am be tm M1 (fun r1 M1 => ((¬ r1 = 0 → (((mm_cmp am 0) ≤ 0 → Q 0 M1) ∧ ((0 : Int) < (mm_cmp am 0) → Q m M1))) ∧ (r1 = 0 → K M1))) := by
    intro m M1 K h1 h2 h3 h4
    refine q8_isLevel hL h1 (h3.oln.lM hl) (fun k hk => (h3 25 k (by omega)).trans (hg k hk)) hb ⟨by omega, hc.2⟩ he hbe (fun f => ⟨fun _ => ⟨fun z => by rw [cmp_le] at z; omega, fun _ => fin m M1 h1 h2 h3 f⟩, fun z => by omega⟩) (fun f => ⟨fun z => absurd rfl z, fun _ => h4 f _ (fun q i a => by rw [up_n (by omega), up_n (by omega)]; exact h3 q i a)⟩)
  refine pk_loop (fun j (k : Nat) (M1 : mm_M) => bX8_findLevel_3 j am be tm k M1 Q) (fun k M1 => 1 ≤ k ∧ o45 M M1) m0 1 M p2 ⟨by omega, fun _ _ _ => rfl⟩ ?_ ?_
  · rintro j M1 ⟨g1, g2⟩
    unfold bX8_findLevel_3
    exact ⟨fun z => by rw [cmp_le] at z; omega, fun _ => stepS m0 M1 _ p1 g1 g2 (fun f => absurd p3 f)⟩
  · rintro j k M1 hk ⟨g1, g2⟩ ih
    unfold bX8_findLevel_3
    rw [w_1 hk (by omega)]
    exact ⟨fun z => by rw [cmp_le] at z; omega, fun _ => stepS k M1 _ (by omega) g1 g2 (fun _ M2 o2 => ih M2 ⟨by omega, o2⟩)⟩
theorem rv {a b c : Int} (h : 0 ≤ a ∧ a ≤ 100000000) (hb : 0 ≤ b ∧ b ≤ 2000000) (hc : 0 ≤ c ∧ c ≤ 32000) : 0 ≤ b * c ∧ b * c ≤ 64000000000 := by
  have := mul_bd hb hc
  omega
theorem q8_layEven {N : mm_M} (hL : wfL N) (hn1 : 1 ≤ Ln N) {M : mm_M} (hl : lM M N) {Q : mm_M → Prop} (h : ∀ M' V W, oln M M' → isEv N V W (M' 0 49) (M' 26) → M' 0 45 = V → M' 0 46 = W → Q M') : mX8_layEven M Q := by
  have hn := wfL_n hL
  have hD := hL.2.2.1
  refine pk_loop (fun j (k : Nat) (M1 : mm_M) => bX8_layEven_2 j k M1 Q) (fun k M1 => (∀ q i, q ≠ 25 → M1 q i = M q i) ∧ ∀ i, i < k → M1 25 i = N 12 i) (Ln N) 0 M (Nat.zero_le _) ⟨fun _ _ _ => rfl, fun i hi => by omega⟩ ?_ ?_
  · rintro j M1 ⟨g1, g2⟩
    unfold bX8_layEven_2
    have o1 : oln M M1 := fun q i _ b => g1 q i (by omega)
    have l1 := o1.lM hl
    rw [l1.1, l1.2.1]
    refine ⟨fun _ => ?_, fun g => by omega⟩
    refine q8_findLevel hL hn1 l1 g2 (gB_A hL) (c := 4 * N 0 21) (by omega) (by omega) (by rw [mm_wl_id (z := 4 * 1) (by omega) (by omega)]; exact mm_wl_id (by omega) (by omega)) (by omega) (fun m M2 V W m1 m2 o2 lv vb e45 e46 hf => ?_)
    have hW := lv.1
    rw [Int.one_mul] at e46
    rw [e46, mm_wl_id (z := 4 * W) (by omega) (by omega)]
    have o2' : o45 M1 M2 := o2
    refine pk_loop (fun j (k : Nat) (M3 : mm_M) => bX8_layEven_55 j m k M3 Q) (fun k M3 => (∀ q i, q ≠ 26 → M3 q i = (mm_up M2 0 49 (4 * W)) q i) ∧ ∀ i, i < k → M3 26 i = wt N i * mx (V - N 12 i * W)) (Ln N) 0 _ (Nat.zero_le _) ⟨fun _ _ _ => rfl, fun i hi => by omega⟩ ?_ ?_
    · rintro j M3 ⟨k1, k2⟩
      unfold bX8_layEven_55
      have o3 : oln M M3 := o1.tr (o2'.oln.tr ((oln.up0 (by decide)).tr (fun q i _ b => k1 q i (by omega))))
      rw [(o3.lM hl).1]
      refine ⟨fun _ => h M3 V W o3 ⟨lv, vb, ?_, k2⟩ ?_ ?_, fun g => by omega⟩
      · rw [k1 0 49 (by decide), up_s]
      · rw [k1 0 45 (by decide), up_n (Or.inr (by decide))]; exact e45
      · rw [k1 0 46 (by decide), up_n (Or.inr (by decide))]; exact e46
    · rintro j k M3 hk ⟨k1, k2⟩ ih
      unfold bX8_layEven_55
      have o3 : oln M M3 := o1.tr (o2'.oln.tr ((oln.up0 (by decide)).tr (fun q i _ b => k1 q i (by omega))))
      have l3 := o3.lM hl
      have hA := (hL.2.1 k hk).1
      have b1 := mul_bd (A := 20) (B := 20) hA (show 0 ≤ W ∧ W ≤ 20 by omega)
      have hw := wt_bd N k
      rw [l3.1, bit_c m1 (by omega)]
      refine ⟨fun g => by omega, fun _ => ⟨fun e => ?_, fun e => ?_⟩⟩
      · unfold bX8_layEven_77
        rw [Int.toNat_natCast, w_1 hk (by omega)]
        refine ⟨fun _ => ⟨by omega, ih _ ⟨fun q i a => (up_n (Or.inl a)).trans (k1 q i a), fun i hi => ?_⟩⟩, fun z => absurd rfl z⟩
        by_cases ei : i = k
        · subst ei
          have : ¬ N 12 i * W < V := fun z => e ((hf i hk).mpr z)
          rw [up_s, mx_n (by omega)]; omega
        · rw [up_n (Or.inr ei)]; exact k2 i (by omega)
      · unfold bX8_layEven_77
        refine ⟨fun z => by omega, fun _ => q8_weight hL hk l3 ⟨by omega, by omega, ?_⟩⟩
        have f25 : M3 25 k = N 12 k := by rw [k1 25 k (by decide), up_n (Or.inl (by decide)), o2' 25 k (by omega)]; exact g2 k hk
        have f45 : M3 0 45 = V := by rw [k1 0 45 (by decide), up_n (Or.inr (by decide))]; exact e45
        have f46 : M3 0 46 = W := by rw [k1 0 46 (by decide), up_n (Or.inr (by decide))]; exact e46
        have hlt := (hf k hk).mp e
        rw [Int.toNat_natCast, w_1 hk (by omega), f25, f45, f46, mm_wl_id (z := N 12 k * W) (by omega) (by omega), mm_wl_id (z := V - N 12 k * W) (by omega) (by omega)]
        have b2 := mul_bd (A := 4) (B := 100000000) (show 0 ≤ wt N k ∧ wt N k ≤ 4 by omega) (show 0 ≤ V - N 12 k * W ∧ V - N 12 k * W ≤ 100000000 by omega)
        rw [mm_wl_id (z := wt N k * (V - N 12 k * W)) (by omega) (by omega)]
        refine ih _ ⟨fun q i a => (up_n (Or.inl a)).trans (k1 q i a), fun i hi => ?_⟩
        by_cases ei : i = k
        · subst ei; rw [up_s, mx_p (by omega)]
        · rw [up_n (Or.inr ei)]; exact k2 i (by omega)
  · rintro j k M1 hk ⟨g1, g2⟩ ih
    unfold bX8_layEven_2
    rw [(g1 0 18 (by decide)).trans hl.1, Int.toNat_natCast, (g1 12 k (by decide)).trans (hl.2.2.2 k hk).1, w_1 hk (by omega)]
    refine ⟨fun g => by omega, fun _ => ⟨by omega, by omega, ih _ ⟨fun q i a => (up_n (Or.inl a)).trans (g1 q i a), fun i hi => ?_⟩⟩⟩
    by_cases e : i = k
    · subst e; rw [up_s]
    · rw [up_n (Or.inr e)]; exact g2 i (by omega)
theorem q8_layWise {N : mm_M} (hL : wfL N) (hn1 : 1 ≤ Ln N) {M : mm_M} (hl : lM M N) {Q : mm_M → Prop} (h : ∀ M', oln M M' → isWi N (M' 0 51) (M' 27) → Q M') : mX8_layWise M Q := by
  have hn := wfL_n hL
  have hD := hL.2.2.1
  refine pk_loop (fun j (k : Nat) (M1 : mm_M) => bX8_layWise_2 j k M1 Q) (fun k M1 => (∀ q i, q ≠ 25 → M1 q i = M q i) ∧ ∀ i, i < k → M1 25 i = N 12 i) (Ln N) 0 M (Nat.zero_le _) ⟨fun _ _ _ => rfl, fun i hi => by omega⟩ ?_ ?_
  · rintro j M1 ⟨g1, g2⟩
    unfold bX8_layWise_2
    have o1 : oln M M1 := fun q i _ b => g1 q i (by omega)
    have l1 := o1.lM hl
    rw [l1.1, l1.2.1]
    refine ⟨fun _ => ?_, fun g => by omega⟩
    refine q8_findLevel hL hn1 l1 g2 (gB_A hL) (c := 8 * N 0 21) (by omega) (by omega) (by rw [mm_wl_id (z := 4 * 2) (by omega) (by omega)]; exact mm_wl_id (by omega) (by omega)) (by omega) (fun m M2 V W m1 m2 o2 lv vb e45 e46 hf => ?_)
    have hW := lv.1
    rw [Int.one_mul] at e46
    rw [e46, mm_wl_id (z := 8 * W) (by omega) (by omega)]
    have o2' : o45 M1 M2 := o2
    refine pk_loop (fun j (k : Nat) (M3 : mm_M) => bX8_layWise_55 j m k M3 Q) (fun k M3 => (∀ q i, q ≠ 27 → M3 q i = (mm_up M2 0 51 (8 * W)) q i) ∧ ∀ i, i < k → M3 27 i = wt N i * mx (V - N 12 i * W)) (Ln N) 0 _ (Nat.zero_le _) ⟨fun _ _ _ => rfl, fun i hi => by omega⟩ ?_ ?_
    · rintro j M3 ⟨k1, k2⟩
      unfold bX8_layWise_55
      have o3 : oln M M3 := o1.tr (o2'.oln.tr ((oln.up0 (by decide)).tr (fun q i _ b => k1 q i (by omega))))
      rw [(o3.lM hl).1]
      refine ⟨fun _ => h M3 o3 ⟨V, W, lv, ?_, k2⟩, fun g => by omega⟩
      rw [k1 0 51 (by decide), up_s]
    · rintro j k M3 hk ⟨k1, k2⟩ ih
      unfold bX8_layWise_55
      have o3 : oln M M3 := o1.tr (o2'.oln.tr ((oln.up0 (by decide)).tr (fun q i _ b => k1 q i (by omega))))
      have l3 := o3.lM hl
      have hA := (hL.2.1 k hk).1
      have b1 := mul_bd (A := 20) (B := 20) hA (show 0 ≤ W ∧ W ≤ 20 by omega)
      have hw := wt_bd N k
      rw [l3.1, bit_c m1 (by omega)]
      refine ⟨fun g => by omega, fun _ => ⟨fun e => ?_, fun e => ?_⟩⟩
      · unfold bX8_layWise_77
        rw [Int.toNat_natCast, w_1 hk (by omega)]
        refine ⟨fun _ => ⟨by omega, ih _ ⟨fun q i a => (up_n (Or.inl a)).trans (k1 q i a), fun i hi => ?_⟩⟩, fun z => absurd rfl z⟩
        by_cases ei : i = k
        · subst ei
          have : ¬ N 12 i * W < V := fun z => e ((hf i hk).mpr z)
          rw [up_s, mx_n (by omega)]; omega
        · rw [up_n (Or.inr ei)]; exact k2 i (by omega)
      · unfold bX8_layWise_77
        refine ⟨fun z => by omega, fun _ => q8_weight hL hk l3 ⟨by omega, by omega, ?_⟩⟩
        have f25 : M3 25 k = N 12 k := by rw [k1 25 k (by decide), up_n (Or.inl (by decide)), o2' 25 k (by omega)]; exact g2 k hk
        have f45 : M3 0 45 = V := by rw [k1 0 45 (by decide), up_n (Or.inr (by decide))]; exact e45
        have f46 : M3 0 46 = W := by rw [k1 0 46 (by decide), up_n (Or.inr (by decide))]; exact e46
        have hlt := (hf k hk).mp e
        rw [Int.toNat_natCast, w_1 hk (by omega), f25, f45, f46, mm_wl_id (z := N 12 k * W) (by omega) (by omega), mm_wl_id (z := V - N 12 k * W) (by omega) (by omega)]
        have b2 := mul_bd (A := 4) (B := 100000000) (show 0 ≤ wt N k ∧ wt N k ≤ 4 by omega) (show 0 ≤ V - N 12 k * W ∧ V - N 12 k * W ≤ 100000000 by omega)
        rw [mm_wl_id (z := wt N k * (V - N 12 k * W)) (by omega) (by omega)]
        refine ih _ ⟨fun q i a => (up_n (Or.inl a)).trans (k1 q i a), fun i hi => ?_⟩
        by_cases ei : i = k
        · subst ei; rw [up_s, mx_p (by omega)]
        · rw [up_n (Or.inr ei)]; exact k2 i (by omega)
  · rintro j k M1 hk ⟨g1, g2⟩ ih
    unfold bX8_layWise_2
    rw [(g1 0 18 (by decide)).trans hl.1, Int.toNat_natCast, (g1 12 k (by decide)).trans (hl.2.2.2 k hk).1, w_1 hk (by omega)]
    refine ⟨fun g => by omega, fun _ => ⟨by omega, by omega, ih _ ⟨fun q i a => (up_n (Or.inl a)).trans (g1 q i a), fun i hi => ?_⟩⟩⟩
    by_cases e : i = k
    · subst e; rw [up_s]
    · rw [up_n (Or.inr e)]; exact g2 i (by omega)
