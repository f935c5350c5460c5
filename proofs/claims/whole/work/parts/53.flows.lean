/-! both part alike -/
theorem ev_p {N : mm_M} (hL : wfL N) {V W P V' W' P' : Int} {x x' : Nat → Int} (h : isEv N V W P x) (h' : isEv N V' W' P' x') : V * W' = V' * W ∧ prp N P x P' x' := by
  obtain ⟨lv, -, hP, hx⟩ := h
  obtain ⟨lv', -, hP', hx'⟩ := h'
  have hD := hL.2.2.1
  have e := lv_u (P := 1) (P' := 1) lv lv' (by omega) (by omega) (fun _ _ => rfl) rfl (by omega)
  refine ⟨by grind, fun k hk => ?_⟩
  have e2 := lv_x (P := 1) (P' := 1) lv lv' (by omega) (by omega) (fun _ _ => rfl) rfl (by omega) hk
  rw [hx k hk, hx' k hk, hP, hP']
  grind
theorem wi_p {N : mm_M} (hL : wfL N) {P P' : Int} {x x' : Nat → Int} (h : isWi N P x) (h' : isWi N P' x') : prp N P x P' x' := by
  obtain ⟨V, W, lv, hP, hx⟩ := h
  obtain ⟨V', W', lv', hP', hx'⟩ := h'
  have hD := hL.2.2.1
  intro k hk
  have e2 := lv_x (P := 1) (P' := 1) lv lv' (by omega) (by omega) (fun _ _ => rfl) rfl (by omega) hk
  rw [hx k hk, hx' k hk, hP, hP']
  grind
theorem ldN_p {N : mm_M} (hL : wfL N) {P P' : Int} {x x' : Nat → Int} (h : isWi N P x) (h' : isWi N P' x') {k : Nat} (hk : k < Ln N) : ldN N P x k * P' = ldN N P' x' k * P := by
  have b := (wi_bd hL h).1
  have b' := (wi_bd hL h').1
  exact ldf_p (by omega) (by omega) (wi_p hL h h') (by grind) hk
theorem le_p {N : mm_M} (hL : wfL N) {P P' : Int} {x x' : Nat → Int} (h : isLe N P x) (h' : isLe N P' x') : prp N P x P' x' := by
  obtain ⟨Q, y, hw, hP, hx⟩ := h
  obtain ⟨Q', y', hw', hP', hx'⟩ := h'
  intro k hk
  have e := ldN_p hL hw hw' hk
  rw [hx k hk, hx' k hk, hP, hP']
  grind
theorem ld_p {N : mm_M} (hL : wfL N) {P P' : Int} {x x' : Nat → Int} (h : isLd N P x) (h' : isLd N P' x') : prp N P x P' x' := by
  obtain ⟨Q, y, hw, hc⟩ := h
  obtain ⟨Q', y', hw', hc'⟩ := h'
  have b := (wi_bd hL hw).1
  have b' := (wi_bd hL hw').1
  have hD := hL.2.2.1
  have hs := hL.2.2.2
  -- where all are led, nothing is added
  have zero : ∀ {Q : Int} {y : Nat → Int} {V W : Int}, isLv N (bas N Q y) (4 * (Q * (10 - N 0 22) * N 0 21)) V W → N 0 22 = 10 → ∀ k, k < Ln N → wt N k * mx (V - bas N Q y k * W) = 0 := fun lv hz k hk => by
    have := lv_le lv hk
    rw [hz] at this
    grind
  intro k hk
  have e := ldN_p hL hw hw' hk
  rcases hc with ⟨V, W, lv, hP, hx⟩ | ⟨hz, hP, hx⟩
  · rcases hc' with ⟨V', W', lv', hP', hx'⟩ | ⟨hz', hP', hx'⟩
    · by_cases hz : N 0 22 = 10
      · have z1 := zero lv hz k hk
        have z2 := zero lv' hz k hk
        rw [hx k hk, hx' k hk, hP, hP', z1, z2]
        grind
      · have hpos : 0 < 4 * (Q * (10 - N 0 22) * N 0 21) := by
          have := Int.mul_pos (Int.mul_pos (show 0 < Q by omega) (show 0 < 10 - N 0 22 by omega)) (show 0 < N 0 21 by omega)
          omega
        have e2 := lv_x (P := Q) (P' := Q') lv lv' (by omega) (by omega) (fun j hj => by
          have ej := ldN_p hL hw hw' hj
          unfold bas
          grind) (by grind) hpos hk
        rw [hx k hk, hx' k hk, hP, hP']
        grind
    · have z1 := zero lv hz' k hk
      rw [hx k hk, hx' k hk, hP, hP', z1]
      grind
  · rcases hc' with ⟨V', W', lv', hP', hx'⟩ | ⟨hz', hP', hx'⟩
    · have z1 := zero lv' hz k hk
      rw [hx k hk, hx' k hk, hP, hP', z1]
      grind
    · rw [hx k hk, hx' k hk, hP, hP']
      grind
/-- bounds -/
def flB (N : mm_M) (P : Int) (x : Nat → Int) : Prop := (1 ≤ P ∧ P ≤ 128000) ∧ ∀ k, k < Ln N → 0 ≤ x k ∧ x k ≤ 80 * P
theorem ev_b {N : mm_M} (hL : wfL N) {V W P : Int} {x : Nat → Int} (h : isEv N V W P x) : flB N P x := by
  obtain ⟨lv, -, hP, hx⟩ := h
  have hW := lv.1
  refine ⟨by omega, fun k hk => ?_⟩
  have h1 := lv_le lv hk
  rw [← hx k hk] at h1
  have h4 : N 0 21 * W ≤ 40 * W := Int.mul_le_mul_of_nonneg_right hL.2.2.1.2 (by omega)
  rw [show 4 * N 0 21 * W = 4 * (N 0 21 * W) by grind] at h1
  generalize N 0 21 * W = t at *
  omega
theorem wi_b {N : mm_M} (hL : wfL N) {P : Int} {x : Nat → Int} (h : isWi N P x) : flB N P x := by
  have := wi_bd hL h
  exact ⟨by omega, fun k hk => by have := this.2 k hk; omega⟩
theorem le_b {N : mm_M} (hL : wfL N) {P : Int} {x : Nat → Int} (h : isLe N P x) : flB N P x := by
  obtain ⟨Q, y, hw, hP, hx⟩ := h
  have b := wi_bd hL hw
  refine ⟨by omega, fun k hk => ?_⟩
  have h2 := b.2 k hk
  have h3 := ldf_bd (N := N) (P := Q) (L := Q * N 0 22 * N 0 21) (x := y) (k := k) h2.1
  rw [hx k hk]
  show 0 ≤ ldf N Q y (Q * N 0 22 * N 0 21) k ∧ ldf N Q y (Q * N 0 22 * N 0 21) k ≤ _
  generalize ldf N Q y (Q * N 0 22 * N 0 21) k = t at *
  omega
theorem ld_b {N : mm_M} (hL : wfL N) {P : Int} {x : Nat → Int} (h : isLd N P x) : flB N P x := by
  obtain ⟨Q, y, hw, hc⟩ := h
  have b := wi_bd hL hw
  have hd : ∀ k, k < Ln N → 0 ≤ ldN N Q y k ∧ ldN N Q y k ≤ 400 * Q := fun k hk => by
    have h2 := b.2 k hk
    have h3 := ldf_bd (N := N) (P := Q) (L := Q * N 0 22 * N 0 21) (x := y) (k := k) h2.1
    show 0 ≤ ldf N Q y (Q * N 0 22 * N 0 21) k ∧ ldf N Q y (Q * N 0 22 * N 0 21) k ≤ _
    generalize ldf N Q y (Q * N 0 22 * N 0 21) k = t at *
    omega
  rcases hc with ⟨V, W, lv, hP, hx⟩ | ⟨hz, hP, hx⟩
  · have hW := lv.1
    have bp := mul_bd (A := 80) (B := 1600) (show 0 ≤ 4 * W ∧ 4 * W ≤ 80 by omega) (show 0 ≤ 10 * Q ∧ 10 * Q ≤ 1600 by omega)
    have bp1 : 1 * 1 ≤ 4 * W * (10 * Q) := Int.mul_le_mul (by omega) (by omega) (by omega) (by omega)
    refine ⟨by omega, fun k hk => ?_⟩
    have h1 := lv_le lv hk
    have h2 := hd k hk
    have h3 : 0 ≤ 4 * W * ldN N Q y k ∧ 4 * W * ldN N Q y k ≤ 4 * W * (400 * Q) := ⟨Int.mul_nonneg (by omega) h2.1, Int.mul_le_mul_of_nonneg_left h2.2 (by omega)⟩
    have h4 : Q * (10 - N 0 22) ≤ Q * 10 := Int.mul_le_mul_of_nonneg_left (by have := hL.2.2.2; omega) (by omega)
    have h5 : Q * (10 - N 0 22) * N 0 21 ≤ Q * 10 * 40 := Int.mul_le_mul h4 hL.2.2.1.2 (by have := hL.2.2.1; omega) (by omega)
    have h6 : 4 * (Q * (10 - N 0 22) * N 0 21) * W ≤ 4 * (Q * 10 * 40) * W := Int.mul_le_mul_of_nonneg_right (by omega) (by omega)
    rw [show 4 * (Q * 10 * 40) * W = 40 * P by rw [hP]; grind] at h6
    rw [show 4 * W * (400 * Q) = 40 * P by rw [hP]; grind] at h3
    rw [hx k hk]
    omega
  · refine ⟨by omega, fun k hk => ?_⟩
    have h2 := hd k hk
    rw [hx k hk]
    omega
/-- the total, in thousandths -/
def sto (N : mm_M) (P : Int) (x : Nat → Int) (n : Nat) : Int := sm n (fun k => x k * (N 12 k * P + N 13 k * x k))
def tot (N : mm_M) (P : Int) (x : Nat → Int) : Int := 1000 * sto N P x (Ln N) / (P * P)
theorem sto_t {N : mm_M} (hL : wfL N) {P : Int} {x : Nat → Int} (hb : flB N P x) {k : Nat} (hk : k < Ln N) : (0 ≤ N 12 k * P ∧ N 12 k * P ≤ 2560000) ∧ (0 ≤ N 13 k * x k ∧ N 13 k * x k ≤ 40960000) ∧ (0 ≤ x k * (N 12 k * P + N 13 k * x k) ∧ x k * (N 12 k * P + N 13 k * x k) ≤ 445644800000000) ∧ x k * (N 12 k * P + N 13 k * x k) ≤ 27200 * (P * P) := by
  have hx := hb.2 k hk
  have hP := hb.1
  have hA := (hL.2.1 k hk).1
  have hB : 0 ≤ N 13 k ∧ N 13 k ≤ 4 := by have := (hL.2.1 k hk).2; omega
  have a := mul_bd (A := 20) (B := 128000) hA (show 0 ≤ P ∧ P ≤ 128000 by omega)
  have b := mul_bd (A := 4) (B := 10240000) hB (show 0 ≤ x k ∧ x k ≤ 10240000 by omega)
  have c := mul_bd (A := 10240000) (B := 43520000) (show 0 ≤ x k ∧ x k ≤ 10240000 by omega) (show 0 ≤ N 12 k * P + N 13 k * x k ∧ N 12 k * P + N 13 k * x k ≤ 43520000 by omega)
  have a2 : N 12 k * P ≤ 20 * P := Int.mul_le_mul_of_nonneg_right hA.2 (by omega)
  have b2 := mul_bd (A := 4) (B := 80 * P) hB hx
  have d := mul_bd (A := 80 * P) (B := 340 * P) hx (show 0 ≤ N 12 k * P + N 13 k * x k ∧ N 12 k * P + N 13 k * x k ≤ 340 * P by omega)
  refine ⟨by omega, by omega, ⟨c.1, Int.le_trans c.2 (by decide)⟩, ?_⟩
  rw [show 27200 * (P * P) = 80 * P * (340 * P) by grind]
  exact d.2
theorem sto_bd {N : mm_M} (hL : wfL N) {P : Int} {x : Nat → Int} (hb : flB N P x) {k : Nat} (hk : k ≤ Ln N) : (0 ≤ sto N P x k ∧ sto N P x k ≤ 2228224000000000) ∧ sto N P x k ≤ 136000 * (P * P) := by
  have hn := wfL_n hL
  have h1 := sm_bd (n := k) (f := fun k => x k * (N 12 k * P + N 13 k * x k)) (c := 445644800000000) (fun i hi => (sto_t hL hb (by omega)).2.2.1)
  have h2 := sm_bd (n := k) (f := fun k => x k * (N 12 k * P + N 13 k * x k)) (c := 27200 * (P * P)) (fun i hi => ⟨(sto_t hL hb (by omega)).2.2.1.1, (sto_t hL hb (by omega)).2.2.2⟩)
  have h3 : 0 ≤ 27200 * (P * P) := Int.mul_nonneg (by omega) (Int.mul_nonneg (by have := hb.1; omega) (by have := hb.1; omega))
  have h4 : (k : Int) * (27200 * (P * P)) ≤ 5 * (27200 * (P * P)) := Int.mul_le_mul_of_nonneg_right (by omega) h3
  refine ⟨⟨h1.1, ?_⟩, ?_⟩
  · have : (k : Int) * 445644800000000 ≤ 5 * 445644800000000 := by omega
    exact Int.le_trans h1.2 (by omega)
  · refine Int.le_trans h2.2 ?_
    generalize P * P = t at *
    omega
theorem tot_bd {N : mm_M} (hL : wfL N) {P : Int} {x : Nat → Int} (hb : flB N P x) : 0 ≤ tot N P x ∧ tot N P x ≤ 136000000 := by
  have h := sto_bd hL hb (Nat.le_refl _)
  have hp : 0 < P * P := Int.mul_pos (by have := hb.1; omega) (by have := hb.1; omega)
  refine ⟨Int.ediv_nonneg (by omega) (by omega), ?_⟩
  exact Int.ediv_le_of_le_mul hp (by omega)
theorem tot_p {N : mm_M} {P P' : Int} {x x' : Nat → Int} (hP : 0 < P) (hP' : 0 < P') (h : prp N P x P' x') : tot N P x = tot N P' x' := by
  have e : sto N P x (Ln N) * (P' * P') = sto N P' x' (Ln N) * (P * P) := by
    unfold sto
    rw [Int.mul_comm _ (P' * P'), ← sm_mul, Int.mul_comm _ (P * P), ← sm_mul]
    refine sm_congr (fun k hk => ?_)
    have := h k hk
    grind
  unfold tot
  rw [← Int.mul_ediv_mul_of_pos_left _ _ (Int.mul_pos hP' hP'), ← Int.mul_ediv_mul_of_pos_left (1000 * sto N P' x' (Ln N)) _ (Int.mul_pos hP hP)]
  rw [show 1000 * sto N P x (Ln N) * (P' * P') = 1000 * (sto N P x (Ln N) * (P' * P')) by grind, e, show 1000 * (sto N P' x' (Ln N) * (P * P)) = 1000 * sto N P' x' (Ln N) * (P * P) by grind, Int.mul_comm (P * P) (P' * P')]
theorem tot_wi {N : mm_M} (hL : wfL N) (hn1 : 1 ≤ Ln N) {P : Int} {x : Nat → Int} (h : isWi N P x) : 1 ≤ tot N P x := by
  have hn := wfL_n hL
  have hb := wi_b hL h
  have hx := wi_bd hL h
  have hsum : sm (Ln N) x = N 0 21 * P := by
    obtain ⟨V, W, lv, hP, hx⟩ := h
    rw [sm_congr (g := fun k => wt N k * mx (V - N 12 k * W)) hx, lv.2, hP]
    grind
  have hD := hL.2.2.1
  have h1 : P ≤ N 0 21 * P := by
    have := Int.mul_le_mul_of_nonneg_right hD.1 (show 0 ≤ P by omega)
    omega
  have hex : ∃ j, j < Ln N ∧ P ≤ 5 * x j := by
    have : 0 ≤ sm (Ln N) (fun k => 5 * x k - P) := by
      rw [sm_sub, sm_mul, sm_const, hsum]
      have : (Ln N : Int) * P ≤ 5 * P := Int.mul_le_mul_of_nonneg_right (by omega) (by omega)
      omega
    obtain ⟨j, j1, j2⟩ := sm_nn_ex hn1 this
    exact ⟨j, j1, by omega⟩
  obtain ⟨j, j1, j2⟩ := hex
  have h2 : x j * (N 12 j * P + N 13 j * x j) ≤ sto N P x (Ln N) := sm_ge1 (f := fun k => x k * (N 12 k * P + N 13 k * x k)) (fun k hk => (sto_t hL hb hk).2.2.1.1) j1
  have hxj := hx.2 j j1
  have h3 : x j ≤ N 12 j * P + N 13 j * x j := by
    have a := (sto_t hL hb j1).1.1
    have b : 1 * x j ≤ N 13 j * x j := Int.mul_le_mul_of_nonneg_right (by have := (hL.2.1 j j1).2; omega) hxj.1
    omega
  have h4 : x j * x j ≤ x j * (N 12 j * P + N 13 j * x j) := Int.mul_le_mul_of_nonneg_left h3 hxj.1
  have h5 : P * P ≤ 5 * x j * (5 * x j) := Int.mul_le_mul j2 j2 (by omega) (by omega)
  have h6 : 5 * x j * (5 * x j) = 25 * (x j * x j) := by grind
  have hp : 0 < P * P := Int.mul_pos (by omega) (by omega)
  unfold tot
  refine Int.le_ediv_of_mul_le hp ?_
  omega
