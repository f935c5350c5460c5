/-! the model's methods on the net -/
def ms (M N : mm_M) (tk : Nat → Nat) : Prop := pj M = N ∧ ∀ p, p < Pn N → M 9 p = (tk p : Int)
def o19 (M M' : mm_M) : Prop := ∀ q k, q ≠ 19 → M' q k = M q k
theorem o19.rf (M : mm_M) : o19 M M := fun _ _ _ => rfl
theorem o19.tr {M M' M'' : mm_M} (h : o19 M M') (h2 : o19 M' M'') : o19 M M'' := fun q k hq => (h2 q k hq).trans (h q k hq)
theorem pp_19 {q k : Nat} (h : pp q k = true) : q ≠ 19 := by
  intro e; subst e; cases h
theorem o19.ms {M M' N : mm_M} {tk : Nat → Nat} (h : o19 M M') (hm : ms M N tk) : ms M' N tk :=
  ⟨pj_fr hm.1 (fun q k hp => h q k (pp_19 hp)), fun p hp => (h 9 p (by decide)).trans (hm.2 p hp)⟩
theorem o19.up {M : mm_M} {k : Nat} {z : Int} : o19 M (mm_up M 19 k z) := fun q i hq => up_n (Or.inl hq)
theorem q8_within {v lo hi : Int} {M : mm_M} {Q : Int → mm_M → Prop} (h1 : lo ≤ v → v ≤ hi → Q 1 M) (h0 : (v < lo ∨ hi < v) → Q 0 M) : mX8_within v lo hi M Q :=
  ⟨fun h => ⟨Or.inl rfl, h0 (Or.inl h)⟩, fun h => ⟨fun g => ⟨Or.inl rfl, h0 (Or.inr g)⟩, fun g => ⟨Or.inr rfl, h1 h g⟩⟩⟩
theorem q8_isNet {M : mm_M} {Q : Int → mm_M → Prop} (h1 : 0 < M 0 0 → Q 1 M) (h0 : M 0 0 ≤ 0 → Q 0 M) : mX8_isNet M Q :=
  ⟨fun h => ⟨Or.inl rfl, h0 h⟩, fun h => ⟨Or.inr rfl, h1 h⟩⟩
theorem ix_w (p w : Nat) (hp : p < 5) (hw : w < 12) : mm_w (mm_w (12 * (p : Int)) + (w : Int)) = ((12 * p + w : Nat) : Int) := by
  rw [mm_w_id (z := 12 * (p : Int)) (by omega) (by omega), mm_w_id (by omega) (by omega)]
  omega
theorem ix_r (p w k : Nat) (hp : p < 5) (hw : w < 12) (hk : k < 5) : mm_w (mm_w (5 * mm_w (mm_w (12 * (p : Int)) + (w : Int))) + (k : Int)) = ((5 * (12 * p + w) + k : Nat) : Int) := by
  rw [ix_w p w hp hw, mm_w_id (z := 5 * ((12 * p + w : Nat) : Int)) (by omega) (by omega), mm_w_id (by omega) (by omega)]
  omega
theorem w_1 {k n : Nat} (hk : k < n) (hn : n ≤ 5000) : mm_w ((k : Int) + 1) = ((k + 1 : Nat) : Int) := by
  rw [mm_w_id (by omega) (by omega)]; omega
theorem q8_roadOf {p w k : Nat} {M : mm_M} {Q : Int → mm_M → Prop} (hp : p < 5) (hw : w < 12) (hk : k < 5) (h : Q (M 11 (5 * (12 * p + w) + k)) M) : mX8_roadOf p w k M Q := by
  unfold mX8_roadOf
  rw [ix_r p w k hp hw hk]
  exact ⟨by omega, h⟩
theorem q8_addWay {N : mm_M} {tk : Nat → Nat} (hN : wf N) {p w : Nat} (hp : p < Pn N) (hw : w < wn N p) {z : Int} (hz : z = 1 ∨ z = -1) {M : mm_M} (hm : ms M N tk) (hb : ∀ r, r < 10 → -100 ≤ M 19 r ∧ M 19 r ≤ 100) {Q : mm_M → Prop}
    (h : ∀ M', o19 M M' → (∀ r, r < 10 → M' 19 r = M 19 r + z * cnt N p w r) → Q M') : mX8_addWay p w z M Q := by
  have hP := wf_P hN
  have hW := wf_w hN hp
  have hL := wf_l hN hp hw
  refine pk_loop (fun n (k : Nat) M' => bX8_addWay_3 n p w z k M' Q) (fun k M' => o19 M M' ∧ ∀ r, r < 10 → M' 19 r = M 19 r + z * sm k (fun j => if rd N p w j = r then 1 else 0)) (ln N p w) 0 M (Nat.zero_le _) ⟨o19.rf M, fun r _ => by simp [sm]⟩ ?_ ?_
  · rintro n M' ⟨h1, h2⟩
    unfold bX8_addWay_3
    have e := pj_r10 (h1.ms hm).1 (p := p) (w := w) hp hw (by omega)
    rw [ix_w p w (by omega) (by omega), Int.toNat_natCast, e]
    exact ⟨by omega, fun _ => h M' h1 h2, fun g => by omega⟩
  · rintro n k M' hk ⟨h1, h2⟩ ih
    unfold bX8_addWay_3
    have hm' := h1.ms hm
    have e := pj_r10 hm'.1 (p := p) (w := w) hp hw (by omega)
    have hr := wf_rd hN hp hw hk
    have hR := wf_R hN
    rw [ix_w p w (by omega) (by omega), Int.toNat_natCast, e]
    refine ⟨by omega, fun g => by omega, fun _ => q8_roadOf (by omega) (by omega) (by omega) ?_⟩
    rw [pj_r11 hm'.1 (p := p) (w := w) (k := k) hp hw hk (by omega) (by omega), ← hr.1, Int.toNat_natCast]
    refine ⟨by omega, by omega, ?_⟩
    rw [w_1 hk (by omega)]
    refine ih _ ⟨h1.tr o19.up, fun r hr2 => ?_⟩
    have hs := sm_bd (n := k) (f := fun j => if rd N p w j = rd N p w k then (1 : Int) else 0) (c := 1) (fun j _ => by split <;> omega)
    have hb' := hb (rd N p w k) (by omega)
    by_cases er : r = rd N p w k
    · subst er
      rw [up_s, h2 _ hr2, mm_w_id (by rcases hz with rfl | rfl <;> omega) (by rcases hz with rfl | rfl <;> omega)]
      simp only [sm, if_pos]
      rw [Int.mul_add]
      omega
    · rw [up_n (Or.inr er), h2 r hr2]
      simp only [sm]
      rw [if_neg (fun q => er q.symm)]
      simp
theorem q8_layLoad {N : mm_M} {tk : Nat → Nat} (hN : wf N) (ht : wfT N tk) {M : mm_M} (hm : ms M N tk) {Q : mm_M → Prop}
    (h : ∀ M', o19 M M' → (∀ r, r < 10 → M' 19 r = lod N tk r) → Q M') : mX8_layLoad M Q := by
  have hP := wf_P hN
  unfold mX8_layLoad
  refine pk_loop (fun n (k : Nat) M' => bX8_layLoad_2 n k M' Q) (fun k M' => o19 M M' ∧ ∀ r, r < k → M' 19 r = 0) 10 0 M (Nat.zero_le _) ⟨o19.rf M, fun r hr => by omega⟩ ?_ ?_
  · rintro n M1 ⟨h1, h2⟩
    unfold bX8_layLoad_2
    refine ⟨fun _ => ?_, fun g => by omega⟩
    refine pk_loop (fun n (k : Nat) M' => bX8_layLoad_23 n k M' Q) (fun k M' => o19 M M' ∧ ∀ r, r < 10 → M' 19 r = sm k (fun p => cnt N p (tk p) r)) (Pn N) 0 M1 (Nat.zero_le _) ⟨h1, fun r hr => h2 r hr⟩ ?_ ?_
    · rintro n M2 ⟨h3, h4⟩
      unfold bX8_layLoad_23
      rw [pj_r (h3.ms hm).1 (q := 0) (k := 9) rfl]
      exact ⟨fun _ => h M2 h3 h4, fun g => by omega⟩
    · rintro n k M2 hk ⟨h3, h4⟩ ih
      unfold bX8_layLoad_23
      have hm2 := h3.ms hm
      rw [pj_r hm2.1 (q := 0) (k := 9) rfl, Int.toNat_natCast, hm2.2 k hk]
      refine ⟨fun g => by omega, fun _ => ⟨by omega, ?_⟩⟩
      refine q8_addWay hN hk (ht k hk) (Or.inl rfl) hm2 (fun r hr => ?_) (fun M3 h5 h6 => ?_)
      · rw [h4 r hr]
        have := sm_bd (n := k) (f := fun p => cnt N p (tk p) r) (c := 1) (fun q hq => by have := cnt_01 hN (r := r) (show q < Pn N by omega) (ht q (by omega)); omega)
        omega
      · rw [w_1 hk (by omega)]
        refine ih M3 ⟨h3.tr h5, fun r hr => ?_⟩
        rw [h6 r hr, h4 r hr]
        simp only [sm]
        omega
  · rintro n k M1 hk ⟨h1, h2⟩ ih
    unfold bX8_layLoad_2
    refine ⟨fun g => by omega, fun _ => ⟨by omega, ?_⟩⟩
    rw [w_1 hk (by omega), Int.toNat_natCast]
    refine ih _ ⟨h1.tr o19.up, fun r hr => ?_⟩
    by_cases e : r = k
    · subst e; rw [up_s]
    · rw [up_n (Or.inr e)]; exact h2 r (by omega)
theorem q8_payAt {N : mm_M} {tk : Nat → Nat} (hN : wf N) {r : Nat} (hr : r < Rn N) {k : Int} (hk : 1 ≤ k ∧ k ≤ 6) {M : mm_M} (hm : ms M N tk) {Q : Int → mm_M → Prop} (h : Q (prc N r k) M) : mX8_payAt r k M Q := by
  have hR := wf_R hN
  have hb := prc_bd hN hr hk
  obtain ⟨-, -, -, ha, hbb, ht⟩ := hN.1.2.2 r hr
  unfold mX8_payAt
  rw [Int.toNat_natCast, pj_r hm.1 (q := 0) (k := 7) rfl, pj_r hm.1 (q := 3) (k := r) rfl, pj_r hm.1 (q := 4) (k := r) rfl, pj_r hm.1 (q := 5) (k := r) rfl]
  have h1 : N 4 r * k ≤ 9 * 6 := Int.le_trans (Int.mul_le_mul_of_nonneg_right hbb.2 (by omega)) (Int.mul_le_mul_of_nonneg_left hk.2 (by omega))
  have h2 : 0 ≤ N 4 r * k := Int.mul_nonneg hbb.1 (by omega)
  have h4 : 0 ≤ N 4 r * (k - 1) := Int.mul_nonneg hbb.1 (by omega)
  have h5 : N 4 r * (k - 1) ≤ 9 * 5 := Int.le_trans (Int.mul_le_mul_of_nonneg_right hbb.2 (by omega)) (Int.mul_le_mul_of_nonneg_left (by omega) (by omega))
  rw [mm_w_id (z := N 4 r * k) (by omega) (by omega), mm_w_id (z := N 3 r + N 4 r * k) (by omega) (by omega), mm_w_id (z := k - 1) (by omega) (by omega), mm_w_id (z := N 4 r * (k - 1)) (by omega) (by omega), mm_w_id (z := N 3 r + N 4 r * k + 0) (by omega) (by omega), mm_w_id (z := N 3 r + N 4 r * k + N 4 r * (k - 1)) (by omega) (by omega), mm_w_id (z := N 3 r + N 4 r * k + N 5 r) (by omega) (by omega)]
  unfold prc at h
  refine ⟨by omega, by omega, fun g1 => ⟨fun g2 => ?_, fun g2 => ⟨by omega, ?_⟩⟩, fun g1 => ⟨by omega, ?_⟩⟩
  · rw [if_neg g1, if_neg g2] at h; exact h
  · rw [if_neg g1, if_pos g2] at h; exact h
  · rw [if_pos g1] at h; exact h
