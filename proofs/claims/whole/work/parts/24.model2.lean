/-! pay, social, potential, best ways of the model -/
theorem lod_ge {N : mm_M} (h : wf N) {tk : Nat → Nat} (ht : wfT N tk) {p : Nat} (hp : p < Pn N) (r : Nat) : cnt N p (tk p) r ≤ lod N tk r := by
  unfold lod
  rw [sm_one (f := fun q => cnt N q (tk q) r) (g := fun q => if q = p then 0 else cnt N q (tk q) r) hp (fun k _ hn => by simp [hn])]
  have := (sm_bd (n := Pn N) (f := fun q => if q = p then 0 else cnt N q (tk q) r) (c := 1) (fun q hq => by
    have := cnt_01 h (r := r) hq (ht q hq)
    split <;> omega)).1
  simp
  omega
theorem lodw_in {N : mm_M} (h : wf N) {tk : Nat → Nat} (ht : wfT N tk) {p w k : Nat} (hp : p < Pn N) (hw : w < wn N p) (hk : k < ln N p w) : 1 ≤ lodw N tk p w (rd N p w k) ∧ lodw N tk p w (rd N p w k) ≤ 5 := by
  have h1 := lod_ge h ht hp (rd N p w k)
  have h2 := cnt_in h hp hw hk
  have h3 := lodw_bd h ht hp hw (rd N p w k)
  have h4 := wf_P h
  unfold lodw at *
  omega
theorem pay_part {N : mm_M} (h : wf N) {tk : Nat → Nat} (ht : wfT N tk) {p w k : Nat} (hp : p < Pn N) (hw : w < wn N p) (hk : k ≤ ln N p w) : 0 ≤ sm k (fun k => prc N (rd N p w k) (lodw N tk p w (rd N p w k))) ∧ sm k (fun k => prc N (rd N p w k) (lodw N tk p w (rd N p w k))) ≤ 595 := by
  have h1 := sm_bd (n := k) (f := fun k => prc N (rd N p w k) (lodw N tk p w (rd N p w k))) (c := 119) (fun j hj => by
    have h2 := lodw_in h ht hp hw (show j < ln N p w by omega)
    exact prc_bd h (wf_rd h hp hw (by omega)).2 (by omega))
  have h3 := wf_l h hp hw
  omega
theorem pay_bd {N : mm_M} (h : wf N) {tk : Nat → Nat} (ht : wfT N tk) {p w : Nat} (hp : p < Pn N) (hw : w < wn N p) : 0 ≤ pay N tk p w ∧ pay N tk p w ≤ 595 := pay_part h ht hp hw (Nat.le_refl _)
/-- the loads are laid -/
def lds (M N : mm_M) (tk : Nat → Nat) : Prop := ∀ r, r < 10 → M 19 r = lod N tk r
theorem q8_payNow {N : mm_M} {tk : Nat → Nat} (hN : wf N) (ht : wfT N tk) {p w : Nat} (hp : p < Pn N) (hw : w < wn N p) {M : mm_M} (hm : ms M N tk) (hl : lds M N tk) {Q : Int → mm_M → Prop}
    (h : ∀ M', o19 M M' → lds M' N tk → Q (pay N tk p w) M') : mX8_payNow p w M Q := by
  have hP := wf_P hN
  have hW := wf_w hN hp
  have hL := wf_l hN hp hw
  have hR := wf_R hN
  unfold mX8_payNow
  rw [Int.toNat_natCast, hm.2 p hp]
  refine ⟨by omega, q8_addWay hN hp (ht p hp) (Or.inr rfl) hm (fun r hr => by rw [hl r hr]; have := lod_bd hN ht r; omega) (fun M1 h1 h2 => ?_)⟩
  have hm1 := h1.ms hm
  refine q8_addWay hN hp hw (Or.inl rfl) hm1 (fun r hr => by rw [h2 r hr, hl r hr]; have := lod_bd hN ht r; have := cnt_01 hN (r := r) hp (ht p hp); omega) (fun M2 h3 h4 => ?_)
  have hm2 := h3.ms hm1
  have hl2 : ∀ r, r < 10 → M2 19 r = lodw N tk p w r := fun r hr => by
    rw [h4 r hr, h2 r hr, hl r hr]; unfold lodw; omega
  refine pk_loop (fun n (k : Nat) (z : Int) => bX8_payNow_24 n p w z k M2 Q) (fun k z => z = sm k (fun k => prc N (rd N p w k) (lodw N tk p w (rd N p w k)))) (ln N p w) 0 0 (Nat.zero_le _) rfl ?_ ?_
  · rintro n z rfl
    unfold bX8_payNow_24
    rw [ix_w p w (by omega) (by omega), Int.toNat_natCast, pj_r10 hm2.1 (p := p) (w := w) hp hw (by omega)]
    refine ⟨by omega, fun _ => ?_, fun g => by omega⟩
    refine q8_addWay hN hp hw (Or.inr rfl) hm2 (fun r hr => by rw [hl2 r hr]; have := lodw_bd hN ht hp hw r; omega) (fun M3 h5 h6 => ?_)
    have hm3 := h5.ms hm2
    rw [Int.toNat_natCast, hm3.2 p hp]
    refine ⟨by omega, q8_addWay hN hp (ht p hp) (Or.inl rfl) hm3 (fun r hr => by rw [h6 r hr, hl2 r hr]; have := lodw_bd hN ht hp hw r; have := cnt_01 hN (r := r) hp hw; omega) (fun M4 h7 h8 => ?_)⟩
    refine h M4 (((h1.tr h3).tr h5).tr h7) (fun r hr => ?_)
    rw [h8 r hr, h6 r hr, hl2 r hr]; unfold lodw; omega
  · rintro n k z hk rfl ih
    unfold bX8_payNow_24
    have hr := wf_rd hN hp hw hk
    rw [ix_w p w (by omega) (by omega), Int.toNat_natCast, pj_r10 hm2.1 (p := p) (w := w) hp hw (by omega)]
    refine ⟨by omega, fun g => by omega, fun _ => q8_roadOf (by omega) (by omega) (by omega) ?_⟩
    rw [pj_r11 hm2.1 (p := p) (w := w) (k := k) hp hw hk (by omega) (by omega), ← hr.1, Int.toNat_natCast, hl2 _ (by omega)]
    have hlo := lodw_in hN ht hp hw hk
    refine ⟨by omega, q8_payAt hN hr.2 (by omega) hm2 ?_⟩
    rw [w_1 hk (by omega)]
    refine ih _ ?_
    have h5 := pay_part hN ht hp hw (show k + 1 ≤ ln N p w by omega)
    simp only [sm] at h5 ⊢
    rw [mm_w_id (by omega) (by omega)]
theorem q8_payOf {N : mm_M} {tk : Nat → Nat} (hN : wf N) (ht : wfT N tk) {p w : Nat} (hp : p < Pn N) (hw : w < wn N p) {M : mm_M} (hm : ms M N tk) {Q : Int → mm_M → Prop}
    (h : ∀ M', o19 M M' → lds M' N tk → Q (pay N tk p w) M') : mX8_payOf p w M Q :=
  q8_layLoad hN ht hm (fun _ h1 h2 => q8_payNow hN ht hp hw (h1.ms hm) h2 (fun M2 h3 h4 => h M2 (h1.tr h3) h4))
theorem soc_part {N : mm_M} (h : wf N) {tk : Nat → Nat} (ht : wfT N tk) {k : Nat} (hk : k ≤ Rn N) : 0 ≤ sm k (fun r => lod N tk r * (N 3 r + N 4 r * lod N tk r)) ∧ sm k (fun r => lod N tk r * (N 3 r + N 4 r * lod N tk r)) ≤ 3250 := by
  have hR := wf_R h
  have hP := wf_P h
  have h1 := sm_bd (n := k) (f := fun r => lod N tk r * (N 3 r + N 4 r * lod N tk r)) (c := 325) (fun r hr => by
    obtain ⟨-, -, -, ha, hb, -⟩ := h.1.2.2 r (by omega)
    have hl := lod_bd h ht r
    have h2 : N 4 r * lod N tk r ≤ 9 * 5 := Int.le_trans (Int.mul_le_mul_of_nonneg_right hb.2 hl.1) (Int.mul_le_mul_of_nonneg_left (by omega) (by omega))
    have h3 : 0 ≤ N 4 r * lod N tk r := Int.mul_nonneg hb.1 hl.1
    have h4 : 0 ≤ lod N tk r * (N 3 r + N 4 r * lod N tk r) := Int.mul_nonneg hl.1 (by omega)
    have h5 : lod N tk r * (N 3 r + N 4 r * lod N tk r) ≤ 5 * 65 := Int.le_trans (Int.mul_le_mul_of_nonneg_right (show lod N tk r ≤ 5 by omega) (by omega)) (Int.mul_le_mul_of_nonneg_left (by omega) (by omega))
    omega)
  omega
theorem soc_term {N : mm_M} (h : wf N) {tk : Nat → Nat} (ht : wfT N tk) {r : Nat} (hr : r < Rn N) : (0 ≤ N 4 r * lod N tk r ∧ N 4 r * lod N tk r ≤ 45) ∧ 0 ≤ lod N tk r * (N 3 r + N 4 r * lod N tk r) ∧ lod N tk r * (N 3 r + N 4 r * lod N tk r) ≤ 325 := by
  have hP := wf_P h
  obtain ⟨-, -, -, ha, hb, -⟩ := h.1.2.2 r hr
  have hl := lod_bd h ht r
  have h2 : N 4 r * lod N tk r ≤ 9 * 5 := Int.le_trans (Int.mul_le_mul_of_nonneg_right hb.2 hl.1) (Int.mul_le_mul_of_nonneg_left (by omega) (by omega))
  have h3 : 0 ≤ N 4 r * lod N tk r := Int.mul_nonneg hb.1 hl.1
  have h4 : 0 ≤ lod N tk r * (N 3 r + N 4 r * lod N tk r) := Int.mul_nonneg hl.1 (by omega)
  have h5 : lod N tk r * (N 3 r + N 4 r * lod N tk r) ≤ 5 * 65 := Int.le_trans (Int.mul_le_mul_of_nonneg_right (show lod N tk r ≤ 5 by omega) (by omega)) (Int.mul_le_mul_of_nonneg_left (by omega) (by omega))
  omega
theorem soc_bd {N : mm_M} (h : wf N) {tk : Nat → Nat} (ht : wfT N tk) : 0 ≤ soc N tk ∧ soc N tk ≤ 3250 := soc_part h ht (Nat.le_refl _)
theorem q8_socialNow {N : mm_M} {tk : Nat → Nat} (hN : wf N) (ht : wfT N tk) {M : mm_M} (hm : ms M N tk) {Q : Int → mm_M → Prop}
    (h : ∀ M', o19 M M' → lds M' N tk → Q (soc N tk) M') : mX8_socialNow M Q := by
  have hR := wf_R hN
  refine q8_layLoad hN ht hm (fun M1 h1 h2 => ?_)
  have hm1 := h1.ms hm
  refine pk_loop (fun n (k : Nat) (z : Int) => bX8_socialNow_8 n z k M1 Q) (fun k z => z = sm k (fun r => lod N tk r * (N 3 r + N 4 r * lod N tk r))) (Rn N) 0 0 (Nat.zero_le _) rfl ?_ ?_
  · rintro n z rfl
    unfold bX8_socialNow_8
    rw [pj_r hm1.1 (q := 0) (k := 1) rfl]
    exact ⟨fun _ => h M1 h1 h2, fun g => by omega⟩
  · rintro n k z hk rfl ih
    unfold bX8_socialNow_8
    rw [pj_r hm1.1 (q := 0) (k := 1) rfl, Int.toNat_natCast, pj_r hm1.1 (q := 3) (k := k) rfl, pj_r hm1.1 (q := 4) (k := k) rfl, h2 k (by omega)]
    refine ⟨fun g => by omega, fun _ => ⟨by omega, by omega, by omega, by omega, ?_⟩⟩
    have h3 := soc_term hN ht hk
    have h4 := soc_part hN ht (show k ≤ Rn N by omega)
    have h5 := hN.1.2.2 k hk
    rw [w_1 hk (by omega), mm_w_id (z := N 4 k * lod N tk k) (by omega) (by omega), mm_w_id (z := N 3 k + N 4 k * lod N tk k) (by omega) (by omega), mm_w_id (z := lod N tk k * (N 3 k + N 4 k * lod N tk k)) (by omega) (by omega), mm_w_id (by omega) (by omega)]
    exact ih _ rfl
theorem pots_bd {N : mm_M} (h : wf N) {r : Nat} (hr : r < Rn N) {n : Nat} (hn : n ≤ 5) : 0 ≤ pots N r n ∧ pots N r n ≤ 435 := by
  have hb := h.1.2.1
  obtain ⟨-, -, -, ha, hb4, ht⟩ := h.1.2.2 r hr
  have h1 := sm_bd (n := n) (f := fun k => prc N r ((k : Int) + 1)) (c := 119) (fun k hk => prc_bd h hr (by omega))
  refine ⟨h1.1, ?_⟩
  have h2 : ∀ m, m ≤ 5 → pots N r m ≤ pots N r 5 := fun m hm => by
    have e : ∀ a b, pots N r (a + b) = pots N r a + sm b (fun k => prc N r (((a + k : Nat) : Int) + 1)) := fun a b => by
      induction b with
      | zero => simp [sm]
      | succ b ih => rw [← Nat.add_assoc]; simp only [pots, sm] at ih ⊢; rw [ih]; omega
    have e5 := e m (5 - m)
    rw [show m + (5 - m) = 5 by omega] at e5
    have := (sm_bd (n := 5 - m) (f := fun k => prc N r (((m + k : Nat) : Int) + 1)) (c := 119) (fun k hk => prc_bd h hr (by omega))).1
    omega
  refine Int.le_trans (h2 n hn) ?_
  simp only [pots, sm, prc]
  split
  · simp; omega
  · split <;> simp <;> omega
theorem q8_potentialNow {N : mm_M} {tk : Nat → Nat} (hN : wf N) (ht : wfT N tk) {M : mm_M} (hm : ms M N tk) {Q : Int → mm_M → Prop}
    (h : ∀ M', o19 M M' → lds M' N tk → Q (pot N tk) M') : mX8_potentialNow M Q := by
  have hR := wf_R hN
  have hP := wf_P hN
  refine q8_layLoad hN ht hm (fun M1 h1 h2 => ?_)
  have hm1 := h1.ms hm
  refine pk_loop (fun n (k : Nat) (z : Int) => bX8_potentialNow_8 n z k M1 Q) (fun k z => z = sm k (fun r => pots N r (lod N tk r).toNat)) (Rn N) 0 0 (Nat.zero_le _) rfl ?_ ?_
  · rintro n z rfl
    unfold bX8_potentialNow_8
    rw [pj_r hm1.1 (q := 0) (k := 1) rfl]
    exact ⟨fun _ => h M1 h1 h2, fun g => by omega⟩
  · rintro n k z hk rfl ih
    unfold bX8_potentialNow_8
    rw [pj_r hm1.1 (q := 0) (k := 1) rfl]
    refine ⟨fun g => by omega, fun _ => ?_⟩
    have hl := lod_bd hN ht k
    have hs := sm_bd (n := k) (f := fun r => pots N r (lod N tk r).toNat) (c := 435) (fun r hr => pots_bd hN (by omega) (by have := lod_bd hN ht r; omega))
    have hone : ((0 : Nat) : Int) + 1 = 1 := rfl
    refine (pk_loop (fun j (i : Nat) (z : Int) => bX8_potentialNow_18 (fun v1 v2 M => bX8_potentialNow_8 n v1 v2 M Q) j z k ((i : Int) + 1) M1 Q) (fun i z => z = sm k (fun r => pots N r (lod N tk r).toNat) + pots N k i) (lod N tk k).toNat 0 (sm k (fun r => pots N r (lod N tk r).toNat)) (Nat.zero_le _) (Int.add_zero _).symm ?_ ?_ : _)
    · rintro j z rfl
      unfold bX8_potentialNow_18
      rw [Int.toNat_natCast, h2 k (by omega)]
      refine ⟨by omega, fun _ => ?_, fun g => by omega⟩
      rw [w_1 hk (by omega)]
      exact ih _ rfl
    · rintro j i z hi rfl ih2
      unfold bX8_potentialNow_18
      rw [Int.toNat_natCast, h2 k (by omega)]
      refine ⟨by omega, fun g => by omega, fun _ => q8_payAt hN hk (by omega) hm1 ?_⟩
      have hp1 := pots_bd hN hk (show i ≤ 5 by omega)
      have hp2 := prc_bd hN hk (show 1 ≤ (i : Int) + 1 ∧ (i : Int) + 1 ≤ 6 by omega)
      rw [mm_w_id (z := (i : Int) + 1 + 1) (by omega) (by omega), mm_w_id (by omega) (by omega)]
      refine ih2 _ ?_
      simp only [pots, sm]
      omega
