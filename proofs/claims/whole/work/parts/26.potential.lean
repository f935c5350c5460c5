/-! a change of way changes potential by as much as pay; turns of the others end -/
theorem lod_upt {N : mm_M} {tk : Nat → Nat} {p w : Nat} (hp : p < Pn N) (r : Nat) : lod N (upt tk p w) r = lodw N tk p w r := by
  unfold lodw lod upt
  rw [sm_one (f := fun q => cnt N q (if q = p then w else tk q) r) (g := fun q => cnt N q (tk q) r) hp (fun k _ hn => by simp [hn])]
  simp
  omega
theorem pay_sum {N : mm_M} (h : wf N) {p w : Nat} (hp : p < Pn N) (hw : w < wn N p) (g : Nat → Int) : sm (Rn N) (fun r => cnt N p w r * g r) = sm (ln N p w) (fun k => g (rd N p w k)) := by
  have h1 : sm (Rn N) (fun r => cnt N p w r * g r) = sm (Rn N) (fun r => sm (ln N p w) (fun k => if rd N p w k = r then g r else 0)) := sm_congr (fun r _ => by
    unfold cnt
    rw [Int.mul_comm, ← sm_mul]
    exact sm_congr (fun k _ => by split <;> simp))
  rw [h1, sm_comm]
  refine sm_congr (fun k hk => ?_)
  have h2 := sm_ite (wf_rd h hp hw hk).2 (g (rd N p w k))
  rw [← h2]
  refine sm_congr (fun r _ => ?_)
  by_cases e : r = rd N p w k
  · rw [if_pos e.symm, if_pos e, e]
  · rw [if_neg (fun q => e q.symm), if_neg e]
theorem pots_s (N : mm_M) (r n : Nat) : pots N r (n + 1) = pots N r n + prc N r ((n : Int) + 1) := rfl
theorem pot_step {N : mm_M} (h : wf N) {tk : Nat → Nat} (ht : wfT N tk) {p w : Nat} (hp : p < Pn N) (hw : w < wn N p) : pot N (upt tk p w) = pot N tk + pay N tk p w - pay N tk p (tk p) := by
  have e1 : pay N tk p w = sm (Rn N) (fun r => cnt N p w r * prc N r (lodw N tk p w r)) := (pay_sum h hp hw (fun r => prc N r (lodw N tk p w r))).symm
  have e2 : pay N tk p (tk p) = sm (Rn N) (fun r => cnt N p (tk p) r * prc N r (lodw N tk p (tk p) r)) := (pay_sum h hp (ht p hp) (fun r => prc N r (lodw N tk p (tk p) r))).symm
  rw [e1, e2]
  unfold pot
  have e3 : sm (Rn N) (fun r => pots N r (lod N (upt tk p w) r).toNat) = sm (Rn N) (fun r => (pots N r (lod N tk r).toNat + cnt N p w r * prc N r (lodw N tk p w r)) - cnt N p (tk p) r * prc N r (lodw N tk p (tk p) r)) := sm_congr (fun r _ => by
    rw [lod_upt hp]
    have c1 := cnt_01 h (r := r) hp hw
    have c2 := cnt_01 h (r := r) hp (ht p hp)
    have c3 := lod_ge h ht hp r
    have c4 := lod_bd h ht r
    have e4 : lodw N tk p (tk p) r = lod N tk r := by unfold lodw; omega
    rw [e4]
    rcases c1 with a | a <;> rcases c2 with b | b
    · have : lodw N tk p w r = lod N tk r := by unfold lodw; omega
      rw [this, a, b]; simp
    · have : lodw N tk p w r = lod N tk r - 1 := by unfold lodw; omega
      rw [this, a, b]
      have e5 : (lod N tk r).toNat = (lod N tk r - 1).toNat + 1 := by omega
      rw [e5, pots_s]
      have e6 : (((lod N tk r - 1).toNat : Nat) : Int) + 1 = lod N tk r := by omega
      rw [e6]
      simp
    · have e7 : lodw N tk p w r = lod N tk r + 1 := by unfold lodw; omega
      rw [e7, a, b]
      have e5 : (lod N tk r + 1).toNat = (lod N tk r).toNat + 1 := by omega
      rw [e5, pots_s]
      have e6 : (((lod N tk r).toNat : Nat) : Int) + 1 = lod N tk r + 1 := by omega
      rw [e6]
      simp
    · have : lodw N tk p w r = lod N tk r := by unfold lodw; omega
      rw [this, a, b]; simp)
  rw [e3, sm_sub, sm_add]
theorem pot_bd {N : mm_M} (h : wf N) {tk : Nat → Nat} (ht : wfT N tk) : 0 ≤ pot N tk ∧ pot N tk ≤ 4350 := by
  have hR := wf_R h
  have hP := wf_P h
  have h1 := sm_bd (n := Rn N) (f := fun r => pots N r (lod N tk r).toNat) (c := 435) (fun r hr => pots_bd h hr (by have := lod_bd h ht r; omega))
  unfold pot
  omega
theorem bst_pay {N : mm_M} {tk : Nat → Nat} {p : Nat} : ∀ k, bst N tk p k = tk p ∨ pay N tk p (bst N tk p k) < pay N tk p (tk p)
  | 0 => Or.inl rfl
  | k + 1 => by
    rcases bst_pay k with h | h
    · unfold bst
      split
      · rename_i g; right; rw [h] at g; exact g
      · exact Or.inl h
    · unfold bst
      split
      · rename_i g; right; omega
      · exact Or.inr h
theorem bst_min {N : mm_M} {tk : Nat → Nat} {p : Nat} : ∀ k w, w < k → pay N tk p (bst N tk p k) ≤ pay N tk p w
  | 0, w, h => by omega
  | k + 1, w, h => by
    have h1 := bst_min k w (N := N) (tk := tk) (p := p)
    unfold bst
    split
    · rename_i g
      by_cases e : w = k
      · subst e; exact Int.le_refl _
      · have := h1 (by omega); omega
    · rename_i g
      by_cases e : w = k
      · subst e; omega
      · exact h1 (by omega)
/-- it rests where a way of lesser pay is nobody's -/
theorem bestw_iff {N : mm_M} {tk : Nat → Nat} {p : Nat} : bestw N tk p = tk p ↔ ∀ w, w < wn N p → pay N tk p (tk p) ≤ pay N tk p w := by
  constructor
  · intro h w hw
    have := bst_min (N := N) (tk := tk) (p := p) (wn N p) w hw
    unfold bestw at h
    rw [h] at this
    exact this
  · intro h
    rcases bst_pay (N := N) (tk := tk) (p := p) (wn N p) with g | g
    · exact g
    · have hl : ∀ k, k ≤ wn N p → bst N tk p k = tk p ∨ bst N tk p k < wn N p := fun k => by
        induction k with
        | zero => intro _; exact Or.inl rfl
        | succ k ih =>
          intro hk
          unfold bst
          split
          · right; omega
          · exact ih (by omega)
      rcases hl (wn N p) (Nat.le_refl _) with e | e
      · exact e
      · have := h _ e; omega
theorem turn_pot {N : mm_M} (h : wf N) {tk : Nat → Nat} (ht : wfT N tk) {p : Nat} (hp : p < Pn N) (hb : bestw N tk p ≠ tk p) : pot N (upt tk p (bestw N tk p)) < pot N tk := by
  have h1 := pot_step h ht hp (bestw_lt (ht p hp))
  rcases bst_pay (N := N) (tk := tk) (p := p) (wn N p) with g | g
  · exact absurd g hb
  · unfold bestw at *; omega
/-- who would move -/
noncomputable def rz (N : mm_M) (tk : Nat → Nat) (but : Int) : Int := Classical.choose (isRst_ex N tk but)
theorem rz_ok (N : mm_M) (tk : Nat → Nat) (but : Int) : isRst N tk but (rz N tk but) := Classical.choose_spec (isRst_ex N tk but)
theorem rz_eq {N : mm_M} {tk : Nat → Nat} {but z : Int} (h : isRst N tk but z) : rz N tk but = z := isRst_u (rz_ok N tk but) h
/-- the others' turns, so many at most -/
noncomputable def ledF (N : mm_M) (but : Int) : Nat → (Nat → Nat) → (Nat → Nat)
  | 0, tk => tk
  | n + 1, tk => if rz N tk but = -1 then tk else ledF N but n (upt tk (rz N tk but).toNat (bestw N tk (rz N tk but).toNat))
theorem ledF_wf {N : mm_M} (but : Int) : ∀ (n : Nat) (tk : Nat → Nat), wfT N tk → wfT N (ledF N but n tk)
  | 0, tk, h => h
  | n + 1, tk, h => by
    unfold ledF
    split
    · exact h
    · rename_i g
      rcases rz_ok N tk but with ⟨e, -⟩ | ⟨p, hp, e, -⟩
      · exact absurd e g
      · rw [e, Int.toNat_natCast]
        exact ledF_wf but n _ (wfT_upt h (bestw_lt (h p hp)))
theorem ledF_but {N : mm_M} (p : Nat) : ∀ (n : Nat) (tk : Nat → Nat), ledF N p n tk p = tk p
  | 0, tk => rfl
  | n + 1, tk => by
    unfold ledF
    split
    · rfl
    · rename_i g
      rcases rz_ok N tk p with ⟨e, -⟩ | ⟨q, hq, e, hn, -⟩
      · exact absurd e g
      · rw [ledF_but p n, e, Int.toNat_natCast]
        unfold upt
        rw [if_neg (fun q => hn (by rw [q]))]
theorem ledF_more {N : mm_M} (h : wf N) (but : Int) : ∀ (n m : Nat) (tk : Nat → Nat), wfT N tk → pot N tk < n → n ≤ m → ledF N but m tk = ledF N but n tk
  | 0, m, tk, ht, hp, _ => by have := (pot_bd h ht).1; omega
  | n + 1, 0, tk, ht, hp, hm => by omega
  | n + 1, m + 1, tk, ht, hp, hm => by
    unfold ledF
    split
    · rfl
    · rename_i g
      rcases rz_ok N tk but with ⟨e, -⟩ | ⟨p, hq, e, -, hb, -⟩
      · exact absurd e g
      · rw [e, Int.toNat_natCast]
        have := turn_pot h ht hq hb
        exact ledF_more h but n m _ (wfT_upt ht (bestw_lt (ht p hq))) (by omega) (by omega)
noncomputable def led (N : mm_M) (but : Int) (tk : Nat → Nat) : Nat → Nat := ledF N but 4351 tk
theorem led_0 {N : mm_M} {but : Int} {tk : Nat → Nat} (h : isRst N tk but (-1)) : led N but tk = tk := by
  unfold led ledF
  rw [if_pos (rz_eq h)]
theorem led_s {N : mm_M} (hN : wf N) {but : Int} {tk : Nat → Nat} (ht : wfT N tk) {p : Nat} (hp : p < Pn N) (h : isRst N tk but p) : led N but (upt tk p (bestw N tk p)) = led N but tk := by
  have hb : bestw N tk p ≠ tk p := by
    rcases h with ⟨e, -⟩ | ⟨q, -, e, -, hb, -⟩
    · omega
    · have : p = q := by omega
      rw [this]; exact hb
  have h1 := turn_pot hN ht hp hb
  have h2 := pot_bd hN ht
  have e : led N but tk = ledF N but 4350 (upt tk p (bestw N tk p)) := by
    show (if rz N tk but = -1 then tk else ledF N but 4350 (upt tk (rz N tk but).toNat (bestw N tk (rz N tk but).toNat))) = _
    rw [rz_eq h, if_neg (by omega), Int.toNat_natCast]
  rw [e]
  unfold led
  exact ledF_more hN but 4350 4351 _ (wfT_upt ht (bestw_lt (ht p hp))) (by omega) (by omega)
/-- pay of one that leads -/
noncomputable def ldp (N : mm_M) (tk : Nat → Nat) (p w : Nat) : Int := pay N (led N p (upt tk p w)) p w
noncomputable def lbs (N : mm_M) (tk : Nat → Nat) (p : Nat) : Nat → Nat
  | 0 => 0
  | w + 1 => if ldp N tk p w < ldp N tk p (lbs N tk p w) then w else lbs N tk p w
noncomputable def lbest (N : mm_M) (tk : Nat → Nat) (p : Nat) : Nat := lbs N tk p (wn N p)
theorem lbs_lt {N : mm_M} {tk : Nat → Nat} {p : Nat} (h : 1 ≤ wn N p) : ∀ k, k ≤ wn N p → lbs N tk p k < wn N p
  | 0, _ => h
  | k + 1, hk => by
    unfold lbs
    split
    · omega
    · exact lbs_lt h k (by omega)
