/-! the class: net, players, loads -/
theorem kd_p {p : Nat} (hp : p < 5) : mm_kd lay_c (30 + 17 * p) 4 = true := by
  rcases (show p = 0 ∨ p = 1 ∨ p = 2 ∨ p = 3 ∨ p = 4 by omega) with rfl | rfl | rfl | rfl | rfl <;> rfl
theorem ak_p1 {p : Nat} (hp : p < 5) : mm_ak lay_c (30 + 17 * p + 1) = (0, 12) := by
  rcases (show p = 0 ∨ p = 1 ∨ p = 2 ∨ p = 3 ∨ p = 4 by omega) with rfl | rfl | rfl | rfl | rfl <;> rfl
theorem ak_p2 {p : Nat} (hp : p < 5) : mm_ak lay_c (30 + 17 * p + 2) = (0, 12) := by
  rcases (show p = 0 ∨ p = 1 ∨ p = 2 ∨ p = 3 ∨ p = 4 by omega) with rfl | rfl | rfl | rfl | rfl <;> rfl
theorem ak_p3 {p : Nat} (hp : p < 5) : mm_ak lay_c (30 + 17 * p + 3) = (0, 5) := by
  rcases (show p = 0 ∨ p = 1 ∨ p = 2 ∨ p = 3 ∨ p = 4 by omega) with rfl | rfl | rfl | rfl | rfl <;> rfl
theorem ak_p4 {p : Nat} (hp : p < 5) : mm_ak lay_c (30 + 17 * p + 4) = (4, 12) := by
  rcases (show p = 0 ∨ p = 1 ∨ p = 2 ∨ p = 3 ∨ p = 4 by omega) with rfl | rfl | rfl | rfl | rfl <;> rfl
theorem ak_pw : ∀ p, p < 5 → ∀ w, w < 12 → mm_ak lay_c (30 + 17 * p + 5 + w) = (0, 5) := by decide +kernel
theorem ak_r : ∀ r, r < 10 → mm_ak lay_c (19 + r) = (0, 7) := by decide +kernel
theorem el_4 (q w : Nat) : mm_el 4 (q + 4) w = q + 5 + w := by show q + 4 + 1 + w = _; omega
/-- what lasts of a player -/
def pD (C N : mm_M) (p : Nat) : Prop := C (30 + 17 * p) 0 = N 6 p ∧ C (30 + 17 * p) 1 = N 7 p ∧ C (30 + 17 * p) 2 = N 8 p ∧ ∀ w, w < wn N p → C (30 + 17 * p + 1) w = N 10 (12 * p + w) ∧ (∀ r : Nat, r < 10 → mm_and (mm_shr (C (30 + 17 * p + 2) w) r) 1 = cnt N p w r) ∧ ∀ k, k < ln N p w → C (30 + 17 * p + 5 + w) k = N 11 (5 * (12 * p + w) + k)
def nD (C N : mm_M) : Prop := C 9 3 = N 0 7 ∧ C 10 0 = N 0 0 ∧ C 10 1 = N 0 1 ∧ ∀ r, r < Rn N → C 11 r = N 1 r ∧ C 12 r = N 2 r ∧ C 13 r = N 3 r ∧ C 14 r = N 4 r ∧ C 15 r = N 5 r
def xD (C N : mm_M) : Prop := ∀ r, r < Rn N → ∀ k : Nat, 1 ≤ k → k ≤ 6 → C (19 + r) k = prc N r k
def cN (C N : mm_M) : Prop := C 9 2 = N 0 9 ∧ nD C N ∧ xD C N ∧ ∀ p, p < Pn N → pD C N p
def cT (C N : mm_M) (tk : Nat → Nat) : Prop := (∀ p, p < Pn N → C (30 + 17 * p) 3 = (tk p : Int)) ∧ ∀ r, r < 10 → C 16 r = lod N tk r
def cs (C N : mm_M) (tk : Nat → Nat) : Prop := cN C N ∧ cT C N tk
/-- only the loads change -/
def o16 (C C' : mm_M) : Prop := ∀ q k, q ≠ 16 → C' q k = C q k
theorem o16.rf (C : mm_M) : o16 C C := fun _ _ _ => rfl
theorem o16.tr {C C' C'' : mm_M} (h : o16 C C') (h2 : o16 C' C'') : o16 C C'' := fun q k a => (h2 q k a).trans (h q k a)
/-- only the loads and which ways are taken -/
def otf (C C' : mm_M) : Prop := ∀ q k, q ≠ 16 → (k = 3 → ∀ p, p < 5 → q ≠ 30 + 17 * p) → C' q k = C q k
theorem otf.rf (C : mm_M) : otf C C := fun _ _ _ _ => rfl
theorem otf.tr {C C' C'' : mm_M} (h : otf C C') (h2 : otf C' C'') : otf C C'' := fun q k a b => (h2 q k a b).trans (h q k a b)
theorem o16.otf {C C' : mm_M} (h : o16 C C') : otf C C' := fun q k a _ => h q k a
theorem otf.pD {C C' N : mm_M} (h : otf C C') {p : Nat} (hN : wf N) (hp : p < Pn N) (hd : pD C N p) : pD C' N p := by
  have hP := wf_P hN
  have hW := wf_w hN hp
  obtain ⟨a, b, c, d⟩ := hd
  refine ⟨(h _ 0 (by omega) (fun e => by omega)).trans a, (h _ 1 (by omega) (fun e => by omega)).trans b, (h _ 2 (by omega) (fun e => by omega)).trans c, fun w hw => ?_⟩
  obtain ⟨d1, d2, d3⟩ := d w hw
  refine ⟨(h _ _ (by omega) (fun _ q hq e => by omega)).trans d1, fun r hr => ?_, fun k hk => (h _ _ (by omega) (fun _ q hq e => by omega)).trans (d3 k hk)⟩
  rw [h (30 + 17 * p + 2) w (by omega) (fun _ q hq e => by omega)]
  exact d2 r hr
theorem otf.nD {C C' N : mm_M} (h : otf C C') (hn : nD C N) : nD C' N := by
  obtain ⟨a, b, c, d⟩ := hn
  refine ⟨(h 9 3 (by decide) (fun _ p _ e => by omega)).trans a, (h 10 0 (by decide) (fun e => by omega)).trans b, (h 10 1 (by decide) (fun e => by omega)).trans c, fun r hr => ?_⟩
  obtain ⟨d1, d2, d3, d4, d5⟩ := d r hr
  exact ⟨(h 11 r (by decide) (fun _ p _ e => by omega)).trans d1, (h 12 r (by decide) (fun _ p _ e => by omega)).trans d2, (h 13 r (by decide) (fun _ p _ e => by omega)).trans d3, (h 14 r (by decide) (fun _ p _ e => by omega)).trans d4, (h 15 r (by decide) (fun _ p _ e => by omega)).trans d5⟩
theorem otf.xD {C C' N : mm_M} (h : otf C C') (hN : wf N) (hx : xD C N) : xD C' N := fun r hr k h1 h2 => by
  have hR := wf_R hN
  exact (h (19 + r) k (by omega) (fun _ p _ e => by omega)).trans (hx r hr k h1 h2)
theorem otf.cN {C C' N : mm_M} (h : otf C C') (hN : wf N) (hc : cN C N) : cN C' N :=
  ⟨(h 9 2 (by decide) (fun e => by omega)).trans hc.1, h.nD hc.2.1, h.xD hN hc.2.2.1, fun p hp => h.pD hN hp (hc.2.2.2 p hp)⟩
theorem q6_burden {N : mm_M} (hN : wf N) {p : Nat} (hp : p < Pn N) {C : mm_M} (hd : pD C N p) {w : Nat} (hw : w < wn N p) (hw3 : C (30 + 17 * p) 3 = (w : Int)) {z : Int} (hz : z = 1 ∨ z = -1) (hb : ∀ r, r < 10 → -100 ≤ C 16 r ∧ C 16 r ≤ 100) {Q : mm_M → Prop}
    (h : ∀ C', o16 C C' → (∀ r, r < 10 → C' 16 r = C 16 r + z * cnt N p w r) → Q C') : mX6_burden (30 + 17 * p) z C Q := by
  have hP := wf_P hN
  have hW := wf_w hN hp
  have hL := wf_l hN hp hw
  have hR := wf_R hN
  have h5 : p < 5 := by omega
  refine pk_loop (fun n (k : Nat) C' => bX6_burden_2 n (30 + 17 * p) z k C' Q) (fun k C' => o16 C C' ∧ ∀ r, r < 10 → C' 16 r = C 16 r + z * sm k (fun j => if rd N p w j = r then 1 else 0)) (ln N p w) 0 C (Nat.zero_le _) ⟨o16.rf C, fun r _ => by simp [sm]⟩ ?_ ?_
  · rintro n C' ⟨h1, h2⟩
    unfold bX6_burden_2
    obtain ⟨-, -, -, d⟩ := h1.otf.pD hN hp hd
    have e3 : C' (30 + 17 * p) 3 = (w : Int) := (h1 _ _ (by omega)).trans hw3
    rw [kd_p h5, ak_p1 h5, e3, Int.toNat_natCast, (d w hw).1]
    exact ⟨by show (0 : Int) ≤ w ∧ (w : Int) < ((12 : Nat) : Int); omega, fun _ => h C' h1 h2, fun g => by omega⟩
  · rintro n k C' hk ⟨h1, h2⟩ ih
    unfold bX6_burden_2
    obtain ⟨-, -, -, d⟩ := h1.otf.pD hN hp hd
    have e3 : C' (30 + 17 * p) 3 = (w : Int) := (h1 _ _ (by omega)).trans hw3
    have hr := wf_rd hN hp hw hk
    rw [kd_p h5, ak_p1 h5, ak_p4 h5, e3, Int.toNat_natCast, (d w hw).1, el_4, ak_pw p h5 w (by omega), Int.toNat_natCast, (d w hw).2.2 k hk, ← hr.1, Int.toNat_natCast]
    refine ⟨by show (0 : Int) ≤ w ∧ (w : Int) < ((12 : Nat) : Int); omega, fun g => by omega, fun _ => ?_⟩
    refine ⟨by show (0 : Int) ≤ w ∧ (w : Int) < ((12 : Nat) : Int); omega, ?_⟩
    refine ⟨by show (0 : Int) ≤ k ∧ (k : Int) < ((5 : Nat) : Int); omega, by omega, by omega, ?_⟩
    rw [w_1 hk (by omega)]
    refine ih _ ⟨h1.tr (fun q i hq => up_n (Or.inl hq)), fun r hr2 => ?_⟩
    have hs := sm_bd (n := k) (f := fun j => if rd N p w j = rd N p w k then (1 : Int) else 0) (c := 1) (fun j _ => by split <;> omega)
    have hb' := hb (rd N p w k) (by omega)
    by_cases er : r = rd N p w k
    · subst er
      rw [up_s, h2 _ hr2, mm_w_id (by rcases hz with rfl | rfl <;> omega) (by rcases hz with rfl | rfl <;> omega)]
      simp only [sm, if_pos]
      rw [Int.mul_add]
      omega
    · rw [up_n (Or.inr er), h2 r hr2]
      simp only [sm]
      rw [if_neg (fun q => er q.symm)]
      simp
theorem upt_self (tk : Nat → Nat) (p : Nat) : upt tk p (tk p) = tk := by
  funext q
  unfold upt
  split
  · rename_i e; rw [e]
  · rfl
theorem q6_moveTo {N : mm_M} {tk : Nat → Nat} (hN : wf N) (ht : wfT N tk) {p w : Nat} (hp : p < Pn N) (hw : w < wn N p) {C : mm_M} (hc : cs C N tk) {Q : mm_M → Prop}
    (h : ∀ C', otf C C' → cs C' N (upt tk p w) → Q C') : mX6_moveTo (30 + 17 * p) w C Q := by
  have hP := wf_P hN
  have h5 : p < 5 := by omega
  unfold mX6_moveTo
  have e3 := hc.2.1 p hp
  refine mm_chk_i (kd_p h5) ⟨fun g => ?_, fun g => ?_⟩
  · rw [e3] at g
    have : w = tk p := by omega
    subst this
    exact h C (otf.rf C) (by rw [upt_self]; exact hc)
  · refine q6_burden hN hp (hc.1.2.2.2 p hp) (ht p hp) e3 (Or.inr rfl) (fun r hr => by rw [hc.2.2 r hr]; have := lod_bd hN ht r; omega) (fun C1 h1 h2 => mm_chk_i (kd_p h5) ?_)
    have ho : otf C1 (mm_up C1 (30 + 17 * p) 3 w) := fun q k _ b => up_n (by
      by_cases e : k = 3
      · exact Or.inl (b e p h5)
      · exact Or.inr e)
    have h16 : ∀ r, mm_up C1 (30 + 17 * p) 3 (w : Int) 16 r = C1 16 r := fun r => up_n (Or.inl (by omega))
    refine q6_burden hN hp ((h1.otf.tr ho).pD hN hp (hc.1.2.2.2 p hp)) hw (up_s _ _ _ _) (Or.inl rfl) (fun r hr => by rw [h16, h2 r hr, hc.2.2 r hr]; have := lod_bd hN ht r; have := cnt_01 hN (r := r) hp (ht p hp); omega) (fun C2 h3 h4 => ?_)
    have hall : otf C C2 := (h1.otf.tr ho).tr h3.otf
    refine h C2 hall ⟨hall.cN hN hc.1, fun q hq => ?_, fun r hr => ?_⟩
    · rw [h3 _ _ (by omega)]
      unfold upt
      by_cases e : q = p
      · subst e; rw [up_s, if_pos rfl]
      · rw [up_n (Or.inl (by omega)), if_neg e, h1 _ _ (by omega)]; exact hc.2.1 q hq
    · rw [h4 r hr, h16, h2 r hr, hc.2.2 r hr, lod_upt hp]
      unfold lodw
      omega
theorem q6_payBy {N : mm_M} {tk : Nat → Nat} (hN : wf N) (ht : wfT N tk) {p w : Nat} (hp : p < Pn N) (hw : w < wn N p) {C : mm_M} (hc : cs C N tk) {Q : Int → mm_M → Prop} (h : Q (pay N tk p w) C) : mX6_payBy (30 + 17 * p) w C Q := by
  have hP := wf_P hN
  have hW := wf_w hN hp
  have hL := wf_l hN hp hw
  have hR := wf_R hN
  have h5 : p < 5 := by omega
  have htp := ht p hp
  obtain ⟨-, -, -, d⟩ := hc.1.2.2.2 p hp
  unfold mX6_payBy
  rw [kd_p h5, ak_p2 h5, hc.2.1 p hp, Int.toNat_natCast]
  refine ⟨by show (0 : Int) ≤ tk p ∧ (tk p : Int) < ((12 : Nat) : Int); omega, ?_⟩
  refine pk_loop (fun n (k : Nat) (z : Int) => bX6_payBy_16 n (30 + 17 * p) w (C (30 + 17 * p + 2) (tk p)) z k C Q) (fun k z => z = sm k (fun k => prc N (rd N p w k) (lodw N tk p w (rd N p w k)))) (ln N p w) 0 0 (Nat.zero_le _) rfl ?_ ?_
  · rintro n z rfl
    unfold bX6_payBy_16
    rw [kd_p h5, ak_p1 h5, Int.toNat_natCast, (d w hw).1]
    exact ⟨by show (0 : Int) ≤ w ∧ (w : Int) < ((12 : Nat) : Int); omega, fun _ => h, fun g => by omega⟩
  · rintro n k z hk rfl ih
    unfold bX6_payBy_16
    have hr := wf_rd hN hp hw hk
    have hlo := lodw_in hN ht hp hw hk
    have hpp := pay_part hN ht hp hw (show k + 1 ≤ ln N p w by omega)
    have c1 := cnt_01 hN (r := rd N p w k) hp htp
    have c2 := cnt_in hN hp hw hk
    rw [kd_p h5, ak_p1 h5, ak_p4 h5, Int.toNat_natCast, (d w hw).1, el_4, ak_pw p h5 w (by omega), Int.toNat_natCast, (d w hw).2.2 k hk, ← hr.1, (d (tk p) htp).2.1 _ (by omega)]
    refine ⟨by show (0 : Int) ≤ w ∧ (w : Int) < ((12 : Nat) : Int); omega, fun g => by omega, fun _ => ?_⟩
    refine ⟨by show (0 : Int) ≤ w ∧ (w : Int) < ((12 : Nat) : Int); omega, ?_⟩
    refine ⟨by show (0 : Int) ≤ k ∧ (k : Int) < ((5 : Nat) : Int); omega, ?_⟩
    have go : ∀ u : Int, C 16 (rd N p w k) + u = lodw N tk p w (rd N p w k) → bX6_payBy_53 (fun v1 v2 v3 v4 v5 M => bX6_payBy_16 n v1 v2 v3 v4 v5 M Q) (30 + 17 * p) w (C (30 + 17 * p + 2) (tk p)) (sm k (fun k => prc N (rd N p w k) (lodw N tk p w (rd N p w k)))) k (rd N p w k) u C Q := fun u hu => by
      unfold bX6_payBy_53
      rw [Int.toNat_natCast, hu, ak_r _ (by omega), mm_w_id (z := lodw N tk p w (rd N p w k)) (by omega) (by omega)]
      obtain ⟨j, hj⟩ : ∃ j : Nat, (j : Int) = lodw N tk p w (rd N p w k) := ⟨(lodw N tk p w (rd N p w k)).toNat, by omega⟩
      rw [← hj, Int.toNat_natCast, hc.1.2.2.1 (rd N p w k) hr.2 j (by omega) (by omega), hj, w_1 hk (by omega)]
      refine ⟨by omega, by omega, ?_⟩
      refine ⟨by show 0 ≤ lodw N tk p w (rd N p w k) ∧ lodw N tk p w (rd N p w k) < ((7 : Nat) : Int); omega, ih _ ?_⟩
      simp only [sm] at hpp ⊢
      rw [mm_w_id (by omega) (by omega)]
    have e16 := hc.2.2 (rd N p w k) (by omega)
    refine ⟨fun g => go 1 ?_, fun g => go 0 ?_⟩
    · rw [e16]; unfold lodw; omega
    · rw [e16]; unfold lodw; omega
