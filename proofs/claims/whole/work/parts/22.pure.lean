/-! PURE PART. Sums, memory, the model's state -/
theorem up_s (M : mm_M) (q k : Nat) (z : Int) : mm_up M q k z q k = z := by simp [mm_up]
theorem up_n {M : mm_M} {q k a i : Nat} {z : Int} (h : a ≠ q ∨ i ≠ k) : mm_up M q k z a i = M a i := by
  unfold mm_up
  by_cases e : a = q
  · rw [if_pos e]
    have : i ≠ k := by
      rcases h with h | h
      · exact absurd e h
      · exact h
    rw [if_neg this]
  · rw [if_neg e]
def sm : Nat → (Nat → Int) → Int
  | 0, _ => 0
  | n + 1, f => sm n f + f n
theorem sm_congr {n : Nat} {f g : Nat → Int} (h : ∀ k, k < n → f k = g k) : sm n f = sm n g := by
  induction n with
  | zero => rfl
  | succ n ih => unfold sm; rw [ih (fun k hk => h k (by omega)), h n (by omega)]
theorem sm_add (n : Nat) (f g : Nat → Int) : sm n (fun k => f k + g k) = sm n f + sm n g := by
  induction n with
  | zero => rfl
  | succ n ih => simp only [sm]; rw [ih]; omega
theorem sm_sub (n : Nat) (f g : Nat → Int) : sm n (fun k => f k - g k) = sm n f - sm n g := by
  induction n with
  | zero => rfl
  | succ n ih => simp only [sm]; rw [ih]; omega
theorem sm_mul (n : Nat) (c : Int) (f : Nat → Int) : sm n (fun k => c * f k) = c * sm n f := by
  induction n with
  | zero => simp [sm]
  | succ n ih => simp only [sm]; rw [ih, Int.mul_add]
theorem sm_zero {n : Nat} {f : Nat → Int} (h : ∀ k, k < n → f k = 0) : sm n f = 0 := by
  induction n with
  | zero => rfl
  | succ n ih => unfold sm; rw [ih (fun k hk => h k (by omega)), h n (by omega)]; rfl
theorem sm_le {n : Nat} {f g : Nat → Int} (h : ∀ k, k < n → f k ≤ g k) : sm n f ≤ sm n g := by
  induction n with
  | zero => exact Int.le_refl _
  | succ n ih => unfold sm; have := ih (fun k hk => h k (by omega)); have := h n (by omega); omega
theorem sm_const (n : Nat) (c : Int) : sm n (fun _ => c) = n * c := by
  induction n with
  | zero => simp [sm]
  | succ n ih => simp only [sm]; rw [ih, Int.natCast_succ, Int.add_mul]; omega
theorem sm_bd {n : Nat} {f : Nat → Int} {c : Int} (h : ∀ k, k < n → 0 ≤ f k ∧ f k ≤ c) : 0 ≤ sm n f ∧ sm n f ≤ n * c := by
  have h1 : sm n (fun _ => 0) ≤ sm n f := sm_le (fun k hk => (h k hk).1)
  have h2 : sm n f ≤ sm n (fun _ => c) := sm_le (fun k hk => (h k hk).2)
  rw [sm_const] at h1 h2
  omega
/-- one place is other -/
theorem sm_one {n j : Nat} {f g : Nat → Int} (hj : j < n) (h : ∀ k, k < n → k ≠ j → f k = g k) : sm n f = sm n g + (f j - g j) := by
  induction n with
  | zero => omega
  | succ n ih =>
    unfold sm
    by_cases e : j = n
    · subst e
      rw [sm_congr (fun k hk => h k (by omega) (by omega))]
      omega
    · rw [ih (by omega) (fun k hk hn => h k (by omega) hn), h n (by omega) (by omega)]
      omega
theorem sm_ite {n j : Nat} (hj : j < n) (c : Int) : sm n (fun k => if k = j then c else 0) = c := by
  rw [sm_one (g := fun _ => 0) hj (fun k _ hk => by simp [hk]), sm_const]
  simp
theorem sm_comm (n m : Nat) (f : Nat → Nat → Int) : sm n (fun i => sm m (fun j => f i j)) = sm m (fun j => sm n (fun i => f i j)) := by
  induction n with
  | zero => simp only [sm]; exact (sm_zero (fun _ _ => rfl)).symm
  | succ n ih => simp only [sm]; rw [ih, ← sm_add]
/-! the net and the players: N holds all that lasts but the set; tk is the set -/
def pp (q k : Nat) : Bool := (Nat.beq q 0 && (Nat.ble k 1 || Nat.beq k 7 || Nat.beq k 9)) || ((Nat.ble 1 q && Nat.ble q 8) || (Nat.ble 10 q && Nat.ble q 11))
theorem pp_i {q k : Nat} (h : pp q k = true) : (q = 0 ∧ (k ≤ 1 ∨ k = 7 ∨ k = 9)) ∨ (1 ≤ q ∧ q ≤ 8) ∨ (10 ≤ q ∧ q ≤ 11) := by
  unfold pp at h
  rcases Bool.or_eq_true_iff.mp h with a | a
  · obtain ⟨a1, a2⟩ := Bool.and_eq_true_iff.mp a
    refine Or.inl ⟨Nat.eq_of_beq_eq_true a1, ?_⟩
    rcases Bool.or_eq_true_iff.mp a2 with b | b
    · rcases Bool.or_eq_true_iff.mp b with c | c
      · exact Or.inl (Nat.le_of_ble_eq_true c)
      · exact Or.inr (Or.inl (Nat.eq_of_beq_eq_true c))
    · exact Or.inr (Or.inr (Nat.eq_of_beq_eq_true b))
  · rcases Bool.or_eq_true_iff.mp a with b | b
    · obtain ⟨b1, b2⟩ := Bool.and_eq_true_iff.mp b
      exact Or.inr (Or.inl ⟨Nat.le_of_ble_eq_true b1, Nat.le_of_ble_eq_true b2⟩)
    · obtain ⟨b1, b2⟩ := Bool.and_eq_true_iff.mp b
      exact Or.inr (Or.inr ⟨Nat.le_of_ble_eq_true b1, Nat.le_of_ble_eq_true b2⟩)
/-- all that lasts of the net and of the players that are there -/
def pjc (M : mm_M) (q k : Nat) : Prop := pp q k = true ∧ (q = 10 → ((k / 12 : Nat) : Int) < M 0 9 ∧ ((k % 12 : Nat) : Int) < M 8 (k / 12)) ∧ (q = 11 → ((k / 60 : Nat) : Int) < M 0 9 ∧ ((k / 5 % 12 : Nat) : Int) < M 8 (k / 60) ∧ ((k % 5 : Nat) : Int) < M 10 (k / 5))
noncomputable def pj (M : mm_M) : mm_M := fun q k => @ite _ (pjc M q k) (Classical.propDecidable _) (M q k) 0
theorem pjc_8 {M : mm_M} {q k : Nat} (hp : pp q k = true) (hq : q ≠ 10 ∧ q ≠ 11) : pjc M q k := ⟨hp, fun e => absurd e hq.1, fun e => absurd e hq.2⟩
theorem pj_y {M : mm_M} {q k : Nat} (h : pjc M q k) : pj M q k = M q k := if_pos h
theorem pj_0 {M : mm_M} {q k : Nat} (h : ¬ pjc M q k) : pj M q k = 0 := if_neg h
theorem pj_r {M N : mm_M} (h : pj M = N) {q k : Nat} (hp : (pp q k && Nat.ble q 8) = true) : M q k = N q k := by
  obtain ⟨h1, h2⟩ := Bool.and_eq_true_iff.mp hp
  have h3 := Nat.le_of_ble_eq_true h2
  rw [← h]; exact (pj_y (pjc_8 h1 (by omega))).symm
theorem pj_fr {M M' N : mm_M} (h : pj M = N) (hf : ∀ q k, pp q k = true → M' q k = M q k) : pj M' = N := by
  rw [← h]
  funext q k
  have e : pjc M' q k = pjc M q k := by
    unfold pjc
    rw [hf 0 9 rfl, hf 8 (k / 12) rfl, hf 8 (k / 60) rfl, hf 10 (k / 5) rfl]
  by_cases c : pjc M q k
  · rw [pj_y c, pj_y (by rw [e]; exact c)]; exact hf q k c.1
  · rw [pj_0 c, pj_0 (by rw [e]; exact c)]
def Pn (N : mm_M) : Nat := (N 0 9).toNat
def Rn (N : mm_M) : Nat := (N 0 1).toNat
def wn (N : mm_M) (p : Nat) : Nat := (N 8 p).toNat
def ln (N : mm_M) (p w : Nat) : Nat := (N 10 (12 * p + w)).toNat
theorem pj_r10 {M N : mm_M} (h : pj M = N) {p w : Nat} (hp : p < Pn N) (hw : w < wn N p) (h12 : w < 12) : M 10 (12 * p + w) = N 10 (12 * p + w) := by
  have e := pj_r h (q := 0) (k := 9) rfl
  have e8 := pj_r h (q := 8) (k := p) rfl
  unfold Pn at hp
  unfold wn at hw
  rw [← h]
  refine (pj_y ⟨rfl, fun _ => ?_, fun e => absurd e (by decide)⟩).symm
  rw [show (12 * p + w) / 12 = p by omega, show (12 * p + w) % 12 = w by omega, e, e8]
  omega
theorem pj_r11 {M N : mm_M} (h : pj M = N) {p w k : Nat} (hp : p < Pn N) (hw : w < wn N p) (hk : k < ln N p w) (h12 : w < 12) (h5 : k < 5) : M 11 (5 * (12 * p + w) + k) = N 11 (5 * (12 * p + w) + k) := by
  have e := pj_r h (q := 0) (k := 9) rfl
  have e8 := pj_r h (q := 8) (k := p) rfl
  have e10 := pj_r10 h hp hw h12
  unfold Pn at hp
  unfold wn at hw
  unfold ln at hk
  rw [← h]
  refine (pj_y ⟨rfl, fun e => absurd e (by decide), fun _ => ?_⟩).symm
  rw [show (5 * (12 * p + w) + k) / 60 = p by omega, show (5 * (12 * p + w) + k) / 5 = 12 * p + w by omega, show (12 * p + w) % 12 = w by omega, show (5 * (12 * p + w) + k) % 5 = k by omega, e, e8, e10]
  omega
def rd (N : mm_M) (p w k : Nat) : Nat := (N 11 (5 * (12 * p + w) + k)).toNat
def cnt (N : mm_M) (p w r : Nat) : Int := sm (ln N p w) (fun k => if rd N p w k = r then 1 else 0)
def lod (N : mm_M) (tk : Nat → Nat) (r : Nat) : Int := sm (Pn N) (fun p => cnt N p (tk p) r)
def prc (N : mm_M) (r : Nat) (k : Int) : Int := N 3 r + N 4 r * k + (if N 0 7 = 1 then N 5 r else if N 0 7 = 2 then N 4 r * (k - 1) else 0)
/-- what it would pay by a way, if it alone took that -/
def lodw (N : mm_M) (tk : Nat → Nat) (p w r : Nat) : Int := lod N tk r - cnt N p (tk p) r + cnt N p w r
def pay (N : mm_M) (tk : Nat → Nat) (p w : Nat) : Int := sm (ln N p w) (fun k => prc N (rd N p w k) (lodw N tk p w (rd N p w k)))
def soc (N : mm_M) (tk : Nat → Nat) : Int := sm (Rn N) (fun r => lod N tk r * (N 3 r + N 4 r * lod N tk r))
def pots (N : mm_M) (r : Nat) (n : Nat) : Int := sm n (fun k => prc N r ((k : Int) + 1))
def pot (N : mm_M) (tk : Nat → Nat) : Int := sm (Rn N) (fun r => pots N r (lod N tk r).toNat)
/-- the least pay found among the first ways -/
def bst (N : mm_M) (tk : Nat → Nat) (p : Nat) : Nat → Nat
  | 0 => tk p
  | w + 1 => if pay N tk p w < pay N tk p (bst N tk p w) then w else bst N tk p w
def bestw (N : mm_M) (tk : Nat → Nat) (p : Nat) : Nat := bst N tk p (wn N p)
/-- what holds of a net with its players -/
def wfR (N : mm_M) : Prop := (0 ≤ N 0 1 ∧ N 0 1 ≤ 10) ∧ (0 ≤ N 0 7 ∧ N 0 7 ≤ 2) ∧ ∀ r, r < Rn N → (0 ≤ N 1 r ∧ N 1 r < N 0 0) ∧ (0 ≤ N 2 r ∧ N 2 r < N 0 0) ∧ N 1 r ≠ N 2 r ∧ (0 ≤ N 3 r ∧ N 3 r ≤ 20) ∧ (0 ≤ N 4 r ∧ N 4 r ≤ 9) ∧ (0 ≤ N 5 r ∧ N 5 r ≤ 40)
def wfW (N : mm_M) (p w : Nat) : Prop := (1 ≤ N 10 (12 * p + w) ∧ N 10 (12 * p + w) ≤ 5) ∧ (∀ k, k < ln N p w → 0 ≤ N 11 (5 * (12 * p + w) + k) ∧ N 11 (5 * (12 * p + w) + k) < N 0 1) ∧ ∀ i j, i < ln N p w → j < ln N p w → rd N p w i = rd N p w j → i = j
def wfP (N : mm_M) : Prop := (0 ≤ N 0 9 ∧ N 0 9 ≤ 5) ∧ ∀ p, p < Pn N → (1 ≤ N 8 p ∧ N 8 p ≤ 12) ∧ ∀ w, w < wn N p → wfW N p w
def wfT (N : mm_M) (tk : Nat → Nat) : Prop := ∀ p, p < Pn N → tk p < wn N p
def wf (N : mm_M) : Prop := wfR N ∧ wfP N
theorem wf_P {N : mm_M} (h : wf N) : (Pn N : Int) = N 0 9 ∧ Pn N ≤ 5 := by
  have := h.2.1; unfold Pn; omega
theorem wf_R {N : mm_M} (h : wf N) : (Rn N : Int) = N 0 1 ∧ Rn N ≤ 10 := by
  have := h.1.1; unfold Rn; omega
theorem wf_w {N : mm_M} (h : wf N) {p : Nat} (hp : p < Pn N) : (wn N p : Int) = N 8 p ∧ 1 ≤ wn N p ∧ wn N p ≤ 12 := by
  have := (h.2.2 p hp).1; unfold wn; omega
theorem wf_l {N : mm_M} (h : wf N) {p w : Nat} (hp : p < Pn N) (hw : w < wn N p) : (ln N p w : Int) = N 10 (12 * p + w) ∧ 1 ≤ ln N p w ∧ ln N p w ≤ 5 := by
  have := ((h.2.2 p hp).2 w hw).1; unfold ln; omega
theorem wf_rd {N : mm_M} (h : wf N) {p w k : Nat} (hp : p < Pn N) (hw : w < wn N p) (hk : k < ln N p w) : (rd N p w k : Int) = N 11 (5 * (12 * p + w) + k) ∧ rd N p w k < Rn N := by
  have h1 := ((h.2.2 p hp).2 w hw).2.1 k hk
  have h2 := h.1.1
  unfold rd Rn; omega
/-- a road is on a way once at most -/
theorem cnt_01 {N : mm_M} (h : wf N) {p w r : Nat} (hp : p < Pn N) (hw : w < wn N p) : cnt N p w r = 0 ∨ cnt N p w r = 1 := by
  have hd := ((h.2.2 p hp).2 w hw).2.2
  unfold cnt
  generalize ln N p w = n at hd
  by_cases hx : ∃ i, i < n ∧ rd N p w i = r
  · obtain ⟨i, hi, hr⟩ := hx
    right
    rw [sm_one (g := fun _ => 0) hi (fun k hk hn => ?_), sm_const]
    · simp [hr]
    · rw [if_neg]
      intro e
      exact hn (hd k i hk hi (by rw [e, hr]))
  · left
    refine sm_zero (fun k hk => ?_)
    rw [if_neg]
    intro e
    exact hx ⟨k, hk, e⟩
theorem cnt_in {N : mm_M} (h : wf N) {p w k : Nat} (hp : p < Pn N) (hw : w < wn N p) (hk : k < ln N p w) : cnt N p w (rd N p w k) = 1 := by
  have hd := ((h.2.2 p hp).2 w hw).2.2
  unfold cnt
  rw [sm_one (g := fun _ => 0) hk (fun j hj hn => ?_), sm_const]
  · simp
  · rw [if_neg]
    intro e
    exact hn (hd j k hj hk e)
theorem lod_bd {N : mm_M} (h : wf N) {tk : Nat → Nat} (ht : wfT N tk) (r : Nat) : 0 ≤ lod N tk r ∧ lod N tk r ≤ Pn N := by
  have h1 := sm_bd (n := Pn N) (f := fun p => cnt N p (tk p) r) (c := 1) (fun p hp => by
    have := cnt_01 h (r := r) hp (ht p hp); omega)
  unfold lod
  omega
theorem lodw_bd {N : mm_M} (h : wf N) {tk : Nat → Nat} (ht : wfT N tk) {p w : Nat} (hp : p < Pn N) (hw : w < wn N p) (r : Nat) : 0 ≤ lodw N tk p w r ∧ lodw N tk p w r ≤ Pn N := by
  have h1 : lodw N tk p w r = lod N (fun i => if i = p then w else tk i) r := by
    unfold lodw lod
    rw [sm_one (f := fun q => cnt N q (if q = p then w else tk q) r) (g := fun q => cnt N q (tk q) r) hp (fun k _ hn => by simp [hn])]
    simp
    omega
  rw [h1]
  refine lod_bd h (fun q hq => ?_) r
  by_cases e : q = p
  · subst e; simpa using hw
  · simpa [e] using ht q hq
theorem prc_bd {N : mm_M} (h : wf N) {r : Nat} (hr : r < Rn N) {k : Int} (hk : 1 ≤ k ∧ k ≤ 6) : 0 ≤ prc N r k ∧ prc N r k ≤ 119 := by
  obtain ⟨-, -, h3⟩ := h.1
  obtain ⟨-, -, -, ha, hb, ht⟩ := h3 r hr
  unfold prc
  have h1 : N 4 r * k ≤ 9 * 6 := Int.le_trans (Int.mul_le_mul_of_nonneg_right hb.2 (by omega)) (Int.mul_le_mul_of_nonneg_left hk.2 (by omega))
  have h2 : 0 ≤ N 4 r * k := Int.mul_nonneg hb.1 (by omega)
  have h4 : 0 ≤ N 4 r * (k - 1) := Int.mul_nonneg hb.1 (by omega)
  have h5 : N 4 r * (k - 1) ≤ 9 * 5 := Int.le_trans (Int.mul_le_mul_of_nonneg_right hb.2 (by omega)) (Int.mul_le_mul_of_nonneg_left (by omega) (by omega))
  split
  · omega
  · split <;> omega
