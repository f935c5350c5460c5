/-! numbers of sets, mixed radix -/
def ww (N : mm_M) : Nat → Nat
  | 0 => 1
  | j + 1 => ww N j * wn N (Pn N - 1 - j)
theorem ww_pos {N : mm_M} (h : wf N) : ∀ j, j ≤ Pn N → 1 ≤ ww N j
  | 0, _ => Nat.le_refl _
  | j + 1, hj => Nat.mul_le_mul (ww_pos h j (by omega)) (wf_w h (show Pn N - 1 - j < Pn N by omega)).2.1
theorem lf_ww (N : mm_M) (n : Nat) : ∀ i, lf N n i = n / ww N i
  | 0 => (Nat.div_one n).symm
  | i + 1 => by unfold lf ww; rw [lf_ww N n i, Nat.div_div_eq_div_mul]
theorem tkn_ww (N : mm_M) (n p : Nat) : tkn N n p = n / ww N (Pn N - 1 - p) % wn N p := by unfold tkn; rw [lf_ww]
theorem all_ww (N : mm_M) : ∀ j, j ≤ Pn N → all N (Pn N - j) * ww N j = all N (Pn N)
  | 0, _ => by rw [Nat.sub_zero]; exact Nat.mul_one _
  | j + 1, hj => by
    have h1 := all_ww N j (by omega)
    have e : Pn N - j = (Pn N - (j + 1)) + 1 := by omega
    have e2 : all N (Pn N - j) = all N (Pn N - (j + 1)) * wn N (Pn N - (j + 1)) := by
      rw [e]; rfl
    rw [e2] at h1
    unfold ww
    rw [show Pn N - 1 - j = Pn N - (j + 1) by omega, Nat.mul_comm (ww N j), ← Nat.mul_assoc]
    exact h1
theorem ww_all (N : mm_M) : ww N (Pn N) = all N (Pn N) := by
  have := all_ww N (Pn N) (Nat.le_refl _)
  rw [Nat.sub_self] at this
  have e : all N 0 = 1 := rfl
  rw [e, Nat.one_mul] at this
  exact this
theorem ww_s (N : mm_M) {k : Nat} (hk : k < Pn N) : ww N (Pn N - k) = ww N (Pn N - 1 - k) * wn N k := by
  rw [show Pn N - k = (Pn N - 1 - k) + 1 by omega]
  show ww N (Pn N - 1 - k) * wn N (Pn N - 1 - (Pn N - 1 - k)) = _
  rw [show Pn N - 1 - (Pn N - 1 - k) = k by omega]
theorem nmb_tkn {N : mm_M} (n : Nat) (hn : n < all N (Pn N)) : ∀ k, k ≤ Pn N → nmb N (tkn N n) k = n / ww N (Pn N - k)
  | 0, _ => by
    rw [Nat.sub_zero, ww_all, Nat.div_eq_of_lt hn]; rfl
  | k + 1, hk => by
    have h1 := nmb_tkn n hn k (by omega)
    unfold nmb
    rw [h1, tkn_ww, ww_s N (show k < Pn N by omega), ← Nat.div_div_eq_div_mul, show Pn N - (k + 1) = Pn N - 1 - k by omega, Nat.mul_comm]
    exact Nat.div_add_mod _ _
theorem nmb_tkn_all {N : mm_M} {n : Nat} (hn : n < all N (Pn N)) : nmb N (tkn N n) (Pn N) = n := by
  rw [nmb_tkn n hn (Pn N) (Nat.le_refl _), Nat.sub_self]
  exact Nat.div_one n
theorem nmb_div {N : mm_M} {tk : Nat → Nat} (ht : wfT N tk) : ∀ j, j ≤ Pn N → nmb N tk (Pn N) / ww N j = nmb N tk (Pn N - j)
  | 0, _ => by rw [Nat.sub_zero]; exact Nat.div_one _
  | j + 1, hj => by
    have h1 := nmb_div ht j (by omega)
    unfold ww
    rw [← Nat.div_div_eq_div_mul, h1]
    have e : Pn N - j = (Pn N - 1 - j) + 1 := by omega
    have hp := ht (Pn N - 1 - j) (by omega)
    rw [e, show Pn N - (j + 1) = Pn N - 1 - j by omega]
    show (nmb N tk (Pn N - 1 - j) * wn N (Pn N - 1 - j) + tk (Pn N - 1 - j)) / wn N (Pn N - 1 - j) = _
    rw [Nat.mul_comm, Nat.mul_add_div (by omega), Nat.div_eq_of_lt hp]
    rfl
theorem tkn_nmb {N : mm_M} {tk : Nat → Nat} (ht : wfT N tk) {p : Nat} (hp : p < Pn N) : tkn N (nmb N tk (Pn N)) p = tk p := by
  rw [tkn_ww, nmb_div ht _ (by omega), show Pn N - (Pn N - 1 - p) = p + 1 by omega]
  show (nmb N tk p * wn N p + tk p) % wn N p = tk p
  rw [Nat.add_comm, Nat.add_mul_mod_self_right]
  exact Nat.mod_eq_of_lt (ht p hp)
theorem nmb_congr {N : mm_M} {tk t2 : Nat → Nat} : ∀ k, (∀ p, p < k → tk p = t2 p) → nmb N tk k = nmb N t2 k
  | 0, _ => rfl
  | k + 1, h => by unfold nmb; rw [nmb_congr k (fun p hp => h p (by omega)), h k (by omega)]
def prd (N : mm_M) (p : Nat) : Nat → Nat
  | 0 => 1
  | j + 1 => prd N p j * wn N (p + 1 + j)
theorem all_prd (N : mm_M) (p : Nat) : ∀ j, all N (p + 1 + j) = all N (p + 1) * prd N p j
  | 0 => (Nat.mul_one _).symm
  | j + 1 => by
    show all N (p + 1 + j) * wn N (p + 1 + j) = all N (p + 1) * (prd N p j * wn N (p + 1 + j))
    rw [all_prd N p j, Nat.mul_assoc]
theorem prd_ww {N : mm_M} (h : wf N) {p : Nat} (hp : p < Pn N) : prd N p (Pn N - 1 - p) = ww N (Pn N - 1 - p) := by
  have h1 := all_ww N (Pn N - 1 - p) (by omega)
  have h2 := all_prd N p (Pn N - 1 - p)
  rw [show p + 1 + (Pn N - 1 - p) = Pn N by omega] at h2
  rw [show Pn N - (Pn N - 1 - p) = p + 1 by omega, h2] at h1
  have h3 := (all_bd h (p + 1) (by omega)).1
  exact (Nat.eq_of_mul_eq_mul_left (by omega) h1).symm
theorem nmb_upt {N : mm_M} (h : wf N) {tk : Nat → Nat} {p w : Nat} (hp : p < Pn N) : (nmb N (upt tk p w) (Pn N) : Int) = nmb N tk (Pn N) + ((w : Int) - tk p) * ww N (Pn N - 1 - p) := by
  have key : ∀ j, p + 1 + j ≤ Pn N → (nmb N (upt tk p w) (p + 1 + j) : Int) = nmb N tk (p + 1 + j) + ((w : Int) - tk p) * prd N p j := by
    intro j
    induction j with
    | zero =>
      intro _
      show ((nmb N (upt tk p w) p * wn N p + upt tk p w p : Nat) : Int) = ((nmb N tk p * wn N p + tk p : Nat) : Int) + ((w : Int) - tk p) * ((1 : Nat) : Int)
      rw [nmb_congr (t2 := tk) p (fun q hq => by unfold upt; rw [if_neg (by omega)])]
      have : upt tk p w p = w := by unfold upt; rw [if_pos rfl]
      rw [this]
      omega
    | succ j ih =>
      intro hj
      have h1 := ih (by omega)
      show ((nmb N (upt tk p w) (p + 1 + j) * wn N (p + 1 + j) + upt tk p w (p + 1 + j) : Nat) : Int) = ((nmb N tk (p + 1 + j) * wn N (p + 1 + j) + tk (p + 1 + j) : Nat) : Int) + ((w : Int) - tk p) * ((prd N p j * wn N (p + 1 + j) : Nat) : Int)
      have : upt tk p w (p + 1 + j) = tk (p + 1 + j) := by unfold upt; rw [if_neg (by omega)]
      rw [this, Int.natCast_add, Int.natCast_add, Int.natCast_mul, Int.natCast_mul, Int.natCast_mul, h1, Int.add_mul, Int.mul_assoc]
      omega
  have := key (Pn N - 1 - p) (by omega)
  rw [show p + 1 + (Pn N - 1 - p) = Pn N by omega, prd_ww h hp] at this
  exact this
/-- lod, pay and so on see only the players' places -/
theorem lod_congr {N : mm_M} {tk t2 : Nat → Nat} (h : ∀ p, p < Pn N → tk p = t2 p) (r : Nat) : lod N tk r = lod N t2 r := sm_congr (fun p hp => by rw [h p hp])
theorem pot_congr {N : mm_M} {tk t2 : Nat → Nat} (h : ∀ p, p < Pn N → tk p = t2 p) : pot N tk = pot N t2 := by
  unfold pot
  exact sm_congr (fun r _ => by rw [lod_congr h])
theorem soc_congr {N : mm_M} {tk t2 : Nat → Nat} (h : ∀ p, p < Pn N → tk p = t2 p) : soc N tk = soc N t2 := by
  unfold soc
  exact sm_congr (fun r _ => by rw [lod_congr h])
theorem pay_congr {N : mm_M} {tk t2 : Nat → Nat} (h : ∀ p, p < Pn N → tk p = t2 p) {p w : Nat} (hp : p < Pn N) : pay N tk p w = pay N t2 p w := by
  unfold pay lodw
  exact sm_congr (fun k _ => by rw [lod_congr h, h p hp])
theorem bestw_congr {N : mm_M} {tk t2 : Nat → Nat} (h : ∀ p, p < Pn N → tk p = t2 p) {p : Nat} (hp : p < Pn N) : bestw N tk p = bestw N t2 p := by
  unfold bestw
  generalize wn N p = k
  induction k with
  | zero => exact h p hp
  | succ k ih => unfold bst; rw [ih, pay_congr h hp, pay_congr h hp]
theorem isRst_congr {N : mm_M} {tk t2 : Nat → Nat} (h : ∀ p, p < Pn N → tk p = t2 p) {but z : Int} (hz : isRst N tk but z) : isRst N t2 but z := by
  rcases hz with ⟨e, h1⟩ | ⟨p, hp, e, h1, h2, h3⟩
  · exact Or.inl ⟨e, fun p hp hb => by rw [← bestw_congr h hp, ← h p hp]; exact h1 p hp hb⟩
  · exact Or.inr ⟨p, hp, e, h1, by rw [← bestw_congr h hp, ← h p hp]; exact h2, fun q hq hb => by rw [← bestw_congr h (show q < Pn N by omega), ← h q (by omega)]; exact h3 q hq hb⟩
