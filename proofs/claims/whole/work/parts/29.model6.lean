/-! rest sets by their places; fractions -/
def isRA (N : mm_M) (place z : Int) : Prop := (z = -1 ∧ (place < 0 ∨ (rM N (all N (Pn N)) : Int) ≤ place)) ∨ ∃ n : Nat, n < all N (Pn N) ∧ z = n ∧ rq N n = -1 ∧ (rM N n : Int) = place
theorem rM_mono (N : mm_M) {a b : Nat} (h : a ≤ b) : rM N a ≤ rM N b := by
  induction b with
  | zero => have : a = 0 := by omega
            subst this; exact Nat.le_refl _
  | succ b ih =>
    by_cases e : a = b + 1
    · subst e; exact Nat.le_refl _
    · have h1 := ih (by omega)
      have h2 : rM N b ≤ rM N (b + 1) := by
        show _ ≤ (if rq N b = -1 then _ else _)
        split <;> omega
      omega
theorem rM_s1 {N : mm_M} {k : Nat} (h : rq N k = -1) : rM N (k + 1) = rM N k + 1 := if_pos h
theorem rM_s0 {N : mm_M} {k : Nat} (h : ¬ rq N k = -1) : rM N (k + 1) = rM N k := if_neg h
theorem isRA_u {N : mm_M} {place z z' : Int} (h : isRA N place z) (h' : isRA N place z') : z = z' := by
  have hl : ∀ n, n < all N (Pn N) → rq N n = -1 → rM N n < rM N (all N (Pn N)) := fun n hn hq => by
    have h1 := rM_s1 hq
    have h2 := rM_mono N (show n + 1 ≤ all N (Pn N) by omega)
    omega
  rcases h with ⟨rfl, h⟩ | ⟨n, hn, rfl, hq, hr⟩ <;> rcases h' with ⟨rfl, h'⟩ | ⟨m, hm, rfl, hq', hr'⟩
  · rfl
  · have := hl m hm hq'; omega
  · have := hl n hn hq; omega
  · have : n = m := by
      rcases Nat.lt_trichotomy n m with g | g | g
      · have h1 := rM_s1 hq
        have h2 := rM_mono N (show n + 1 ≤ m by omega)
        omega
      · exact g
      · have h1 := rM_s1 hq'
        have h2 := rM_mono N (show m + 1 ≤ n by omega)
        omega
    rw [this]
theorem q8_restAt {N : mm_M} {tk : Nat → Nat} (hN : wf N) (ha : all N (Pn N) ≤ 500) {place : Int} (hR : mm_R place) {M : mm_M} (hm : ms M N tk) {Q : Int → mm_M → Prop}
    (h : ∀ z M', osc M M' → ms M' N tk → isRA N place z → Q z M') : mX8_restAt place M Q := by
  have h1a := (all_bd hN (Pn N) (Nat.le_refl _)).1
  unfold mm_R at hR
  refine q8_keep hN hm (fun M1 h1 h2 h3 => q8_setsAll hN h2 ?_)
  have fin : ∀ M2 z, osc M M2 → kept M2 N tk → isRA N place z → mX8_putBack M2 (fun M1 => Q z M1) := fun M2 z g1 g2 g3 => q8_putBack hN (g1.pj hm.1) g2 (fun M4 k1 k2 => h z M4 (g1.tr k1.osc) k2 g3)
  refine pk_loop (fun n (k : Nat) (s : (Int × Int) × mm_M) => bX8_restAt_17 n place s.1.1 s.1.2 (all N (Pn N) : Int) k s.2 Q) (fun k s => osc M s.2 ∧ kept s.2 N tk ∧ ((s.1.2 = -1 ∧ s.1.1 = place - (rM N k : Int) ∧ (k = 0 ∨ (0 ≤ place ∧ (rM N k : Int) ≤ place))) ∨ ∃ n : Nat, n < k ∧ n < all N (Pn N) ∧ s.1.2 = n ∧ rq N n = -1 ∧ (rM N n : Int) = place)) (all N (Pn N)) 0 ((place, -1), M1) (Nat.zero_le _) ⟨h1.osc, h3, Or.inl ⟨rfl, by simp [rM], Or.inl rfl⟩⟩ ?_ ?_
  · rintro n ⟨⟨l, t⟩, M2⟩ ⟨g1, g2, g3⟩
    dsimp only at g1 g2 g3 ⊢
    unfold bX8_restAt_17
    refine ⟨fun _ => fin M2 t g1 g2 ?_, fun g => by omega⟩
    rcases g3 with ⟨rfl, e1, e2⟩ | ⟨n, -, g4, g5⟩
    · exact Or.inl ⟨rfl, by omega⟩
    · exact Or.inr ⟨n, g4, g5⟩
  · rintro n k ⟨⟨l, t⟩, M2⟩ hk ⟨g1, g2, g3⟩ ih
    dsimp only at g1 g2 g3 ⊢
    unfold bX8_restAt_17
    have hrk := rM_le N k
    refine ⟨fun g => by omega, fun _ => ⟨fun g => fin M2 t g1 g2 ?_, fun g => ?_⟩⟩
    · rcases g3 with ⟨e, -⟩ | ⟨n, -, g4, g5⟩
      · exact absurd e g
      · exact Or.inr ⟨n, g4, g5⟩
    · subst g
      rcases g3 with ⟨-, e1, e2⟩ | ⟨n, -, -, e, -⟩
      · subst e1
        refine ⟨fun g => fin M2 _ g1 g2 (Or.inl ⟨rfl, Or.inl g⟩), fun g => ?_⟩
        refine q8_take hN (g1.pj hm.1) (by omega) (fun M3 k1 k2 => q8_restless hN (tkn_wf hN k) k2 (fun z M4 k3 k4 => ?_))
        have ho : osc M M4 := (g1.tr k1.osc).tr k3.osc
        have hkp : kept M4 N tk := (g2.o9 k1.o9).o9 k3.o9
        have hz : rq N k = z := rz_eq k4
        have hle : (rM N k : Int) ≤ place := by
          rcases e2 with rfl | e2
          · simp [rM]; exact g
          · exact e2.2
        rw [w_1 hk (by omega)]
        refine ⟨fun e => ih ((_, _), _) ⟨ho, hkp, Or.inl ⟨rfl, ?_, Or.inr ⟨g, ?_⟩⟩⟩, fun e => ?_⟩
        · show place - (rM N k : Int) = _
          rw [rM_s0 (by rw [hz]; exact e)]
        · rw [rM_s0 (by rw [hz]; exact e)]; exact hle
        · have hq : rq N k = -1 := by rw [hz]; exact e
          rw [mm_w_id (z := place - (rM N k : Int) + -1) (by omega) (by omega)]
          refine ⟨fun e3 => ih ((_, _), _) ⟨ho, hkp, Or.inl ⟨rfl, ?_, Or.inr ⟨g, ?_⟩⟩⟩, fun e3 => ih ((_, _), _) ⟨ho, hkp, Or.inr ⟨k, by omega, hk, rfl, hq, by omega⟩⟩⟩
          · show place - (rM N k : Int) + -1 = _
            rw [rM_s1 hq]; omega
          · rw [rM_s1 hq]; omega
      · omega
/-! fractions in lowest terms -/
theorem mm_cmp0 (z : Int) : mm_cmp z 0 = 0 ↔ z = 0 := by
  unfold mm_cmp
  split
  · omega
  · split <;> omega
theorem reml_n (a b : Nat) : mm_reml (a : Int) (b : Int) = ((a % b : Nat) : Int) := by unfold mm_reml; rw [← Int.ofNat_tmod]
theorem divl_n {a b : Nat} (h : a < 9223372036854775808) : mm_divl (a : Int) (b : Int) = ((a / b : Nat) : Int) := by
  unfold mm_divl
  rw [← Int.ofNat_tdiv]
  have := Nat.div_le_self a b
  generalize a / b = z at this ⊢
  exact mm_wl_id (by omega) (by omega)
theorem q8_common {a b : Nat} {M : mm_M} {Q : Int → mm_M → Prop} (h : Q ((Nat.gcd a b : Nat) : Int) M) : mX8_common a b M Q := by
  refine loop_m (fun n (z : Nat × Nat) => bX8_common_6 n z.1 z.2 M Q) (fun z => Nat.gcd z.1 z.2 = Nat.gcd a b) (fun z => z.2) ?_ (a, b) rfl
  rintro n ⟨x, y⟩ hg ih
  dsimp only at hg ⊢
  unfold bX8_common_6
  rw [mm_cmp0, reml_n]
  refine ⟨fun e => ?_, fun e => ⟨e, ih (y, x % y) ?_ ?_⟩⟩
  · have : y = 0 := by omega
    subst this
    rw [Nat.gcd_zero_right] at hg
    rw [hg]; exact h
  · show Nat.gcd y (x % y) = _
    rw [← hg, Nat.gcd_comm y (x % y), ← Nat.gcd_rec y x, Nat.gcd_comm]
  · exact Nat.mod_lt _ (by omega)
def frA (a b : Nat) : Nat := if a = 0 ∧ b = 0 then 1 else a / Nat.gcd a b
def frB (a b : Nat) : Nat := if a = 0 ∧ b = 0 then 1 else b / Nat.gcd a b
theorem q8_part {a b : Nat} (ha : a < 9223372036854775808) (hb : b < 9223372036854775808) {what : Int} {M : mm_M} {Q : Int → mm_M → Prop} (h0 : what = 0 → Q (mm_w (frA a b)) M) (h1 : ¬ what = 0 → Q (mm_w (frB a b)) M) : mX8_part a b what M Q := by
  have go : ¬ (a = 0 ∧ b = 0) → bX8_part_14 a b what M Q := fun hn => by
    unfold bX8_part_14
    refine q8_common ?_
    have hg : ¬ ((Nat.gcd a b : Nat) : Int) = 0 := by
      intro e
      have := Nat.gcd_eq_zero_iff.mp (show Nat.gcd a b = 0 by omega)
      exact hn this
    rw [divl_n ha, divl_n hb]
    unfold frA at h0
    unfold frB at h1
    rw [if_neg hn] at h0 h1
    exact ⟨fun e => ⟨hg, h1 e⟩, fun e => ⟨hg, h0 e⟩⟩
  unfold mX8_part
  rw [mm_cmp0, mm_cmp0]
  refine ⟨fun e => go (by omega), fun e => ⟨fun e2 => go (by omega), fun e2 => ?_⟩⟩
  have hz : a = 0 ∧ b = 0 := by omega
  by_cases hw : what = 0
  · have := h0 hw; unfold frA at this; rw [if_pos hz] at this; exact this
  · have := h1 hw; unfold frB at this; rw [if_pos hz] at this; exact this
