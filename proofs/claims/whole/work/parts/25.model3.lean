/-! best ways, who would move, turns; sets and their numbers -/
theorem bst_lt {N : mm_M} {tk : Nat → Nat} {p : Nat} (ht : tk p < wn N p) : ∀ k, k ≤ wn N p → bst N tk p k < wn N p
  | 0, _ => ht
  | k + 1, h => by
    unfold bst
    split
    · omega
    · exact bst_lt ht k (by omega)
theorem bestw_lt {N : mm_M} {tk : Nat → Nat} {p : Nat} (ht : tk p < wn N p) : bestw N tk p < wn N p := bst_lt ht _ (Nat.le_refl _)
theorem bst_s0 {N : mm_M} {tk : Nat → Nat} {p k : Nat} (h : pay N tk p (bst N tk p k) ≤ pay N tk p k) : bst N tk p (k + 1) = bst N tk p k := if_neg (by omega)
theorem bst_s1 {N : mm_M} {tk : Nat → Nat} {p k : Nat} (h : pay N tk p k < pay N tk p (bst N tk p k)) : bst N tk p (k + 1) = k := if_pos h
theorem q8_bestWay {N : mm_M} {tk : Nat → Nat} (hN : wf N) (ht : wfT N tk) {p : Nat} (hp : p < Pn N) {M : mm_M} (hm : ms M N tk) {Q : Int → mm_M → Prop}
    (h : ∀ M', o19 M M' → lds M' N tk → Q (bestw N tk p) M') : mX8_bestWay p M Q := by
  have hP := wf_P hN
  have hW := wf_w hN hp
  refine q8_layLoad hN ht hm (fun M1 h1 h2 => ?_)
  have hm1 := h1.ms hm
  rw [Int.toNat_natCast, hm1.2 p hp]
  refine ⟨by omega, q8_payNow hN ht hp (ht p hp) hm1 h2 (fun M2 h3 h4 => ?_)⟩
  refine pk_loop (fun n (k : Nat) (z : (Int × Int) × mm_M) => bX8_bestWay_21 n p z.1.1 z.1.2 k z.2 Q) (fun k z => z.1.1 = (bst N tk p k : Int) ∧ z.1.2 = pay N tk p (bst N tk p k) ∧ o19 M z.2 ∧ lds z.2 N tk) (wn N p) 0 (((tk p : Int), pay N tk p (tk p)), M2) (Nat.zero_le _) ⟨rfl, rfl, h1.tr h3, h4⟩ ?_ ?_
  · rintro n ⟨⟨z1, z2⟩, M3⟩ ⟨rfl, rfl, h5, h6⟩
    dsimp only at h5 h6 ⊢
    unfold bX8_bestWay_21
    rw [Int.toNat_natCast, pj_r (h5.ms hm).1 (q := 8) (k := p) rfl]
    exact ⟨by omega, fun _ => h M3 h5 h6, fun g => by omega⟩
  · rintro n k ⟨⟨z1, z2⟩, M3⟩ hk ⟨rfl, rfl, h5, h6⟩ ih
    dsimp only at h5 h6 ⊢
    unfold bX8_bestWay_21
    have hm3 := h5.ms hm
    rw [Int.toNat_natCast, pj_r hm3.1 (q := 8) (k := p) rfl]
    refine ⟨by omega, fun g => by omega, fun _ => q8_payNow hN ht hp hk hm3 h6 (fun M4 h7 h8 => ?_)⟩
    rw [w_1 hk (by omega)]
    refine ⟨fun g => ?_, fun g => ?_⟩
    · refine ih (((_, _), _)) ⟨?_, ?_, h5.tr h7, h8⟩
      · show _ = ((bst N tk p (k + 1) : Nat) : Int)
        rw [bst_s0 g]
      · show _ = pay N tk p (bst N tk p (k + 1))
        rw [bst_s0 g]; rfl
    · refine ih (((_, _), _)) ⟨?_, ?_, h5.tr h7, h8⟩
      · show _ = ((bst N tk p (k + 1) : Nat) : Int)
        rw [bst_s1 g]
      · show _ = pay N tk p (bst N tk p (k + 1))
        rw [bst_s1 g]; rfl
/-- z is the least player but one that would move, or -1 -/
def isRst (N : mm_M) (tk : Nat → Nat) (but z : Int) : Prop := (z = -1 ∧ ∀ p, p < Pn N → (p : Int) ≠ but → bestw N tk p = tk p) ∨ ∃ p : Nat, p < Pn N ∧ z = p ∧ (p : Int) ≠ but ∧ bestw N tk p ≠ tk p ∧ ∀ q, q < p → (q : Int) ≠ but → bestw N tk q = tk q
theorem isRst_u {N : mm_M} {tk : Nat → Nat} {but z z' : Int} (h : isRst N tk but z) (h' : isRst N tk but z') : z = z' := by
  rcases h with ⟨rfl, h⟩ | ⟨p, hp, rfl, h1, h2, h3⟩ <;> rcases h' with ⟨rfl, h'⟩ | ⟨q, hq, rfl, h4, h5, h6⟩
  · rfl
  · exact absurd (h q hq h4) h5
  · exact absurd (h' p hp h1) h2
  · rcases Nat.lt_trichotomy p q with g | g | g
    · exact absurd (h6 p g h1) h2
    · rw [g]
    · exact absurd (h3 q g h4) h5
theorem isRst_ex (N : mm_M) (tk : Nat → Nat) (but : Int) : ∃ z, isRst N tk but z := by
  have : ∀ n, n ≤ Pn N → (∀ p, p < n → (p : Int) ≠ but → bestw N tk p = tk p) ∨ ∃ p : Nat, p < n ∧ (p : Int) ≠ but ∧ bestw N tk p ≠ tk p ∧ ∀ q, q < p → (q : Int) ≠ but → bestw N tk q = tk q := by
    intro n
    induction n with
    | zero => intro _; exact Or.inl (fun p hp => by omega)
    | succ n ih =>
      intro hn
      rcases ih (by omega) with h | ⟨p, h1, h2⟩
      · by_cases e : (n : Int) ≠ but ∧ bestw N tk n ≠ tk n
        · exact Or.inr ⟨n, by omega, e.1, e.2, h⟩
        · left
          intro p hp hb
          by_cases e2 : p = n
          · subst e2
            by_cases e3 : bestw N tk p = tk p
            · exact e3
            · exact absurd ⟨hb, e3⟩ e
          · exact h p (by omega) hb
      · exact Or.inr ⟨p, by omega, h2⟩
  rcases this (Pn N) (Nat.le_refl _) with h | ⟨p, h1, h2, h3, h4⟩
  · exact ⟨-1, Or.inl ⟨rfl, h⟩⟩
  · exact ⟨p, Or.inr ⟨p, h1, rfl, h2, h3, h4⟩⟩
theorem q8_restless {N : mm_M} {tk : Nat → Nat} (hN : wf N) (ht : wfT N tk) {but : Int} {M : mm_M} (hm : ms M N tk) {Q : Int → mm_M → Prop}
    (h : ∀ z M', o19 M M' → isRst N tk but z → Q z M') : mX8_restless but M Q := by
  have hP := wf_P hN
  refine pk_loop (fun n (k : Nat) (M1 : mm_M) => bX8_restless_2 n but k M1 Q) (fun k M1 => o19 M M1 ∧ ∀ q, q < k → (q : Int) ≠ but → bestw N tk q = tk q) (Pn N) 0 M (Nat.zero_le _) ⟨o19.rf M, fun q hq => by omega⟩ ?_ ?_
  · rintro n M1 ⟨h1, h2⟩
    unfold bX8_restless_2
    rw [pj_r (h1.ms hm).1 (q := 0) (k := 9) rfl]
    exact ⟨fun _ => h _ M1 h1 (Or.inl ⟨rfl, h2⟩), fun g => by omega⟩
  · rintro n k M1 hk ⟨h1, h2⟩ ih
    unfold bX8_restless_2
    have hm1 := h1.ms hm
    rw [pj_r hm1.1 (q := 0) (k := 9) rfl, w_1 hk (by omega)]
    refine ⟨fun g => by omega, fun _ => ⟨fun g => ih M1 ⟨h1, fun q hq hb => ?_⟩, fun g => q8_bestWay hN ht hk hm1 (fun M2 h3 h4 => ?_)⟩⟩
    · by_cases e : q = k
      · subst e; exact absurd g hb
      · exact h2 q (by omega) hb
    · rw [Int.toNat_natCast, (h3.ms hm1).2 k hk]
      refine ⟨by omega, fun g2 => ih M2 ⟨h1.tr h3, fun q hq hb => ?_⟩, fun g2 => h _ M2 (h1.tr h3) (Or.inr ⟨k, hk, rfl, g, by omega, h2⟩)⟩
      by_cases e : q = k
      · subst e; omega
      · exact h2 q (by omega) hb
/-- the set behind a turn -/
def upt (tk : Nat → Nat) (p w : Nat) : Nat → Nat := fun q => if q = p then w else tk q
theorem ms_up9 {M N : mm_M} {tk : Nat → Nat} (hm : ms M N tk) {p w : Nat} : ms (mm_up M 9 p (w : Int)) N (upt tk p w) := by
  refine ⟨pj_fr hm.1 (fun q k hp => up_n (Or.inl (fun e => by subst e; cases hp))), fun q hq => ?_⟩
  unfold upt
  by_cases e : q = p
  · subst e; rw [up_s, if_pos rfl]
  · rw [up_n (Or.inr e), if_neg e]; exact hm.2 q hq
theorem wfT_upt {N : mm_M} {tk : Nat → Nat} (ht : wfT N tk) {p w : Nat} (hw : w < wn N p) : wfT N (upt tk p w) := fun q hq => by
  unfold upt
  split
  · rename_i e; subst e; exact hw
  · exact ht q hq
/-- all but the loads and the set stay -/
def o9 (M M' : mm_M) : Prop := ∀ q k, q ≠ 19 → q ≠ 9 → M' q k = M q k
theorem o9.rf (M : mm_M) : o9 M M := fun _ _ _ _ => rfl
theorem o9.tr {M M' M'' : mm_M} (h : o9 M M') (h2 : o9 M' M'') : o9 M M'' := fun q k a b => (h2 q k a b).trans (h q k a b)
theorem o19.o9 {M M' : mm_M} (h : o19 M M') : o9 M M' := fun q k a _ => h q k a
theorem o9.up {M : mm_M} {p : Nat} {z : Int} : o9 M (mm_up M 9 p z) := fun q i _ hq => up_n (Or.inl hq)
theorem q8_turnOf {N : mm_M} {tk : Nat → Nat} (hN : wf N) (ht : wfT N tk) {but : Int} {M : mm_M} (hm : ms M N tk) {Q : Int → mm_M → Prop}
    (h0 : ∀ M', o9 M M' → ms M' N tk → isRst N tk but (-1) → Q (-1) M')
    (h1 : ∀ (p : Nat) M', o9 M M' → p < Pn N → isRst N tk but p → ms M' N (upt tk p (bestw N tk p)) → Q p M') : mX8_turnOf but M Q := by
  have hP := wf_P hN
  refine q8_restless hN ht hm (fun z M1 h2 h3 => ⟨fun g => ?_, fun g => ?_⟩)
  · subst g; exact h0 M1 h2.o9 (h2.ms hm) h3
  · rcases h3 with ⟨e, -⟩ | ⟨p, hp, rfl, h4⟩
    · exact absurd e g
    · have h3 : isRst N tk but p := Or.inr ⟨p, hp, rfl, h4⟩
      have hm1 := h2.ms hm
      refine q8_bestWay hN ht hp hm1 (fun M2 h5 h6 => ⟨by omega, ?_⟩)
      rw [Int.toNat_natCast]
      exact h1 p _ ((h2.o9.tr h5.o9).tr o9.up) hp h3 (ms_up9 (h5.ms hm1))
def all (N : mm_M) : Nat → Nat
  | 0 => 1
  | k + 1 => all N k * wn N k
theorem all_bd {N : mm_M} (h : wf N) : ∀ k, k ≤ Pn N → 1 ≤ all N k ∧ all N k ≤ 12 ^ k
  | 0, _ => ⟨Nat.le_refl _, Nat.le_refl _⟩
  | k + 1, hk => by
    have h1 := all_bd h k (by omega)
    have h2 := wf_w h (show k < Pn N by omega)
    unfold all
    rw [Nat.pow_succ]
    exact ⟨Nat.mul_le_mul h1.1 h2.2.1, Nat.mul_le_mul h1.2 h2.2.2⟩
theorem all_5 {N : mm_M} (h : wf N) {k : Nat} (hk : k ≤ Pn N) : all N k ≤ 248832 := by
  have h1 := (all_bd h k hk).2
  have h2 := wf_P h
  have : 12 ^ k ≤ 12 ^ 5 := Nat.pow_le_pow_right (by omega) (by omega)
  omega
theorem q8_setsAll {N : mm_M} {tk : Nat → Nat} (hN : wf N) {M : mm_M} (hm : ms M N tk) {Q : Int → mm_M → Prop} (h : Q (all N (Pn N)) M) : mX8_setsAll M Q := by
  have hP := wf_P hN
  refine pk_loop (fun n (k : Nat) (z : Int) => bX8_setsAll_4 n z k M Q) (fun k z => z = (all N k : Int)) (Pn N) 0 1 (Nat.zero_le _) rfl ?_ ?_
  · rintro n z rfl
    unfold bX8_setsAll_4
    rw [pj_r hm.1 (q := 0) (k := 9) rfl]
    exact ⟨fun _ => h, fun g => by omega⟩
  · rintro n k z hk rfl ih
    unfold bX8_setsAll_4
    have hW := wf_w hN hk
    have h1 := all_5 hN (show k + 1 ≤ Pn N by omega)
    rw [pj_r hm.1 (q := 0) (k := 9) rfl, Int.toNat_natCast, pj_r hm.1 (q := 8) (k := k) rfl, ← hW.1, w_1 hk (by omega)]
    refine ⟨fun g => by omega, fun _ => ⟨by omega, ih _ ?_⟩⟩
    rw [← Int.natCast_mul]
    show mm_w ((all N (k + 1) : Nat) : Int) = _
    generalize all N (k + 1) = z at h1 ⊢
    exact mm_w_id (by omega) (by omega)
theorem q8_greatestLoad {N : mm_M} {tk : Nat → Nat} (hN : wf N) (ht : wfT N tk) {M : mm_M} (hm : ms M N tk) {Q : Int → mm_M → Prop}
    (h : ∀ M' z, o19 M M' → (∀ r, r < Rn N → lod N tk r ≤ z) → (z = 0 ∨ ∃ r, r < Rn N ∧ z = lod N tk r) → Q z M') : mX8_greatestLoad M Q := by
  have hR := wf_R hN
  refine q8_layLoad hN ht hm (fun M1 h1 h2 => ?_)
  have hm1 := h1.ms hm
  refine pk_loop (fun n (k : Nat) (z : Int) => bX8_greatestLoad_8 n z k M1 Q) (fun k z => (∀ r, r < k → lod N tk r ≤ z) ∧ (z = 0 ∨ ∃ r, r < Rn N ∧ z = lod N tk r)) (Rn N) 0 0 (Nat.zero_le _) ⟨fun r hr => by omega, Or.inl rfl⟩ ?_ ?_
  · rintro n z ⟨h3, h4⟩
    unfold bX8_greatestLoad_8
    rw [pj_r hm1.1 (q := 0) (k := 1) rfl]
    exact ⟨fun _ => h M1 z h1 h3 h4, fun g => by omega⟩
  · rintro n k z hk ⟨h3, h4⟩ ih
    unfold bX8_greatestLoad_8
    rw [pj_r hm1.1 (q := 0) (k := 1) rfl, Int.toNat_natCast, h2 k (by omega), w_1 hk (by omega)]
    refine ⟨fun g => by omega, fun _ => ⟨by omega, fun g => ih z ⟨fun r hr => ?_, h4⟩, fun g => ⟨by omega, ih _ ⟨fun r hr => ?_, Or.inr ⟨k, hk, rfl⟩⟩⟩⟩⟩
    · by_cases e : r = k
      · subst e; exact g
      · exact h3 r (by omega)
    · by_cases e : r = k
      · subst e; exact Int.le_refl _
      · have := h3 r (by omega); omega
