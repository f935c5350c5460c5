/-! the class finds them -/
def cW (C : mm_M) (v0 : Nat) (a : Wy) : Prop := C v0 2 = (a.1 : Int) ∧ ∀ w, w < a.1 → w < 12 → C (v0 + 1) w = (a.2.1 w : Int) ∧ (∃ m : Nat, m < 1024 ∧ C (v0 + 2) w = (m : Int) ∧ ∀ r, r < 10 → (m.testBit r = true ↔ ∃ k, k < a.2.1 w ∧ a.2.2 w k = r)) ∧ ∀ k, k < a.2.1 w → C (v0 + 5 + w) k = (a.2.2 w k : Int)
/-- off one player's own -/
def oPl (v0 : Nat) (C C' : mm_M) : Prop := ∀ q k, (q < v0 ∨ v0 + 16 < q ∨ (q = v0 ∧ k ≠ 2)) → C' q k = C q k
theorem oPl.rf (v0 : Nat) (C : mm_M) : oPl v0 C C := fun _ _ _ => rfl
theorem oPl.tr {v0 : Nat} {C C' C'' : mm_M} (h : oPl v0 C C') (h2 : oPl v0 C' C'') : oPl v0 C C'' := fun q k a => (h2 q k a).trans (h q k a)
def pth (C : mm_M) (v0 d : Nat) (f : Nat → Nat) : Prop := ∀ k, k < d → C (v0 + 3) k = (f k : Int)
theorem q4_keepPath {p : Nat} (hp : p < 5) {d : Nat} (hd : d ≤ 5) {f : Nat → Nat} (hf : ∀ k, k < d → f k < 10) {a : Wy} (ha : a.1 ≤ 12) {C : mm_M} (hc : cW C (30 + 17 * p) a) (hh : pth C (30 + 17 * p) d f) {Q : mm_M → Prop}
    (h : ∀ C', oPl (30 + 17 * p) C C' → (∀ k, C' (30 + 17 * p + 3) k = C (30 + 17 * p + 3) k) → cW C' (30 + 17 * p) (app a d f) → Q C') : mX4_keepPath (30 + 17 * p) d C Q := by
  unfold mX4_keepPath
  rw [kd_p hp, ak_p1 hp, ak_p2 hp, hc.1, Int.toNat_natCast]
  generalize hv : 30 + 17 * p = v at *
  have k1 : ∀ z, mm_w ((a.1 : Int) + z) = (a.1 : Int) + z ∨ ¬ z = 1 := fun z => by
    by_cases e : z = 1
    · subst e; exact Or.inl (mm_w_id (by omega) (by omega))
    · exact Or.inr e
  have hw1 : mm_w ((a.1 : Int) + 1) = ((a.1 + 1 : Nat) : Int) := by rw [mm_w_id (by omega) (by omega)]; omega
  refine mm_chk_i rfl ⟨fun g => mm_chk_i rfl (mm_chk_i rfl (h _ (fun q k e => up_n (by omega)) (fun k => up_n (by omega)) ⟨?_, fun w hw hw2 => ?_⟩)), fun g => mm_chk_i rfl (mm_chk_i rfl (mm_chk_i rfl ⟨by omega, mm_chk_i rfl (mm_chk_i rfl (mm_chk_i rfl ?_))⟩))⟩
  · rw [up_s, hw1]; rfl
  · have hw : w < a.1 + 1 := hw
    have e : w ≠ a.1 := by omega
    show (mm_up C v 2 _) (v + 1) w = ((upt a.2.1 a.1 d w : Nat) : Int) ∧ (∃ m : Nat, m < 1024 ∧ (mm_up C v 2 _) (v + 2) w = (m : Int) ∧ ∀ r, r < 10 → (m.testBit r = true ↔ ∃ k, k < upt a.2.1 a.1 d w ∧ (if w = a.1 then f else a.2.2 w) k = r)) ∧ ∀ k, k < upt a.2.1 a.1 d w → (mm_up C v 2 _) (v + 5 + w) k = (((if w = a.1 then f else a.2.2 w) k : Nat) : Int)
    rw [upt_n e, if_neg e, up_n (by omega), up_n (by omega)]
    obtain ⟨c1, c2, c3⟩ := hc.2 w (by omega) hw2
    exact ⟨c1, c2, fun k hk => by rw [up_n (by omega)]; exact c3 k hk⟩
  have u2 : (mm_up C (v + 1) a.1 (d : Int)) v 2 = (a.1 : Int) := (up_n (by omega)).trans hc.1
  rw [u2, Int.toNat_natCast]
  refine ⟨by omega, ?_⟩
  refine pk_loop (fun j (k : Nat) (M2 : mm_M) => bX4_keepPath_31 j v d k M2 Q) (fun k M2 => (∀ q i, ¬ (q = v + 1 ∧ i = a.1) → ¬ (q = v + 2 ∧ i = a.1) → q ≠ v + 5 + a.1 → M2 q i = C q i) ∧ M2 (v + 1) a.1 = (d : Int) ∧ (∃ m : Nat, m < 1024 ∧ M2 (v + 2) a.1 = (m : Int) ∧ ∀ r, r < 10 → (m.testBit r = true ↔ ∃ i, i < k ∧ f i = r)) ∧ ∀ i, i < k → M2 (v + 5 + a.1) i = (f i : Int)) d 0 _ (Nat.zero_le _) ⟨fun q i e1 e2 e3 => ?_, ?_, ⟨0, by decide, up_s _ _ _ _, fun r hr => ?_⟩, fun i hi => by omega⟩ ?_ ?_
  · rw [up_n (by omega), up_n (by omega)]
  · rw [up_n (by omega), up_s]
  · rw [Nat.zero_testBit]
    constructor
    · intro e; cases e
    · rintro ⟨i, hi, -⟩; omega
  · rintro j M2 ⟨g1, g2, ⟨m, m1, m2, m3⟩, g4⟩
    unfold bX4_keepPath_31
    have e2 : M2 v 2 = (a.1 : Int) := (g1 v 2 (by omega) (by omega) (by omega)).trans hc.1
    rw [← hv, kd_p hp, hv, e2, hw1]
    refine ⟨fun _ => mm_chk_i rfl (mm_chk_i rfl (h _ (fun q k e => ?_) (fun k => ?_) ⟨up_s _ _ _ _, fun w hw hw2 => ?_⟩)), fun g => by omega⟩
    · rw [up_n (by omega)]; exact g1 q k (by omega) (by omega) (by omega)
    · rw [up_n (by omega)]; exact g1 _ k (by omega) (by omega) (by omega)
    · have hw : w < a.1 + 1 := hw
      show (mm_up M2 v 2 _) (v + 1) w = ((upt a.2.1 a.1 d w : Nat) : Int) ∧ (∃ m : Nat, m < 1024 ∧ (mm_up M2 v 2 _) (v + 2) w = (m : Int) ∧ ∀ r, r < 10 → (m.testBit r = true ↔ ∃ k, k < upt a.2.1 a.1 d w ∧ (if w = a.1 then f else a.2.2 w) k = r)) ∧ ∀ k, k < upt a.2.1 a.1 d w → (mm_up M2 v 2 _) (v + 5 + w) k = (((if w = a.1 then f else a.2.2 w) k : Nat) : Int)
      rw [up_n (by omega), up_n (by omega)]
      by_cases e : w = a.1
      · subst e
        rw [upt_s, if_pos rfl]
        exact ⟨g2, ⟨m, m1, m2, m3⟩, fun k hk => by rw [up_n (by omega)]; exact g4 k hk⟩
      · rw [upt_n e, if_neg e, g1 _ _ (by omega) (by omega) (by omega), g1 _ _ (by omega) (by omega) (by omega)]
        obtain ⟨c1, c2, c3⟩ := hc.2 w (by omega) hw2
        exact ⟨c1, c2, fun k hk => by rw [up_n (by omega), g1 _ _ (by omega) (by omega) (by omega)]; exact c3 k hk⟩
  · rintro j k M2 hk ⟨g1, g2, ⟨m, m1, m2, m3⟩, g4⟩ ih
    unfold bX4_keepPath_31
    have e2 : M2 v 2 = (a.1 : Int) := (g1 v 2 (by omega) (by omega) (by omega)).trans hc.1
    have e3 : M2 (v + 3) k = (f k : Int) := (g1 _ _ (by omega) (by omega) (by omega)).trans (hh k hk)
    rw [← hv, kd_p hp, ak_p4 hp, ak_p3 hp, ak_p2 hp, hv, e2, Int.toNat_natCast, Int.toNat_natCast, e3, el_4]
    have hpw : mm_ak lay_c (v + 5 + a.1) = (0, 5) := by rw [← hv]; exact ak_pw p hp a.1 (by omega)
    rw [hpw]
    have u3 : (mm_up M2 (v + 5 + a.1) k (f k : Int)) v 2 = (a.1 : Int) := (up_n (by omega)).trans e2
    have u4 : (mm_up M2 (v + 5 + a.1) k (f k : Int)) (v + 2) a.1 = (m : Int) := (up_n (by omega)).trans m2
    have u5 : (mm_up M2 (v + 5 + a.1) k (f k : Int)) (v + 3) k = (f k : Int) := (up_n (by omega)).trans e3
    rw [u3, Int.toNat_natCast, u4, u5, or_bit m1 (hf k hk), w_1 hk (by omega)]
    refine ⟨fun g => by omega, fun _ => mm_chk_i rfl (mm_chk_i rfl (mm_chk_i rfl ⟨by omega, mm_chk_i rfl (mm_chk_i rfl ⟨by omega, mm_chk_i rfl ⟨by omega, mm_chk_i rfl (mm_chk_i rfl (mm_chk_i rfl ⟨by omega, mm_chk_i rfl (mm_chk_i rfl ⟨by omega, mm_chk_i rfl ⟨by omega, ih _ ⟨fun q i a1 a2 a3 => ?_, ?_, ⟨m ||| 2 ^ f k, or_lt m1 (hf k hk), up_s _ _ _ _, fun r hr => ?_⟩, fun i hi => ?_⟩⟩⟩)⟩))⟩⟩)⟩))⟩
    · rw [up_n (by omega), up_n (by omega)]; exact g1 q i a1 a2 a3
    · rw [up_n (by omega), up_n (by omega)]; exact g2
    · rw [tb_or, m3 r hr]
      constructor
      · rintro (⟨i, hi, e⟩ | e)
        · exact ⟨i, by omega, e⟩
        · exact ⟨k, by omega, e.symm⟩
      · rintro ⟨i, hi, e⟩
        by_cases ei : i = k
        · subst ei; exact Or.inr e.symm
        · exact Or.inl ⟨i, by omega, e⟩
    · rw [up_n (by omega)]
      by_cases ei : i = k
      · subst ei; rw [up_s]
      · rw [up_n (by omega)]; exact g4 i (by omega)
