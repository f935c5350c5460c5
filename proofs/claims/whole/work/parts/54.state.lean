/-! the two sides hold one state -/
noncomputable def the (p : Int → Prop) : Int := Classical.epsilon p
theorem the_eq {p : Int → Prop} {z : Int} (h : p z) (hu : ∀ a b, p a → p b → a = b) : z = the p := hu _ _ h (Classical.epsilon_spec ⟨z, h⟩)
def lj (M : mm_M) : mm_M := fun q k => if (q = 0 ∧ (k = 18 ∨ k = 21 ∨ k = 22)) ∨ q = 12 ∨ q = 13 then M q k else 0
def xj (M : mm_M) : mm_M := fun q k => if (q = 0 ∧ (k = 8 ∨ k = 16 ∨ k = 17 ∨ k = 23)) ∨ q = 14 then M q k else 0
theorem lj_fr {M M' L : mm_M} (h : lj M = L) (hf : ∀ q k, ((q = 0 ∧ (k = 18 ∨ k = 21 ∨ k = 22)) ∨ q = 12 ∨ q = 13) → M' q k = M q k) : lj M' = L := by
  rw [← h]
  funext q k
  unfold lj
  split
  · exact hf q k (by assumption)
  · rfl
theorem xj_fr {M M' X : mm_M} (h : xj M = X) (hf : ∀ q k, ((q = 0 ∧ (k = 8 ∨ k = 16 ∨ k = 17 ∨ k = 23)) ∨ q = 14) → M' q k = M q k) : xj M' = X := by
  rw [← h]
  funext q k
  unfold xj
  split
  · exact hf q k (by assumption)
  · rfl
theorem lj_r {M L : mm_M} (h : lj M = L) {q k : Nat} (hq : (q = 0 ∧ (k = 18 ∨ k = 21 ∨ k = 22)) ∨ q = 12 ∨ q = 13) : M q k = L q k := by
  rw [← h]; exact (if_pos hq).symm
theorem xj_r {M X : mm_M} (h : xj M = X) {q k : Nat} (hq : (q = 0 ∧ (k = 8 ∨ k = 16 ∨ k = 17 ∨ k = 23)) ∨ q = 14) : M q k = X q k := by
  rw [← h]; exact (if_pos hq).symm
theorem lj_lM {M L : mm_M} (h : lj M = L) : lM M L := ⟨lj_r h (by decide), lj_r h (by decide), lj_r h (by decide), fun k _ => ⟨lj_r h (Or.inr (Or.inl rfl)), lj_r h (Or.inr (Or.inr rfl))⟩⟩
def netc (T : mm_M) : Prop := (T 0 0 = 0 ∧ T 0 1 = 0 ∧ T 0 9 = 0) ∨ ((2 ≤ T 0 0 ∧ T 0 0 ≤ 6) ∧ 1 ≤ T 0 1)
def wI (T : mm_M) (tk : Nat → Nat) (L X : mm_M) : Prop := wf T ∧ wfT T tk ∧ netc T ∧ wfL L ∧ (0 ≤ X 0 23 ∧ X 0 23 ≤ 92) ∧ mm_R (X 0 17) ∧ ∀ k : Nat, (k : Int) < X 0 23 → 32 ≤ X 14 k ∧ X 14 k ≤ 126
def mI (M T : mm_M) (tk : Nat → Nat) (L X : mm_M) : Prop := ms M T tk ∧ lj M = L ∧ xj M = X
def ch (C T : mm_M) : Prop := C 115 0 = 0 ∨ (C 115 0 = 1 ∧ 1 ≤ Pn T ∧ all T (Pn T) ≤ 500 ∧ aD C T ∧ (C 121 0 = -1 ∨ ∃ n0 : Nat, C 121 0 = (n0 : Int) ∧ sD C T n0))
def xC (C X : mm_M) : Prop := C 1 1 = X 0 23 ∧ (∀ k : Nat, (k : Int) < X 0 23 → C 2 k = X 14 k) ∧ C 0 4 = X 0 8 ∧ C 0 5 = X 0 16 ∧ C 0 6 = X 0 17
def cI (C T : mm_M) (tk : Nat → Nat) (L X : mm_M) : Prop := cs C T tk ∧ ch C T ∧ (∃ wv nx, wvs C wv nx) ∧ lC C L ∧ (C 125 6 ≠ 0 → kD C L) ∧ xC C X
def Inv (C M : mm_M) : Prop := ∃ T tk L X, wI T tk L X ∧ cI C T tk L X ∧ mI M T tk L X
theorem mI.osc {M M' T : mm_M} {tk t' : Nat → Nat} {L X : mm_M} (h : mI M T tk L X) (o : osc M M') (hm : ms M' T t') : mI M' T t' L X := ⟨hm, lj_fr h.2.1 (fun q k a => o q k (by omega) (by omega) (by omega) (by omega) (by omega) (by omega) (by omega)), xj_fr h.2.2 (fun q k a => o q k (by omega) (by omega) (by omega) (by omega) (by omega) (by omega) (by omega))⟩
theorem mI.o19 {M M' T : mm_M} {tk : Nat → Nat} {L X : mm_M} (h : mI M T tk L X) (o : o19 M M') : mI M' T tk L X := h.osc o.osc (o.ms h.1)
theorem mI.oln {M M' T : mm_M} {tk : Nat → Nat} {L X : mm_M} (h : mI M T tk L X) (o : oln M M') : mI M' T tk L X := ⟨⟨pj_fr h.1.1 (fun q k hp => o q k (by have := pp_i hp; omega) (by have := pp_i hp; omega)), fun p hp => (o 9 p (by omega) (by decide)).trans (h.1.2 p hp)⟩, lj_fr h.2.1 (fun q k a => o q k (by omega) (by omega)), xj_fr h.2.2 (fun q k a => o q k (by omega) (by omega))⟩
/-- off all but the traffic's own state -/
theorem cI.otk {C C' T : mm_M} {tk t' : Nat → Nat} {L X : mm_M} (h : cI C T tk L X) (o : otk C C') (hc : cs C' T t') : cI C' T t' L X := by
  obtain ⟨-, h2, ⟨wv, nx, h3⟩, h4, h5, h6⟩ := h
  have f : ∀ q k, 114 < q → C' q k = C q k := fun q k hq => o q k (by omega) (by omega) (fun _ p hp => by omega)
  have g : ∀ q k, q < 3 → C' q k = C q k := fun q k hq => o q k (by omega) (by omega) (fun _ p hp => by omega)
  have fe : ∀ q, 114 < q → C' q = C q := fun q hq => funext (fun k => f q k hq)
  refine ⟨hc, ?_, ⟨wv, nx, h3.1, (f 121 2 (by decide)).trans h3.2.1, (f 121 4 (by decide)).trans h3.2.2⟩, ?_, ?_, ?_⟩
  · have e : ∀ q, 114 < q → C' q = C q := fe
    unfold ch aD gD vD lD sD at *
    rw [fe 115 (by decide), fe 116 (by decide), fe 117 (by decide), fe 118 (by decide), fe 119 (by decide), fe 120 (by decide), fe 121 (by decide)]
    exact h2
  · unfold lC at *
    rw [fe 125 (by decide), fe 126 (by decide), fe 127 (by decide), fe 128 (by decide)]
    exact h4
  · unfold kD at *
    rw [fe 125 (by decide), fe 129 (by decide), fe 133 (by decide), fe 134 (by decide), fe 135 (by decide), fe 136 (by decide)]
    exact h5
  · exact ⟨(g 1 1 (by decide)).trans h6.1, fun k hk => (g 2 k (by decide)).trans (h6.2.1 k hk), (g 0 4 (by decide)).trans h6.2.2.1, (g 0 5 (by decide)).trans h6.2.2.2.1, (g 0 6 (by decide)).trans h6.2.2.2.2⟩
/-- what is known of the sets, where they are counted -/
def kn (C T : mm_M) : Prop := C 115 0 = 1 ∧ aD C T ∧ (C 121 0 = -1 ∨ ∃ n0 : Nat, C 121 0 = (n0 : Int) ∧ sD C T n0)
theorem q7_within {v lo hi : Int} {M : mm_M} {Q : Int → mm_M → Prop} (h1 : lo ≤ v → v ≤ hi → Q 1 M) (h0 : (v < lo ∨ hi < v) → Q 0 M) : mX7_within v lo hi M Q :=
  ⟨fun g => ⟨Or.inl rfl, h0 (Or.inl g)⟩, fun g => ⟨fun g2 => ⟨Or.inl rfl, h0 (Or.inr g2)⟩, fun g2 => ⟨Or.inr rfl, h1 g g2⟩⟩⟩
theorem q7_surveyed {T : mm_M} {tk : Nat → Nat} {L X : mm_M} (hw : wI T tk L X) {C : mm_M} (hc : cI C T tk L X) {Q : Int → mm_M → Prop} (h1 : 1 ≤ Pn T → all T (Pn T) ≤ 500 → ∀ C', cI C' T tk L X → kn C' T → Q 1 C') (h0 : ¬ (1 ≤ Pn T ∧ all T (Pn T) ≤ 500) → Q 0 C) : mX7_surveyed C Q := by
  obtain ⟨hT, ht, -, hL, hX, -⟩ := hw
  have hP := wf_P hT
  unfold mX7_surveyed
  rw [hc.1.1.1]
  refine ⟨fun g => ⟨Or.inl rfl, h0 (fun q => by omega)⟩, fun g => q6_setsInAll hT hc.1.1 ⟨fun g2 => ⟨fun g3 => ⟨Or.inr rfl, h1 (by omega) (by omega) C hc ?_⟩, fun g3 => ?_⟩, fun g2 => ⟨Or.inl rfl, h0 (fun q => by omega)⟩⟩⟩
  · rcases hc.2.1 with e | ⟨e1, -, -, e2, e3⟩
    · exact absurd e g3
    · exact ⟨e1, e2, e3⟩
  · refine q0_survey hT ht (by omega) hc.1 (fun C' o1 o2 o3 o4 o5 => ⟨Or.inr rfl, h1 (by omega) (by omega) C' ?_ ⟨o5, o3, Or.inl o4⟩⟩)
    obtain ⟨-, -, ⟨wv, nx, k3⟩, k4, k5, k6⟩ := hc
    have f : ∀ q k, 121 < q → C' q k = C q k := fun q k hq => o1.2 q k (by omega) (by omega)
    have fe : ∀ q, 121 < q → C' q = C q := fun q hq => funext (fun k => f q k hq)
    have g : ∀ q k, q < 3 → C' q k = C q k := fun q k hq => o1.1 q k (by omega) (by omega) (by omega) (fun _ p hp => by omega)
    refine ⟨o2, Or.inr ⟨o5, by omega, by omega, o3, Or.inl o4⟩, ⟨wv, nx, k3.1, (o1.2 121 2 (by decide) (by decide)).trans k3.2.1, (o1.2 121 4 (by decide) (by decide)).trans k3.2.2⟩, ?_, ?_, (g 1 1 (by decide)).trans k6.1, fun k hk => (g 2 k (by decide)).trans (k6.2.1 k hk), (g 0 4 (by decide)).trans k6.2.2.1, (g 0 5 (by decide)).trans k6.2.2.2.1, (g 0 6 (by decide)).trans k6.2.2.2.2⟩
    · unfold lC at *
      rw [fe 125 (by decide), fe 126 (by decide), fe 127 (by decide), fe 128 (by decide)]
      exact k4
    · unfold kD at *
      rw [fe 125 (by decide), fe 129 (by decide), fe 133 (by decide), fe 134 (by decide), fe 135 (by decide), fe 136 (by decide)]
      exact k5
theorem q8_isCounted {T : mm_M} {tk : Nat → Nat} {L X : mm_M} (hw : wI T tk L X) {M : mm_M} (hm : mI M T tk L X) {Q : Int → mm_M → Prop} (h1 : 1 ≤ Pn T → all T (Pn T) ≤ 500 → Q 1 M) (h0 : ¬ (1 ≤ Pn T ∧ all T (Pn T) ≤ 500) → Q 0 M) : mX8_isCounted M Q := by
  have hP := wf_P hw.1
  unfold mX8_isCounted
  rw [pj_r hm.1.1 (q := 0) (k := 9) rfl]
  exact ⟨fun g => ⟨Or.inl rfl, h0 (fun q => by omega)⟩, fun g => q8_setsAll hw.1 hm.1 ⟨fun g2 => ⟨Or.inl rfl, h0 (fun q => by omega)⟩, fun g2 => ⟨Or.inr rfl, h1 (by omega) (by omega)⟩⟩⟩
/-- where the lanes are parted -/
theorem q7_partAll {T : mm_M} {tk : Nat → Nat} {L X : mm_M} (hw : wI T tk L X) (hn1 : 1 ≤ Ln L) {C : mm_M} (hc : cI C T tk L X) {Q : mm_M → Prop} (h : ∀ C', cI C' T tk L X → kD C' L → Q C') : mX1_partAll C Q := by
  have hT := hw.1
  obtain ⟨k1, k2, ⟨wv, nx, k3⟩, k4, k5, k6⟩ := hc
  refine q1_partAll hw.2.2.2.1 hn1 k4 k5 (fun C' o l g k => h C' ⟨cs_off hT (fun q i a _ => o q i (by omega)) k1, ?_, ⟨wv, nx, k3.1, (o 121 2 (by decide)).trans k3.2.1, (o 121 4 (by decide)).trans k3.2.2⟩, l, fun _ => k, (o 1 1 (by decide)).trans k6.1, fun i hi => (o 2 i (by decide)).trans (k6.2.1 i hi), (o 0 4 (by decide)).trans k6.2.2.1, (o 0 5 (by decide)).trans k6.2.2.2.1, (o 0 6 (by decide)).trans k6.2.2.2.2⟩ k)
  have fe : ∀ q, q < 125 → C' q = C q := fun q hq => funext (fun k => o q k hq)
  unfold ch aD gD vD lD sD at *
  rw [fe 115 (by decide), fe 116 (by decide), fe 117 (by decide), fe 118 (by decide), fe 119 (by decide), fe 120 (by decide), fe 121 (by decide)]
  exact k2
