/-! at the start both hold one state -/
theorem M0m_z {q k : Nat} (h : ¬ (q = 0 ∧ (k = 21 ∨ k = 22))) : M0m q k = 0 := by
  unfold M0m
  split
  · rw [if_neg (by omega), if_neg (by omega)]
  · rfl
theorem M0c_z {q k : Nat} (h : q ≠ 121) (h2 : q ≠ 125) : M0c q k = 0 := by
  unfold M0c
  rw [if_neg h, if_neg h2]
theorem T0_z (q k : Nat) : pj M0m q k = 0 := by
  by_cases c : pjc M0m q k
  · rw [pj_y c]
    have := pp_i c.1
    exact M0m_z (by omega)
  · exact pj_0 c
theorem inv0 : Inv M0c M0m := by
  have z := T0_z
  have hP : Pn (pj M0m) = 0 := by unfold Pn; rw [z]; rfl
  have hR : Rn (pj M0m) = 0 := by unfold Rn; rw [z]; rfl
  have hX : ∀ q k, xj M0m q k = 0 := fun q k => by
    unfold xj
    split
    · exact M0m_z (by omega)
    · rfl
  have hL : Ln (lj M0m) = 0 := rfl
  refine ⟨pj M0m, fun _ => 0, lj M0m, xj M0m, ⟨⟨⟨by rw [z]; omega, by rw [z]; omega, fun r hr => by rw [hR] at hr; omega⟩, by rw [z]; omega, fun p hp => by rw [hP] at hp; omega⟩, fun p hp => by rw [hP] at hp; omega, Or.inl ⟨z 0 0, z 0 1, z 0 9⟩, ⟨by decide, fun k hk => by rw [hL] at hk; omega, by decide, by decide⟩, by rw [hX]; omega, by rw [hX]; exact mm_R0, fun k hk => by rw [hX] at hk; omega⟩, ⟨⟨⟨?_, ⟨?_, ?_, ?_, fun r hr => by rw [hR] at hr; omega⟩, fun r hr => by rw [hR] at hr; omega, fun p hp => by rw [hP] at hp; omega⟩, fun p hp => by rw [hP] at hp; omega, fun r hr => ?_⟩, Or.inl (M0c_z (by decide) (by decide)), ⟨123, 124, Or.inl ⟨rfl, rfl⟩, rfl, rfl⟩, ⟨rfl, rfl, rfl, fun k hk => by rw [hL] at hk; omega⟩, fun h => absurd rfl h, ?_, fun k hk => by rw [hX] at hk; omega, ?_, ?_, ?_⟩, ⟨rfl, fun p hp => by rw [hP] at hp; omega⟩, rfl, rfl⟩
  · rw [z]; exact M0c_z (by decide) (by decide)
  · rw [z]; exact M0c_z (by decide) (by decide)
  · rw [z]; exact M0c_z (by decide) (by decide)
  · rw [z]; exact M0c_z (by decide) (by decide)
  · rw [M0c_z (by decide) (by decide)]
    unfold lod
    rw [hP]; rfl
  · rw [hX]; exact M0c_z (by decide) (by decide)
  · rw [hX]; exact M0c_z (by decide) (by decide)
  · rw [hX]; exact M0c_z (by decide) (by decide)
  · rw [hX]; exact M0c_z (by decide) (by decide)
