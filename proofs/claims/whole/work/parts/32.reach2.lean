/-! the model's reach -/
def prv (N : mm_M) (v : Int) : Nat → Int
  | 0 => -1
  | n + 1 => if po N n = v then (n : Int) else prv N v n
theorem prv_ok (N : mm_M) (v : Int) : ∀ n, (prv N v n = -1 ∧ ∀ m, m < n → po N m ≠ v) ∨ ∃ m : Nat, m < n ∧ prv N v n = m ∧ po N m = v ∧ ∀ k, m < k → k < n → po N k ≠ v
  | 0 => Or.inl ⟨rfl, fun m hm => by omega⟩
  | n + 1 => by
    by_cases e : po N n = v
    · right
      exact ⟨n, by omega, if_pos e, e, fun k h1 h2 => by omega⟩
    · have e2 : prv N v (n + 1) = prv N v n := if_neg e
      rw [e2]
      rcases prv_ok N v n with ⟨h1, h2⟩ | ⟨m, h1, h2, h3, h4⟩
      · left
        exact ⟨h1, fun m hm => by
          by_cases z : m = n
          · subst z; exact e
          · exact h2 m (by omega)⟩
      · right
        exact ⟨m, by omega, h2, h3, fun k k1 k2 => by
          by_cases z : k = n
          · subst z; exact e
          · exact h4 k k1 (by omega)⟩
def oc (M M' : mm_M) : Prop := ∀ q k, q ≠ 9 → q ≠ 19 → q ≠ 22 → q ≠ 23 → q ≠ 24 → M' q k = M q k
theorem oc.rf (M : mm_M) : oc M M := fun _ _ _ _ _ _ _ => rfl
theorem oc.tr {M M' M'' : mm_M} (h : oc M M') (h2 : oc M' M'') : oc M M'' := fun q k a b c d e => (h2 q k a b c d e).trans (h q k a b c d e)
theorem oc.osc {M M' : mm_M} (h : oc M M') : osc M M' := fun q k _ b c _ e f g => h q k b c e f g
theorem o24.oc {M M' : mm_M} (h : o24 M M') : oc M M' := fun q k a b _ _ e => h q k a b e
theorem oc.kept {M M' N : mm_M} {tk : Nat → Nat} (h : oc M M') (hk : kept M N tk) : kept M' N tk := fun p hp => (h 21 p (by decide) (by decide) (by decide) (by decide) (by decide)).trans (hk p hp)
def chn (M N : mm_M) (k : Nat) : Prop := (∀ v : Nat, v < 4351 → M 22 v = prv N v k) ∧ ∀ n, n < k → M 23 n = prv N (po N n) n
theorem q8_layChains {N : mm_M} {tk : Nat → Nat} (hN : wf N) (ha : all N (Pn N) ≤ 500) {M : mm_M} (hm : ms M N tk) {Q : mm_M → Prop}
    (h : ∀ M', oc M M' → chn M' N (all N (Pn N)) → (∀ n, n < all N (Pn N) → M' 24 n = -1) → Q M') : mX8_layChains M Q := by
  refine pk_loop (fun n (k : Nat) (M1 : mm_M) => bX8_layChains_2 n k M1 Q) (fun k M1 => oc M M1 ∧ (∀ p, M1 9 p = M 9 p) ∧ ∀ v : Nat, v < k → M1 22 v = -1) 4351 0 M (Nat.zero_le _) ⟨oc.rf M, fun _ => rfl, fun v hv => by omega⟩ ?_ ?_
  · rintro n M1 ⟨g1, g2, g3⟩
    unfold bX8_layChains_2
    refine ⟨fun _ => q8_setsAll hN (ms_osc g1.osc hm g2) ?_, fun g => by omega⟩
    refine pk_loop (fun n (k : Nat) (M2 : mm_M) => bX8_layChains_29 n (all N (Pn N) : Int) k M2 Q) (fun k M2 => oc M M2 ∧ chn M2 N k ∧ ∀ n, n < k → M2 24 n = -1) (all N (Pn N)) 0 M1 (Nat.zero_le _) ⟨g1, ⟨fun v hv => g3 v hv, fun n hn => by omega⟩, fun n hn => by omega⟩ ?_ ?_
    · rintro n M2 ⟨k1, k2, k3⟩
      unfold bX8_layChains_29
      exact ⟨fun _ => h M2 k1 k2 k3, fun g => by omega⟩
    · rintro n k M2 hk ⟨k1, k2, k3⟩ ih
      unfold bX8_layChains_29
      refine ⟨fun g => by omega, fun _ => q8_take hN (k1.osc.pj hm.1) (by omega) (fun M3 l1 l2 => q8_potentialNow hN (tkn_wf hN k) l2 (fun M4 l3 l4 => ?_))⟩
      have hpo := po_bd hN k
      have hpe : pot N (tkn N k) = po N k := rfl
      rw [hpe, w_1 hk (by omega), Int.toNat_natCast]
      obtain ⟨v, hv⟩ : ∃ v : Nat, (v : Int) = po N k := ⟨(po N k).toNat, by omega⟩
      have o4 : o9 M2 M4 := l1.o9.tr l3.o9
      have r22 : ∀ i, M4 22 i = M2 22 i := fun i => o4 22 i (by decide) (by decide)
      have r23 : ∀ i, M4 23 i = M2 23 i := fun i => o4 23 i (by decide) (by decide)
      have r24 : ∀ i, M4 24 i = M2 24 i := fun i => o4 24 i (by decide) (by decide)
      rw [← hv, Int.toNat_natCast]
      refine ⟨by omega, by omega, by omega, by omega, ih _ ⟨?_, ⟨fun u hu => ?_, fun i hi => ?_⟩, fun i hi => ?_⟩⟩
      · refine (k1.tr o4.o24.oc).tr (fun q i a b c d e => ?_)
        rw [up_n (Or.inl e), up_n (Or.inl c), up_n (Or.inl d)]
      · rw [up_n (Or.inl (by decide))]
        by_cases e : u = v
        · subst e
          rw [up_s]
          exact (if_pos hv.symm).symm
        · rw [up_n (Or.inr e), up_n (Or.inl (by decide)), r22, k2.1 u hu]
          exact (if_neg (by omega)).symm
      · rw [up_n (Or.inl (by decide)), up_n (Or.inl (by decide))]
        by_cases e : i = k
        · subst e
          rw [up_s, r22, k2.1 v (by omega), hv]
        · rw [up_n (Or.inr e), r23, k2.2 i (by omega)]
      · by_cases e : i = k
        · subst e; rw [up_s]
        · rw [up_n (Or.inr e), up_n (Or.inl (by decide)), up_n (Or.inl (by decide)), r24]; exact k3 i (by omega)
  · rintro n k M1 hk ⟨g1, g2, g3⟩ ih
    unfold bX8_layChains_2
    rw [w_1 hk (by omega), Int.toNat_natCast]
    refine ⟨fun g => by omega, fun _ => ⟨by omega, ih _ ⟨g1.tr (fun q i a b c d e => up_n (Or.inl c)), fun p => (up_n (Or.inl (by decide))).trans (g2 p), fun v hv => ?_⟩⟩⟩
    by_cases e : v = k
    · subst e; rw [up_s]
    · rw [up_n (Or.inr e)]; exact g3 v (by omega)
/-- processed: of greater potential, or as great and no lesser number -/
def prc' (N : mm_M) (v : Int) (n m : Nat) : Prop := v < po N m ∨ (po N m = v ∧ n ≤ m)
noncomputable def pI (N : mm_M) (v : Int) (n : Nat) (f : Nat → Int) (m : Nat) : Int := @ite Int (prc' N v n m) (Classical.propDecidable _) (f m) 0
/-- the depths so far, and what was counted -/
def DI (N : mm_M) (n0 : Nat) (v : Int) (n : Nat) (c1 c2 c3 : Int) (M : mm_M) : Prop :=
  (∀ m, m < all N (Pn N) → -1 ≤ M 24 m ∧ (0 ≤ M 24 m → Pth N n0 (M 24 m).toNat m)) ∧ 0 ≤ M 24 n0 ∧ (∀ p, p < all N (Pn N) → prc' N v n p → ∀ s o, Pth N n0 s p → Edge N p o → (s : Int) + 1 ≤ M 24 o) ∧
  c1 = sm (all N (Pn N)) (pI N v n (rchI N n0)) ∧ c2 = sm (all N (Pn N)) (pI N v n (fun m => if rq N m = -1 then rchI N n0 m else 0)) ∧
  (0 ≤ c3 ∧ (∀ m, m < all N (Pn N) → prc' N v n m → ∀ s, Pth N n0 s m → (s : Int) ≤ c3) ∧ (c3 = 0 ∨ ∃ m, Pth N n0 c3.toNat m))
theorem DI_le {N : mm_M} (hN : wf N) {n0 : Nat} (h0 : n0 < all N (Pn N)) {v : Int} {n : Nat} {c1 c2 c3 : Int} {M : mm_M} (h : DI N n0 v n c1 c2 c3 M) {m : Nat} (hm : m < all N (Pn N)) : -1 ≤ M 24 m ∧ M 24 m ≤ 4350 := by
  refine ⟨(h.1 m hm).1, ?_⟩
  by_cases e : 0 ≤ M 24 m
  · have h1 := Pth_bd hN h0 _ _ ((h.1 m hm).2 e)
    have h2 := po_bd hN n0
    have h3 := po_bd hN m
    omega
  · omega
/-- at the time of m all that lead to it are processed: its depth is the longest -/
theorem DI_max {N : mm_M} (hN : wf N) {n0 : Nat} {v : Int} {n : Nat} {c1 c2 c3 : Int} {M : mm_M} (h : DI N n0 v n c1 c2 c3 M) {m : Nat} (hv : po N m = v) : ∀ s, Pth N n0 s m → (s : Int) ≤ M 24 m
  | 0, hp => by
    have hp : m = n0 := hp
    subst hp; exact h.2.1
  | s + 1, hp => by
    obtain ⟨q, h1, h2, h3⟩ := hp
    have h4 := Edge_ok hN h1 h3
    have := h.2.2.1 q h1 (Or.inl (by omega)) s m h2 h3
    omega
theorem pI_step {N : mm_M} {v : Int} {n m : Nat} (f : Nat → Int) (hm : m < n) (hn : n ≤ all N (Pn N)) (hv : po N m = v) (hb : ∀ k, m < k → k < n → po N k ≠ v) : sm (all N (Pn N)) (pI N v m f) = sm (all N (Pn N)) (pI N v n f) + f m := by
  have h1 : pI N v m f m = f m := by unfold pI; rw [if_pos (show prc' N v m m from Or.inr ⟨hv, Nat.le_refl _⟩)]
  have h2 : pI N v n f m = 0 := by
    unfold pI
    rw [if_neg]
    rintro (h | ⟨-, h⟩)
    · omega
    · omega
  rw [sm_one (f := pI N v m f) (g := pI N v n f) (j := m) (by omega) (fun k _ hk => ?_), h1, h2]
  · omega
  · unfold pI
    by_cases z : prc' N v n k
    · have z2 : prc' N v m k := by
        rcases z with z | ⟨z1, z2⟩
        · exact Or.inl z
        · exact Or.inr ⟨z1, by omega⟩
      rw [if_pos z, if_pos z2]
    · have z2 : ¬ prc' N v m k := by
        rintro (y | ⟨y1, y2⟩)
        · exact z (Or.inl y)
        · by_cases e : n ≤ k
          · exact z (Or.inr ⟨y1, e⟩)
          · exact hb k (by omega) (by omega) y1
      rw [if_neg z, if_neg z2]
theorem prc_next {N : mm_M} {v : Int} {n m : Nat} (hm : m < all N (Pn N)) (hb : ∀ k, k < n → po N k ≠ v) : prc' N (v - 1) (all N (Pn N)) m ↔ prc' N v n m := by
  unfold prc'
  constructor
  · rintro (h | ⟨-, h⟩)
    · by_cases e : po N m = v
      · right
        refine ⟨e, ?_⟩
        by_cases z : n ≤ m
        · exact z
        · exact absurd e (hb m (by omega))
      · left; omega
    · omega
  · rintro (h | ⟨h, -⟩) <;> left <;> omega
theorem DI_next {N : mm_M} {n0 : Nat} {v : Int} {n : Nat} {c1 c2 c3 : Int} {M : mm_M} (hb : ∀ k, k < n → po N k ≠ v) (h : DI N n0 v n c1 c2 c3 M) : DI N n0 (v - 1) (all N (Pn N)) c1 c2 c3 M := by
  obtain ⟨h1, h2, h3, h4, h5, h6, h7, h8⟩ := h
  have e : ∀ f, sm (all N (Pn N)) (pI N v n f) = sm (all N (Pn N)) (pI N (v - 1) (all N (Pn N)) f) := fun f => sm_congr (fun k hk => by
    unfold pI
    by_cases z : prc' N v n k
    · rw [if_pos z, if_pos ((prc_next hk hb).mpr z)]
    · rw [if_neg z, if_neg (fun y => z ((prc_next hk hb).mp y))])
  exact ⟨h1, h2, fun p hp hpr => h3 p hp ((prc_next hp hb).mp hpr), by rw [h4, e], by rw [h5, e], h6, fun m hm hpr => h7 m hm ((prc_next hm hb).mp hpr), h8⟩
