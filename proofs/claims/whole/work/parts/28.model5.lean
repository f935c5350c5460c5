/-! all sets: least, rest sets -/
def so (N : mm_M) (n : Nat) : Int := soc N (tkn N n)
def po (N : mm_M) (n : Nat) : Int := pot N (tkn N n)
noncomputable def rq (N : mm_M) (n : Nat) : Int := rz N (tkn N n) (-1)
def aL (N : mm_M) : Nat → Int
  | 0 => 0
  | k + 1 => if k = 0 ∨ so N k < aL N k then so N k else aL N k
def aP (N : mm_M) : Nat → Int
  | 0 => 0
  | k + 1 => if k = 0 ∨ po N k < aP N k then po N k else aP N k
def aM (N : mm_M) : Nat → Int
  | 0 => 0
  | k + 1 => if k = 0 ∨ so N k < aL N k then 1 else if so N k = aL N k then aM N k + 1 else aM N k
def aF (N : mm_M) : Nat → Int
  | 0 => -1
  | k + 1 => if k = 0 ∨ so N k < aL N k then (k : Int) else aF N k
noncomputable def rM (N : mm_M) : Nat → Nat
  | 0 => 0
  | k + 1 => if rq N k = -1 then rM N k + 1 else rM N k
noncomputable def rL (N : mm_M) : Nat → Int
  | 0 => 0
  | k + 1 => if rq N k = -1 then (if rM N k = 0 ∨ so N k < rL N k then so N k else rL N k) else rL N k
noncomputable def rX (N : mm_M) : Nat → Int
  | 0 => 0
  | k + 1 => if rq N k = -1 then (if rM N k = 0 ∨ rX N k < so N k then so N k else rX N k) else rX N k
theorem rM_le (N : mm_M) : ∀ k, rM N k ≤ k
  | 0 => Nat.le_refl _
  | k + 1 => by have := rM_le N k; unfold rM; split <;> omega
theorem aM_bd (N : mm_M) : ∀ k, 0 ≤ aM N k ∧ aM N k ≤ k
  | 0 => ⟨Int.le_refl _, Int.le_refl _⟩
  | k + 1 => by
    have := aM_bd N k
    unfold aM
    split
    · omega
    · split <;> omega
def st7 (M N : mm_M) (k : Nat) : Prop := M 0 35 = (rM N k : Int) ∧ M 0 36 = rL N k ∧ M 0 37 = rX N k ∧ M 0 38 = aL N k ∧ M 0 39 = aP N k ∧ M 0 40 = aM N k ∧ M 0 41 = aF N k
theorem osc_up0 {M : mm_M} {k : Nat} {z : Int} (h : 35 ≤ k ∧ k ≤ 41) : osc M (mm_up M 0 k z) := fun q i a _ _ _ _ _ _ => up_n (by
  by_cases e : q = 0
  · right; have := a e; omega
  · exact Or.inl e)
theorem ms_osc {M M' N : mm_M} {tk : Nat → Nat} (h : osc M M') (hm : ms M N tk) (h9 : ∀ p, M' 9 p = M 9 p) : ms M' N tk := ⟨h.pj hm.1, fun p hp => (h9 p).trans (hm.2 p hp)⟩
theorem q8_182 {N : mm_M} {k : Nat} (hk : k ≤ 500) {K : Int → Int → mm_M → Prop} {v1 v4 : Int} {w0 : Int} {M : mm_M} {Q : mm_M → Prop} (h35 : M 0 35 = (rM N k : Int)) (h37 : M 0 37 = rX N k) (hq : rq N k = -1)
    (h : K v1 ((k + 1 : Nat) : Int) (mm_up (mm_up (mm_up M 0 36 w0) 0 37 (rX N (k + 1))) 0 35 ((rM N (k + 1) : Nat) : Int))) : bX8_layRests_182 K v1 k (so N k) v4 w0 M Q := by
  have hr := rM_le N k
  have e1 : rM N (k + 1) = rM N k + 1 := by show (if rq N k = -1 then _ else _) = _; rw [if_pos hq]
  have e2 : rX N (k + 1) = if rM N k = 0 ∨ rX N k < so N k then so N k else rX N k := by show (if rq N k = -1 then _ else _) = _; rw [if_pos hq]
  have e3 : mm_w ((rM N k : Int) + 1) = ((rM N (k + 1) : Nat) : Int) := by rw [mm_w_id (by omega) (by omega), e1]; omega
  unfold bX8_layRests_182
  rw [mm_w_id (z := (k : Int) + 1) (by omega) (by omega), show (k : Int) + 1 = ((k + 1 : Nat) : Int) by omega]
  simp only [up_n (M := M) (q := 0) (k := 36) (z := w0) (a := 0) (i := 35) (Or.inr (by decide)), up_n (M := M) (q := 0) (k := 36) (z := w0) (a := 0) (i := 37) (Or.inr (by decide)), up_n (M := mm_up M 0 36 w0) (q := 0) (k := 37) (a := 0) (i := 35) (Or.inr (by decide)), h35, h37, e3]
  refine ⟨fun g => ?_, fun g => ⟨fun g2 => ?_, fun g2 => ?_⟩⟩
  · rw [e2, if_pos (Or.inl (by omega))] at h; exact h
  · rw [e2, if_neg (by omega)] at h; exact h
  · rw [e2, if_pos (Or.inr g2)] at h; exact h
theorem q8_146 {N : mm_M} {tk0 : Nat → Nat} (hN : wf N) {k : Nat} (hk : k ≤ 500) {K : Int → Int → mm_M → Prop} {v1 v4 : Int} {M : mm_M} {Q : mm_M → Prop} (hm : ms M N (tkn N k)) (hkp : kept M N tk0) (h35 : M 0 35 = (rM N k : Int)) (h36 : M 0 36 = rL N k) (h37 : M 0 37 = rX N k) (h38 : M 0 38 = aL N (k + 1)) (h40 : M 0 40 = aM N (k + 1)) (h41 : M 0 41 = aF N (k + 1))
    (h : ∀ M', osc M M' → kept M' N tk0 → st7 M' N (k + 1) → K v1 ((k + 1 : Nat) : Int) M') : bX8_layRests_146 K v1 k (so N k) v4 (aP N (k + 1)) M Q := by
  unfold bX8_layRests_146
  have hm0 : ms (mm_up M 0 39 (aP N (k + 1))) N (tkn N k) := ms_osc (osc_up0 (by omega)) hm (fun p => up_n (Or.inl (by decide)))
  refine q8_restless hN (tkn_wf hN k) hm0 (fun z M1 h1 h2 => ?_)
  have ho : osc M M1 := (osc_up0 (by omega)).tr h1.osc
  have hz : rq N k = z := rz_eq h2
  have hkp1 : kept M1 N tk0 := fun p hp => (h1 21 p (by decide)).trans ((up_n (Or.inl (by decide))).trans (hkp p hp))
  have r35 : M1 0 35 = (rM N k : Int) := (h1 0 35 (by decide)).trans ((up_n (Or.inr (by decide))).trans h35)
  have r36 : M1 0 36 = rL N k := (h1 0 36 (by decide)).trans ((up_n (Or.inr (by decide))).trans h36)
  have r37 : M1 0 37 = rX N k := (h1 0 37 (by decide)).trans ((up_n (Or.inr (by decide))).trans h37)
  have r38 : M1 0 38 = aL N (k + 1) := (h1 0 38 (by decide)).trans ((up_n (Or.inr (by decide))).trans h38)
  have r39 : M1 0 39 = aP N (k + 1) := (h1 0 39 (by decide)).trans (up_s _ _ _ _)
  have r40 : M1 0 40 = aM N (k + 1) := (h1 0 40 (by decide)).trans ((up_n (Or.inr (by decide))).trans h40)
  have r41 : M1 0 41 = aF N (k + 1) := (h1 0 41 (by decide)).trans ((up_n (Or.inr (by decide))).trans h41)
  have fin : ∀ w0, rq N k = -1 → w0 = rL N (k + 1) → K v1 ((k + 1 : Nat) : Int) (mm_up (mm_up (mm_up M1 0 36 w0) 0 37 (rX N (k + 1))) 0 35 ((rM N (k + 1) : Nat) : Int)) := fun w0 hq hw0 => by
    refine h _ (((ho.tr (osc_up0 (by omega))).tr (osc_up0 (by omega))).tr (osc_up0 (by omega))) (fun p hp => by rw [up_n (Or.inl (by decide)), up_n (Or.inl (by decide)), up_n (Or.inl (by decide))]; exact hkp1 p hp) ⟨up_s _ _ _ _, ?_, ?_, ?_, ?_, ?_, ?_⟩
    · rw [up_n (Or.inr (by decide)), up_n (Or.inr (by decide)), up_s, hw0]
    · rw [up_n (Or.inr (by decide)), up_s]
    · rw [up_n (Or.inr (by decide)), up_n (Or.inr (by decide)), up_n (Or.inr (by decide)), r38]
    · rw [up_n (Or.inr (by decide)), up_n (Or.inr (by decide)), up_n (Or.inr (by decide)), r39]
    · rw [up_n (Or.inr (by decide)), up_n (Or.inr (by decide)), up_n (Or.inr (by decide)), r40]
    · rw [up_n (Or.inr (by decide)), up_n (Or.inr (by decide)), up_n (Or.inr (by decide)), r41]
  refine ⟨fun g => ?_, fun g => ?_⟩
  · have hq : ¬ rq N k = -1 := by rw [hz]; exact g
    rw [mm_w_id (z := (k : Int) + 1) (by omega) (by omega), show (k : Int) + 1 = ((k + 1 : Nat) : Int) by omega]
    refine h M1 ho hkp1 ⟨?_, ?_, ?_, r38, r39, r40, r41⟩
    · rw [r35]; show _ = ((if rq N k = -1 then _ else _ : Nat) : Int); rw [if_neg hq]
    · rw [r36]; show _ = (if rq N k = -1 then _ else _); rw [if_neg hq]
    · rw [r37]; show _ = (if rq N k = -1 then _ else _); rw [if_neg hq]
  · have hq : rq N k = -1 := by rw [hz]; exact g
    have eL : rL N (k + 1) = if rM N k = 0 ∨ so N k < rL N k then so N k else rL N k := by show (if rq N k = -1 then _ else _) = _; rw [if_pos hq]
    rw [r35, r36]
    refine ⟨fun g1 => q8_182 hk r35 r37 hq (fin _ hq ?_), fun g1 => ⟨fun g2 => q8_182 hk r35 r37 hq (fin _ hq ?_), fun g2 => q8_182 hk r35 r37 hq (fin _ hq ?_)⟩⟩
    · rw [eL, if_pos (Or.inl (by omega))]
    · rw [eL, if_neg (by omega)]
    · rw [eL, if_pos (Or.inr g2)]
theorem q8_120 {N : mm_M} {tk0 : Nat → Nat} (hN : wf N) {k : Nat} (hk : k ≤ 500) {K : Int → Int → mm_M → Prop} {v1 : Int} {M : mm_M} {Q : mm_M → Prop} (hm : ms M N (tkn N k)) (hkp : kept M N tk0) (h35 : M 0 35 = (rM N k : Int)) (h36 : M 0 36 = rL N k) (h37 : M 0 37 = rX N k) (h39 : M 0 39 = aP N k) (h40 : M 0 40 = aM N (k + 1)) (h41 : M 0 41 = aF N (k + 1))
    (h : ∀ M', osc M M' → kept M' N tk0 → st7 M' N (k + 1) → K v1 ((k + 1 : Nat) : Int) M') : bX8_layRests_120 K v1 k (so N k) (po N k) (aL N (k + 1)) M Q := by
  unfold bX8_layRests_120
  have ho : osc M (mm_up M 0 38 (aL N (k + 1))) := osc_up0 (by omega)
  have hm0 : ms (mm_up M 0 38 (aL N (k + 1))) N (tkn N k) := ms_osc ho hm (fun p => up_n (Or.inl (by decide)))
  have eP : aP N (k + 1) = if k = 0 ∨ po N k < aP N k then po N k else aP N k := rfl
  have go : ∀ z, z = aP N (k + 1) → bX8_layRests_146 K v1 k (so N k) (po N k) z (mm_up M 0 38 (aL N (k + 1))) Q := fun z hz => by
    subst hz
    refine q8_146 hN hk hm0 (fun p hp => (up_n (Or.inl (by decide))).trans (hkp p hp)) ((up_n (Or.inr (by decide))).trans h35) ((up_n (Or.inr (by decide))).trans h36) ((up_n (Or.inr (by decide))).trans h37) (up_s _ _ _ _) ((up_n (Or.inr (by decide))).trans h40) ((up_n (Or.inr (by decide))).trans h41) (fun M' h1 h2 h3 => h M' (ho.tr h1) h2 h3)
  rw [up_n (M := M) (q := 0) (k := 38) (a := 0) (i := 39) (Or.inr (by decide)), h39]
  refine ⟨fun g => go _ ?_, fun g => ⟨fun g2 => go _ ?_, fun g2 => go _ ?_⟩⟩
  · rw [eP, if_pos (Or.inl (by omega))]
  · rw [eP, if_neg (by omega)]
  · rw [eP, if_pos (Or.inr g2)]
theorem q8_69 {N : mm_M} {tk0 : Nat → Nat} (hN : wf N) {k : Nat} (hk : k ≤ 500) {K : Int → Int → mm_M → Prop} {v1 f : Int} {M : mm_M} {Q : mm_M → Prop} (hf : (f = 0 ∧ ¬ (k = 0 ∨ so N k < aL N k)) ∨ (f = 1 ∧ (k = 0 ∨ so N k < aL N k))) (hm : ms M N (tkn N k)) (hkp : kept M N tk0) (hs : st7 M N k)
    (h : ∀ M', osc M M' → kept M' N tk0 → st7 M' N (k + 1) → K v1 ((k + 1 : Nat) : Int) M') : bX8_layRests_69 K v1 k (so N k) (po N k) f (aF N (k + 1)) M Q := by
  obtain ⟨h35, h36, h37, h38, h39, h40, h41⟩ := hs
  unfold bX8_layRests_69
  have hb := aM_bd N k
  have eL : aL N (k + 1) = if k = 0 ∨ so N k < aL N k then so N k else aL N k := rfl
  have eM : aM N (k + 1) = if k = 0 ∨ so N k < aL N k then 1 else if so N k = aL N k then aM N k + 1 else aM N k := rfl
  have go : ∀ z y, z = aL N (k + 1) → y = aM N (k + 1) → bX8_layRests_120 K v1 k (so N k) (po N k) z (mm_up (mm_up M 0 41 (aF N (k + 1))) 0 40 y) Q := fun z y hz hy => by
    subst hz; subst hy
    have ho : osc M (mm_up (mm_up M 0 41 (aF N (k + 1))) 0 40 (aM N (k + 1))) := (osc_up0 (by omega)).tr (osc_up0 (by omega))
    refine q8_120 hN hk (ms_osc ho hm (fun p => (up_n (Or.inl (by decide))).trans (up_n (Or.inl (by decide))))) (fun p hp => (up_n (Or.inl (by decide))).trans ((up_n (Or.inl (by decide))).trans (hkp p hp))) ?_ ?_ ?_ ?_ (up_s _ _ _ _) ((up_n (Or.inr (by decide))).trans (up_s _ _ _ _)) (fun M' h1 h2 h3 => h M' (ho.tr h1) h2 h3)
    · exact (up_n (Or.inr (by decide))).trans ((up_n (Or.inr (by decide))).trans h35)
    · exact (up_n (Or.inr (by decide))).trans ((up_n (Or.inr (by decide))).trans h36)
    · exact (up_n (Or.inr (by decide))).trans ((up_n (Or.inr (by decide))).trans h37)
    · exact (up_n (Or.inr (by decide))).trans ((up_n (Or.inr (by decide))).trans h39)
  have u1 : (mm_up M 0 41 (aF N (k + 1))) 0 38 = aL N k := (up_n (Or.inr (by decide))).trans h38
  have u2 : (mm_up M 0 41 (aF N (k + 1))) 0 40 = aM N k := (up_n (Or.inr (by decide))).trans h40
  have u3 : ∀ y, (mm_up (mm_up M 0 41 (aF N (k + 1))) 0 40 y) 0 38 = aL N k := fun y => (up_n (Or.inr (by decide))).trans u1
  rw [u1, u2]
  simp only [u3]
  rw [mm_w_id (z := aM N k + 1) (by omega) (by omega)]
  rcases hf with ⟨rfl, hf⟩ | ⟨rfl, hf⟩
  · refine ⟨fun _ => ⟨fun g => ⟨fun _ => go _ _ ?_ ?_, fun g2 => absurd rfl g2⟩, fun g => ⟨fun _ => go _ _ ?_ ?_, fun g2 => absurd rfl g2⟩⟩, fun g => absurd rfl g⟩
    · rw [eL, if_neg hf]
    · rw [eM, if_neg hf, if_neg g]
    · rw [eL, if_neg hf]
    · rw [eM, if_neg hf, if_pos g]
  · refine ⟨fun g => by omega, fun _ => ⟨fun g => by omega, fun _ => go _ _ ?_ ?_⟩⟩
    · rw [eL, if_pos hf]
    · rw [eM, if_pos hf]
theorem q8_layRests {N : mm_M} {tk : Nat → Nat} (hN : wf N) (ha : all N (Pn N) ≤ 500) {M : mm_M} (hm : ms M N tk) {Q : mm_M → Prop}
    (h : ∀ M', osc M M' → ms M' N tk → st7 M' N (all N (Pn N)) → Q M') : mX8_layRests M Q := by
  refine q8_keep hN hm (fun M1 h1 h2 h3 => ?_)
  unfold mX8_beginRests
  generalize hM2 : mm_up (mm_up (mm_up (mm_up (mm_up (mm_up (mm_up M1 0 35 0) 0 36 0) 0 37 0) 0 40 0) 0 38 0) 0 39 0) 0 41 (-1) = M2
  have ho2 : osc M1 M2 := by
    rw [← hM2]
    exact ((((((osc_up0 (by omega)).tr (osc_up0 (by omega))).tr (osc_up0 (by omega))).tr (osc_up0 (by omega))).tr (osc_up0 (by omega))).tr (osc_up0 (by omega))).tr (osc_up0 (by omega))
  have hr : ∀ q i, q ≠ 0 → M2 q i = M1 q i := fun q i hq => by
    rw [← hM2]
    simp only [mm_up, if_neg hq]
  have hst : st7 M2 N 0 := by
    rw [← hM2]
    exact ⟨rfl, rfl, rfl, rfl, rfl, rfl, rfl⟩
  have hm2 : ms M2 N tk := ms_osc ho2 h2 (fun p => hr 9 p (by decide))
  refine q8_setsAll hN hm2 ?_
  refine pk_loop (fun n (k : Nat) (M3 : mm_M) => bX8_layRests_15 n (all N (Pn N) : Int) k M3 Q) (fun k M3 => osc M M3 ∧ kept M3 N tk ∧ st7 M3 N k) (all N (Pn N)) 0 M2 (Nat.zero_le _) ⟨h1.osc.tr ho2, fun p hp => (hr 21 p (by decide)).trans (h3 p hp), hst⟩ ?_ ?_
  · rintro n M3 ⟨g1, g2, g3⟩
    unfold bX8_layRests_15
    refine ⟨fun _ => q8_putBack hN (g1.pj hm.1) g2 (fun M4 k1 k2 => h M4 (g1.tr k1.osc) k2 ?_), fun g => by omega⟩
    obtain ⟨a1, a2, a3, a4, a5, a6, a7⟩ := g3
    exact ⟨(k1 0 35 (by decide)).trans a1, (k1 0 36 (by decide)).trans a2, (k1 0 37 (by decide)).trans a3, (k1 0 38 (by decide)).trans a4, (k1 0 39 (by decide)).trans a5, (k1 0 40 (by decide)).trans a6, (k1 0 41 (by decide)).trans a7⟩
  · rintro n k M3 hk ⟨g1, g2, g3⟩ ih
    unfold bX8_layRests_15
    refine ⟨fun g => by omega, fun _ => q8_take hN (g1.pj hm.1) (by omega) (fun M4 k1 k2 => ?_)⟩
    have htk := tkn_wf hN k
    refine q8_socialNow hN htk k2 (fun M5 k3 k4 => q8_potentialNow hN htk (k3.ms k2) (fun M6 k5 k6 => ?_))
    have hm6 := k5.ms (k3.ms k2)
    have ho6 : osc M3 M6 := (k1.osc.tr k3.osc).tr k5.osc
    have r0 : ∀ i, M6 0 i = M3 0 i := fun i => (k5 0 i (by decide)).trans ((k3 0 i (by decide)).trans (k1 0 i (by decide)))
    have hst6 : st7 M6 N k := by
      obtain ⟨a1, a2, a3, a4, a5, a6, a7⟩ := g3
      exact ⟨(r0 35).trans a1, (r0 36).trans a2, (r0 37).trans a3, (r0 38).trans a4, (r0 39).trans a5, (r0 40).trans a6, (r0 41).trans a7⟩
    have hkp6 : kept M6 N tk := ((g2.o9 k1.o9).o9 k3.o9).o9 k5.o9
    have eF : aF N (k + 1) = if k = 0 ∨ so N k < aL N k then (k : Int) else aF N k := rfl
    have go : ∀ f z, z = aF N (k + 1) → ((f = 0 ∧ ¬ (k = 0 ∨ so N k < aL N k)) ∨ (f = 1 ∧ (k = 0 ∨ so N k < aL N k))) → bX8_layRests_69 (fun v1 v2 M => bX8_layRests_15 n v1 v2 M Q) (all N (Pn N) : Int) k (soc N (tkn N k)) (pot N (tkn N k)) f z M6 Q := fun f z hz hf => by
      subst hz
      exact q8_69 hN (by omega) hf hm6 hkp6 hst6 (fun M7 l1 l2 l3 => ih M7 ⟨(g1.tr ho6).tr l1, l2, l3⟩)
    have h38 := hst6.2.2.2.1
    have h41 := hst6.2.2.2.2.2.2
    rw [h38, h41]
    refine ⟨fun e => ⟨fun e2 => by omega, fun _ => go _ _ ?_ (Or.inr ⟨rfl, Or.inl (by omega)⟩)⟩, fun e => ⟨fun e2 => ⟨fun _ => go _ _ ?_ (Or.inl ⟨rfl, ?_⟩), fun e3 => absurd rfl e3⟩, fun e2 => ⟨fun e3 => by omega, fun _ => go _ _ ?_ (Or.inr ⟨rfl, Or.inr e2⟩)⟩⟩⟩
    · rw [eF, if_pos (Or.inl (by omega))]
    · rw [eF, if_neg]; unfold so; omega
    · unfold so; omega
    · rw [eF, if_pos (Or.inr (show so N k < aL N k from e2))]
