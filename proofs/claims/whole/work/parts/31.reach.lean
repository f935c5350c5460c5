/-! what can be come to -/
def Edge (N : mm_M) (n m : Nat) : Prop := ∃ p w, p < Pn N ∧ w < wn N p ∧ (m : Int) = n + ((w : Int) - tkn N n p) * ww N (Pn N - 1 - p) ∧ pay N (tkn N n) p w < pay N (tkn N n) p (tkn N n p)
theorem num_upt {N : mm_M} (h : wf N) {n p w : Nat} (hn : n < all N (Pn N)) (hp : p < Pn N) (hw : w < wn N p) : ∃ m : Nat, m < all N (Pn N) ∧ (m : Int) = n + ((w : Int) - tkn N n p) * ww N (Pn N - 1 - p) ∧ (∀ q, q < Pn N → tkn N m q = upt (tkn N n) p w q) ∧ po N m = po N n + pay N (tkn N n) p w - pay N (tkn N n) p (tkn N n p) := by
  have ht := wfT_upt (p := p) (tkn_wf h n) hw
  refine ⟨nmb N (upt (tkn N n) p w) (Pn N), nmb_lt ht _ (Nat.le_refl _), ?_, fun q hq => tkn_nmb ht hq, ?_⟩
  · rw [nmb_upt h hp, nmb_tkn_all hn]
  · unfold po
    rw [pot_congr (t2 := upt (tkn N n) p w) (fun q hq => tkn_nmb ht hq), pot_step h (tkn_wf h n) hp hw]
theorem Edge_ok {N : mm_M} (h : wf N) {n m : Nat} (hn : n < all N (Pn N)) (he : Edge N n m) : m < all N (Pn N) ∧ po N m < po N n := by
  obtain ⟨p, w, hp, hw, e, hl⟩ := he
  obtain ⟨m', h1, h2, -, h4⟩ := num_upt h hn hp hw
  have : m = m' := by omega
  subst this
  exact ⟨h1, by omega⟩
def Pth (N : mm_M) (n0 : Nat) : Nat → Nat → Prop
  | 0, n => n = n0
  | s + 1, n => ∃ m, m < all N (Pn N) ∧ Pth N n0 s m ∧ Edge N m n
theorem po_bd {N : mm_M} (h : wf N) (n : Nat) : 0 ≤ po N n ∧ po N n ≤ 4350 := pot_bd h (tkn_wf h n)
theorem Pth_bd {N : mm_M} (h : wf N) {n0 : Nat} (h0 : n0 < all N (Pn N)) : ∀ s n, Pth N n0 s n → n < all N (Pn N) ∧ (s : Int) + po N n ≤ po N n0
  | 0, n, hp => by
    have hp : n = n0 := hp
    subst hp; exact ⟨h0, by omega⟩
  | s + 1, n, hp => by
    obtain ⟨m, h1, h2, h3⟩ := hp
    have h4 := Pth_bd h h0 s m h2
    have h5 := Edge_ok h h1 h3
    exact ⟨h5.1, by omega⟩
noncomputable def rchI (N : mm_M) (n0 n : Nat) : Int := @ite Int (∃ s, Pth N n0 s n) (Classical.propDecidable _) 1 0
theorem rchI_1 {N : mm_M} {n0 n s : Nat} (h : Pth N n0 s n) : rchI N n0 n = 1 := by unfold rchI; rw [if_pos ⟨s, h⟩]
theorem rchI_0 {N : mm_M} {n0 n : Nat} (h : ∀ s, ¬ Pth N n0 s n) : rchI N n0 n = 0 := by
  unfold rchI
  rw [if_neg]
  rintro ⟨s, hs⟩
  exact h s hs
def isLng (N : mm_M) (n0 L : Nat) : Prop := (∃ n, Pth N n0 L n) ∧ ∀ s n, Pth N n0 s n → s ≤ L
theorem isLng_u {N : mm_M} {n0 L L' : Nat} (h : isLng N n0 L) (h' : isLng N n0 L') : L = L' := by
  obtain ⟨⟨n, h1⟩, h2⟩ := h
  obtain ⟨⟨m, h3⟩, h4⟩ := h'
  have := h4 _ _ h1
  have := h2 _ _ h3
  omega
def o24 (M M' : mm_M) : Prop := ∀ q k, q ≠ 9 → q ≠ 19 → q ≠ 24 → M' q k = M q k
theorem o24.rf (M : mm_M) : o24 M M := fun _ _ _ _ _ => rfl
theorem o24.tr {M M' M'' : mm_M} (h : o24 M M') (h2 : o24 M' M'') : o24 M M'' := fun q k a b c => (h2 q k a b c).trans (h q k a b c)
theorem o9.o24 {M M' : mm_M} (h : o9 M M') : o24 M M' := fun q k a b _ => h q k b a
theorem o24.osc {M M' : mm_M} (h : o24 M M') : osc M M' := fun q k _ b c _ _ _ g => h q k b c g
/-- what the spreading from m has done -/
def SP (N : mm_M) (m : Nat) (M0 M : mm_M) (PR : Nat → Nat → Prop) : Prop := o24 M0 M ∧ ms M N (tkn N m) ∧ lds M N (tkn N m) ∧ (∀ o : Nat, M 24 o = M0 24 o ∨ (Edge N m o ∧ M 24 o = M0 24 m + 1 ∧ M0 24 o ≤ M0 24 m)) ∧ (∀ p w, PR p w → p < Pn N → w < wn N p → pay N (tkn N m) p w < pay N (tkn N m) p (tkn N m p) → ∀ o : Nat, (o : Int) = m + ((w : Int) - tkn N m p) * ww N (Pn N - 1 - p) → M0 24 m + 1 ≤ M 24 o) ∧ M 24 m = M0 24 m
theorem SP.o19 {N : mm_M} {m : Nat} {M0 M M' : mm_M} {PR : Nat → Nat → Prop} (h : SP N m M0 M PR) (h1 : o19 M M') (h2 : lds M' N (tkn N m)) : SP N m M0 M' PR := by
  obtain ⟨a, b, c, d, e, f⟩ := h
  have g : ∀ o, M' 24 o = M 24 o := fun o => h1 24 o (by decide)
  exact ⟨a.tr h1.o9.o24, h1.ms b, h2, fun o => by rw [g]; exact d o, fun p w x y z t o ho => by rw [g]; exact e p w x y z t o ho, by rw [g]; exact f⟩
theorem q8_spread {N : mm_M} (hN : wf N) (ha : all N (Pn N) ≤ 500) {m : Nat} (hm : m < all N (Pn N)) {M : mm_M} (hj : pj M = N) (hd : -1 ≤ M 24 m ∧ M 24 m ≤ 5000) {Q : mm_M → Prop}
    (h : ∀ M', SP N m M M' (fun _ _ => True) → Q M') : mX8_spread m M Q := by
  have hP := wf_P hN
  have htk := tkn_wf hN m
  refine q8_take hN hj (by omega) (fun M1 k1 k2 => q8_layLoad hN htk k2 (fun M2 k3 k4 => ?_))
  have hm2 := k3.ms k2
  rw [pj_r hm2.1 (q := 0) (k := 9) rfl, mm_w_id (by omega) (by omega)]
  have r24 : ∀ o, M2 24 o = M 24 o := fun o => (k3 24 o (by decide)).trans (k1 24 o (by decide))
  have hst : SP N m M M2 (fun p _ => Pn N - 1 - p < 0) := ⟨k1.o9.o24.tr k3.o9.o24, hm2, k4, fun o => Or.inl (r24 o), fun p w hp => by omega, r24 m⟩
  have key : ∃ j, bX8_spread_18 j m ((ww N 0 : Nat) : Int) (N 0 9 - 1 - ((0 : Nat) : Int)) M2 Q := by
    refine pk_loop (fun j (i : Nat) (M3 : mm_M) => bX8_spread_18 j m ((ww N i : Nat) : Int) (N 0 9 - 1 - (i : Int)) M3 Q) (fun i M3 => SP N m M M3 (fun p _ => p < Pn N → Pn N - 1 - p < i)) (Pn N) 0 M2 (Nat.zero_le _) ⟨hst.1, hst.2.1, hst.2.2.1, hst.2.2.2.1, fun p w hpr hp => by have := hpr hp; omega, hst.2.2.2.2.2⟩ ?_ ?_
    · rintro j M3 ⟨a, b, c, d, e, f⟩
      unfold bX8_spread_18
      exact ⟨fun _ => h M3 ⟨a, b, c, d, fun p w _ hp => e p w (fun _ => by omega) hp, f⟩, fun g => by omega⟩
    · rintro j i M3 hi hs ih
      have hp : Pn N - 1 - i < Pn N := by omega
      have hW := wf_w hN hp
      have e1 : (N 0 9 - 1 - (i : Int)) = ((Pn N - 1 - i : Nat) : Int) := by omega
      generalize hpe : Pn N - 1 - i = p at *
      have hip : Pn N - 1 - p = i := by omega
      unfold bX8_spread_18
      rw [e1, Int.toNat_natCast, hs.2.1.2 p hp]
      refine ⟨fun g => by omega, fun _ => ⟨by omega, q8_payNow hN htk hp (htk p hp) hs.2.1 hs.2.2.1 (fun M4 l1 l2 => ?_)⟩⟩
      have hs4 := hs.o19 l1 l2
      refine pk_loop (fun j2 (w : Nat) (M5 : mm_M) => bX8_spread_38 (fun v1 v2 v3 M => bX8_spread_18 j v1 v2 v3 M Q) j2 m ((ww N i : Nat) : Int) p (pay N (tkn N m) p (tkn N m p)) w M5 Q) (fun w M5 => SP N m M M5 (fun p' w' => (p' < Pn N → Pn N - 1 - p' < i) ∨ (p' = p ∧ w' < w))) (wn N p) 0 M4 (Nat.zero_le _) ⟨hs4.1, hs4.2.1, hs4.2.2.1, hs4.2.2.2.1, fun p' w' hpr => hs4.2.2.2.2.1 p' w' (by rcases hpr with z | z; exact z; omega), hs4.2.2.2.2.2⟩ ?_ ?_
      · rintro j2 M5 ⟨a, b, c, d, e, f⟩
        unfold bX8_spread_38
        have hww : ww N i * wn N p = ww N (i + 1) := by
          show _ = ww N i * wn N (Pn N - 1 - i); rw [hpe]
        have hwb : ww N (i + 1) ≤ 500 := by
          have h1 := all_ww N (i + 1) (by omega)
          have h2 := (all_bd hN (Pn N - (i + 1)) (by omega)).1
          have h3 : 1 * ww N (i + 1) ≤ all N (Pn N - (i + 1)) * ww N (i + 1) := Nat.mul_le_mul_right _ h2
          omega
        rw [Int.toNat_natCast, pj_r b.1 (q := 8) (k := p) rfl, ← hW.1, ← Int.natCast_mul, hww, mm_w_id (z := ((ww N (i + 1) : Nat) : Int)) (by omega) (by omega), mm_w_id (z := (p : Int) + -1) (by omega) (by omega), show (p : Int) + -1 = N 0 9 - 1 - ((i + 1 : Nat) : Int) by omega]
        refine ⟨by omega, fun _ => ⟨by omega, ih M5 ⟨a, b, c, d, fun p' w' hpr hp' hw' => e p' w' ?_ hp' hw', f⟩⟩, fun g => by omega⟩
        by_cases z : Pn N - 1 - p' < i
        · exact Or.inl (fun _ => z)
        · have := hpr hp'
          have hpp : p' = p := by omega
          subst hpp
          exact Or.inr ⟨rfl, hw'⟩
      · rintro j2 w M5 hw hs5 ih2
        obtain ⟨a, b, c, d, e, f⟩ := hs5
        unfold bX8_spread_38
        rw [Int.toNat_natCast, pj_r b.1 (q := 8) (k := p) rfl, b.2 p hp, w_1 hw (by omega), Int.toNat_natCast]
        refine ⟨by omega, fun g => by omega, fun _ => ⟨by omega, q8_payNow hN htk hp hw b c (fun M6 n1 n2 => ?_)⟩⟩
        obtain ⟨a, b, c, d, e, f⟩ := SP.o19 ⟨a, b, c, d, e, f⟩ n1 n2
        obtain ⟨o, ho1, ho2, -, ho4⟩ := num_upt hN hm hp hw
        have hb := htk p hp
        have hwi : ww N i ≤ 500 := by
          have h1 := all_ww N i (by omega)
          have h2 := (all_bd hN (Pn N - i) (by omega)).1
          have h3 : 1 * ww N i ≤ all N (Pn N - i) * ww N i := Nat.mul_le_mul_right _ h2
          omega
        rw [hip] at ho2
        have ex : mm_w ((m : Int) + mm_w (mm_w ((w : Int) - (tkn N m p : Int)) * ((ww N i : Nat) : Int))) = ((o : Nat) : Int) := by
          rw [mm_w_id (z := (w : Int) - (tkn N m p : Int)) (by omega) (by omega)]
          generalize ((w : Int) - (tkn N m p : Int)) * ((ww N i : Nat) : Int) = y at ho2 ⊢
          rw [mm_w_id (z := y) (by omega) (by omega), mm_w_id (by omega) (by omega)]
          omega
        rw [ex, Int.toNat_natCast, f]
        refine ⟨fun g => ih2 M6 ⟨a, b, c, d, fun p' w' hpr hp' hw' hl => e p' w' ?_ hp' hw' hl, f⟩, fun g => ⟨by omega, by omega, fun g2 => ih2 M6 ⟨a, b, c, d, fun p' w' hpr hp' hw' hl o' ho' => ?_, f⟩, fun g2 => ⟨by omega, by omega, ?_⟩⟩⟩
        · rcases hpr with z | ⟨z1, z2⟩
          · exact Or.inl z
          · subst z1
            by_cases ew : w' = w
            · subst ew; omega
            · exact Or.inr ⟨rfl, by omega⟩
        · by_cases ew : p' = p ∧ w' = w
          · obtain ⟨rfl, rfl⟩ := ew
            rw [hip] at ho'
            have : o' = o := by omega
            subst this; omega
          · refine e p' w' ?_ hp' hw' hl o' ho'
            rcases hpr with z | ⟨z1, z2⟩
            · exact Or.inl z
            · exact Or.inr ⟨z1, by
                by_cases e2 : w' = w
                · exact absurd ⟨z1, e2⟩ ew
                · omega⟩
        · have hE : Edge N m o := ⟨p, w, hp, hw, by rw [hip]; exact ho2, g⟩
          have hom : o ≠ m := fun z => by
            have := Edge_ok hN hm hE
            rw [z] at this; omega
          have h24 : M6 24 o = M 24 o := by
            rcases d o with z | ⟨z1, z2, z3⟩
            · exact z
            · omega
          rw [mm_w_id (z := M 24 m + 1) (by omega) (by omega)]
          refine ih2 _ ⟨a.tr (fun q k _ _ hq => up_n (Or.inl hq)), ⟨(show o24 M6 (mm_up M6 24 o (M 24 m + 1)) from fun q k _ _ hq => up_n (Or.inl hq)).osc.pj b.1, fun q hq => (up_n (Or.inl (by decide))).trans (b.2 q hq)⟩, fun r hr => (up_n (Or.inl (by decide))).trans (c r hr), fun o' => ?_, fun p' w' hpr hp' hw' hl o' ho' => ?_, ?_⟩
          · by_cases z : o' = o
            · subst z; right; exact ⟨hE, up_s _ _ _ _, by omega⟩
            · rw [up_n (Or.inr z)]; exact d o'
          · by_cases z : o' = o
            · subst z; rw [up_s]; exact Int.le_refl _
            · rw [up_n (Or.inr z)]
              refine e p' w' ?_ hp' hw' hl o' ho'
              rcases hpr with y | ⟨y1, y2⟩
              · exact Or.inl y
              · refine Or.inr ⟨y1, ?_⟩
                by_cases e2 : w' = w
                · subst e2; subst y1
                  rw [hip] at ho'
                  exact absurd (by omega) z
                · omega
          · rw [up_n (Or.inr hom.symm)]; exact f
  obtain ⟨j, hj2⟩ := key
  refine ⟨j, ?_⟩
  have e0 : N 0 9 - 1 = N 0 9 - 1 - ((0 : Nat) : Int) := by omega
  rw [e0]
  exact hj2
