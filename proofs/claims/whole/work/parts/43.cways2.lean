/-! the class finds all ways -/
def nR (C N : mm_M) : Prop := C 10 1 = N 0 1 ∧ ∀ r, r < Rn N → C 11 r = N 1 r ∧ C 12 r = N 2 r
theorem oPl.nR {v0 : Nat} {C C' N : mm_M} (h : oPl v0 C C') (hv : 30 ≤ v0) (hn : nR C N) : nR C' N := ⟨(h 10 1 (by omega)).trans hn.1, fun r hr => ⟨(h 11 r (by omega)).trans (hn.2 r hr).1, (h 12 r (by omega)).trans (hn.2 r hr).2⟩⟩
def msk (N : mm_M) (x : Int) (d : Nat) (f : Nat → Nat) (m : Nat) : Prop := m < 1024 ∧ ∀ v, v < 6 → (m.testBit v = true ↔ (v : Int) = x ∨ ∃ k, k < d ∧ N 2 (f k) = (v : Int))
theorem oPl.up3 {v0 k : Nat} {z : Int} {C : mm_M} : oPl v0 C (mm_up C (v0 + 3) k z) := fun q i h => up_n (by omega)
theorem cW_up3 {v0 k : Nat} {z : Int} {C : mm_M} {a : Wy} (h : cW C v0 a) : cW (mm_up C (v0 + 3) k z) v0 a := by
  refine ⟨(up_n (by omega)).trans h.1, fun w h1 h2 => ?_⟩
  obtain ⟨c1, c2, c3⟩ := h.2 w h1 h2
  rw [up_n (by omega), up_n (by omega)]
  exact ⟨c1, c2, fun k hk => by rw [up_n (by omega)]; exact c3 k hk⟩
theorem q4_extend {N : mm_M} (hN : wfR N) (hn6 : N 0 0 ≤ 6) {x y : Int} {p : Nat} (hp : p < 5) : ∀ (rem fu d : Nat) (f : Nat → Nat) (a : Wy) (m : Nat) (C : mm_M) (Q : mm_M → Prop), rem < fu → d + rem ≤ 5 → (d = 0 → 1 ≤ rem) → gp N x d f → okA N a → (rem = 0 → a.1 ≤ 12) → nR C N → C (30 + 17 * p) 1 = y → pth C (30 + 17 * p) d f → cW C (30 + 17 * p) a → msk N x d f m →
    (∀ C', oPl (30 + 17 * p) C C' → pth C' (30 + 17 * p) d f → cW C' (30 + 17 * p) (exs N x y rem d f a) → Q C') → mX4_extend fu (30 + 17 * p) (nod N x d f) d ((d + rem : Nat) : Int) m C Q
  | 0, fu + 1, d, f, a, m, C, Q, _, h5, h1, hg, ha, h12, hn, hy, hh, hc, hm, h => by
    unfold mX4_extend
    rw [kd_p hp, hy]
    have hR : Rn N ≤ 10 := by have := hN.1; unfold Rn; omega
    refine ⟨fun _ => mm_chk_i rfl ⟨fun e => ?_, fun e => mm_chk_i rfl (q4_keepPath hp (by omega) (fun k hk => by have := (hg.1 k hk).1; omega) (h12 rfl) hc hh (fun C' o1 o2 o3 => ?_))⟩, fun g => by omega⟩
    · refine h C (oPl.rf _ C) hh ?_
      unfold exs; rw [if_neg e]; exact hc
    · refine h C' o1 (fun k hk => (o2 k).trans (hh k hk)) ?_
      unfold exs; rw [if_pos e]; exact o3
  | rem + 1, fu + 1, d, f, a, m, C, Q, hfu, h5, h1, hg, ha, h12, hn, hy, hh, hc, hm, h => by
    have hR : Rn N ≤ 10 := by have := hN.1; unfold Rn; omega
    have hRi : (Rn N : Int) = N 0 1 := by have := hN.1; unfold Rn; omega
    unfold mX4_extend
    refine ⟨fun g => by omega, fun _ => ⟨fun _ => ?_, fun g => by omega⟩⟩
    refine pk_loop (fun j (k : Nat) (z : mm_M × Wy) => bX4_extend_28 (mX4_extend fu) j (30 + 17 * p) (nod N x d f) d ((d + (rem + 1) : Nat) : Int) m k z.1 Q) (fun k z => oPl (30 + 17 * p) C z.1 ∧ pth z.1 (30 + 17 * p) d f ∧ cW z.1 (30 + 17 * p) z.2 ∧ okA N z.2 ∧ exf (exg N x d f (exs N x y rem)) (Rn N - k) k z.2 = exs N x y (rem + 1) d f a) (Rn N) 0 (C, a) (Nat.zero_le _) ⟨oPl.rf _ C, hh, hc, ha, rfl⟩ ?_ ?_
    · rintro j ⟨C1, a1⟩ ⟨g1, g2, g3, g4, g5⟩
      dsimp only at g1 g2 g3 g4 g5 ⊢
      unfold bX4_extend_28
      rw [(g1.nR (by omega) hn).1]
      refine ⟨fun _ => h C1 g1 g2 ?_, fun g => by omega⟩
      rw [Nat.sub_self] at g5
      rw [← g5]; exact g3
    · rintro j k ⟨C1, a1⟩ hk ⟨g1, g2, g3, g4, g5⟩ ih
      dsimp only at g1 g2 g3 g4 g5 ih ⊢
      have hn1 := g1.nR (by omega) hn
      have e5 : exf (exg N x d f (exs N x y rem)) (Rn N - k) k a1 = exf (exg N x d f (exs N x y rem)) (Rn N - (k + 1)) (k + 1) (exg N x d f (exs N x y rem) k a1) := by
        rw [show Rn N - k = (Rn N - (k + 1)) + 1 by omega]; rfl
      rw [e5] at g5
      unfold bX4_extend_28
      have hb := hN.2.2 k hk
      rw [hn1.1, kd_p hp, ak_p3 hp, g3.1, Int.toNat_natCast, (hn1.2 k hk).1, (hn1.2 k hk).2, w_1 hk (by omega), Int.toNat_natCast]
      obtain ⟨n, hnx⟩ : ∃ n : Nat, N 2 k = (n : Int) := ⟨(N 2 k).toNat, by omega⟩
      have hn10 : n < 6 := by omega
      refine ⟨fun g => by omega, fun _ => mm_chk_i rfl ⟨fun g => h C1 g1 g2 ?_, fun g12 => ⟨by omega, by omega, fun e => ?_, fun e => ⟨fun e2 => ?_, fun e2 => mm_chk_i rfl (mm_chk_i rfl ⟨by omega, ?_⟩)⟩⟩⟩⟩
      · rw [← g5, exg_stop (by omega), exf_stop _ _ _ (by omega)]; exact g3
      · refine ih (C1, a1) ⟨g1, g2, g3, g4, ?_⟩
        rw [exg_0 (fun s => e s.1)] at g5; exact g5
      · refine ih (C1, a1) ⟨g1, g2, g3, g4, ?_⟩
        rw [hnx, and_bit hm.1 (by omega)] at e2
        have : m.testBit n = true := by
          by_cases c : m.testBit n = true
          · exact c
          · rw [if_neg c] at e2; exact absurd rfl e2
        rw [exg_0 (fun s => ?_)] at g5
        · exact g5
        · rcases (hm.2 n hn10).mp this with c | ⟨i, i1, i2⟩
          · exact s.2.1 (by omega)
          · exact s.2.2 i i1 (by omega)
      · have hbit : ¬ m.testBit n = true := fun c => by
          rw [hnx, and_bit hm.1 (by omega), if_pos c] at e2
          omega
        have hst : stp N x d f k := ⟨e, fun c => hbit ((hm.2 n hn10).mpr (Or.inl (by omega))), fun i hi c => hbit ((hm.2 n hn10).mpr (Or.inr ⟨i, hi, by omega⟩))⟩
        rw [exg_1 (by omega) hst] at g5
        have e7 : N 2 k = nod N x (d + 1) (upt f d k) := by unfold nod; rw [if_neg (by omega), Nat.add_sub_cancel, upt_s]
        rw [w_1 (k := d) (n := 10) (by omega) (by omega), hnx, or_bit hm.1 (by omega), ← hnx, show d + (rem + 1) = (d + 1) + rem by omega]
        have hgp := gp_s hg hk hst
        have key := q4_extend hN hn6 (x := x) (y := y) hp rem fu (d + 1) (upt f d k) a1 (m ||| 2 ^ n) (mm_up C1 (30 + 17 * p + 3) d (k : Int)) (fun M1 => bX4_extend_28 (mX4_extend fu) j (30 + 17 * p) (nod N x d f) d ((d + 1 + rem : Nat) : Int) m ((k + 1 : Nat) : Int) M1 Q) (by omega) (by omega) (fun e => by omega) hgp g4 (fun _ => by omega) (oPl.up3.nR (by omega) hn1) ((up_n (by omega)).trans ((g1 _ 1 (by omega)).trans hy)) ?_ (cW_up3 g3) ⟨or_lt hm.1 (by omega), fun v hv => ?_⟩ ?_
        · rw [← e7] at key; exact key
        · intro i hi
          by_cases ei : i = d
          · subst ei; rw [up_s, upt_s]
          · rw [up_n (by omega), upt_n ei]; exact g2 i (by omega)
        · rw [tb_or, hm.2 v hv]
          constructor
          · rintro ((c | ⟨i, i1, i2⟩) | c)
            · exact Or.inl c
            · exact Or.inr ⟨i, by omega, by rw [upt_n (by omega)]; exact i2⟩
            · exact Or.inr ⟨d, by omega, by rw [upt_s]; omega⟩
          · rintro (c | ⟨i, i1, i2⟩)
            · exact Or.inl (Or.inl c)
            · by_cases ei : i = d
              · subst ei; rw [upt_s] at i2; exact Or.inr (by omega)
              · rw [upt_n ei] at i2; exact Or.inl (Or.inr ⟨i, by omega, i2⟩)
        · intro C2 o1 o2 o3
          have g5' := g5
          refine (show _ from ?_ : bX4_extend_28 (mX4_extend fu) j (30 + 17 * p) (nod N x d f) d ((d + 1 + rem : Nat) : Int) m ((k + 1 : Nat) : Int) C2 Q)
          have ih' := ih (C2, exs N x y rem (d + 1) (upt f d k) a1) ⟨g1.tr (oPl.up3.tr o1), fun i hi => by have := o2 i (by omega); rw [upt_n (by omega)] at this; exact this, o3, exs_ok rem (d + 1) _ a1 hgp (by omega) (by omega) g4 (fun _ => by omega), g5⟩
          rw [show d + (rem + 1) = (d + 1) + rem by omega] at ih'
          exact ih'
theorem shl_1 : ∀ v, v < 6 → mm_shl 1 ((v : Nat) : Int) = ((2 ^ v : Nat) : Int) := by decide +kernel
theorem q4_findWays {N : mm_M} (hN : wfR N) (hn6 : 2 ≤ N 0 0 ∧ N 0 0 ≤ 6) {x y : Int} (hx : 0 ≤ x ∧ x < N 0 0) {p : Nat} (hp : p < 5) {C : mm_M} (hn : nR C N) (h0 : C 10 0 = N 0 0) (hx0 : C (30 + 17 * p) 0 = x) (hy : C (30 + 17 * p) 1 = y) {Q : mm_M → Prop}
    (h : ∀ C', oPl (30 + 17 * p) (mm_up C (30 + 17 * p) 3 0) C' → cW C' (30 + 17 * p) (exw N x y 5) → Q C') : mX4_findWays (30 + 17 * p) C Q := by
  unfold mX4_findWays
  rw [kd_p hp]
  refine mm_chk_i rfl (mm_chk_i rfl ?_)
  have hs : ((N 0 0).toNat : Int) = N 0 0 := by omega
  refine pk_loop (fun j (k : Nat) (C1 : mm_M) => bX4_findWays_12 j (30 + 17 * p) ((k + 1 : Nat) : Int) C1 Q) (fun k C1 => oPl (30 + 17 * p) (mm_up C (30 + 17 * p) 3 0) C1 ∧ cW C1 (30 + 17 * p) (exw N x y k)) ((N 0 0).toNat - 1) 0 _ (Nat.zero_le _) ⟨fun q k e => ?_, (up_n (by omega)).trans (up_s _ _ _ _), fun w hw => absurd hw (Nat.not_lt_zero _)⟩ ?_ ?_
  · by_cases e3 : q = 30 + 17 * p ∧ k = 3
    · rw [e3.1, e3.2, up_s, up_s]
    · rw [up_n (by omega), up_n (by omega), up_n (by omega)]
  · rintro j C1 ⟨g1, g2⟩
    unfold bX4_findWays_12
    have e0 : C1 10 0 = N 0 0 := (g1 10 0 (by omega)).trans ((up_n (by omega)).trans h0)
    rw [e0]
    refine ⟨fun _ => h C1 g1 ?_, fun g => by omega⟩
    have := exw_all hN hx (y := y) (s := (N 0 0).toNat - 1) (by omega) (5 - ((N 0 0).toNat - 1))
    rw [show (N 0 0).toNat - 1 + (5 - ((N 0 0).toNat - 1)) = 5 by omega] at this
    rw [this]; exact g2
  · rintro j k C1 hk ⟨g1, g2⟩ ih
    unfold bX4_findWays_12
    have e0 : C1 10 0 = N 0 0 := (g1 10 0 (by omega)).trans ((up_n (by omega)).trans h0)
    have e1 : C1 (30 + 17 * p) 0 = x := (g1 _ 0 (by omega)).trans ((up_n (by omega)).trans hx0)
    have e2 : C1 (30 + 17 * p) 1 = y := (g1 _ 1 (by omega)).trans ((up_n (by omega)).trans hy)
    have n1 : nR C1 N := g1.nR (by omega) ⟨(up_n (by omega)).trans hn.1, fun r hr => ⟨(up_n (by omega)).trans (hn.2 r hr).1, (up_n (by omega)).trans (hn.2 r hr).2⟩⟩
    rw [e0, kd_p hp, e1]
    obtain ⟨xn, hxn⟩ : ∃ xn : Nat, x = (xn : Int) := ⟨x.toNat, by omega⟩
    rw [w_1 (k := k + 1) (n := 10) (by omega) (by omega), show mm_shl 1 x = ((2 ^ xn : Nat) : Int) by rw [hxn]; exact shl_1 xn (by omega)]
    refine ⟨fun g => by omega, fun _ => mm_chk_i rfl (mm_chk_i rfl ?_)⟩
    have key := q4_extend hN hn6.2 (x := x) (y := y) hp (k + 1) 8 0 (fun _ => 0) (exw N x y k) (2 ^ xn) C1 (fun M1 => bX4_findWays_12 j (30 + 17 * p) ((k + 1 + 1 : Nat) : Int) M1 Q) (by omega) (by omega) (fun _ => by omega) (gp_0 N x _) (exw_ok k (by omega)) (fun e => by omega) n1 e2 (fun i hi => by omega) g2 ⟨?_, fun v hv => ?_⟩ (fun C' o1 o2 o3 => ih C' ⟨g1.tr o1, o3⟩)
    · rw [Nat.zero_add] at key; exact key
    · exact Nat.lt_of_lt_of_le (Nat.pow_lt_pow_right (by decide) (show xn < 10 by omega)) (by decide)
    · rw [Nat.testBit_two_pow]
      constructor
      · intro c; exact Or.inl (by have := of_decide_eq_true c; omega)
      · rintro (c | ⟨i, i1, i2⟩)
        · exact decide_eq_true (by omega)
        · omega
