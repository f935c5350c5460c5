/-! the model finds the same ways -/
def mR (M N : mm_M) : Prop := M 0 1 = N 0 1 ∧ ∀ r, r < Rn N → M 1 r = N 1 r ∧ M 2 r = N 2 r
def wlk (M : mm_M) (d : Nat) (f : Nat → Nat) : Prop := ∀ k, k < d → M 20 k = (f k : Int)
theorem q8_goesOn {N : mm_M} (hN : wfR N) {x : Int} {d : Nat} (hd : d ≤ 5) {f : Nat → Nat} (hg : gp N x d f) {r : Nat} (hr : r < Rn N) {M : mm_M} (hm : mR M N) (hw : wlk M d f) {Q : Int → mm_M → Prop} (h1 : stp N x d f r → Q 1 M) (h0 : ¬ stp N x d f r → Q 0 M) : mX8_goesOn x d r M Q := by
  have hR : Rn N ≤ 10 := by have := hN.1; unfold Rn; omega
  have loop : ∀ b w0, ((b = 1 ∧ N 1 r = nod N x d f ∧ N 2 r ≠ x) ∨ (b = 0 ∧ ¬ stp N x d f r)) → ∃ j, bX8_goesOn_54 j d r w0 b ((0 : Nat) : Int) M Q := by
    intro b w0 hb
    refine pk_loop (fun j (k : Nat) (b : Int) => bX8_goesOn_54 j d r w0 b k M Q) (fun k b => (b = 1 ∧ N 1 r = nod N x d f ∧ N 2 r ≠ x ∧ ∀ i, i < k → N 2 (f i) ≠ N 2 r) ∨ (b = 0 ∧ ¬ stp N x d f r)) d 0 b (Nat.zero_le _) ?_ ?_ ?_
    · rcases hb with ⟨b1, b2, b3⟩ | hb
      · exact Or.inl ⟨b1, b2, b3, fun i hi => by omega⟩
      · exact Or.inr hb
    · rintro j b hb
      unfold bX8_goesOn_54
      refine ⟨fun _ => ?_, fun g => by omega⟩
      rcases hb with ⟨b1, b2, b3, b4⟩ | ⟨b1, b2⟩
      · subst b1; exact ⟨Or.inr rfl, h1 ⟨b2, b3, b4⟩⟩
      · subst b1; exact ⟨Or.inl rfl, h0 b2⟩
    · rintro j k b hk hb ih
      unfold bX8_goesOn_54
      have hf := (hg.1 k hk).1
      rw [w_1 hk (by omega), Int.toNat_natCast, hw k hk, Int.toNat_natCast, Int.toNat_natCast, (hm.2 _ hf).2, (hm.2 _ hr).2]
      refine ⟨fun g => by omega, fun _ => ⟨fun e => ?_, fun e => ⟨by omega, by omega, by omega, fun e2 => ?_, fun e2 => ?_⟩⟩⟩
      · rcases hb with ⟨b1, -⟩ | ⟨b1, b2⟩
        · omega
        · exact ih 0 (Or.inr ⟨rfl, b2⟩)
      · exact ih 0 (Or.inr ⟨rfl, fun s => s.2.2 k hk e2⟩)
      · rcases hb with ⟨b1, b2, b3, b4⟩ | ⟨b1, b2⟩
        · refine ih 1 (Or.inl ⟨rfl, b2, b3, fun i hi => ?_⟩)
          by_cases ei : i = k
          · subst ei; exact e2
          · exact b4 i (by omega)
        · omega
  have mid : ∀ w0, w0 = nod N x d f → bX8_goesOn_21 x d r w0 M Q := by
    intro w0 hw0
    unfold bX8_goesOn_21
    rw [Int.toNat_natCast, (hm.2 _ hr).1, (hm.2 _ hr).2]
    exact ⟨by omega, fun e => loop 0 w0 (Or.inr ⟨rfl, fun s => e (s.1.trans hw0.symm)⟩), fun e => ⟨by omega, fun e2 => loop 0 w0 (Or.inr ⟨rfl, fun s => s.2.1 e2⟩), fun e2 => loop 1 w0 (Or.inl ⟨rfl, e.trans hw0, e2⟩)⟩⟩
  unfold mX8_goesOn
  refine ⟨fun e => ?_, fun e => mid x ?_⟩
  · have e1 : mm_w ((d : Int) - 1) = ((d - 1 : Nat) : Int) := by rw [mm_w_id (by omega) (by omega)]; omega
    rw [e1, Int.toNat_natCast, hw (d - 1) (by omega), Int.toNat_natCast]
    clear e1
    have hf := (hg.1 (d - 1) (by omega)).1
    rw [(hm.2 _ hf).2]
    refine ⟨by omega, by omega, mid _ ?_⟩
    unfold nod; rw [if_neg (by omega)]
  · unfold nod; rw [if_pos (by omega)]
def mW (M : mm_M) (p : Nat) (a : Wy) : Prop := ∀ w, w < a.1 → w < 12 → M 10 (12 * p + w) = (a.2.1 w : Int) ∧ ∀ k, k < a.2.1 w → M 11 (5 * (12 * p + w) + k) = (a.2.2 w k : Int)
def oWy (p : Nat) (M M' : mm_M) : Prop := ∀ q k, q ≠ 20 → (q = 10 → k < 12 * p ∨ 12 * p + 12 ≤ k) → (q = 11 → k < 60 * p ∨ 60 * p + 60 ≤ k) → M' q k = M q k
theorem oWy.rf (p : Nat) (M : mm_M) : oWy p M M := fun _ _ _ _ _ => rfl
theorem oWy.tr {p : Nat} {M M' M'' : mm_M} (h : oWy p M M') (h2 : oWy p M' M'') : oWy p M M'' := fun q k a b c => (h2 q k a b c).trans (h q k a b c)
theorem oWy.mR {p : Nat} {M M' N : mm_M} (h : oWy p M M') (hm : mR M N) : mR M' N := ⟨(h 0 1 (by decide) (by omega) (by omega)).trans hm.1, fun r hr => ⟨(h 1 r (by decide) (by omega) (by omega)).trans (hm.2 r hr).1, (h 2 r (by decide) (by omega) (by omega)).trans (hm.2 r hr).2⟩⟩
theorem oWy.up {p k : Nat} {z : Int} {M : mm_M} : oWy p M (mm_up M 20 k z) := fun q i h _ _ => up_n (Or.inl h)
theorem mW_up {p k : Nat} {z : Int} {M : mm_M} {a : Wy} (h : mW M p a) : mW (mm_up M 20 k z) p a := fun w h1 h2 => by
  obtain ⟨c1, c2⟩ := h w h1 h2
  exact ⟨(up_n (Or.inl (by decide))).trans c1, fun i hi => (up_n (Or.inl (by decide))).trans (c2 i hi)⟩
theorem q8_keepWay {p : Nat} (hp : p < 5) {d : Nat} (hd : 1 ≤ d ∧ d ≤ 5) {f : Nat → Nat} {a : Wy} (ha : a.1 ≤ 12) (hok : ∀ w, w < a.1 → a.2.1 w ≤ 5) {M : mm_M} (hw : wlk M d f) (hm : mW M p a) {Q : mm_M → Prop}
    (h : ∀ M', oWy p M M' → (∀ k, M' 20 k = M 20 k) → mW M' p (app a d f) → Q M') : mX8_keepWay p a.1 d M Q := by
  unfold mX8_keepWay
  refine ⟨fun g => h M (oWy.rf p M) (fun _ => rfl) (fun w hw2 h12 => ?_), fun g => ?_⟩
  · have hw2 : w < a.1 + 1 := hw2
    have e : w ≠ a.1 := by omega
    show M 10 (12 * p + w) = ((upt a.2.1 a.1 d w : Nat) : Int) ∧ ∀ k, k < upt a.2.1 a.1 d w → M 11 (5 * (12 * p + w) + k) = (((if w = a.1 then f else a.2.2 w) k : Nat) : Int)
    rw [upt_n e, if_neg e]; exact hm w (by omega) h12
  · rw [ix_w p a.1 hp (by omega), Int.toNat_natCast]
    refine ⟨by omega, ?_⟩
    refine pk_loop (fun j (k : Nat) (M2 : mm_M) => bX8_keepWay_21 j p a.1 d k M2 Q) (fun k M2 => (∀ q i, q ≠ 11 → M2 q i = (mm_up M 10 (12 * p + a.1) (d : Int)) q i) ∧ (∀ i, (i < 5 * (12 * p + a.1) ∨ 5 * (12 * p + a.1) + 5 ≤ i) → M2 11 i = M 11 i) ∧ ∀ i, i < k → M2 11 (5 * (12 * p + a.1) + i) = (f i : Int)) d 0 _ (Nat.zero_le _) ⟨fun _ _ _ => rfl, fun i _ => up_n (Or.inl (by decide)), fun i hi => by omega⟩ ?_ ?_
    · rintro j M2 ⟨g1, g2, g3⟩
      unfold bX8_keepWay_21
      refine ⟨fun _ => h M2 (fun q k e1 e2 e3 => ?_) (fun k => (g1 20 k (by decide)).trans (up_n (Or.inl (by decide)))) (fun w hw2 h12 => ?_), fun g => by omega⟩
      · by_cases e : q = 11
        · subst e; have := e3 rfl; exact g2 k (by omega)
        · rw [g1 q k e, up_n (by omega)]
      · have hw2 : w < a.1 + 1 := hw2
        show M2 10 (12 * p + w) = ((upt a.2.1 a.1 d w : Nat) : Int) ∧ ∀ k, k < upt a.2.1 a.1 d w → M2 11 (5 * (12 * p + w) + k) = (((if w = a.1 then f else a.2.2 w) k : Nat) : Int)
        by_cases e : w = a.1
        · subst e
          rw [upt_s, if_pos rfl, g1 _ _ (by decide), up_s]
          exact ⟨rfl, g3⟩
        · rw [upt_n e, if_neg e, g1 _ _ (by decide), up_n (by omega)]
          have := hok w (by omega)
          obtain ⟨c1, c2⟩ := hm w (by omega) h12
          exact ⟨c1, fun k hk => by rw [g2 _ (by omega)]; exact c2 k hk⟩
    · rintro j k M2 hk ⟨g1, g2, g3⟩ ih
      unfold bX8_keepWay_21
      rw [ix_r p a.1 k hp (by omega) (by omega), Int.toNat_natCast, Int.toNat_natCast, w_1 hk (by omega), g1 20 k (by decide), up_n (Or.inl (by decide)), hw k hk]
      refine ⟨fun g => by omega, fun _ => ⟨by omega, by omega, ih _ ⟨fun q i e => ?_, fun i e => ?_, fun i e => ?_⟩⟩⟩
      · rw [up_n (Or.inl e)]; exact g1 q i e
      · rw [up_n (by omega)]; exact g2 i e
      · by_cases ei : i = k
        · subst ei; rw [up_s]
        · rw [up_n (by omega)]; exact g3 i (by omega)
def cgf (c : Nat) : Nat → Nat
  | 0 => 1
  | n + 1 => cgf c n + c + 1
def cf (R : Nat) : Nat → Nat → Nat
  | 0, n => cgf 0 n
  | rem + 1, n => cgf (cf R rem R) n
theorem lay_stop {p x y s had v6 v7 : Int} {M : mm_M} {Q : Int → mm_M → Prop} {j : Nat} (h : 12 < v6) (hq : Q v6 M) : bX8_layWays_14 (j + 1) p x y s had v6 v7 M Q := by
  unfold bX8_layWays_14
  exact ⟨fun _ => hq, fun _ => ⟨fun _ => hq, fun g => by omega⟩⟩
theorem lay_lvl {N : mm_M} (hN : wfR N) {x y had : Int} {p : Nat} (hp : p < 5) {s : Nat} (hs : s ≤ 5) {Q : Int → mm_M → Prop} : ∀ (rem n d k : Nat) (f : Nat → Nat) (a : Wy) (M : mm_M) (j0 : Nat), d + rem + 1 = s → k + n = Rn N → 1 ≤ j0 → gp N x d f → okA N a → a.1 ≤ 12 → mR M N → wlk M d f → M 20 d = (k : Int) - 1 → mW M p a →
    (∀ M', oWy p M M' → wlk M' d f → mW M' p (exf (exg N x d f (exs N x y rem)) n k a) → (12 < (exf (exg N x d f (exs N x y rem)) n k a).1 → Q (exf (exg N x d f (exs N x y rem)) n k a).1 M') ∧ ((exf (exg N x d f (exs N x y rem)) n k a).1 ≤ 12 → ∀ j, j0 ≤ j → bX8_layWays_14 j p x y s had (exf (exg N x d f (exs N x y rem)) n k a).1 ((d : Int) - 1) M' Q)) →
    ∀ j, cf (Rn N) rem n + j0 ≤ j → bX8_layWays_14 j p x y s had a.1 d M Q := by
  have hR : Rn N ≤ 10 := by have := hN.1; unfold Rn; omega
  have hRi : (Rn N : Int) = N 0 1 := by have := hN.1; unfold Rn; omega
  intro rem
  induction rem with
  | zero =>
    intro n
    induction n with
    | zero =>
      intro d k f a M j0 hs1 hk hj0 hg ho h12 hm hw h20 hmw K j hj
      obtain ⟨i, rfl⟩ : ∃ i, j = i + 1 := ⟨j - 1, by have : cf (Rn N) 0 0 = 1 := rfl; omega⟩
      have hji : j0 ≤ i := by have : cf (Rn N) 0 0 = 1 := rfl; omega
      unfold bX8_layWays_14
      rw [Int.toNat_natCast, h20, mm_w_id (z := (k : Int) - 1 + 1) (by omega) (by omega), up_s, up_n (Or.inl (by decide)), hm.1, mm_w_id (z := (d : Int) + -1) (by omega) (by omega)]
      refine ⟨fun g => by omega, fun _ => ⟨fun g => by omega, fun _ => ⟨by omega, by omega, by omega, fun g => by omega, fun _ => ?_⟩⟩⟩
      exact (K _ oWy.up (fun i hi => (up_n (by omega)).trans (hw i hi)) (mW_up hmw)).2 h12 i hji
    | succ n ihn =>
      intro d k f a M j0 hs1 hk hj0 hg ho h12 hm hw h20 hmw K j hj
      have hcs : cf (Rn N) 0 (n + 1) = cf (Rn N) 0 n + 0 + 1 := rfl
      obtain ⟨i, rfl⟩ : ∃ i, j = i + 1 := ⟨j - 1, by omega⟩
      have hji : cf (Rn N) 0 n + j0 ≤ i := by omega
      have hkl : k < Rn N := by omega
      unfold bX8_layWays_14
      rw [Int.toNat_natCast, h20, mm_w_id (z := (k : Int) - 1 + 1) (by omega) (by omega), show (k : Int) - 1 + 1 = (k : Int) by omega, up_s, up_n (Or.inl (by decide)), hm.1, mm_w_id (z := (d : Int) + 1) (by omega) (by omega)]
      refine ⟨fun g => by omega, fun _ => ⟨fun g => by omega, fun _ => ⟨by omega, by omega, by omega, fun _ => ⟨by omega, ?_⟩, fun g => by omega⟩⟩⟩
      have hw1 : wlk (mm_up M 20 d (k : Int)) d f := fun i hi => (up_n (by omega)).trans (hw i hi)
      have hm1 := (oWy.up (p := p) (k := d) (z := (k : Int))).mR hm
      have next : ∀ a1 M1, okA N a1 → a1.1 ≤ 12 → oWy p M M1 → wlk M1 d f → M1 20 d = (k : Int) → mW M1 p a1 → exg N x d f (exs N x y 0) k a = a1 → bX8_layWays_14 i p x y s had a1.1 d M1 Q := fun a1 M1 o1 l1 w1 x1 y1 z1 e1 =>
        ihn d (k + 1) f a1 M1 j0 hs1 (by omega) hj0 hg o1 l1 (w1.mR hm) x1 (by omega) z1 (fun M' b1 b2 b3 => by
          have := K M' (w1.tr b1) b2
          have e2 : exf (exg N x d f (exs N x y 0)) (n + 1) k a = exf (exg N x d f (exs N x y 0)) n (k + 1) a1 := by rw [← e1]; rfl
          rw [e2] at this
          exact this b3) i hji
      refine q8_goesOn hN (by omega) hg hkl hm1 hw1 (fun st => ⟨fun g => by omega, fun _ => ⟨fun _ => ?_, fun g => by omega⟩⟩) (fun st => ⟨fun _ => next a _ ho h12 oWy.up hw1 (up_s _ _ _ _) (mW_up hmw) (exg_0 st), fun g => absurd rfl g⟩)
      rw [up_s, Int.toNat_natCast, (hm1.2 k hkl).2]
      have hnd : nod N x (d + 1) (upt f d k) = N 2 k := by unfold nod; rw [if_neg (by omega), Nat.add_sub_cancel, upt_s]
      refine ⟨by omega, by omega, fun e => next a _ ho h12 oWy.up hw1 (up_s _ _ _ _) (mW_up hmw) ?_, fun e => ?_⟩
      · rw [exg_1 (by omega) st]; unfold exs; rw [hnd, if_neg e]
      · have hd1 : d + 1 = s := by omega
        have hw2 : wlk (mm_up M 20 d (k : Int)) s (upt f d k) := fun i hi => by
          by_cases ei : i = d
          · subst ei; rw [up_s, upt_s]
          · rw [up_n (by omega), upt_n ei]; exact hw i (by omega)
        have e3 : exg N x d f (exs N x y 0) k a = app a s (upt f d k) := by
          rw [exg_1 (by omega) st]; unfold exs; rw [hnd, if_pos e, hd1]
        refine q8_keepWay hp ⟨by omega, hs⟩ h12 (fun w hw => (ho.2 w hw).1.2) hw2 (mW_up hmw) (fun M2 b1 b2 b3 => ?_)
        have e4 : mm_w ((a.1 : Int) + 1) = (((app a s (upt f d k)).1 : Nat) : Int) := by
          show _ = ((a.1 + 1 : Nat) : Int)
          rw [mm_w_id (by omega) (by omega)]; omega
        rw [e4]
        clear e4
        have hok2 : okA N (app a s (upt f d k)) := by
          rw [← hd1]; exact okA_app ho h12 (gp_s hg hkl st) ⟨by omega, by omega⟩
        have hw3 : wlk M2 d f := fun i hi => (b2 i).trans (hw1 i hi)
        by_cases c : (app a s (upt f d k)).1 ≤ 12
        · exact next _ M2 hok2 c (oWy.up.tr b1) hw3 ((b2 d).trans (up_s _ _ _ _)) b3 e3
        · obtain ⟨i', rfl⟩ : ∃ i', i = i' + 1 := ⟨i - 1, by omega⟩
          refine lay_stop (by omega) ?_
          have e2 : exf (exg N x d f (exs N x y 0)) (n + 1) k a = app a s (upt f d k) := by
            show exf _ n (k + 1) (exg N x d f (exs N x y 0) k a) = _
            rw [e3, exf_stop _ _ _ (by omega)]
          have := K M2 (oWy.up.tr b1) hw3
          rw [e2] at this
          exact (this b3).1 (by omega)
  | succ rem ihr =>
    intro n
    induction n with
    | zero =>
      intro d k f a M j0 hs1 hk hj0 hg ho h12 hm hw h20 hmw K j hj
      obtain ⟨i, rfl⟩ : ∃ i, j = i + 1 := ⟨j - 1, by have : cf (Rn N) (rem + 1) 0 = 1 := rfl; omega⟩
      have hji : j0 ≤ i := by have : cf (Rn N) (rem + 1) 0 = 1 := rfl; omega
      unfold bX8_layWays_14
      rw [Int.toNat_natCast, h20, mm_w_id (z := (k : Int) - 1 + 1) (by omega) (by omega), up_s, up_n (Or.inl (by decide)), hm.1, mm_w_id (z := (d : Int) + -1) (by omega) (by omega)]
      refine ⟨fun g => by omega, fun _ => ⟨fun g => by omega, fun _ => ⟨by omega, by omega, by omega, fun g => by omega, fun _ => ?_⟩⟩⟩
      exact (K _ oWy.up (fun i hi => (up_n (by omega)).trans (hw i hi)) (mW_up hmw)).2 h12 i hji
    | succ n ihn =>
      intro d k f a M j0 hs1 hk hj0 hg ho h12 hm hw h20 hmw K j hj
      have hcs : cf (Rn N) (rem + 1) (n + 1) = cf (Rn N) (rem + 1) n + cf (Rn N) rem (Rn N) + 1 := rfl
      obtain ⟨i, rfl⟩ : ∃ i, j = i + 1 := ⟨j - 1, by omega⟩
      have hkl : k < Rn N := by omega
      unfold bX8_layWays_14
      rw [Int.toNat_natCast, h20, mm_w_id (z := (k : Int) - 1 + 1) (by omega) (by omega), show (k : Int) - 1 + 1 = (k : Int) by omega, up_s, up_n (Or.inl (by decide)), hm.1, w_1 (k := d) (n := 10) (by omega) (by omega), Int.toNat_natCast]
      refine ⟨fun g => by omega, fun _ => ⟨fun g => by omega, fun _ => ⟨by omega, by omega, by omega, fun _ => ⟨by omega, ?_⟩, fun g => by omega⟩⟩⟩
      have hw1 : wlk (mm_up M 20 d (k : Int)) d f := fun i hi => (up_n (by omega)).trans (hw i hi)
      have hm1 := (oWy.up (p := p) (k := d) (z := (k : Int))).mR hm
      have next : ∀ a1 M1, okA N a1 → a1.1 ≤ 12 → oWy p M M1 → wlk M1 d f → M1 20 d = (k : Int) → mW M1 p a1 → exg N x d f (exs N x y (rem + 1)) k a = a1 → ∀ i, cf (Rn N) (rem + 1) n + j0 ≤ i → bX8_layWays_14 i p x y s had a1.1 d M1 Q := fun a1 M1 o1 l1 w1 x1 y1 z1 e1 =>
        ihn d (k + 1) f a1 M1 j0 hs1 (by omega) hj0 hg o1 l1 (w1.mR hm) x1 (by omega) z1 (fun M' b1 b2 b3 => by
          have := K M' (w1.tr b1) b2
          have e2 : exf (exg N x d f (exs N x y (rem + 1))) (n + 1) k a = exf (exg N x d f (exs N x y (rem + 1))) n (k + 1) a1 := by rw [← e1]; rfl
          rw [e2] at this
          exact this b3)
      refine q8_goesOn hN (by omega) hg hkl hm1 hw1 (fun st => ⟨fun g => by omega, fun _ => ⟨fun g => by omega, fun _ => ⟨by omega, ?_⟩⟩⟩) (fun st => ⟨fun _ => next a _ ho h12 oWy.up hw1 (up_s _ _ _ _) (mW_up hmw) (exg_0 st) i (by omega), fun g => absurd rfl g⟩)
      have hgp := gp_s hg hkl st
      have hw2 : wlk (mm_up (mm_up M 20 d (k : Int)) 20 (d + 1) (-1)) (d + 1) (upt f d k) := fun i hi => by
        rw [up_n (by omega)]
        by_cases ei : i = d
        · subst ei; rw [up_s, upt_s]
        · rw [up_n (by omega), upt_n ei]; exact hw i (by omega)
      have hok2 := exs_ok (y := y) (rem + 1) (d + 1) (upt f d k) a hgp (by omega) (by omega) ho (fun e => by omega)
      refine ihr (Rn N) (d + 1) 0 (upt f d k) a _ (cf (Rn N) (rem + 1) n + j0) (by omega) (by omega) (by omega) hgp ho h12 ((oWy.up (p := p)).mR hm1) hw2 (up_s _ _ _ _) (mW_up (mW_up hmw)) (fun M' b1 b2 b3 => ?_) i (by omega)
      have e3 : exg N x d f (exs N x y (rem + 1)) k a = exs N x y (rem + 1) (d + 1) (upt f d k) a := exg_1 (by omega) st
      have hw3 : wlk M' d f := fun i hi => by have := b2 i (by omega); rw [upt_n (by omega)] at this; exact this
      have h20' : M' 20 d = (k : Int) := by have := b2 d (by omega); rw [upt_s] at this; exact this
      have oo : oWy p M M' := oWy.up.tr (oWy.up.tr b1)
      refine ⟨fun c => ?_, fun c j hj => ?_⟩
      · have e2 : exf (exg N x d f (exs N x y (rem + 1))) (n + 1) k a = exs N x y (rem + 1) (d + 1) (upt f d k) a := by
          show exf _ n (k + 1) (exg N x d f (exs N x y (rem + 1)) k a) = _
          rw [e3]; exact exf_stop _ _ _ c
        have := K M' oo hw3
        rw [e2] at this
        exact (this b3).1 c
      · rw [show ((d + 1 : Nat) : Int) - 1 = (d : Int) by omega]
        exact next _ M' hok2 c oo hw3 h20' b3 e3 j hj
theorem q8_layWays {N : mm_M} (hN : wfR N) {x y : Int} {p : Nat} (hp : p < 5) {s : Nat} (hs : s + 1 ≤ 5) {a : Wy} (ho : okA N a) (h12 : a.1 ≤ 12) {M : mm_M} (hm : mR M N) (hmw : mW M p a) {Q : Int → mm_M → Prop}
    (h : ∀ M', oWy p M M' → mW M' p (exs N x y (s + 1) 0 (fun _ => 0) a) → Q (exs N x y (s + 1) 0 (fun _ => 0) a).1 M') : mX8_layWays p x y ((s + 1 : Nat) : Int) a.1 M Q := by
  refine ⟨by decide, ⟨_, lay_lvl hN (x := x) (y := y) (had := a.1) hp hs (Q := Q) s (Rn N) 0 0 (fun _ => 0) a (mm_up M 20 0 (-1)) 1 (by omega) (by omega) (by omega) (gp_0 N x _) ho h12 ((oWy.up (p := p)).mR hm) (fun k hk => by omega) (up_s _ _ _ _) (mW_up hmw) (fun M' b1 b2 b3 => ⟨fun _ => h M' (oWy.up.tr b1) b3, fun _ j hj => ?_⟩) _ (Nat.le_refl _)⟩⟩
  obtain ⟨i, rfl⟩ : ∃ i, j = i + 1 := ⟨j - 1, by omega⟩
  unfold bX8_layWays_14
  exact ⟨fun _ => h M' (oWy.up.tr b1) b3, fun g => by omega⟩
