/-! the class: what can be come to -/
theorem Pth_dn {N : mm_M} {n0 : Nat} : ∀ s t n, s ≤ t → Pth N n0 t n → ∃ m, Pth N n0 s m
  | s, 0, n, h, hp => ⟨n, by have : s = 0 := by omega
                             subst this; exact hp⟩
  | s, t + 1, n, h, hp => by
    by_cases e : s = t + 1
    · subst e; exact ⟨n, hp⟩
    · obtain ⟨m, -, h2, -⟩ := hp
      exact Pth_dn s t m (by omega) h2
def cg (N : mm_M) (v : Int) : Int := sm (all N (Pn N)) (fun m => if v ≤ po N m then 1 else 0)
theorem sm_lt {n j : Nat} {f g : Nat → Int} (hj : j < n) (h : ∀ k, k < n → f k ≤ g k) (hl : f j < g j) : sm n f < sm n g := by
  have h1 := sm_one (f := f) (g := fun k => if k = j then g j else f k) hj (fun k _ hkj => by simp [hkj])
  have h2 : sm n (fun k => if k = j then g j else f k) ≤ sm n g := sm_le (fun k hk => by
    by_cases e : k = j
    · subst e; simp
    · simp [e]; exact h k hk)
  simp at h1
  omega
theorem Pth_cg {N : mm_M} (hN : wf N) {n0 : Nat} (h0 : n0 < all N (Pn N)) : ∀ s n, Pth N n0 s n → (s : Int) + 1 ≤ cg N (po N n)
  | 0, n, hp => by
    have hp : n = n0 := hp
    subst hp
    have := sm_lt (n := all N (Pn N)) (j := n) (f := fun _ => 0) (g := fun m => if po N n ≤ po N m then 1 else 0) h0 (fun k _ => by split <;> omega) (by simp)
    rw [sm_const] at this
    unfold cg
    omega
  | s + 1, n, hp => by
    obtain ⟨m, h1, h2, h3⟩ := hp
    have h4 := Pth_cg hN h0 s m h2
    have h5 := Edge_ok hN h1 h3
    have := sm_lt (n := all N (Pn N)) (j := n) (f := fun k => if po N m ≤ po N k then 1 else 0) (g := fun k => if po N n ≤ po N k then 1 else 0) h5.1 (fun k _ => by

      by_cases e : po N m ≤ po N k
      · rw [if_pos e, if_pos (by omega)]; omega
      · rw [if_neg e]; split <;> omega) (by rw [if_neg (by omega), if_pos (by omega)]; omega)
    unfold cg at h4 ⊢
    omega
theorem Pth_all {N : mm_M} (hN : wf N) {n0 : Nat} (h0 : n0 < all N (Pn N)) {s n : Nat} (hp : Pth N n0 s n) : s < all N (Pn N) := by
  have h1 := Pth_cg hN h0 s n hp
  have h2 := (sm_bd (n := all N (Pn N)) (f := fun m => if po N n ≤ po N m then (1 : Int) else 0) (c := 1) (fun k _ => by split <;> omega)).2
  unfold cg at h1
  omega
/-- within a step: what is offered so far -/
def WS (N : mm_M) (n0 s nx : Nat) (C0 C : mm_M) : Prop := (∀ q k, q ≠ 122 → q ≠ nx → (q = 121 → k ≠ 5) → C q k = C0 q k)
  ∧ (∃ c : Nat, C 121 5 = (c : Int) ∧ (c : Int) = sm (all N (Pn N)) (fun n => if C 122 n = (s : Int) + 1 then 1 else 0)
    ∧ (∀ i, i < c → ∃ n : Nat, n < all N (Pn N) ∧ C nx i = (n : Int) ∧ C 122 n = (s : Int) + 1)
    ∧ ∀ n, n < all N (Pn N) → C 122 n = (s : Int) + 1 → (∃ i, i < c ∧ C nx i = (n : Int)) ∧ Pth N n0 (s + 1) n)
  ∧ ∀ n, n < all N (Pn N) → C 122 n ≠ (s : Int) + 1 → C 122 n = C0 122 n
theorem q5_offer {N : mm_M} (ha : all N (Pn N) ≤ 500) {n0 s nx m : Nat} (hs : s ≤ 1000) (hx : nx = 123 ∨ nx = 124) {C0 C : mm_M} (hC0 : C0 121 4 = (nx : Int)) (hw : WS N n0 s nx C0 C) (hm : m < all N (Pn N)) (hp : Pth N n0 (s + 1) m) {Q : mm_M → Prop}
    (h : ∀ C', WS N n0 s nx C0 C' → C' 122 m = (s : Int) + 1 → (∀ n, C 122 n = (s : Int) + 1 → C' 122 n = (s : Int) + 1) → Q C') : mX5_offer m ((s + 1 : Nat) : Int) C Q := by
  unfold mX5_offer
  have hbm := bd500 hm ha
  obtain ⟨w1, ⟨c, c1, c2, c3, c4⟩, w3⟩ := hw
  have e4 : C 121 4 = (nx : Int) := (w1 121 4 (by decide) (by omega) (by decide)).trans hC0
  have hs1 : ((s + 1 : Nat) : Int) = (s : Int) + 1 := by omega
  rw [hs1, Int.toNat_natCast]
  refine ⟨hbm, fun g => h C ⟨w1, ⟨c, c1, c2, c3, c4⟩, w3⟩ g (fun n hn => hn), fun g => ⟨hbm, ?_⟩⟩
  have u4 : (mm_up C 122 m ((s : Int) + 1)) 121 4 = (nx : Int) := (up_n (Or.inl (by decide))).trans e4
  have u5 : (mm_up C 122 m ((s : Int) + 1)) 121 5 = (c : Int) := (up_n (Or.inl (by decide))).trans c1
  have hcl : c < all N (Pn N) := by
    have := sm_lt (n := all N (Pn N)) (j := m) (f := fun n => if C 122 n = (s : Int) + 1 then 1 else 0) (g := fun _ => 1) hm (fun k _ => by split <;> omega) (by rw [if_neg g]; omega)
    rw [sm_const] at this
    omega
  rw [u4, u5, Int.toNat_natCast, Int.toNat_natCast]
  have hak : mm_ak lay_c nx = (0, 500) := by rcases hx with e | e <;> subst e <;> rfl
  have hn5 : nx ≠ 121 ∧ nx ≠ 122 := by omega
  have u6 : (mm_up (mm_up C 122 m ((s : Int) + 1)) nx c (m : Int)) 121 5 = (c : Int) := (up_n (Or.inl (Ne.symm hn5.1))).trans u5
  rw [hak, u6, mm_w_id (z := (c : Int) + 1) (by omega) (by omega)]
  refine mm_chk_i rfl ⟨bd500 hcl ha, ?_⟩
  have v122 : ∀ n, (mm_up (mm_up (mm_up C 122 m ((s : Int) + 1)) nx c (m : Int)) 121 5 ((c : Int) + 1)) 122 n = if n = m then (s : Int) + 1 else C 122 n := fun n => by
    rw [up_n (Or.inl (by decide)), up_n (Or.inl (Ne.symm hn5.2))]
    by_cases e : n = m
    · subst e; rw [up_s, if_pos rfl]
    · rw [up_n (Or.inr e), if_neg e]
  have vnx : ∀ i, (mm_up (mm_up (mm_up C 122 m ((s : Int) + 1)) nx c (m : Int)) 121 5 ((c : Int) + 1)) nx i = if i = c then (m : Int) else C nx i := fun i => by
    rw [up_n (Or.inl hn5.1)]
    by_cases e : i = c
    · subst e; rw [up_s, if_pos rfl]
    · rw [up_n (Or.inr e), up_n (Or.inl hn5.2), if_neg e]
  refine h _ ⟨fun q k a b d => ?_, ⟨c + 1, ?_, ?_, fun i hi => ?_, fun n hn hq => ?_⟩, fun n hn hq => ?_⟩ ?_ (fun n hn => ?_)
  · rw [up_n (by by_cases e : q = 121; exact Or.inr (d e); exact Or.inl e), up_n (Or.inl b), up_n (Or.inl a)]; exact w1 q k a b d
  · rw [up_s]; omega
  · have := sm_one (n := all N (Pn N)) (j := m) (f := fun n => if (if n = m then (s : Int) + 1 else C 122 n) = (s : Int) + 1 then (1 : Int) else 0) (g := fun n => if C 122 n = (s : Int) + 1 then 1 else 0) hm (fun k _ hkm => by simp [hkm])

    rw [if_pos rfl, if_pos rfl, if_neg g] at this
    rw [sm_congr (g := fun n => if (if n = m then (s : Int) + 1 else C 122 n) = (s : Int) + 1 then (1 : Int) else 0) (fun k _ => by rw [v122])]
    omega
  · rw [vnx]
    by_cases e : i = c
    · rw [if_pos e]; exact ⟨m, hm, rfl, by rw [v122, if_pos rfl]⟩
    · rw [if_neg e]
      obtain ⟨n, n1, n2, n3⟩ := c3 i (by omega)
      exact ⟨n, n1, n2, by rw [v122]; split; rfl; exact n3⟩
  · rw [v122] at hq
    by_cases e : n = m
    · subst e; exact ⟨⟨c, by omega, by rw [vnx, if_pos rfl]⟩, hp⟩
    · rw [if_neg e] at hq
      obtain ⟨⟨i, i1, i2⟩, i3⟩ := c4 n hn hq
      exact ⟨⟨i, by omega, by rw [vnx, if_neg (by omega)]; exact i2⟩, i3⟩
  · rw [v122] at hq ⊢
    by_cases e : n = m
    · subst e; rw [if_pos rfl] at hq; exact absurd rfl hq
    · rw [if_neg e] at hq ⊢; exact w3 n hn hq
  · rw [v122, if_pos rfl]
  · rw [v122]; split; rfl; exact hn
theorem WS_g {N : mm_M} {n0 s nx : Nat} (hx : nx = 123 ∨ nx = 124) {C0 C : mm_M} (hw : WS N n0 s nx C0 C) : (gD C0 N → gD C N) ∧ (vD C0 N → vD C N) := by
  have f : ∀ q k, q < 121 → C q k = C0 q k := fun q k hq => hw.1 q k (by omega) (by omega) (by omega)
  exact ⟨fun g => ⟨(f 115 1 (by decide)).trans g.1, (f 115 2 (by decide)).trans g.2.1, fun p hp => ⟨(f 116 p (by decide)).trans (g.2.2 p hp).1, (f 117 p (by decide)).trans (g.2.2 p hp).2⟩⟩, fun g n hn => ⟨(f 118 n (by decide)).trans (g n hn).1, (f 119 n (by decide)).trans (g n hn).2⟩⟩
theorem q0_offerChanges {N : mm_M} (hN : wf N) (ha : all N (Pn N) ≤ 500) {n0 s nx m : Nat} (hs : s ≤ 1000) (hx : nx = 123 ∨ nx = 124) {C0 C : mm_M} (hC0 : C0 121 4 = (nx : Int)) (hg : gD C0 N) (hv : vD C0 N) (hw : WS N n0 s nx C0 C) (hm : m < all N (Pn N)) (hp : Pth N n0 s m) {Q : mm_M → Prop}
    (h : ∀ C', WS N n0 s nx C0 C' → (∀ n, C 122 n = (s : Int) + 1 → C' 122 n = (s : Int) + 1) → (∀ o, Edge N m o → C' 122 o = (s : Int) + 1) → Q C') : mX0_offerChanges m ((s + 1 : Nat) : Int) C Q := by
  have hP := wf_P hN
  refine pk_loop (fun j (k : Nat) (C1 : mm_M) => bX0_offerChanges_2 j m ((s + 1 : Nat) : Int) k C1 Q) (fun k C1 => WS N n0 s nx C0 C1 ∧ (∀ n, C 122 n = (s : Int) + 1 → C1 122 n = (s : Int) + 1) ∧ ∀ p w, p < k → w < wn N p → pay N (tkn N m) p w < pay N (tkn N m) p (tkn N m p) → ∀ o : Nat, (o : Int) = m + ((w : Int) - tkn N m p) * ww N (Pn N - 1 - p) → C1 122 o = (s : Int) + 1) (Pn N) 0 C (Nat.zero_le _) ⟨hw, fun n hn => hn, fun p w hq => by omega⟩ ?_ ?_
  · rintro j C1 ⟨g1, g2, g3⟩
    unfold bX0_offerChanges_2
    rw [((WS_g hx g1).1 hg).2.1]
    refine ⟨fun _ => h C1 g1 g2 (fun o ho => ?_), fun g => by omega⟩
    obtain ⟨p, w, p1, p2, p3, p4⟩ := ho
    exact g3 p w p1 p2 p4 o p3
  · rintro j k C1 hk ⟨g1, g2, g3⟩ ih
    unfold bX0_offerChanges_2
    have hW := wf_w hN hk
    have hg1 := (WS_g hx g1).1 hg
    obtain ⟨e1, e2⟩ := hg1.2.2 k hk
    rw [hg1.2.1, Int.toNat_natCast, e2]
    refine ⟨fun g => by omega, fun _ => ⟨by omega, q0_wayIn hN hk (by omega) hg1 ?_⟩⟩
    refine pk_loop (fun i (w : Nat) (C2 : mm_M) => bX0_offerChanges_34 (fun v1 v2 v3 M => bX0_offerChanges_2 j v1 v2 v3 M Q) i m ((s + 1 : Nat) : Int) k ((ww N (Pn N - 1 - k) : Nat) : Int) (mm_w ((m : Int) - mm_w (((tkn N m k : Nat) : Int) * ((ww N (Pn N - 1 - k) : Nat) : Int)))) w C2 Q) (fun w C2 => WS N n0 s nx C0 C2 ∧ (∀ n, C1 122 n = (s : Int) + 1 → C2 122 n = (s : Int) + 1) ∧ ∀ w', w' < w → pay N (tkn N m) k w' < pay N (tkn N m) k (tkn N m k) → ∀ o : Nat, (o : Int) = m + ((w' : Int) - tkn N m k) * ww N (Pn N - 1 - k) → C2 122 o = (s : Int) + 1) (wn N k) 0 C1 (Nat.zero_le _) ⟨g1, fun n hn => hn, fun q hq => by omega⟩ ?_ ?_
    · rintro i C2 ⟨k1, k2, k3⟩
      unfold bX0_offerChanges_34
      rw [Int.toNat_natCast, (((WS_g hx k1).1 hg).2.2 k hk).1, w_1 hk (by omega)]
      refine ⟨by omega, fun _ => ih C2 ⟨k1, fun n hn => k2 n (g2 n hn), fun p w p1 p2 p3 o p4 => ?_⟩, fun g => by omega⟩
      by_cases e : p = k
      · subst e; exact k3 w p2 p3 o p4
      · exact k2 o (g3 p w (by omega) p2 p3 o p4)
    · rintro i w C2 hw2 ⟨k1, k2, k3⟩ ih2
      unfold bX0_offerChanges_34
      obtain ⟨o, o1, o2, o3, o4⟩ := oth hN ha hm hk hw2
      have hv2 := (WS_g hx k1).2 hv
      rw [o2, Int.toNat_natCast, Int.toNat_natCast, Int.toNat_natCast, (((WS_g hx k1).1 hg).2.2 k hk).1, (hv2 m hm).2, (hv2 o o1).2, w_1 hw2 (by omega)]
      refine ⟨by omega, fun g => by omega, fun _ => ⟨bd500 o1 ha, bd500 hm ha, fun q => ih2 C2 ⟨k1, k2, fun w' hw' hq o' ho' => ?_⟩, fun q => ?_⟩⟩
      · by_cases e : w' = w
        · subst e; omega
        · exact k3 w' (by omega) hq o' ho'
      · have hlt : pay N (tkn N m) k w < pay N (tkn N m) k (tkn N m k) := by omega
        refine q5_offer ha hs hx hC0 k1 o1 ⟨m, hm, hp, k, w, hk, hw2, o3, hlt⟩ (fun C3 l1 l2 l3 => ih2 C3 ⟨l1, fun n hn => l3 n (k2 n hn), fun w' hw' hq o' ho' => ?_⟩)
        by_cases e : w' = w
        · subst e
          have : o' = o := Int.ofNat.inj (ho'.trans o3.symm)
          subst this; exact l2
        · exact l3 o' (k3 w' (by omega) hq o' ho')
