/-! answers: the net, the players -/
theorem cy1 {A B : Prop} (h : A) : (¬ (1 : Int) = 0 → A) ∧ ((1 : Int) = 0 → B) := ⟨fun _ => h, fun e => absurd e (by decide)⟩
theorem cn0 {A B : Prop} (h : B) : (¬ (0 : Int) = 0 → A) ∧ ((0 : Int) = 0 → B) := ⟨fun e => absurd rfl e, fun _ => h⟩
theorem dy1 {A B : Prop} (h : B) : ((1 : Int) = 0 → A) ∧ (¬ (1 : Int) = 0 → B) := ⟨fun e => absurd e (by decide), fun _ => h⟩
theorem dn0 {A B : Prop} (h : A) : ((0 : Int) = 0 → A) ∧ (¬ (0 : Int) = 0 → B) := ⟨fun _ => h, fun e => absurd rfl e⟩
def mJ (M T : mm_M) (tk : Nat → Nat) (L X : mm_M) (h : Int) : Prop := mI M T tk L X ∧ M 0 56 = h
def isW (T : mm_M) (v u : Int) : Prop := (0 ≤ v ∧ v < T 0 9) ∧ (0 ≤ u ∧ u < T 8 v.toNat)
noncomputable def gl (T : mm_M) (tk : Nat → Nat) : Int := the (fun z => (∀ r, r < Rn T → lod T tk r ≤ z) ∧ (z = 0 ∨ ∃ r, r < Rn T ∧ z = lod T tk r))
noncomputable def v_about (T : mm_M) (tk : Nat → Nat) (z : Int) : Int := if z = 0 then T 0 0 else if z = 1 then T 0 1 else if z = 2 then T 0 7 else if z = 3 then soc T tk else if z = 4 then pot T tk else if z = 5 then (if rz T tk (-1) = -1 then 1 else 0) else if z = 6 then (all T (Pn T) : Int) else gl T tk
def v_road (T : mm_M) (tk : Nat → Nat) (r : Nat) (z : Int) : Int := if z = 0 then T 1 r else if z = 1 then T 2 r else if z = 2 then T 3 r else if z = 3 then T 4 r else if z = 4 then T 5 r else if z = 5 then lod T tk r else if z = 6 then (if lod T tk r = 0 then -1 else prc T r (lod T tk r)) else prc T r (lod T tk r + 1)
def v_who (T : mm_M) (tk : Nat → Nat) (p : Nat) (z : Int) : Int := if z = 0 then T 6 p else if z = 1 then T 7 p else if z = 2 then T 8 p else if z = 3 then (tk p : Int) else if z = 4 then pay T tk p (tk p) else if z = 5 then (bestw T tk p : Int) else pay T tk p (bestw T tk p)
def v_count (T L X : mm_M) (z : Int) : Int := if z = 0 then T 0 1 else if z = 1 then T 0 9 else if z = 2 then L 0 18 else if z = 3 then X 0 23 else if z = 4 then X 0 8 else if z = 5 then X 0 16 else if z = 6 then X 0 17 else -102
section S55
variable {T L X : mm_M} {tk : Nat → Nat} {C M : mm_M} {Q : Int → mm_M → Prop} {hh : Int}
theorem mJ.o19 {M' : mm_M} (a : mJ M T tk L X hh) (o : o19 M M') : mJ M' T tk L X hh := ⟨a.1.o19 o, (o 0 56 (by decide)).trans a.2⟩
theorem mJ.osc {M' : mm_M} {t' : Nat → Nat} (a : mJ M T tk L X hh) (o : osc M M') (hm : ms M' T t') : mJ M' T t' L X hh := ⟨a.1.osc o hm, (o 0 56 (fun _ => by omega) (by decide) (by decide) (by decide) (by decide) (by decide) (by decide)).trans a.2⟩
theorem mJ.oln {M' : mm_M} (a : mJ M T tk L X hh) (o : oln M M') : mJ M' T tk L X hh := ⟨a.1.oln o, (o 0 56 (fun _ => by omega) (by omega)).trans a.2⟩
theorem mI.J (a : mI M T tk L X) : mJ M T tk L X (M 0 56) := ⟨a, rfl⟩
theorem isW_i (hT : wf T) {p w : Nat} (hp : p < Pn T) (hv : w < wn T p) : isW T p w := by
  have h1 := wf_P hT
  have h2 := wf_w hT hp
  unfold isW
  rw [Int.toNat_natCast]
  omega
theorem q7_hasNet (hc : cI C T tk L X) (h1 : 0 < T 0 1 → Q 1 C) (h0 : T 0 1 ≤ 0 → Q 0 C) : mX7_hasNet C Q := by
  unfold mX7_hasNet
  rw [hc.1.1.2.1.2.2.1]
  exact ⟨fun g => ⟨Or.inl rfl, h0 g⟩, fun g => ⟨Or.inr rfl, h1 g⟩⟩
theorem q8_isNetT (hw : wI T tk L X) (hm : mI M T tk L X) (h1 : 0 < T 0 1 → Q 1 M) (h0 : T 0 1 ≤ 0 → Q 0 M) : mX8_isNet M Q := by
  have hn := hw.2.2.1
  unfold netc at hn
  refine q8_isNet (fun a => h1 ?_) (fun a => h0 ?_) <;> (rw [pj_r hm.1.1 (q := 0) (k := 0) rfl] at a; omega)
theorem q7_isRoad (hw : wI T tk L X) (hc : cI C T tk L X) {v : Int} (h1 : ∀ r : Nat, v = r → r < Rn T → Q 1 C) (h0 : ¬ (0 ≤ v ∧ v < T 0 1) → Q 0 C) : mX7_isRoad v C Q := by
  have hR := wf_R hw.1
  unfold mX7_isRoad
  rw [hc.1.1.2.1.2.2.1, mm_w_id (by omega) (by omega)]
  exact q7_within (fun a b => ⟨Or.inr rfl, h1 v.toNat (by omega) (by omega)⟩) (fun a => ⟨Or.inl rfl, h0 (by omega)⟩)
theorem q8_isRoad (hw : wI T tk L X) (hm : mI M T tk L X) {v : Int} (h1 : ∀ r : Nat, v = r → r < Rn T → Q 1 M) (h0 : ¬ (0 ≤ v ∧ v < T 0 1) → Q 0 M) : mX8_isRoad v M Q := by
  have hR := wf_R hw.1
  unfold mX8_isRoad
  refine q8_isNetT hw hm (fun a => dy1 ?_) (fun a => dn0 ⟨Or.inl rfl, h0 (by omega)⟩)
  rw [pj_r hm.1.1 (q := 0) (k := 1) rfl, mm_w_id (by omega) (by omega)]
  exact q8_within (fun a b => dy1 ⟨Or.inr rfl, h1 v.toNat (by omega) (by omega)⟩) (fun a => dn0 ⟨Or.inl rfl, h0 (by omega)⟩)
theorem q7_isPlayer (hw : wI T tk L X) (hc : cI C T tk L X) {v : Int} (h1 : ∀ p : Nat, v = p → p < Pn T → Q 1 C) (h0 : ¬ (0 ≤ v ∧ v < T 0 9) → Q 0 C) : mX7_isPlayer v C Q := by
  have hP := wf_P hw.1
  unfold mX7_isPlayer
  rw [hc.1.1.1, mm_w_id (by omega) (by omega)]
  exact q7_within (fun a b => ⟨Or.inr rfl, h1 v.toNat (by omega) (by omega)⟩) (fun a => ⟨Or.inl rfl, h0 (by omega)⟩)
theorem q8_isPlayer (hw : wI T tk L X) (hm : mI M T tk L X) {v : Int} (h1 : ∀ p : Nat, v = p → p < Pn T → Q 1 M) (h0 : ¬ (0 ≤ v ∧ v < T 0 9) → Q 0 M) : mX8_isPlayer v M Q := by
  have hP := wf_P hw.1
  unfold mX8_isPlayer
  rw [pj_r hm.1.1 (q := 0) (k := 9) rfl, mm_w_id (by omega) (by omega)]
  exact q8_within (fun a b => ⟨Or.inr rfl, h1 v.toNat (by omega) (by omega)⟩) (fun a => ⟨Or.inl rfl, h0 (by omega)⟩)
theorem q7_isWay (hw : wI T tk L X) (hc : cI C T tk L X) {v u : Int} (h1 : ∀ p w : Nat, v = p → u = w → p < Pn T → w < wn T p → Q 1 C) (h0 : ¬ isW T v u → Q 0 C) : mX7_isWay v u C Q := by
  have hP := wf_P hw.1
  unfold mX7_isWay
  refine q7_isPlayer hw hc (fun p e hp => dy1 ?_) (fun g => dn0 ⟨Or.inl rfl, h0 (fun i => g i.1)⟩)
  subst e
  have hW := wf_w hw.1 hp
  rw [Int.toNat_natCast]
  refine ⟨by omega, mm_chk_i (kd_p (by omega)) ?_⟩
  rw [(hc.1.1.2.2.2 p hp).2.2.1, mm_w_id (by omega) (by omega)]
  exact q7_within (fun a b => dy1 ⟨Or.inr rfl, h1 p u.toNat rfl (by omega) hp (by omega)⟩) (fun a => dn0 ⟨Or.inl rfl, h0 (fun i => by have := i.2; rw [Int.toNat_natCast] at this; omega)⟩)
theorem q8_isWay (hw : wI T tk L X) (hm : mI M T tk L X) {v u : Int} (h1 : ∀ p w : Nat, v = p → u = w → p < Pn T → w < wn T p → Q 1 M) (h0 : ¬ isW T v u → Q 0 M) : mX8_isWay v u M Q := by
  have hP := wf_P hw.1
  unfold mX8_isWay
  refine q8_isPlayer hw hm (fun p e hp => dy1 ?_) (fun g => dn0 ⟨Or.inl rfl, h0 (fun i => g i.1)⟩)
  subst e
  have hW := wf_w hw.1 hp
  rw [Int.toNat_natCast]
  refine ⟨by omega, ?_⟩
  rw [pj_r hm.1.1 (q := 8) (k := p) rfl, mm_w_id (by omega) (by omega)]
  exact q8_within (fun a b => dy1 ⟨Or.inr rfl, h1 p u.toNat rfl (by omega) hp (by omega)⟩) (fun a => dn0 ⟨Or.inl rfl, h0 (fun i => by have := i.2; rw [Int.toNat_natCast] at this; omega)⟩)
theorem gl_eq (hT : wf T) (ht : wfT T tk) {z : Int} (a : ∀ r, r < Rn T → lod T tk r ≤ z) (b : z = 0 ∨ ∃ r, r < Rn T ∧ z = lod T tk r) : z = gl T tk :=
  the_eq (p := fun z => (∀ r, r < Rn T → lod T tk r ≤ z) ∧ (z = 0 ∨ ∃ r, r < Rn T ∧ z = lod T tk r)) ⟨a, b⟩ (fun x y hx hy => by
    obtain ⟨x1, x2⟩ := hx
    obtain ⟨y1, y2⟩ := hy
    rcases x2 with ex | ⟨r, hr, ex⟩ <;> rcases y2 with ey | ⟨s, hs, ey⟩
    · omega
    · have := x1 s hs; have := (lod_bd hT ht s).1; omega
    · have := y1 r hr; have := (lod_bd hT ht r).1; omega
    · have := x1 s hs; have := y1 r hr; omega)
theorem q7_aboutV (hw : wI T tk L X) (hc : cI C T tk L X) (hn : 0 < T 0 1) {z : Int} (hz : 0 ≤ z ∧ z ≤ 7) (h : Q (v_about T tk z) C) : mX7_about z C Q := by
  obtain ⟨hT, ht, -⟩ := hw
  have hd := hc.1.1.2.1
  unfold mX7_about
  refine q7_within (fun _ _ => cy1 (q7_hasNet hc (fun _ => cy1 ?_) (fun g => by omega))) (fun g => by omega)
  refine ⟨fun g => ?_, fun g => ?_, fun g => ?_, fun g => ?_, fun g => ?_, fun g => ?_, fun g => ?_, fun g => ?_, trivial⟩
  · have e : z = 7 := by omega
    subst e
    refine q6_greatestLoad hT ht hc.1 (fun z a b => ?_)
    rw [gl_eq hT ht a b]; exact h
  · subst g; rw [hd.2.1]; exact h
  · subst g; rw [hd.2.2.1]; exact h
  · subst g; rw [hd.1]; exact h
  · subst g; exact q6_socialNow hT ht hc.1 h
  · subst g; exact q6_potentialNow hT ht hc.1 h
  · subst g
    have e2 : v_about T tk 5 = if rz T tk (-1) = -1 then 1 else 0 := rfl
    refine q6_restsNow hT ht hc.1 (fun a => dy1 ?_) (fun z a b => dn0 ?_)
    · rw [e2, if_pos (rz_eq a)] at h; exact h
    · rw [e2, if_neg (by rw [rz_eq b]; exact a)] at h; exact h
  · subst g; exact q6_setsInAll hT hc.1.1 h
theorem q8_aboutV (hw : wI T tk L X) (hm : mJ M T tk L X hh) {z : Int} (hz : 0 ≤ z ∧ z ≤ 7) (k : ∀ M', mJ M' T tk L X hh → Q (v_about T tk z) M') : mX8_aboutNow z M Q := by
  obtain ⟨hT, ht, -⟩ := hw
  unfold mX8_aboutNow
  refine ⟨fun g => ?_, fun g => ?_, fun g => ?_, fun g => ?_, fun g => ?_, fun g => ?_, fun g => ?_, fun g => ?_, trivial⟩
  · have e : z = 7 := by omega
    subst e
    refine q8_greatestLoad hT ht hm.1.1 (fun M' z a b c => ?_)
    rw [gl_eq hT ht b c]; exact k M' (hm.o19 a)
  · subst g; rw [pj_r hm.1.1.1 (q := 0) (k := 0) rfl]; exact k M hm
  · subst g; rw [pj_r hm.1.1.1 (q := 0) (k := 1) rfl]; exact k M hm
  · subst g; rw [pj_r hm.1.1.1 (q := 0) (k := 7) rfl]; exact k M hm
  · subst g; exact q8_socialNow hT ht hm.1.1 (fun M' a _ => k M' (hm.o19 a))
  · subst g; exact q8_potentialNow hT ht hm.1.1 (fun M' a _ => k M' (hm.o19 a))
  · subst g
    have e2 : v_about T tk 5 = if rz T tk (-1) = -1 then 1 else 0 := rfl
    refine q8_restless hT ht hm.1.1 (fun z M' a b => ?_)
    have e := rz_eq b
    have h := k M' (hm.o19 a)
    rw [e2, e] at h
    refine ⟨fun g => ?_, fun g => ?_⟩
    · rw [if_neg g] at h; exact h
    · rw [if_pos g] at h; exact h
  · subst g; exact q8_setsAll hT hm.1.1 (k M hm)
theorem q7_roadV (hw : wI T tk L X) (hc : cI C T tk L X) {r : Nat} (hr : r < Rn T) {z : Int} (hz : 0 ≤ z ∧ z ≤ 7) (h : Q (v_road T tk r z) C) : mX7_road r z C Q := by
  obtain ⟨hT, ht, -⟩ := id hw
  have hR := wf_R hT
  have hP := wf_P hT
  have hd := hc.1.1.2.1.2.2.2 r hr
  have hl := hc.1.2.2 r (by omega)
  have hb := lod_bd hT ht r
  have hx := hc.1.1.2.2.1 r hr
  unfold mX7_road
  refine q7_isRoad hw hc (fun r' e hr' => cy1 (q7_within (fun _ _ => cy1 ?_) (fun g => by omega))) (fun g => by omega)
  rw [Int.toNat_natCast, hl, ak_r r (by omega)]
  refine ⟨by omega, fun g => ⟨by omega, mm_chk_i rfl ?_⟩, fun g => ⟨by omega, ?_⟩, fun g => ⟨by omega, ?_⟩, fun g => ⟨by omega, ?_⟩, fun g => ⟨by omega, ?_⟩, fun g => ⟨by omega, ?_⟩, fun g => ?_, fun g => ⟨fun g2 => ⟨by omega, mm_chk_i rfl ?_⟩, fun g2 => ?_⟩, trivial⟩
  · have e : z = 7 := by omega
    subst e
    rw [mm_w_id (z := lod T tk r + 1) (by omega) (by omega)]
    refine ⟨⟨by omega, by show _ < (7 : Int); omega⟩, ?_⟩
    rw [hx _ (by omega) (by omega), Int.toNat_of_nonneg (by omega)]; exact h
  · subst g; rw [hd.1]; exact h
  · subst g; rw [hd.2.1]; exact h
  · subst g; rw [hd.2.2.1]; exact h
  · subst g; rw [hd.2.2.2.1]; exact h
  · subst g; rw [hd.2.2.2.2]; exact h
  · subst g; exact h
  · subst g
    refine ⟨⟨by omega, by show _ < (7 : Int); omega⟩, ?_⟩
    have e2 : v_road T tk r 6 = if lod T tk r = 0 then -1 else prc T r (lod T tk r) := rfl
    rw [hx _ (by omega) (by omega), Int.toNat_of_nonneg (by omega)]
    rw [e2, if_neg g2] at h; exact h
  · subst g
    have e2 : v_road T tk r 6 = if lod T tk r = 0 then -1 else prc T r (lod T tk r) := rfl
    rw [e2, if_pos g2] at h; exact h
theorem q8_roadV (hw : wI T tk L X) (hm : mJ M T tk L X hh) {r : Nat} (hr : r < Rn T) {z : Int} (hz : 0 ≤ z ∧ z ≤ 7) (k : ∀ M', mJ M' T tk L X hh → Q (v_road T tk r z) M') : mX8_roadNow r z M Q := by
  obtain ⟨hT, ht, -⟩ := id hw
  have hR := wf_R hT
  have hP := wf_P hT
  have hb := lod_bd hT ht r
  unfold mX8_roadNow
  refine q8_layLoad hT ht hm.1.1 (fun M' a b => ?_)
  have hm' := hm.o19 a
  have h := k M' hm'
  have hj := hm'.1.1.1
  rw [Int.toNat_natCast, b r (by omega)]
  refine ⟨fun g => ⟨by omega, ?_⟩, fun g => ⟨by omega, ?_⟩, fun g => ⟨by omega, ?_⟩, fun g => ⟨by omega, ?_⟩, fun g => ⟨by omega, ?_⟩, fun g => ⟨by omega, ?_⟩, fun g => ⟨by omega, ?_⟩, fun g => ⟨by omega, fun g2 => ⟨by omega, ?_⟩, fun g2 => ?_⟩, trivial⟩
  · have e : z = 7 := by omega
    subst e
    rw [mm_w_id (z := lod T tk r + 1) (by omega) (by omega)]
    exact q8_payAt hT hr (by omega) hm'.1.1 h
  · subst g; rw [pj_r hj (q := 1) (k := r) rfl]; exact h
  · subst g; rw [pj_r hj (q := 2) (k := r) rfl]; exact h
  · subst g; rw [pj_r hj (q := 3) (k := r) rfl]; exact h
  · subst g; rw [pj_r hj (q := 4) (k := r) rfl]; exact h
  · subst g; rw [pj_r hj (q := 5) (k := r) rfl]; exact h
  · subst g; exact h
  · subst g
    have e2 : v_road T tk r 6 = if lod T tk r = 0 then -1 else prc T r (lod T tk r) := rfl
    rw [e2, if_neg g2] at h
    exact q8_payAt hT hr (by omega) hm'.1.1 h
  · subst g
    have e2 : v_road T tk r 6 = if lod T tk r = 0 then -1 else prc T r (lod T tk r) := rfl
    rw [e2, if_pos g2] at h; exact h
theorem q7_whoV (hw : wI T tk L X) (hc : cI C T tk L X) {p : Nat} (hp : p < Pn T) {z : Int} (hz : 0 ≤ z ∧ z ≤ 6) (h : Q (v_who T tk p z) C) : mX7_who p z C Q := by
  obtain ⟨hT, ht, -⟩ := id hw
  have hP := wf_P hT
  have hd := hc.1.1.2.2.2 p hp
  have h3 := hc.1.2.1 p hp
  have hk := kd_p (p := p) (by omega)
  unfold mX7_who
  refine q7_isPlayer hw hc (fun r' e hr' => cy1 (q7_within (fun _ _ => cy1 ?_) (fun g => by omega))) (fun g => by omega)
  rw [Int.toNat_natCast]
  refine ⟨by omega, fun g => ?_, fun g => mm_chk_i hk ?_, fun g => mm_chk_i hk ?_, fun g => mm_chk_i hk ?_, fun g => mm_chk_i hk ?_, fun g => mm_chk_i hk ?_, fun g => ?_, trivial⟩
  · have e : z = 6 := by omega
    subst e
    exact q6_bestWayOf hT ht hp hc.1 (q6_payBy hT ht hp (bestw_lt (ht p hp)) hc.1 h)
  · subst g; rw [hd.1]; exact h
  · subst g; rw [hd.2.1]; exact h
  · subst g; rw [hd.2.2.1]; exact h
  · subst g; rw [h3]; exact h
  · subst g; rw [h3]; exact q6_payBy hT ht hp (ht p hp) hc.1 h
  · subst g; exact q6_bestWayOf hT ht hp hc.1 h
theorem q8_whoV (hw : wI T tk L X) (hm : mJ M T tk L X hh) {p : Nat} (hp : p < Pn T) {z : Int} (hz : 0 ≤ z ∧ z ≤ 6) (k : ∀ M', mJ M' T tk L X hh → Q (v_who T tk p z) M') : mX8_whoNow p z M Q := by
  obtain ⟨hT, ht, -⟩ := id hw
  have hP := wf_P hT
  have h3 := hm.1.1.2 p hp
  have hj := hm.1.1.1
  unfold mX8_whoNow
  rw [Int.toNat_natCast]
  refine ⟨fun g => ?_, fun g => ⟨by omega, ?_⟩, fun g => ⟨by omega, ?_⟩, fun g => ⟨by omega, ?_⟩, fun g => ⟨by omega, ?_⟩, fun g => ⟨by omega, ?_⟩, fun g => ?_, trivial⟩
  · have e : z = 6 := by omega
    subst e
    exact q8_bestWay hT ht hp hm.1.1 (fun M1 a _ => q8_payOf hT ht hp (bestw_lt (ht p hp)) (hm.o19 a).1.1 (fun M2 b _ => k M2 ((hm.o19 a).o19 b)))
  · subst g; rw [pj_r hj (q := 6) (k := p) rfl]; exact k M hm
  · subst g; rw [pj_r hj (q := 7) (k := p) rfl]; exact k M hm
  · subst g; rw [pj_r hj (q := 8) (k := p) rfl]; exact k M hm
  · subst g; rw [h3]; exact k M hm
  · subst g; rw [h3]; exact q8_payOf hT ht hp (ht p hp) hm.1.1 (fun M1 a _ => k M1 (hm.o19 a))
  · subst g; exact q8_bestWay hT ht hp hm.1.1 (fun M1 a _ => k M1 (hm.o19 a))
theorem q7_countV (hc : cI C T tk L X) {z : Int} (h : Q (v_count T L X z) C) : mX7_count z C Q := by
  obtain ⟨h1, -, -, h4, -, h6⟩ := hc
  unfold mX7_count
  rw [h1.1.2.1.2.2.1, h1.1.1, h4.1, h6.1, h6.2.2.1, h6.2.2.2.1, h6.2.2.2.2]
  refine ⟨fun g => ?_, fun g => ?_, fun g => ?_, fun g => ?_, fun g => ?_, fun g => ?_, fun g => ?_, fun g => ?_, trivial⟩
  · unfold v_count at h
    rw [if_neg (by omega), if_neg (by omega), if_neg (by omega), if_neg (by omega), if_neg (by omega), if_neg (by omega), if_neg (by omega)] at h; exact h
  all_goals (subst g; exact h)
theorem q8_countV (hm : mI M T tk L X) {z : Int} (h : Q (v_count T L X z) M) : mX8_howMany z M Q := by
  unfold mX8_howMany
  rw [pj_r hm.1.1 (q := 0) (k := 1) rfl, pj_r hm.1.1 (q := 0) (k := 9) rfl, lj_r hm.2.1 (q := 0) (k := 18) (by decide), xj_r hm.2.2 (q := 0) (k := 23) (by decide), xj_r hm.2.2 (q := 0) (k := 8) (by decide), xj_r hm.2.2 (q := 0) (k := 16) (by decide), xj_r hm.2.2 (q := 0) (k := 17) (by decide)]
  refine ⟨fun g => ?_, fun g => ?_, fun g => ?_, fun g => ?_, fun g => ?_, fun g => ?_, fun g => ?_, fun g => ?_, trivial⟩
  · unfold v_count at h
    rw [if_neg (by omega), if_neg (by omega), if_neg (by omega), if_neg (by omega), if_neg (by omega), if_neg (by omega), if_neg (by omega)] at h; exact h
  all_goals (subst g; exact h)
end S55
