/-! lanes: what both reckon -/
theorem mul_bd {a b A B : Int} (h : 0 ≤ a ∧ a ≤ A) (h2 : 0 ≤ b ∧ b ≤ B) : 0 ≤ a * b ∧ a * b ≤ A * B := ⟨Int.mul_nonneg h.1 h2.1, Int.mul_le_mul h.2 h2.2 h2.1 (by omega)⟩
def Ln (N : mm_M) : Nat := (N 0 18).toNat
def wt (N : mm_M) (k : Nat) : Int := if N 13 k = 1 then 4 else if N 13 k = 2 then 2 else 1
def wfL (N : mm_M) : Prop := (0 ≤ N 0 18 ∧ N 0 18 ≤ 5) ∧ (∀ k, k < Ln N → (0 ≤ N 12 k ∧ N 12 k ≤ 20) ∧ (N 13 k = 1 ∨ N 13 k = 2 ∨ N 13 k = 4)) ∧ (1 ≤ N 0 21 ∧ N 0 21 ≤ 40) ∧ (0 ≤ N 0 22 ∧ N 0 22 ≤ 10)
theorem wfL_n {N : mm_M} (h : wfL N) : (Ln N : Int) = N 0 18 ∧ Ln N ≤ 5 := by have := h.1; unfold Ln; omega
theorem wt_bd (N : mm_M) (k : Nat) : 1 ≤ wt N k ∧ wt N k ≤ 4 := by unfold wt; split; omega; split <;> omega
theorem wt_B {N : mm_M} (h : wfL N) {k : Nat} (hk : k < Ln N) : wt N k * N 13 k = 4 := by
  unfold wt
  rcases (h.2.1 k hk).2 with e | e | e <;> rw [e] <;> rfl
def mx (z : Int) : Int := if 0 < z then z else 0
theorem mx_p {z : Int} (h : 0 ≤ z) : mx z = z := by unfold mx; split <;> omega
theorem mx_n {z : Int} (h : z ≤ 0) : mx z = 0 := by unfold mx; split <;> omega
theorem mx_0 (z : Int) : 0 ≤ mx z := by unfold mx; split <;> omega
theorem mx_ge (z : Int) : z ≤ mx z := by unfold mx; split <;> omega
theorem mx_mul (z : Int) {t : Int} (h : 0 < t) : mx z * t = mx (z * t) := by
  by_cases e : 0 ≤ z
  · rw [mx_p e, mx_p (Int.mul_nonneg e (by omega))]
  · rw [mx_n (by omega), mx_n (by have := Int.mul_neg_of_neg_of_pos (show z < 0 by omega) h; omega)]; omega
theorem mx_mono {a b : Int} (h : a ≤ b) : mx a ≤ mx b := by unfold mx; split <;> split <;> omega
theorem sm_pos_ex {n : Nat} {f : Nat → Int} (h : 0 < sm n f) : ∃ k, k < n ∧ 0 < f k := by
  induction n with
  | zero => exact absurd h (by show ¬ (0 : Int) < 0; omega)
  | succ n ih =>
    have h' : 0 < sm n f + f n := h
    by_cases e : 0 < f n
    · exact ⟨n, by omega, e⟩
    · obtain ⟨k, k1, k2⟩ := ih (by omega)
      exact ⟨k, by omega, k2⟩
theorem sm_nn_ex {n : Nat} {f : Nat → Int} (hn : 1 ≤ n) (h : 0 ≤ sm n f) : ∃ k, k < n ∧ 0 ≤ f k := by
  obtain ⟨k, k1, k2⟩ := sm_pos_ex (n := n) (f := fun k => f k + 1) (by rw [sm_add, sm_const]; omega)
  exact ⟨k, k1, by omega⟩
theorem sm_0all {n : Nat} {f : Nat → Int} (h0 : ∀ k, k < n → 0 ≤ f k) (h : sm n f ≤ 0) {k : Nat} (hk : k < n) : f k = 0 := by
  by_cases e : 0 < f k
  · have := sm_lt (n := n) (j := k) (f := fun _ => 0) (g := f) hk h0 e
    rw [sm_const] at this
    omega
  · have := h0 k hk; omega
theorem sm_ge1 {n : Nat} {f : Nat → Int} (h0 : ∀ k, k < n → 0 ≤ f k) {k : Nat} (hk : k < n) : f k ≤ sm n f := by
  have := sm_one (f := f) (g := fun j => if j = k then 0 else f j) hk (fun j _ hj => by simp [hj])
  have h2 := sm_le (n := n) (f := fun _ => 0) (g := fun j => if j = k then 0 else f j) (fun j hj => by
    by_cases e : j = k
    · simp [e]
    · simp [e]; exact h0 j hj)
  rw [sm_const] at h2
  simp at this
  omega
/-- a level: an amount c above the ground g, in parts of W -/
def isLv (N : mm_M) (g : Nat → Int) (c V W : Int) : Prop := (1 ≤ W ∧ W ≤ 20) ∧ sm (Ln N) (fun k => wt N k * mx (V - g k * W)) = c * W
theorem lv_eq {n : Nat} {w h : Nat → Int} (hw : ∀ k, k < n → 1 ≤ w k) {a b T : Int} (hT : 0 < T) (h1 : sm n (fun k => w k * mx (a - h k)) = T) (h2 : sm n (fun k => w k * mx (b - h k)) = T) : a = b := by
  have key : ∀ a b : Int, sm n (fun k => w k * mx (a - h k)) = T → sm n (fun k => w k * mx (b - h k)) = T → ¬ a < b := by
    intro a b h1 h2 hab
    obtain ⟨k, k1, k2⟩ := sm_pos_ex (n := n) (f := fun k => w k * mx (a - h k)) (by omega)
    have hk : 0 < mx (a - h k) := by
      by_cases e : 0 < mx (a - h k)
      · exact e
      · have := mx_0 (a - h k)
        rw [show mx (a - h k) = 0 by omega, Int.mul_zero] at k2; omega
    have hp : 0 < a - h k := by
      by_cases e : 0 < a - h k
      · exact e
      · rw [mx_n (by omega)] at hk; omega
    have := sm_lt (n := n) (j := k) (f := fun k => w k * mx (a - h k)) (g := fun k => w k * mx (b - h k)) k1 (fun j hj => Int.mul_le_mul_of_nonneg_left (mx_mono (by omega)) (by have := hw j hj; omega)) (Int.mul_lt_mul_of_pos_left (by rw [mx_p (by omega), mx_p (by omega)]; omega) (by have := hw k k1; omega))
    omega
  have := key a b h1 h2
  have := key b a h2 h1
  omega
/-- levels over grounds and amounts in proportion -/
theorem lv_u {N : mm_M} {g g' : Nat → Int} {c c' V W V' W' P P' : Int} (h : isLv N g c V W) (h' : isLv N g' c' V' W') (hP : 0 < P) (hP' : 0 < P') (hg : ∀ k, k < Ln N → g k * P' = g' k * P) (hc : c * P' = c' * P) (h0 : 0 < c) : V * P' * W' = V' * P * W := by
  have hW : 0 < W := by have := h.1; omega
  have hW' : 0 < W' := by have := h'.1; omega
  have e1 : sm (Ln N) (fun k => wt N k * mx (V * P' * W' - g k * P' * W * W')) = c * W * (P' * W') := by
    rw [← h.2, Int.mul_comm _ (P' * W'), ← sm_mul]
    refine sm_congr (fun k hk => ?_)
    rw [show V * P' * W' - g k * P' * W * W' = (V - g k * W) * (P' * W') by grind, ← mx_mul _ (Int.mul_pos hP' hW')]
    grind
  have e2 : sm (Ln N) (fun k => wt N k * mx (V' * P * W - g k * P' * W * W')) = c * W * (P' * W') := by
    rw [show c * W * (P' * W') = c' * W' * (P * W) by grind, ← h'.2, Int.mul_comm _ (P * W), ← sm_mul]
    refine sm_congr (fun k hk => ?_)
    rw [hg k hk, show V' * P * W - g' k * P * W * W' = (V' - g' k * W') * (P * W) by grind, ← mx_mul _ (Int.mul_pos hP hW)]
    grind
  exact lv_eq (fun k _ => (wt_bd N k).1) (Int.mul_pos (Int.mul_pos h0 hW) (Int.mul_pos hP' hW')) e1 e2
theorem lv_x {N : mm_M} {g g' : Nat → Int} {c c' V W V' W' P P' : Int} (h : isLv N g c V W) (h' : isLv N g' c' V' W') (hP : 0 < P) (hP' : 0 < P') (hg : ∀ k, k < Ln N → g k * P' = g' k * P) (hc : c * P' = c' * P) (h0 : 0 < c) {k : Nat} (hk : k < Ln N) : wt N k * mx (V - g k * W) * (P' * W') = wt N k * mx (V' - g' k * W') * (P * W) := by
  have hW : 0 < W := by have := h.1; omega
  have hW' : 0 < W' := by have := h'.1; omega
  have e := lv_u h h' hP hP' hg hc h0
  have e2 := hg k hk
  rw [Int.mul_assoc, Int.mul_assoc, mx_mul _ (Int.mul_pos hP' hW'), mx_mul _ (Int.mul_pos hP hW), show (V - g k * W) * (P' * W') = (V' - g' k * W') * (P * W) by grind]
theorem lv_le {N : mm_M} {g : Nat → Int} {c V W : Int} (h : isLv N g c V W) {k : Nat} (hk : k < Ln N) : 0 ≤ wt N k * mx (V - g k * W) ∧ wt N k * mx (V - g k * W) ≤ c * W := by
  have f : ∀ k, k < Ln N → 0 ≤ wt N k * mx (V - g k * W) := fun k _ => Int.mul_nonneg (by have := wt_bd N k; omega) (mx_0 _)
  refine ⟨f k hk, ?_⟩
  rw [← h.2]
  exact sm_ge1 (f := fun k => wt N k * mx (V - g k * W)) f hk
/-- open lanes: their weight, and their grounds by weight -/
def WO (N : mm_M) (O : Nat → Bool) : Int := sm (Ln N) (fun k => if O k = true then wt N k else 0)
def SO (N : mm_M) (g : Nat → Int) (O : Nat → Bool) : Int := sm (Ln N) (fun k => if O k = true then wt N k * g k else 0)
theorem WO_bd {N : mm_M} (h : wfL N) (O : Nat → Bool) : 0 ≤ WO N O ∧ WO N O ≤ 20 := by
  have := sm_bd (n := Ln N) (f := fun k => if O k = true then wt N k else 0) (c := 4) (fun k _ => by have := wt_bd N k; split <;> omega)
  have := wfL_n h
  unfold WO
  omega
theorem WO_pos {N : mm_M} {O : Nat → Bool} {k : Nat} (hk : k < Ln N) (ho : O k = true) : 1 ≤ WO N O := by
  have := sm_ge1 (n := Ln N) (f := fun k => if O k = true then wt N k else 0) (fun k _ => by have := wt_bd N k; split <;> omega) hk
  rw [if_pos ho] at this
  have := wt_bd N k
  unfold WO
  omega
theorem SO_bd {N : mm_M} (h : wfL N) {g : Nat → Int} {G : Int} (hg : ∀ k, k < Ln N → 0 ≤ g k ∧ g k ≤ G) (hG : 0 ≤ G) (O : Nat → Bool) : 0 ≤ SO N g O ∧ SO N g O ≤ 20 * G := by
  have h1 := sm_bd (n := Ln N) (f := fun k => if O k = true then wt N k * g k else 0) (c := 4 * G) (fun k hk => by
    have := mul_bd (A := 4) (B := G) (show 0 ≤ wt N k ∧ wt N k ≤ 4 by have := wt_bd N k; omega) (hg k hk)
    split
    · exact this
    · omega)
  have h2 := wfL_n h
  have h3 : (Ln N : Int) * (4 * G) ≤ 5 * (4 * G) := Int.mul_le_mul_of_nonneg_right (by omega) (by omega)
  unfold SO
  omega
/-- one that isn't above is open still -/
theorem low_ex {N : mm_M} {g : Nat → Int} {O : Nat → Bool} {c : Int} (hc : 0 ≤ c) (hO : ∃ k, k < Ln N ∧ O k = true) : ∃ k, k < Ln N ∧ O k = true ∧ g k * WO N O ≤ c + SO N g O := by
  obtain ⟨k0, k1, k2⟩ := hO
  have hW := WO_pos k1 k2
  have e : sm (Ln N) (fun k => if O k = true then wt N k * (c + SO N g O - g k * WO N O) else 0) = WO N O * c := by
    have h1 : ∀ k, k < Ln N → (if O k = true then wt N k * (c + SO N g O - g k * WO N O) else 0) = (c + SO N g O) * (if O k = true then wt N k else 0) - WO N O * (if O k = true then wt N k * g k else 0) := fun k _ => by
      split
      · grind
      · omega
    rw [sm_congr h1, sm_sub, sm_mul, sm_mul]
    show (c + SO N g O) * WO N O - WO N O * SO N g O = _
    grind
  by_cases hex : ∃ k, k < Ln N ∧ O k = true ∧ g k * WO N O ≤ c + SO N g O
  · exact hex
  · exfalso
    have h3 := sm_lt (n := Ln N) (j := k0) (f := fun k => if O k = true then wt N k * (c + SO N g O - g k * WO N O) else 0) (g := fun _ => 0) k1 (fun k hk => by
      by_cases ok : O k = true
      · rw [if_pos ok]
        have : c + SO N g O - g k * WO N O < 0 := by
          have : ¬ g k * WO N O ≤ c + SO N g O := fun q => hex ⟨k, hk, ok, q⟩
          omega
        have := Int.mul_neg_of_pos_of_neg (show 0 < wt N k by have := wt_bd N k; omega) this
        omega
      · rw [if_neg ok]; omega) (by
        rw [if_pos k2]
        have : c + SO N g O - g k0 * WO N O < 0 := by
          have : ¬ g k0 * WO N O ≤ c + SO N g O := fun q => hex ⟨k0, k1, k2, q⟩
          omega
        exact Int.mul_neg_of_pos_of_neg (show 0 < wt N k0 by have := wt_bd N k0; omega) this)
    rw [e, sm_const] at h3
    have := Int.mul_nonneg (show 0 ≤ WO N O by omega) hc
    omega
/-- shutting those above keeps the shut ones above -/
theorem shut_ok {N : mm_M} {g : Nat → Int} {O O' : Nat → Bool} {c : Int} (hc : 0 ≤ c) (hO : ∃ k, k < Ln N ∧ O k = true) (h1 : ∀ k, k < Ln N → (O' k = true ↔ O k = true ∧ g k * WO N O ≤ c + SO N g O)) (h2 : ∀ k, k < Ln N → ¬ O k = true → c + SO N g O < g k * WO N O) : (∃ k, k < Ln N ∧ O' k = true) ∧ ∀ k, k < Ln N → ¬ O' k = true → c + SO N g O' < g k * WO N O' := by
  obtain ⟨k0, k1, k2, k3⟩ := low_ex (g := g) hc hO
  have ho0 : O' k0 = true := (h1 k0 k1).mpr ⟨k2, k3⟩
  refine ⟨⟨k0, k1, ho0⟩, fun k hk hk2 => ?_⟩
  have hW := WO_pos k1 k2
  have hW' := WO_pos k1 ho0
  have e : sm (Ln N) (fun k => if O k = true ∧ ¬ O' k = true then wt N k * (c + SO N g O - g k * WO N O) else 0) = (c + SO N g O) * (WO N O - WO N O') - WO N O * (SO N g O - SO N g O') := by
    have h3 : ∀ k, k < Ln N → (if O k = true ∧ ¬ O' k = true then wt N k * (c + SO N g O - g k * WO N O) else 0) = (c + SO N g O) * ((if O k = true then wt N k else 0) - (if O' k = true then wt N k else 0)) - WO N O * ((if O k = true then wt N k * g k else 0) - (if O' k = true then wt N k * g k else 0)) := fun k hk => by
      have := h1 k hk
      by_cases a : O k = true
      · by_cases b : O' k = true
        · simp [a, b]
        · simp [a, b]; grind
      · have b : ¬ O' k = true := fun q => a (this.mp q).1
        simp [a, b]
    rw [sm_congr h3, sm_sub, sm_mul, sm_mul, sm_sub, sm_sub]
    rfl
  have h4 : sm (Ln N) (fun k => if O k = true ∧ ¬ O' k = true then wt N k * (c + SO N g O - g k * WO N O) else 0) ≤ sm (Ln N) (fun _ => 0) := sm_le (fun k hk => by
    split
    · rename_i q
      have : c + SO N g O < g k * WO N O := by
        have : ¬ g k * WO N O ≤ c + SO N g O := fun z => q.2 ((h1 k hk).mpr ⟨q.1, z⟩)
        omega
      have := Int.mul_neg_of_pos_of_neg (show 0 < wt N k by have := wt_bd N k; omega) (show c + SO N g O - g k * WO N O < 0 by omega)
      omega
    · omega)
  rw [e, sm_const] at h4
  have hb : c + SO N g O < g k * WO N O := by
    by_cases a : O k = true
    · have : ¬ g k * WO N O ≤ c + SO N g O := fun z => hk2 ((h1 k hk).mpr ⟨a, z⟩)
      omega
    · exact h2 k hk a
  have h5 : (c + SO N g O') * WO N O ≤ (c + SO N g O) * WO N O' - c * 0 := by
    have : (c + SO N g O) * (WO N O - WO N O') - WO N O * (SO N g O - SO N g O') = (c + SO N g O') * WO N O - (c + SO N g O) * WO N O' := by grind
    omega
  have h6 : (c + SO N g O) * WO N O' < g k * WO N O * WO N O' := Int.mul_lt_mul_of_pos_right hb (by omega)
  have h7 : (c + SO N g O') * WO N O < g k * WO N O' * WO N O := by
    have : g k * WO N O * WO N O' = g k * WO N O' * WO N O := by grind
    omega
  exact Int.lt_of_mul_lt_mul_right h7 (by omega)
/-- none above any more: that is the level -/
theorem open_lv {N : mm_M} (h : wfL N) {g : Nat → Int} {O : Nat → Bool} {c : Int} (hO : ∃ k, k < Ln N ∧ O k = true) (h1 : ∀ k, k < Ln N → O k = true → g k * WO N O ≤ c + SO N g O) (h2 : ∀ k, k < Ln N → ¬ O k = true → c + SO N g O ≤ g k * WO N O) : isLv N g c (c + SO N g O) (WO N O) := by
  obtain ⟨k0, k1, k2⟩ := hO
  have hW := WO_pos k1 k2
  refine ⟨⟨hW, (WO_bd h O).2⟩, ?_⟩
  have h3 : ∀ k, k < Ln N → wt N k * mx (c + SO N g O - g k * WO N O) = (c + SO N g O) * (if O k = true then wt N k else 0) - WO N O * (if O k = true then wt N k * g k else 0) := fun k hk => by
    by_cases a : O k = true
    · rw [mx_p (by have := h1 k hk a; omega), if_pos a, if_pos a]; grind
    · rw [mx_n (by have := h2 k hk a; omega), if_neg a, if_neg a]; omega
  rw [sm_congr h3, sm_sub, sm_mul, sm_mul]
  show (c + SO N g O) * WO N O - WO N O * SO N g O = _
  grind
def nO (N : mm_M) (O : Nat → Bool) : Int := sm (Ln N) (fun k => if O k = true then 1 else 0)
theorem nO_bd (N : mm_M) (O : Nat → Bool) : 0 ≤ nO N O ∧ nO N O ≤ Ln N := by
  have := sm_bd (n := Ln N) (f := fun k => if O k = true then 1 else 0) (c := 1) (fun k _ => by split <;> omega)
  unfold nO
  omega
theorem nO_pos {N : mm_M} {O : Nat → Bool} (hO : ∃ k, k < Ln N ∧ O k = true) : 1 ≤ nO N O := by
  obtain ⟨k, k1, k2⟩ := hO
  have := sm_ge1 (n := Ln N) (f := fun k => if O k = true then 1 else 0) (fun k _ => by split <;> omega) k1
  rw [if_pos k2] at this
  exact this
theorem nO_lt {N : mm_M} {O O' : Nat → Bool} (h : ∀ k, k < Ln N → O' k = true → O k = true) {j : Nat} (hj : j < Ln N) (h1 : O j = true) (h2 : ¬ O' j = true) : nO N O' < nO N O := sm_lt hj (fun k hk => by
  by_cases a : O' k = true
  · rw [if_pos a, if_pos (h k hk a)]; omega
  · rw [if_neg a]; split <;> omega) (by rw [if_neg h2, if_pos h1]; omega)
/-- there are such open lanes -/
theorem open_ex {N : mm_M} {g : Nat → Int} {c : Int} (hc : 0 ≤ c) : ∀ (m : Nat) (O : Nat → Bool), nO N O ≤ m → (∃ k, k < Ln N ∧ O k = true) → (∀ k, k < Ln N → ¬ O k = true → c + SO N g O < g k * WO N O) → ∃ O : Nat → Bool, (∃ k, k < Ln N ∧ O k = true) ∧ (∀ k, k < Ln N → O k = true → g k * WO N O ≤ c + SO N g O) ∧ ∀ k, k < Ln N → ¬ O k = true → c + SO N g O < g k * WO N O
  | 0, O, hm, hO, _ => by have := nO_pos hO; omega
  | m + 1, O, hm, hO, h2 => by
    by_cases e : ∀ k, k < Ln N → O k = true → g k * WO N O ≤ c + SO N g O
    · exact ⟨O, hO, e, h2⟩
    · have : ∃ j, j < Ln N ∧ O j = true ∧ ¬ g j * WO N O ≤ c + SO N g O := by
        by_cases q : ∃ j, j < Ln N ∧ O j = true ∧ ¬ g j * WO N O ≤ c + SO N g O
        · exact q
        · exfalso
          refine e (fun k hk ho => ?_)
          by_cases z : g k * WO N O ≤ c + SO N g O
          · exact z
          · exact absurd ⟨k, hk, ho, z⟩ q
      obtain ⟨j, j1, j2, j3⟩ := this
      have hs := shut_ok (N := N) (g := g) (O := O) (O' := fun k => O k && decide (g k * WO N O ≤ c + SO N g O)) hc hO (fun k _ => by simp) h2
      refine open_ex hc m _ ?_ hs.1 hs.2
      have := nO_lt (N := N) (O := O) (O' := fun k => O k && decide (g k * WO N O ≤ c + SO N g O)) (fun k _ q => by simp at q; exact q.1) j1 j2 (by simp [j3])
      omega
