/-! what the constructors leave, as memories of the small machine (by program, gen74.py) -/
def pmC : List Nat := [0, 0, 1, 2, 3, 4, 5, 6, 7, 8, 9, 10, 11, 12, 13, 14, 16, 28, 17, 18, 19, 20, 21, 22, 23, 24, 25, 26, 27, 15, 29, 30, 31, 45, 32, 33, 34, 35, 36, 37, 38, 39, 40, 41, 42, 43, 44, 46, 47, 48, 62, 49, 50, 51, 52, 53, 54, 55, 56, 57, 58, 59, 60, 61, 63, 64, 65, 79, 66, 67, 68, 69, 70, 71, 72, 73, 74, 75, 76, 77, 78, 80, 81, 82, 96, 83, 84, 85, 86, 87, 88, 89, 90, 91, 92, 93, 94, 95, 97, 98, 99, 113, 100, 101, 102, 103, 104, 105, 106, 107, 108, 109, 110, 111, 112, 114, 115, 116, 117, 118, 119, 120, 121, 122, 123, 124, 125, 126, 127, 133, 134, 135, 128, 129, 130, 131, 132]
def pmM : List Nat := [0, 0, 1, 2, 3, 4, 5, 6, 7, 8, 9, 10, 11, 12, 13, 14, 15, 16, 17, 18, 19, 20, 21, 22, 23, 24, 25, 26, 27, 28]
def adK (pm : List Nat) (h0 sz : Nat) : Nat → Nat := fun q => if q = 0 then h0 else sz + pm.getD q 0
def M0c : mm_M := fun q k => if q = 121 then (if k = 0 then -1 else if k = 2 then 123 else if k = 4 then 124 else 0) else if q = 125 then (if k = 4 then 12 else if k = 5 then 5 else 0) else 0
def M0m : mm_M := fun q k => if q = 0 then (if k = 21 then 12 else if k = 22 then 5 else 0) else 0
theorem M0c_R (q k : Nat) : mm_R (M0c q k) ∧ mm_RL (M0c q k) := by
  unfold M0c mm_R mm_RL
  repeat' split
  all_goals omega
theorem M0m_R (q k : Nat) : mm_R (M0m q k) ∧ mm_RL (M0m q k) := by
  unfold M0m mm_R mm_RL
  repeat' split
  all_goals omega
theorem M0c_N : mm_NM lay_c M0c := fun q k => ⟨fun _ => (M0c_R q k).1, fun _ => (M0c_R q k).2⟩
theorem M0m_N : mm_NM lay_m M0m := fun q k => ⟨fun _ => (M0m_R q k).1, fun _ => (M0m_R q k).2⟩
theorem va_at_q {D : va_G} {a n : Nat} {c : ClassId} {f f2 : Nat → Option Nat} {H : Heap} (h : va_at D vwCl (a, .inl (c, n, .inr (.inr (.inr (.inr f))))) H) (he : ∀ j, j < n → f j = f2 j) : va_at D vwCl (a, .inl (c, n, .inr (.inr (.inr (.inr f2))))) H := by
  have e : vp_cell c (n, .inr (.inr (.inr (.inr f)))) = vp_cell c (n, .inr (.inr (.inr (.inr f2)))) := by
    rw [vp_cell_q, vp_cell_q]
    unfold arrV
    have e2 : (fun j : Fin n => va_rf (f j.val)) = fun j : Fin n => va_rf (f2 j.val) := funext (fun j => by rw [he j.val j.isLt])
    rw [e2]
  show H[a]? = some (vp_cell c (n, .inr (.inr (.inr (.inr f2)))))
  rw [← e]
  exact h
theorem adK_inj {pm : List Nat} {h0 sz n : Nat} (hlt : h0 < sz) (hp : ∀ i, i < n → ∀ j, j < n → pm.getD (i + 1) 0 = pm.getD (j + 1) 0 → i = j) {i j : Nat} (hi : i < n + 1) (hj : j < n + 1) (h : adK pm h0 sz i = adK pm h0 sz j) : i = j := by
  unfold adK at h
  cases i with
  | zero =>
    cases j with
    | zero => rfl
    | succ j => rw [if_pos rfl, if_neg (by omega)] at h; omega
  | succ i =>
    rw [if_neg (by omega)] at h
    cases j with
    | zero => rw [if_pos rfl] at h; omega
    | succ j =>
      rw [if_neg (by omega)] at h
      rw [hp i (by omega) j (by omega) (by omega)]
theorem adK_D {pm : List Nat} {lay : List mm_S} {cA : Nat → ClassId} {M : mm_M} {h0 sz n : Nat} (hlt : h0 < sz) (hn : lay.length = n + 1) (hp : ∀ i, i < n → ∀ j, j < n → pm.getD (i + 1) 0 = pm.getD (j + 1) 0 → i = j) {A : Nat → Prop} (h1 : A h0) (h2 : ∀ q, sz ≤ q → A q) : va_D A (mm_W lay cA (adK pm h0 sz) M) := by
  refine ⟨fun i j p q hp1 hq e => ?_, fun k q hk => ?_⟩
  · obtain ⟨s1, g1, rfl⟩ := mm_W_ex hp1
    obtain ⟨s2, g2, rfl⟩ := mm_W_ex hq
    have l1 := (List.getElem?_eq_some_iff.mp g1).1
    have l2 := (List.getElem?_eq_some_iff.mp g2).1
    exact adK_inj hlt hp (by omega) (by omega) e
  · obtain ⟨s1, g1, rfl⟩ := mm_W_ex hk
    show A (adK pm h0 sz k)
    unfold adK
    split
    · exact h1
    · exact h2 _ (Nat.le_add_right _ _)
set_option maxRecDepth 100000 in
theorem pmC_i : ∀ i, i < 136 → ∀ j, j < 136 → pmC.getD (i + 1) 0 = pmC.getD (j + 1) 0 → i = j := by decide +kernel
set_option maxRecDepth 100000 in
theorem pmM_i : ∀ i, i < 29 → ∀ j, j < 29 → pmM.getD (i + 1) 0 = pmM.getD (j + 1) 0 → i = j := by decide +kernel
set_option maxRecDepth 100000 in
set_option maxHeartbeats 4000000 in
theorem cwC {D : va_G} {cA : Nat → ClassId} {h0 sz : Nat} {H : Heap} (hk : kS D h0 (.inr (7, fX7_init sz)) sz (eX7_init cA sz) H) : ∀ k sh, lay_c[k]? = some sh → va_at D vwCl (adK pmC h0 sz k, mm_cell cA (adK pmC h0 sz) k sh (M0c k)) H
  | 0, sh, h => by cases (Option.some.inj (h : some (.inl 7) = some sh) : (.inl 7 : mm_S) = sh); exact hk.o
  | 1, sh, h => by cases (Option.some.inj (h : some (.inl 3) = some sh) : (.inl 3 : mm_S) = sh); exact hk.b (i := 0) rfl
  | 2, sh, h => by cases (Option.some.inj (h : some (.inr (0, 92)) = some sh) : (.inr (0, 92) : mm_S) = sh); exact hk.b (i := 1) rfl
  | 3, sh, h => by cases (Option.some.inj (h : some (.inl 2) = some sh) : (.inl 2 : mm_S) = sh); exact hk.b (i := 2) rfl
  | 4, sh, h => by cases (Option.some.inj (h : some (.inr (0, 10)) = some sh) : (.inr (0, 10) : mm_S) = sh); exact hk.b (i := 3) rfl
  | 5, sh, h => by cases (Option.some.inj (h : some (.inr (0, 10)) = some sh) : (.inr (0, 10) : mm_S) = sh); exact hk.b (i := 4) rfl
  | 6, sh, h => by cases (Option.some.inj (h : some (.inr (0, 10)) = some sh) : (.inr (0, 10) : mm_S) = sh); exact hk.b (i := 5) rfl
  | 7, sh, h => by cases (Option.some.inj (h : some (.inr (0, 10)) = some sh) : (.inr (0, 10) : mm_S) = sh); exact hk.b (i := 6) rfl
  | 8, sh, h => by cases (Option.some.inj (h : some (.inr (0, 10)) = some sh) : (.inr (0, 10) : mm_S) = sh); exact hk.b (i := 7) rfl
  | 9, sh, h => by cases (Option.some.inj (h : some (.inl 6) = some sh) : (.inl 6 : mm_S) = sh); exact hk.b (i := 8) rfl
  | 10, sh, h => by cases (Option.some.inj (h : some (.inl 2) = some sh) : (.inl 2 : mm_S) = sh); exact hk.b (i := 9) rfl
  | 11, sh, h => by cases (Option.some.inj (h : some (.inr (0, 10)) = some sh) : (.inr (0, 10) : mm_S) = sh); exact hk.b (i := 10) rfl
  | 12, sh, h => by cases (Option.some.inj (h : some (.inr (0, 10)) = some sh) : (.inr (0, 10) : mm_S) = sh); exact hk.b (i := 11) rfl
  | 13, sh, h => by cases (Option.some.inj (h : some (.inr (0, 10)) = some sh) : (.inr (0, 10) : mm_S) = sh); exact hk.b (i := 12) rfl
  | 14, sh, h => by cases (Option.some.inj (h : some (.inr (0, 10)) = some sh) : (.inr (0, 10) : mm_S) = sh); exact hk.b (i := 13) rfl
  | 15, sh, h => by cases (Option.some.inj (h : some (.inr (0, 10)) = some sh) : (.inr (0, 10) : mm_S) = sh); exact hk.b (i := 14) rfl
  | 16, sh, h => by cases (Option.some.inj (h : some (.inr (0, 10)) = some sh) : (.inr (0, 10) : mm_S) = sh); exact hk.b (i := 16) rfl
  | 17, sh, h => by cases (Option.some.inj (h : some (.inr (0, 5)) = some sh) : (.inr (0, 5) : mm_S) = sh); exact hk.b (i := 28) rfl
  | 18, sh, h => by cases (Option.some.inj (h : some (.inr (4, 10)) = some sh) : (.inr (4, 10) : mm_S) = sh); exact va_at_q (hk.b (i := 17) rfl) (fun j hj => by rcases (show j = 0 ∨ j = 1 ∨ j = 2 ∨ j = 3 ∨ j = 4 ∨ j = 5 ∨ j = 6 ∨ j = 7 ∨ j = 8 ∨ j = 9 by omega) with rfl | rfl | rfl | rfl | rfl | rfl | rfl | rfl | rfl | rfl <;> rfl)
  | 19, sh, h => by cases (Option.some.inj (h : some (.inr (0, 7)) = some sh) : (.inr (0, 7) : mm_S) = sh); exact hk.b (i := 18) rfl
  | 20, sh, h => by cases (Option.some.inj (h : some (.inr (0, 7)) = some sh) : (.inr (0, 7) : mm_S) = sh); exact hk.b (i := 19) rfl
  | 21, sh, h => by cases (Option.some.inj (h : some (.inr (0, 7)) = some sh) : (.inr (0, 7) : mm_S) = sh); exact hk.b (i := 20) rfl
  | 22, sh, h => by cases (Option.some.inj (h : some (.inr (0, 7)) = some sh) : (.inr (0, 7) : mm_S) = sh); exact hk.b (i := 21) rfl
  | 23, sh, h => by cases (Option.some.inj (h : some (.inr (0, 7)) = some sh) : (.inr (0, 7) : mm_S) = sh); exact hk.b (i := 22) rfl
  | 24, sh, h => by cases (Option.some.inj (h : some (.inr (0, 7)) = some sh) : (.inr (0, 7) : mm_S) = sh); exact hk.b (i := 23) rfl
  | 25, sh, h => by cases (Option.some.inj (h : some (.inr (0, 7)) = some sh) : (.inr (0, 7) : mm_S) = sh); exact hk.b (i := 24) rfl
  | 26, sh, h => by cases (Option.some.inj (h : some (.inr (0, 7)) = some sh) : (.inr (0, 7) : mm_S) = sh); exact hk.b (i := 25) rfl
  | 27, sh, h => by cases (Option.some.inj (h : some (.inr (0, 7)) = some sh) : (.inr (0, 7) : mm_S) = sh); exact hk.b (i := 26) rfl
  | 28, sh, h => by cases (Option.some.inj (h : some (.inr (0, 7)) = some sh) : (.inr (0, 7) : mm_S) = sh); exact hk.b (i := 27) rfl
  | 29, sh, h => by cases (Option.some.inj (h : some (.inr (3, 5)) = some sh) : (.inr (3, 5) : mm_S) = sh); exact va_at_q (hk.b (i := 15) rfl) (fun j hj => by rcases (show j = 0 ∨ j = 1 ∨ j = 2 ∨ j = 3 ∨ j = 4 by omega) with rfl | rfl | rfl | rfl | rfl <;> rfl)
  | 30, sh, h => by cases (Option.some.inj (h : some (.inl 4) = some sh) : (.inl 4 : mm_S) = sh); exact hk.b (i := 29) rfl
  | 31, sh, h => by cases (Option.some.inj (h : some (.inr (0, 12)) = some sh) : (.inr (0, 12) : mm_S) = sh); exact hk.b (i := 30) rfl
  | 32, sh, h => by cases (Option.some.inj (h : some (.inr (0, 12)) = some sh) : (.inr (0, 12) : mm_S) = sh); exact hk.b (i := 31) rfl
  | 33, sh, h => by cases (Option.some.inj (h : some (.inr (0, 5)) = some sh) : (.inr (0, 5) : mm_S) = sh); exact hk.b (i := 45) rfl
  | 34, sh, h => by cases (Option.some.inj (h : some (.inr (4, 12)) = some sh) : (.inr (4, 12) : mm_S) = sh); exact va_at_q (hk.b (i := 32) rfl) (fun j hj => by rcases (show j = 0 ∨ j = 1 ∨ j = 2 ∨ j = 3 ∨ j = 4 ∨ j = 5 ∨ j = 6 ∨ j = 7 ∨ j = 8 ∨ j = 9 ∨ j = 10 ∨ j = 11 by omega) with rfl | rfl | rfl | rfl | rfl | rfl | rfl | rfl | rfl | rfl | rfl | rfl <;> rfl)
  | 35, sh, h => by cases (Option.some.inj (h : some (.inr (0, 5)) = some sh) : (.inr (0, 5) : mm_S) = sh); exact hk.b (i := 33) rfl
  | 36, sh, h => by cases (Option.some.inj (h : some (.inr (0, 5)) = some sh) : (.inr (0, 5) : mm_S) = sh); exact hk.b (i := 34) rfl
  | 37, sh, h => by cases (Option.some.inj (h : some (.inr (0, 5)) = some sh) : (.inr (0, 5) : mm_S) = sh); exact hk.b (i := 35) rfl
  | 38, sh, h => by cases (Option.some.inj (h : some (.inr (0, 5)) = some sh) : (.inr (0, 5) : mm_S) = sh); exact hk.b (i := 36) rfl
  | 39, sh, h => by cases (Option.some.inj (h : some (.inr (0, 5)) = some sh) : (.inr (0, 5) : mm_S) = sh); exact hk.b (i := 37) rfl
  | 40, sh, h => by cases (Option.some.inj (h : some (.inr (0, 5)) = some sh) : (.inr (0, 5) : mm_S) = sh); exact hk.b (i := 38) rfl
  | 41, sh, h => by cases (Option.some.inj (h : some (.inr (0, 5)) = some sh) : (.inr (0, 5) : mm_S) = sh); exact hk.b (i := 39) rfl
  | 42, sh, h => by cases (Option.some.inj (h : some (.inr (0, 5)) = some sh) : (.inr (0, 5) : mm_S) = sh); exact hk.b (i := 40) rfl
  | 43, sh, h => by cases (Option.some.inj (h : some (.inr (0, 5)) = some sh) : (.inr (0, 5) : mm_S) = sh); exact hk.b (i := 41) rfl
  | 44, sh, h => by cases (Option.some.inj (h : some (.inr (0, 5)) = some sh) : (.inr (0, 5) : mm_S) = sh); exact hk.b (i := 42) rfl
  | 45, sh, h => by cases (Option.some.inj (h : some (.inr (0, 5)) = some sh) : (.inr (0, 5) : mm_S) = sh); exact hk.b (i := 43) rfl
  | 46, sh, h => by cases (Option.some.inj (h : some (.inr (0, 5)) = some sh) : (.inr (0, 5) : mm_S) = sh); exact hk.b (i := 44) rfl
  | 47, sh, h => by cases (Option.some.inj (h : some (.inl 4) = some sh) : (.inl 4 : mm_S) = sh); exact hk.b (i := 46) rfl
  | 48, sh, h => by cases (Option.some.inj (h : some (.inr (0, 12)) = some sh) : (.inr (0, 12) : mm_S) = sh); exact hk.b (i := 47) rfl
  | 49, sh, h => by cases (Option.some.inj (h : some (.inr (0, 12)) = some sh) : (.inr (0, 12) : mm_S) = sh); exact hk.b (i := 48) rfl
  | 50, sh, h => by cases (Option.some.inj (h : some (.inr (0, 5)) = some sh) : (.inr (0, 5) : mm_S) = sh); exact hk.b (i := 62) rfl
  | 51, sh, h => by cases (Option.some.inj (h : some (.inr (4, 12)) = some sh) : (.inr (4, 12) : mm_S) = sh); exact va_at_q (hk.b (i := 49) rfl) (fun j hj => by rcases (show j = 0 ∨ j = 1 ∨ j = 2 ∨ j = 3 ∨ j = 4 ∨ j = 5 ∨ j = 6 ∨ j = 7 ∨ j = 8 ∨ j = 9 ∨ j = 10 ∨ j = 11 by omega) with rfl | rfl | rfl | rfl | rfl | rfl | rfl | rfl | rfl | rfl | rfl | rfl <;> rfl)
  | 52, sh, h => by cases (Option.some.inj (h : some (.inr (0, 5)) = some sh) : (.inr (0, 5) : mm_S) = sh); exact hk.b (i := 50) rfl
  | 53, sh, h => by cases (Option.some.inj (h : some (.inr (0, 5)) = some sh) : (.inr (0, 5) : mm_S) = sh); exact hk.b (i := 51) rfl
  | 54, sh, h => by cases (Option.some.inj (h : some (.inr (0, 5)) = some sh) : (.inr (0, 5) : mm_S) = sh); exact hk.b (i := 52) rfl
  | 55, sh, h => by cases (Option.some.inj (h : some (.inr (0, 5)) = some sh) : (.inr (0, 5) : mm_S) = sh); exact hk.b (i := 53) rfl
  | 56, sh, h => by cases (Option.some.inj (h : some (.inr (0, 5)) = some sh) : (.inr (0, 5) : mm_S) = sh); exact hk.b (i := 54) rfl
  | 57, sh, h => by cases (Option.some.inj (h : some (.inr (0, 5)) = some sh) : (.inr (0, 5) : mm_S) = sh); exact hk.b (i := 55) rfl
  | 58, sh, h => by cases (Option.some.inj (h : some (.inr (0, 5)) = some sh) : (.inr (0, 5) : mm_S) = sh); exact hk.b (i := 56) rfl
  | 59, sh, h => by cases (Option.some.inj (h : some (.inr (0, 5)) = some sh) : (.inr (0, 5) : mm_S) = sh); exact hk.b (i := 57) rfl
  | 60, sh, h => by cases (Option.some.inj (h : some (.inr (0, 5)) = some sh) : (.inr (0, 5) : mm_S) = sh); exact hk.b (i := 58) rfl
  | 61, sh, h => by cases (Option.some.inj (h : some (.inr (0, 5)) = some sh) : (.inr (0, 5) : mm_S) = sh); exact hk.b (i := 59) rfl
  | 62, sh, h => by cases (Option.some.inj (h : some (.inr (0, 5)) = some sh) : (.inr (0, 5) : mm_S) = sh); exact hk.b (i := 60) rfl
  | 63, sh, h => by cases (Option.some.inj (h : some (.inr (0, 5)) = some sh) : (.inr (0, 5) : mm_S) = sh); exact hk.b (i := 61) rfl
  | 64, sh, h => by cases (Option.some.inj (h : some (.inl 4) = some sh) : (.inl 4 : mm_S) = sh); exact hk.b (i := 63) rfl
  | 65, sh, h => by cases (Option.some.inj (h : some (.inr (0, 12)) = some sh) : (.inr (0, 12) : mm_S) = sh); exact hk.b (i := 64) rfl
  | 66, sh, h => by cases (Option.some.inj (h : some (.inr (0, 12)) = some sh) : (.inr (0, 12) : mm_S) = sh); exact hk.b (i := 65) rfl
  | 67, sh, h => by cases (Option.some.inj (h : some (.inr (0, 5)) = some sh) : (.inr (0, 5) : mm_S) = sh); exact hk.b (i := 79) rfl
  | 68, sh, h => by cases (Option.some.inj (h : some (.inr (4, 12)) = some sh) : (.inr (4, 12) : mm_S) = sh); exact va_at_q (hk.b (i := 66) rfl) (fun j hj => by rcases (show j = 0 ∨ j = 1 ∨ j = 2 ∨ j = 3 ∨ j = 4 ∨ j = 5 ∨ j = 6 ∨ j = 7 ∨ j = 8 ∨ j = 9 ∨ j = 10 ∨ j = 11 by omega) with rfl | rfl | rfl | rfl | rfl | rfl | rfl | rfl | rfl | rfl | rfl | rfl <;> rfl)
  | 69, sh, h => by cases (Option.some.inj (h : some (.inr (0, 5)) = some sh) : (.inr (0, 5) : mm_S) = sh); exact hk.b (i := 67) rfl
  | 70, sh, h => by cases (Option.some.inj (h : some (.inr (0, 5)) = some sh) : (.inr (0, 5) : mm_S) = sh); exact hk.b (i := 68) rfl
  | 71, sh, h => by cases (Option.some.inj (h : some (.inr (0, 5)) = some sh) : (.inr (0, 5) : mm_S) = sh); exact hk.b (i := 69) rfl
  | 72, sh, h => by cases (Option.some.inj (h : some (.inr (0, 5)) = some sh) : (.inr (0, 5) : mm_S) = sh); exact hk.b (i := 70) rfl
  | 73, sh, h => by cases (Option.some.inj (h : some (.inr (0, 5)) = some sh) : (.inr (0, 5) : mm_S) = sh); exact hk.b (i := 71) rfl
  | 74, sh, h => by cases (Option.some.inj (h : some (.inr (0, 5)) = some sh) : (.inr (0, 5) : mm_S) = sh); exact hk.b (i := 72) rfl
  | 75, sh, h => by cases (Option.some.inj (h : some (.inr (0, 5)) = some sh) : (.inr (0, 5) : mm_S) = sh); exact hk.b (i := 73) rfl
  | 76, sh, h => by cases (Option.some.inj (h : some (.inr (0, 5)) = some sh) : (.inr (0, 5) : mm_S) = sh); exact hk.b (i := 74) rfl
  | 77, sh, h => by cases (Option.some.inj (h : some (.inr (0, 5)) = some sh) : (.inr (0, 5) : mm_S) = sh); exact hk.b (i := 75) rfl
  | 78, sh, h => by cases (Option.some.inj (h : some (.inr (0, 5)) = some sh) : (.inr (0, 5) : mm_S) = sh); exact hk.b (i := 76) rfl
  | 79, sh, h => by cases (Option.some.inj (h : some (.inr (0, 5)) = some sh) : (.inr (0, 5) : mm_S) = sh); exact hk.b (i := 77) rfl
  | 80, sh, h => by cases (Option.some.inj (h : some (.inr (0, 5)) = some sh) : (.inr (0, 5) : mm_S) = sh); exact hk.b (i := 78) rfl
  | 81, sh, h => by cases (Option.some.inj (h : some (.inl 4) = some sh) : (.inl 4 : mm_S) = sh); exact hk.b (i := 80) rfl
  | 82, sh, h => by cases (Option.some.inj (h : some (.inr (0, 12)) = some sh) : (.inr (0, 12) : mm_S) = sh); exact hk.b (i := 81) rfl
  | 83, sh, h => by cases (Option.some.inj (h : some (.inr (0, 12)) = some sh) : (.inr (0, 12) : mm_S) = sh); exact hk.b (i := 82) rfl
  | 84, sh, h => by cases (Option.some.inj (h : some (.inr (0, 5)) = some sh) : (.inr (0, 5) : mm_S) = sh); exact hk.b (i := 96) rfl
  | 85, sh, h => by cases (Option.some.inj (h : some (.inr (4, 12)) = some sh) : (.inr (4, 12) : mm_S) = sh); exact va_at_q (hk.b (i := 83) rfl) (fun j hj => by rcases (show j = 0 ∨ j = 1 ∨ j = 2 ∨ j = 3 ∨ j = 4 ∨ j = 5 ∨ j = 6 ∨ j = 7 ∨ j = 8 ∨ j = 9 ∨ j = 10 ∨ j = 11 by omega) with rfl | rfl | rfl | rfl | rfl | rfl | rfl | rfl | rfl | rfl | rfl | rfl <;> rfl)
  | 86, sh, h => by cases (Option.some.inj (h : some (.inr (0, 5)) = some sh) : (.inr (0, 5) : mm_S) = sh); exact hk.b (i := 84) rfl
  | 87, sh, h => by cases (Option.some.inj (h : some (.inr (0, 5)) = some sh) : (.inr (0, 5) : mm_S) = sh); exact hk.b (i := 85) rfl
  | 88, sh, h => by cases (Option.some.inj (h : some (.inr (0, 5)) = some sh) : (.inr (0, 5) : mm_S) = sh); exact hk.b (i := 86) rfl
  | 89, sh, h => by cases (Option.some.inj (h : some (.inr (0, 5)) = some sh) : (.inr (0, 5) : mm_S) = sh); exact hk.b (i := 87) rfl
  | 90, sh, h => by cases (Option.some.inj (h : some (.inr (0, 5)) = some sh) : (.inr (0, 5) : mm_S) = sh); exact hk.b (i := 88) rfl
  | 91, sh, h => by cases (Option.some.inj (h : some (.inr (0, 5)) = some sh) : (.inr (0, 5) : mm_S) = sh); exact hk.b (i := 89) rfl
  | 92, sh, h => by cases (Option.some.inj (h : some (.inr (0, 5)) = some sh) : (.inr (0, 5) : mm_S) = sh); exact hk.b (i := 90) rfl
  | 93, sh, h => by cases (Option.some.inj (h : some (.inr (0, 5)) = some sh) : (.inr (0, 5) : mm_S) = sh); exact hk.b (i := 91) rfl
  | 94, sh, h => by cases (Option.some.inj (h : some (.inr (0, 5)) = some sh) : (.inr (0, 5) : mm_S) = sh); exact hk.b (i := 92) rfl
  | 95, sh, h => by cases (Option.some.inj (h : some (.inr (0, 5)) = some sh) : (.inr (0, 5) : mm_S) = sh); exact hk.b (i := 93) rfl
  | 96, sh, h => by cases (Option.some.inj (h : some (.inr (0, 5)) = some sh) : (.inr (0, 5) : mm_S) = sh); exact hk.b (i := 94) rfl
  | 97, sh, h => by cases (Option.some.inj (h : some (.inr (0, 5)) = some sh) : (.inr (0, 5) : mm_S) = sh); exact hk.b (i := 95) rfl
  | 98, sh, h => by cases (Option.some.inj (h : some (.inl 4) = some sh) : (.inl 4 : mm_S) = sh); exact hk.b (i := 97) rfl
  | 99, sh, h => by cases (Option.some.inj (h : some (.inr (0, 12)) = some sh) : (.inr (0, 12) : mm_S) = sh); exact hk.b (i := 98) rfl
  | 100, sh, h => by cases (Option.some.inj (h : some (.inr (0, 12)) = some sh) : (.inr (0, 12) : mm_S) = sh); exact hk.b (i := 99) rfl
  | 101, sh, h => by cases (Option.some.inj (h : some (.inr (0, 5)) = some sh) : (.inr (0, 5) : mm_S) = sh); exact hk.b (i := 113) rfl
  | 102, sh, h => by cases (Option.some.inj (h : some (.inr (4, 12)) = some sh) : (.inr (4, 12) : mm_S) = sh); exact va_at_q (hk.b (i := 100) rfl) (fun j hj => by rcases (show j = 0 ∨ j = 1 ∨ j = 2 ∨ j = 3 ∨ j = 4 ∨ j = 5 ∨ j = 6 ∨ j = 7 ∨ j = 8 ∨ j = 9 ∨ j = 10 ∨ j = 11 by omega) with rfl | rfl | rfl | rfl | rfl | rfl | rfl | rfl | rfl | rfl | rfl | rfl <;> rfl)
  | 103, sh, h => by cases (Option.some.inj (h : some (.inr (0, 5)) = some sh) : (.inr (0, 5) : mm_S) = sh); exact hk.b (i := 101) rfl
  | 104, sh, h => by cases (Option.some.inj (h : some (.inr (0, 5)) = some sh) : (.inr (0, 5) : mm_S) = sh); exact hk.b (i := 102) rfl
  | 105, sh, h => by cases (Option.some.inj (h : some (.inr (0, 5)) = some sh) : (.inr (0, 5) : mm_S) = sh); exact hk.b (i := 103) rfl
  | 106, sh, h => by cases (Option.some.inj (h : some (.inr (0, 5)) = some sh) : (.inr (0, 5) : mm_S) = sh); exact hk.b (i := 104) rfl
  | 107, sh, h => by cases (Option.some.inj (h : some (.inr (0, 5)) = some sh) : (.inr (0, 5) : mm_S) = sh); exact hk.b (i := 105) rfl
  | 108, sh, h => by cases (Option.some.inj (h : some (.inr (0, 5)) = some sh) : (.inr (0, 5) : mm_S) = sh); exact hk.b (i := 106) rfl
  | 109, sh, h => by cases (Option.some.inj (h : some (.inr (0, 5)) = some sh) : (.inr (0, 5) : mm_S) = sh); exact hk.b (i := 107) rfl
  | 110, sh, h => by cases (Option.some.inj (h : some (.inr (0, 5)) = some sh) : (.inr (0, 5) : mm_S) = sh); exact hk.b (i := 108) rfl
  | 111, sh, h => by cases (Option.some.inj (h : some (.inr (0, 5)) = some sh) : (.inr (0, 5) : mm_S) = sh); exact hk.b (i := 109) rfl
  | 112, sh, h => by cases (Option.some.inj (h : some (.inr (0, 5)) = some sh) : (.inr (0, 5) : mm_S) = sh); exact hk.b (i := 110) rfl
  | 113, sh, h => by cases (Option.some.inj (h : some (.inr (0, 5)) = some sh) : (.inr (0, 5) : mm_S) = sh); exact hk.b (i := 111) rfl
  | 114, sh, h => by cases (Option.some.inj (h : some (.inr (0, 5)) = some sh) : (.inr (0, 5) : mm_S) = sh); exact hk.b (i := 112) rfl
  | 115, sh, h => by cases (Option.some.inj (h : some (.inl 0) = some sh) : (.inl 0 : mm_S) = sh); exact hk.b (i := 114) rfl
  | 116, sh, h => by cases (Option.some.inj (h : some (.inr (0, 5)) = some sh) : (.inr (0, 5) : mm_S) = sh); exact hk.b (i := 115) rfl
  | 117, sh, h => by cases (Option.some.inj (h : some (.inr (0, 5)) = some sh) : (.inr (0, 5) : mm_S) = sh); exact hk.b (i := 116) rfl
  | 118, sh, h => by cases (Option.some.inj (h : some (.inr (0, 500)) = some sh) : (.inr (0, 500) : mm_S) = sh); exact hk.b (i := 117) rfl
  | 119, sh, h => by cases (Option.some.inj (h : some (.inr (0, 500)) = some sh) : (.inr (0, 500) : mm_S) = sh); exact hk.b (i := 118) rfl
  | 120, sh, h => by cases (Option.some.inj (h : some (.inr (0, 500)) = some sh) : (.inr (0, 500) : mm_S) = sh); exact hk.b (i := 119) rfl
  | 121, sh, h => by cases (Option.some.inj (h : some (.inl 5) = some sh) : (.inl 5 : mm_S) = sh); exact hk.b (i := 120) rfl
  | 122, sh, h => by cases (Option.some.inj (h : some (.inr (0, 500)) = some sh) : (.inr (0, 500) : mm_S) = sh); exact hk.b (i := 121) rfl
  | 123, sh, h => by cases (Option.some.inj (h : some (.inr (0, 500)) = some sh) : (.inr (0, 500) : mm_S) = sh); exact hk.b (i := 122) rfl
  | 124, sh, h => by cases (Option.some.inj (h : some (.inr (0, 500)) = some sh) : (.inr (0, 500) : mm_S) = sh); exact hk.b (i := 123) rfl
  | 125, sh, h => by cases (Option.some.inj (h : some (.inl 1) = some sh) : (.inl 1 : mm_S) = sh); exact hk.b (i := 124) rfl
  | 126, sh, h => by cases (Option.some.inj (h : some (.inr (0, 5)) = some sh) : (.inr (0, 5) : mm_S) = sh); exact hk.b (i := 125) rfl
  | 127, sh, h => by cases (Option.some.inj (h : some (.inr (0, 5)) = some sh) : (.inr (0, 5) : mm_S) = sh); exact hk.b (i := 126) rfl
  | 128, sh, h => by cases (Option.some.inj (h : some (.inr (0, 5)) = some sh) : (.inr (0, 5) : mm_S) = sh); exact hk.b (i := 127) rfl
  | 129, sh, h => by cases (Option.some.inj (h : some (.inr (1, 4)) = some sh) : (.inr (1, 4) : mm_S) = sh); exact hk.b (i := 133) rfl
  | 130, sh, h => by cases (Option.some.inj (h : some (.inr (1, 5)) = some sh) : (.inr (1, 5) : mm_S) = sh); exact hk.b (i := 134) rfl
  | 131, sh, h => by cases (Option.some.inj (h : some (.inr (2, 5)) = some sh) : (.inr (2, 5) : mm_S) = sh); exact hk.b (i := 135) rfl
  | 132, sh, h => by cases (Option.some.inj (h : some (.inr (5, 4)) = some sh) : (.inr (5, 4) : mm_S) = sh); exact va_at_q (hk.b (i := 128) rfl) (fun j hj => by rcases (show j = 0 ∨ j = 1 ∨ j = 2 ∨ j = 3 by omega) with rfl | rfl | rfl | rfl <;> rfl)
  | 133, sh, h => by cases (Option.some.inj (h : some (.inr (1, 5)) = some sh) : (.inr (1, 5) : mm_S) = sh); exact hk.b (i := 129) rfl
  | 134, sh, h => by cases (Option.some.inj (h : some (.inr (1, 5)) = some sh) : (.inr (1, 5) : mm_S) = sh); exact hk.b (i := 130) rfl
  | 135, sh, h => by cases (Option.some.inj (h : some (.inr (1, 5)) = some sh) : (.inr (1, 5) : mm_S) = sh); exact hk.b (i := 131) rfl
  | 136, sh, h => by cases (Option.some.inj (h : some (.inr (1, 5)) = some sh) : (.inr (1, 5) : mm_S) = sh); exact hk.b (i := 132) rfl
  | k + 137, sh, h => by cases (h : none = some sh)
set_option maxRecDepth 100000 in
set_option maxHeartbeats 4000000 in
theorem cwM {D : va_G} {cA : Nat → ClassId} {h0 sz : Nat} {H : Heap} (hk : kS D h0 (.inr (8, fX8_init sz)) sz (eX8_init cA sz) H) : ∀ k sh, lay_m[k]? = some sh → va_at D vwCl (adK pmM h0 sz k, mm_cell cA (adK pmM h0 sz) k sh (M0m k)) H
  | 0, sh, h => by cases (Option.some.inj (h : some (.inl 8) = some sh) : (.inl 8 : mm_S) = sh); exact hk.o
  | 1, sh, h => by cases (Option.some.inj (h : some (.inr (0, 10)) = some sh) : (.inr (0, 10) : mm_S) = sh); exact hk.b (i := 0) rfl
  | 2, sh, h => by cases (Option.some.inj (h : some (.inr (0, 10)) = some sh) : (.inr (0, 10) : mm_S) = sh); exact hk.b (i := 1) rfl
  | 3, sh, h => by cases (Option.some.inj (h : some (.inr (0, 10)) = some sh) : (.inr (0, 10) : mm_S) = sh); exact hk.b (i := 2) rfl
  | 4, sh, h => by cases (Option.some.inj (h : some (.inr (0, 10)) = some sh) : (.inr (0, 10) : mm_S) = sh); exact hk.b (i := 3) rfl
  | 5, sh, h => by cases (Option.some.inj (h : some (.inr (0, 10)) = some sh) : (.inr (0, 10) : mm_S) = sh); exact hk.b (i := 4) rfl
  | 6, sh, h => by cases (Option.some.inj (h : some (.inr (0, 5)) = some sh) : (.inr (0, 5) : mm_S) = sh); exact hk.b (i := 5) rfl
  | 7, sh, h => by cases (Option.some.inj (h : some (.inr (0, 5)) = some sh) : (.inr (0, 5) : mm_S) = sh); exact hk.b (i := 6) rfl
  | 8, sh, h => by cases (Option.some.inj (h : some (.inr (0, 5)) = some sh) : (.inr (0, 5) : mm_S) = sh); exact hk.b (i := 7) rfl
  | 9, sh, h => by cases (Option.some.inj (h : some (.inr (0, 5)) = some sh) : (.inr (0, 5) : mm_S) = sh); exact hk.b (i := 8) rfl
  | 10, sh, h => by cases (Option.some.inj (h : some (.inr (0, 60)) = some sh) : (.inr (0, 60) : mm_S) = sh); exact hk.b (i := 9) rfl
  | 11, sh, h => by cases (Option.some.inj (h : some (.inr (0, 300)) = some sh) : (.inr (0, 300) : mm_S) = sh); exact hk.b (i := 10) rfl
  | 12, sh, h => by cases (Option.some.inj (h : some (.inr (0, 5)) = some sh) : (.inr (0, 5) : mm_S) = sh); exact hk.b (i := 11) rfl
  | 13, sh, h => by cases (Option.some.inj (h : some (.inr (0, 5)) = some sh) : (.inr (0, 5) : mm_S) = sh); exact hk.b (i := 12) rfl
  | 14, sh, h => by cases (Option.some.inj (h : some (.inr (0, 92)) = some sh) : (.inr (0, 92) : mm_S) = sh); exact hk.b (i := 13) rfl
  | 15, sh, h => by cases (Option.some.inj (h : some (.inr (0, 10)) = some sh) : (.inr (0, 10) : mm_S) = sh); exact hk.b (i := 14) rfl
  | 16, sh, h => by cases (Option.some.inj (h : some (.inr (0, 10)) = some sh) : (.inr (0, 10) : mm_S) = sh); exact hk.b (i := 15) rfl
  | 17, sh, h => by cases (Option.some.inj (h : some (.inr (0, 10)) = some sh) : (.inr (0, 10) : mm_S) = sh); exact hk.b (i := 16) rfl
  | 18, sh, h => by cases (Option.some.inj (h : some (.inr (0, 10)) = some sh) : (.inr (0, 10) : mm_S) = sh); exact hk.b (i := 17) rfl
  | 19, sh, h => by cases (Option.some.inj (h : some (.inr (0, 10)) = some sh) : (.inr (0, 10) : mm_S) = sh); exact hk.b (i := 18) rfl
  | 20, sh, h => by cases (Option.some.inj (h : some (.inr (0, 6)) = some sh) : (.inr (0, 6) : mm_S) = sh); exact hk.b (i := 19) rfl
  | 21, sh, h => by cases (Option.some.inj (h : some (.inr (0, 5)) = some sh) : (.inr (0, 5) : mm_S) = sh); exact hk.b (i := 20) rfl
  | 22, sh, h => by cases (Option.some.inj (h : some (.inr (0, 4351)) = some sh) : (.inr (0, 4351) : mm_S) = sh); exact hk.b (i := 21) rfl
  | 23, sh, h => by cases (Option.some.inj (h : some (.inr (0, 500)) = some sh) : (.inr (0, 500) : mm_S) = sh); exact hk.b (i := 22) rfl
  | 24, sh, h => by cases (Option.some.inj (h : some (.inr (0, 500)) = some sh) : (.inr (0, 500) : mm_S) = sh); exact hk.b (i := 23) rfl
  | 25, sh, h => by cases (Option.some.inj (h : some (.inr (1, 5)) = some sh) : (.inr (1, 5) : mm_S) = sh); exact hk.b (i := 24) rfl
  | 26, sh, h => by cases (Option.some.inj (h : some (.inr (1, 5)) = some sh) : (.inr (1, 5) : mm_S) = sh); exact hk.b (i := 25) rfl
  | 27, sh, h => by cases (Option.some.inj (h : some (.inr (1, 5)) = some sh) : (.inr (1, 5) : mm_S) = sh); exact hk.b (i := 26) rfl
  | 28, sh, h => by cases (Option.some.inj (h : some (.inr (1, 5)) = some sh) : (.inr (1, 5) : mm_S) = sh); exact hk.b (i := 27) rfl
  | 29, sh, h => by cases (Option.some.inj (h : some (.inr (1, 5)) = some sh) : (.inr (1, 5) : mm_S) = sh); exact hk.b (i := 28) rfl
  | k + 30, sh, h => by cases (h : none = some sh)
theorem wdC {D : va_G} {cA : Nat → ClassId} {h0 sz : Nat} {H : Heap} (hk : kS D h0 (.inr (7, fX7_init sz)) sz (eX7_init cA sz) H) : va_P D vwCl (mm_W lay_c cA (adK pmC h0 sz) M0c) H := fun k q hq => by
  obtain ⟨sh, g1, rfl⟩ := mm_W_ex hq
  exact cwC hk k sh g1
theorem wdM {D : va_G} {cA : Nat → ClassId} {h0 sz : Nat} {H : Heap} (hk : kS D h0 (.inr (8, fX8_init sz)) sz (eX8_init cA sz) H) : va_P D vwCl (mm_W lay_m cA (adK pmM h0 sz) M0m) H := fun k q hq => by
  obtain ⟨sh, g1, rfl⟩ := mm_W_ex hq
  exact cwM hk k sh g1
