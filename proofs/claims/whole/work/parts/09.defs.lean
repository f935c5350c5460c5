/-! the methods as predicates, by program out of the printed decode rows -/
def bX6_setsInAll_4 : Nat → Int → Int → mm_M → (Int → mm_M → Prop) → Prop
  | 0, _, _, _, _ => False
  | n + 1, v1, v2, M, Q => (((M 9 2) ≤ v2 → Q v1 M) ∧ (v2 < (M 9 2) → ((0 ≤ v2 ∧ v2 < 5) ∧ mm_chk (mm_kd lay_c (30 + 17 * (Int.toNat v2)) 4) ((bX6_setsInAll_4 n (mm_w (v1 * (M (30 + 17 * (Int.toNat v2)) 2))) (mm_w (v2 + 1)) M Q)))))
def mX6_setsInAll  (M : mm_M) (Q : Int → mm_M → Prop) : Prop := (∃ j, bX6_setsInAll_4 j 1 0 M Q)
def fX6_setsInAll : mm_F := fun as M Q => match as with
  | [.inr (.inr c0)] => mm_chk (Nat.beq c0 9) (mX6_setsInAll M (fun r M => Q (some (.inl r)) M))
  | _ => False
def mJ9_min_7cf53 (v0 : Int) (v1 : Int) (M : mm_M) (Q : Int → mm_M → Prop) : Prop := ((v1 < v0 → Q v1 M) ∧ (v0 ≤ v1 → Q v0 M))
def fJ9_min_7cf53 : mm_F := fun as M Q => match as with
  | [.inl v0, .inl v1] => mJ9_min_7cf53 v0 v1 M (fun r M => Q (some (.inl r)) M)
  | _ => False
def bX6_keepSet_2 : Nat → Int → mm_M → (mm_M → Prop) → Prop
  | 0, _, _, _ => False
  | n + 1, v1, M, Q => (((M 9 2) ≤ v1 → Q M) ∧ (v1 < (M 9 2) → ((0 ≤ v1 ∧ v1 < 5) ∧ mm_chk (mm_kd lay_c (30 + 17 * (Int.toNat v1)) 4) (((0 ≤ v1 ∧ v1 < 5) ∧ (bX6_keepSet_2 n (mm_w (v1 + 1)) (mm_up M 17 (Int.toNat v1) (M (30 + 17 * (Int.toNat v1)) 3)) Q))))))
def mX6_keepSet  (M : mm_M) (Q : mm_M → Prop) : Prop := (∃ j, bX6_keepSet_2 j 0 M Q)
def fX6_keepSet : mm_F := fun as M Q => match as with
  | [.inr (.inr c0)] => mm_chk (Nat.beq c0 9) (mX6_keepSet M (fun M => Q none M))
  | _ => False
def bX6_burden_2 : Nat → Nat → Int → Int → mm_M → (mm_M → Prop) → Prop
  | 0, _, _, _, _, _ => False
  | n + 1, v1, v2, v3, M, Q => mm_chk (mm_kd lay_c v1 4) (mm_chk (mm_kd lay_c v1 4) (mm_chk (Nat.beq (mm_ak lay_c (v1 + 1)).1 0) (((0 ≤ (M v1 3) ∧ (M v1 3) < ((mm_ak lay_c (v1 + 1)).2 : Int)) ∧ (((M (v1 + 1) (Int.toNat (M v1 3))) ≤ v3 → Q M) ∧ (v3 < (M (v1 + 1) (Int.toNat (M v1 3))) → mm_chk (mm_kd lay_c v1 4) (mm_chk (mm_kd lay_c v1 4) (mm_chk (Nat.ble 3 (mm_ak lay_c (v1 + 4)).1 && Nat.ble (mm_ak lay_c (v1 + 4)).1 5) (((0 ≤ (M v1 3) ∧ (M v1 3) < ((mm_ak lay_c (v1 + 4)).2 : Int)) ∧ mm_chk (Nat.beq (mm_ak lay_c (mm_el (mm_ak lay_c (v1 + 4)).1 (v1 + 4) (Int.toNat (M v1 3)))).1 0) (((0 ≤ v3 ∧ v3 < ((mm_ak lay_c (mm_el (mm_ak lay_c (v1 + 4)).1 (v1 + 4) (Int.toNat (M v1 3)))).2 : Int)) ∧ ((0 ≤ (M (mm_el (mm_ak lay_c (v1 + 4)).1 (v1 + 4) (Int.toNat (M v1 3))) (Int.toNat v3)) ∧ (M (mm_el (mm_ak lay_c (v1 + 4)).1 (v1 + 4) (Int.toNat (M v1 3))) (Int.toNat v3)) < 10) ∧ ((0 ≤ (M (mm_el (mm_ak lay_c (v1 + 4)).1 (v1 + 4) (Int.toNat (M v1 3))) (Int.toNat v3)) ∧ (M (mm_el (mm_ak lay_c (v1 + 4)).1 (v1 + 4) (Int.toNat (M v1 3))) (Int.toNat v3)) < 10) ∧ (bX6_burden_2 n v1 v2 (mm_w (v3 + 1)) (mm_up M 16 (Int.toNat (M (mm_el (mm_ak lay_c (v1 + 4)).1 (v1 + 4) (Int.toNat (M v1 3))) (Int.toNat v3))) (mm_w ((M 16 (Int.toNat (M (mm_el (mm_ak lay_c (v1 + 4)).1 (v1 + 4) (Int.toNat (M v1 3))) (Int.toNat v3)))) + v2))) Q)))))))))))))))
def mX6_burden (v1 : Nat) (v2 : Int) (M : mm_M) (Q : mm_M → Prop) : Prop := (∃ j, bX6_burden_2 j v1 v2 0 M Q)
def fX6_burden : mm_F := fun as M Q => match as with
  | [.inr (.inr c0), .inr (.inr v1), .inl v2] => mm_chk (Nat.beq c0 9) (mX6_burden v1 v2 M (fun M => Q none M))
  | _ => False
def mX6_moveTo (v1 : Nat) (v2 : Int) (M : mm_M) (Q : mm_M → Prop) : Prop := mm_chk (mm_kd lay_c v1 4) (((v2 = (M v1 3) → Q M) ∧ (¬ v2 = (M v1 3) → mX6_burden v1 (-1) M (fun M1 => mm_chk (mm_kd lay_c v1 4) (mX6_burden v1 1 (mm_up M1 v1 3 v2) (fun M2 => Q M2))))))
def fX6_moveTo : mm_F := fun as M Q => match as with
  | [.inr (.inr c0), .inr (.inr v1), .inl v2] => mm_chk (Nat.beq c0 9) (mX6_moveTo v1 v2 M (fun M => Q none M))
  | _ => False
def bX6_takeKeptSet_2 : Nat → Int → mm_M → (mm_M → Prop) → Prop
  | 0, _, _, _ => False
  | n + 1, v1, M, Q => (((M 9 2) ≤ v1 → Q M) ∧ (v1 < (M 9 2) → ((0 ≤ v1 ∧ v1 < 5) ∧ ((0 ≤ v1 ∧ v1 < 5) ∧ mX6_moveTo (30 + 17 * (Int.toNat v1)) (M 17 (Int.toNat v1)) M (fun M1 => (bX6_takeKeptSet_2 n (mm_w (v1 + 1)) M1 Q))))))
def mX6_takeKeptSet  (M : mm_M) (Q : mm_M → Prop) : Prop := (∃ j, bX6_takeKeptSet_2 j 0 M Q)
def fX6_takeKeptSet : mm_F := fun as M Q => match as with
  | [.inr (.inr c0)] => mm_chk (Nat.beq c0 9) (mX6_takeKeptSet M (fun M => Q none M))
  | _ => False
def bX0_findLeast_90 (K32 : Int → mm_M → Prop) (v1 : Int) (M : mm_M) (Q : mm_M → Prop) : Prop := ((0 ≤ v1 ∧ v1 < 500) ∧ ((¬ (M 118 (Int.toNat v1)) = (M 115 11) → (K32 (mm_w (v1 + 1)) M)) ∧ ((M 118 (Int.toNat v1)) = (M 115 11) → (K32 (mm_w (v1 + 1)) (mm_up M 115 13 (mm_w ((M 115 13) + (1 : Int))))))))
def bX0_findLeast_32 : Nat → Int → mm_M → (mm_M → Prop) → Prop
  | 0, _, _, _ => False
  | n + 1, v1, M, Q => (((M 115 1) ≤ v1 → Q M) ∧ (v1 < (M 115 1) → ((0 ≤ v1 ∧ v1 < 500) ∧ mJ9_min_7cf53 (M 115 14) (M 119 (Int.toNat v1)) M (fun r1 M1 => ((0 ≤ v1 ∧ v1 < 500) ∧ ((((mm_up M1 115 14 r1) 115 11) ≤ ((mm_up M1 115 14 r1) 118 (Int.toNat v1)) → (bX0_findLeast_90 (fun v1 M => bX0_findLeast_32 n v1 M Q) v1 (mm_up M1 115 14 r1) Q)) ∧ (((mm_up M1 115 14 r1) 118 (Int.toNat v1)) < ((mm_up M1 115 14 r1) 115 11) → ((0 ≤ v1 ∧ v1 < 500) ∧ (bX0_findLeast_90 (fun v1 M => bX0_findLeast_32 n v1 M Q) v1 (mm_up (mm_up (mm_up (mm_up M1 115 14 r1) 115 11 ((mm_up M1 115 14 r1) 118 (Int.toNat v1))) 115 12 v1) 115 13 0) Q)))))))))
def mX0_findLeast  (M : mm_M) (Q : mm_M → Prop) : Prop := ((0 ≤ (0 : Int) ∧ (0 : Int) < 500) ∧ ((0 ≤ (0 : Int) ∧ (0 : Int) < 500) ∧ (∃ j, bX0_findLeast_32 j 0 (mm_up (mm_up (mm_up (mm_up M 115 12 0) 115 13 0) 115 11 ((mm_up (mm_up M 115 12 0) 115 13 0) 118 0)) 115 14 ((mm_up (mm_up (mm_up M 115 12 0) 115 13 0) 115 11 ((mm_up (mm_up M 115 12 0) 115 13 0) 118 0)) 119 0)) Q)))
def fX0_findLeast : mm_F := fun as M Q => match as with
  | [.inr (.inr c0)] => mm_chk (Nat.beq c0 115) (mX0_findLeast M (fun M => Q none M))
  | _ => False
def mX0_wayIn (v1 : Int) (v2 : Int) (M : mm_M) (Q : Int → mm_M → Prop) : Prop := ((0 ≤ v2 ∧ v2 < 5) ∧ ((0 ≤ v2 ∧ v2 < 5) ∧ (((M 117 (Int.toNat v2)) ≤ 0 → Q 0 M) ∧ ((0 : Int) < (M 117 (Int.toNat v2)) → (((M 116 (Int.toNat v2)) ≤ 0 → Q 0 M) ∧ ((0 : Int) < (M 116 (Int.toNat v2)) → (¬ (M 117 (Int.toNat v2)) = 0 ∧ (¬ (M 116 (Int.toNat v2)) = 0 ∧ Q (mm_rem (mm_div v1 (M 117 (Int.toNat v2))) (M 116 (Int.toNat v2))) M))))))))
def fX0_wayIn : mm_F := fun as M Q => match as with
  | [.inr (.inr c0), .inl v1, .inl v2] => mm_chk (Nat.beq c0 115) (mX0_wayIn v1 v2 M (fun r M => Q (some (.inl r)) M))
  | _ => False
def bX0_isRest_32 (K2 : Int → Int → mm_M → Prop) : Nat → Int → Int → Int → Int → Int → mm_M → (Int → mm_M → Prop) → Prop
  | 0, _, _, _, _, _, _, _ => False
  | n + 1, v1, v2, v3, v4, v5, M, Q => ((0 ≤ v2 ∧ v2 < 5) ∧ (((M 116 (Int.toNat v2)) ≤ v5 → (K2 v1 (mm_w (v2 + 1)) M)) ∧ (v5 < (M 116 (Int.toNat v2)) → ((0 ≤ (mm_w (v4 + (mm_w (v5 * v3)))) ∧ (mm_w (v4 + (mm_w (v5 * v3)))) < 500) ∧ ((0 ≤ v1 ∧ v1 < 500) ∧ (((M 119 (Int.toNat v1)) ≤ (M 119 (Int.toNat (mm_w (v4 + (mm_w (v5 * v3)))))) → (bX0_isRest_32 K2 n v1 v2 v3 v4 (mm_w (v5 + 1)) M Q)) ∧ ((M 119 (Int.toNat (mm_w (v4 + (mm_w (v5 * v3)))))) < (M 119 (Int.toNat v1)) → (((0 : Int) = 0 ∨ (0 : Int) = 1) ∧ Q 0 M))))))))
def bX0_isRest_2 : Nat → Int → Int → mm_M → (Int → mm_M → Prop) → Prop
  | 0, _, _, _, _ => False
  | n + 1, v1, v2, M, Q => (((M 115 2) ≤ v2 → (((1 : Int) = 0 ∨ (1 : Int) = 1) ∧ Q 1 M)) ∧ (v2 < (M 115 2) → ((0 ≤ v2 ∧ v2 < 5) ∧ mX0_wayIn v1 v2 M (fun r1 M1 => (∃ j, bX0_isRest_32 (fun v1 v2 M => bX0_isRest_2 n v1 v2 M Q) j v1 v2 (M 117 (Int.toNat v2)) (mm_w (v1 - (mm_w (r1 * (M 117 (Int.toNat v2)))))) 0 M1 Q)))))
def mX0_isRest (v1 : Int) (M : mm_M) (Q : Int → mm_M → Prop) : Prop := (∃ j, bX0_isRest_2 j v1 0 M Q)
def fX0_isRest : mm_F := fun as M Q => match as with
  | [.inr (.inr c0), .inl v1] => mm_chk (Nat.beq c0 115) (mX0_isRest v1 M (fun r M => Q (some (.inl r)) M))
  | _ => False
def mJ9_max_7cf53 (v0 : Int) (v1 : Int) (M : mm_M) (Q : Int → mm_M → Prop) : Prop := ((v0 < v1 → Q v1 M) ∧ (v1 ≤ v0 → Q v0 M))
def fJ9_max_7cf53 : mm_F := fun as M Q => match as with
  | [.inl v0, .inl v1] => mJ9_max_7cf53 v0 v1 M (fun r M => Q (some (.inl r)) M)
  | _ => False
def bX0_findRests_73 (K7 : Int → mm_M → Prop) (v1 : Int) (w0 : Int) (M : mm_M) (Q : mm_M → Prop) : Prop := ((0 ≤ ((mm_up M 115 10 w0) 115 8) ∧ ((mm_up M 115 10 w0) 115 8) < 500) ∧ (K7 (mm_w (v1 + 1)) (mm_up (mm_up (mm_up M 115 10 w0) 120 (Int.toNat ((mm_up M 115 10 w0) 115 8)) v1) 115 8 (mm_w (((mm_up (mm_up M 115 10 w0) 120 (Int.toNat ((mm_up M 115 10 w0) 115 8)) v1) 115 8) + (1 : Int))))))
def bX0_findRests_50 (K7 : Int → mm_M → Prop) (v1 : Int) (v2 : Int) (w0 : Int) (M : mm_M) (Q : mm_M → Prop) : Prop := ((¬ ((mm_up M 115 9 w0) 115 8) = 0 → mJ9_max_7cf53 ((mm_up M 115 9 w0) 115 10) v2 (mm_up M 115 9 w0) (fun r1 M1 => (bX0_findRests_73 K7 v1 r1 M1 Q))) ∧ (((mm_up M 115 9 w0) 115 8) = 0 → (bX0_findRests_73 K7 v1 v2 (mm_up M 115 9 w0) Q)))
def bX0_findRests_7 : Nat → Int → mm_M → (mm_M → Prop) → Prop
  | 0, _, _, _ => False
  | n + 1, v1, M, Q => (((M 115 1) ≤ v1 → Q M) ∧ (v1 < (M 115 1) → mX0_isRest v1 M (fun r1 M1 => ((r1 = 0 → (bX0_findRests_7 n (mm_w (v1 + 1)) M1 Q)) ∧ (¬ r1 = 0 → ((0 ≤ v1 ∧ v1 < 500) ∧ ((¬ (M1 115 8) = 0 → mJ9_min_7cf53 (M1 115 9) (M1 118 (Int.toNat v1)) M1 (fun r2 M2 => (bX0_findRests_50 (fun v1 M => bX0_findRests_7 n v1 M Q) v1 (M1 118 (Int.toNat v1)) r2 M2 Q))) ∧ ((M1 115 8) = 0 → (bX0_findRests_50 (fun v1 M => bX0_findRests_7 n v1 M Q) v1 (M1 118 (Int.toNat v1)) (M1 118 (Int.toNat v1)) M1 Q)))))))))
def mX0_findRests  (M : mm_M) (Q : mm_M → Prop) : Prop := (∃ j, bX0_findRests_7 j 0 (mm_up M 115 8 0) Q)
def fX0_findRests : mm_F := fun as M Q => match as with
  | [.inr (.inr c0)] => mm_chk (Nat.beq c0 115) (mX0_findRests M (fun M => Q none M))
  | _ => False
def bX6_takeSet_9 : Nat → Int → Int → Int → mm_M → (mm_M → Prop) → Prop
  | 0, _, _, _, _, _ => False
  | n + 1, v1, v2, v3, M, Q => ((v3 < 0 → Q M) ∧ ((0 : Int) ≤ v3 → ((0 ≤ v3 ∧ v3 < 5) ∧ mm_chk (mm_kd lay_c (30 + 17 * (Int.toNat v3)) 4) ((((M (30 + 17 * (Int.toNat v3)) 2) ≤ 0 → (bX6_takeSet_9 n v1 v2 (mm_w (v3 + (-1))) M Q)) ∧ ((0 : Int) < (M (30 + 17 * (Int.toNat v3)) 2) → ((0 ≤ v3 ∧ v3 < 5) ∧ (¬ (M (30 + 17 * (Int.toNat v3)) 2) = 0 ∧ mX6_moveTo (30 + 17 * (Int.toNat v3)) (mm_rem v2 (M (30 + 17 * (Int.toNat v3)) 2)) M (fun M1 => (¬ (M (30 + 17 * (Int.toNat v3)) 2) = 0 ∧ (bX6_takeSet_9 n v1 (mm_div v2 (M (30 + 17 * (Int.toNat v3)) 2)) (mm_w (v3 + (-1))) M1 Q)))))))))))
def mX6_takeSet (v1 : Int) (M : mm_M) (Q : mm_M → Prop) : Prop := (∃ j, bX6_takeSet_9 j v1 v1 (mm_w ((M 9 2) - (1 : Int))) M Q)
def fX6_takeSet : mm_F := fun as M Q => match as with
  | [.inr (.inr c0), .inl v1] => mm_chk (Nat.beq c0 9) (mX6_takeSet v1 M (fun M => Q none M))
  | _ => False
def bX6_socialNow_4 : Nat → Int → Int → mm_M → (Int → mm_M → Prop) → Prop
  | 0, _, _, _, _ => False
  | n + 1, v1, v2, M, Q => (((M 10 1) ≤ v2 → Q v1 M) ∧ (v2 < (M 10 1) → ((0 ≤ v2 ∧ v2 < 10) ∧ ((0 ≤ v2 ∧ v2 < 10) ∧ ((0 ≤ v2 ∧ v2 < 10) ∧ ((0 ≤ v2 ∧ v2 < 10) ∧ (bX6_socialNow_4 n (mm_w (v1 + (mm_w ((M 16 (Int.toNat v2)) * (mm_w ((M 13 (Int.toNat v2)) + (mm_w ((M 14 (Int.toNat v2)) * (M 16 (Int.toNat v2)))))))))) (mm_w (v2 + 1)) M Q)))))))
def mX6_socialNow  (M : mm_M) (Q : Int → mm_M → Prop) : Prop := (∃ j, bX6_socialNow_4 j 0 0 M Q)
def fX6_socialNow : mm_F := fun as M Q => match as with
  | [.inr (.inr c0)] => mm_chk (Nat.beq c0 9) (mX6_socialNow M (fun r M => Q (some (.inl r)) M))
  | _ => False
def bX6_potentialNow_17 (K4 : Int → Int → mm_M → Prop) : Nat → Int → Int → Int → mm_M → (Int → mm_M → Prop) → Prop
  | 0, _, _, _, _, _ => False
  | n + 1, v1, v2, v3, M, Q => ((0 ≤ v2 ∧ v2 < 10) ∧ (((M 16 (Int.toNat v2)) < v3 → (K4 v1 (mm_w (v2 + 1)) M)) ∧ (v3 ≤ (M 16 (Int.toNat v2)) → ((0 ≤ v2 ∧ v2 < 10) ∧ mm_chk (Nat.beq (mm_ak lay_c (19 + (Int.toNat v2))).1 0) (((0 ≤ v3 ∧ v3 < ((mm_ak lay_c (19 + (Int.toNat v2))).2 : Int)) ∧ (bX6_potentialNow_17 K4 n (mm_w (v1 + (M (19 + (Int.toNat v2)) (Int.toNat v3)))) v2 (mm_w (v3 + 1)) M Q)))))))
def bX6_potentialNow_4 : Nat → Int → Int → mm_M → (Int → mm_M → Prop) → Prop
  | 0, _, _, _, _ => False
  | n + 1, v1, v2, M, Q => (((M 10 1) ≤ v2 → Q v1 M) ∧ (v2 < (M 10 1) → (∃ j, bX6_potentialNow_17 (fun v1 v2 M => bX6_potentialNow_4 n v1 v2 M Q) j v1 v2 1 M Q)))
def mX6_potentialNow  (M : mm_M) (Q : Int → mm_M → Prop) : Prop := (∃ j, bX6_potentialNow_4 j 0 0 M Q)
def fX6_potentialNow : mm_F := fun as M Q => match as with
  | [.inr (.inr c0)] => mm_chk (Nat.beq c0 9) (mX6_potentialNow M (fun r M => Q (some (.inl r)) M))
  | _ => False
def bX0_survey_78 : Nat → Int → Int → mm_M → (mm_M → Prop) → Prop
  | 0, _, _, _, _ => False
  | n + 1, v2, v3, M, Q => (((M 115 1) ≤ v3 → mX6_takeKeptSet M (fun M1 => mX0_findLeast M1 (fun M2 => mX0_findRests M2 (fun M3 => Q (mm_up (mm_up M3 121 0 (-1)) 115 0 1))))) ∧ (v3 < (M 115 1) → mX6_takeSet v3 M (fun M4 => mX6_socialNow M4 (fun r5 M5 => ((0 ≤ v3 ∧ v3 < 500) ∧ mX6_potentialNow (mm_up M5 118 (Int.toNat v3) r5) (fun r6 M6 => ((0 ≤ v3 ∧ v3 < 500) ∧ (bX0_survey_78 n v2 (mm_w (v3 + 1)) (mm_up M6 119 (Int.toNat v3) r6) Q))))))))
def bX0_survey_31 : Nat → Int → Int → mm_M → (mm_M → Prop) → Prop
  | 0, _, _, _, _ => False
  | n + 1, v2, v3, M, Q => ((v3 < 0 → mX6_keepSet M (fun M1 => (∃ j, bX0_survey_78 j v2 0 M1 Q))) ∧ ((0 : Int) ≤ v3 → ((0 ≤ v3 ∧ v3 < 5) ∧ mm_chk (mm_kd lay_c (30 + 17 * (Int.toNat v3)) 4) (((0 ≤ v3 ∧ v3 < 5) ∧ ((0 ≤ v3 ∧ v3 < 5) ∧ ((0 ≤ v3 ∧ v3 < 5) ∧ (bX0_survey_31 n (mm_w (v2 * ((mm_up (mm_up M 116 (Int.toNat v3) (M (30 + 17 * (Int.toNat v3)) 2)) 117 (Int.toNat v3) v2) 116 (Int.toNat v3)))) (mm_w (v3 + (-1))) (mm_up (mm_up M 116 (Int.toNat v3) (M (30 + 17 * (Int.toNat v3)) 2)) 117 (Int.toNat v3) v2) Q))))))))
def mX0_survey  (M : mm_M) (Q : mm_M → Prop) : Prop := mX6_setsInAll M (fun r1 M1 => mJ9_min_7cf53 r1 500 M1 (fun r2 M2 => (∃ j, bX0_survey_31 j 1 (mm_w (((mm_up (mm_up M2 115 1 r2) 115 2 ((mm_up M2 115 1 r2) 9 2)) 115 2) - (1 : Int))) (mm_up (mm_up M2 115 1 r2) 115 2 ((mm_up M2 115 1 r2) 9 2)) Q)))
def fX0_survey : mm_F := fun as M Q => match as with
  | [.inr (.inr c0), .inr (.inr c1)] => mm_chk (Nat.beq c0 115 && Nat.beq c1 9) (mX0_survey M (fun M => Q none M))
  | _ => False
def bX5_begin_2 : Nat → Int → Int → Int → mm_M → (mm_M → Prop) → Prop
  | 0, _, _, _, _, _ => False
  | n + 1, v1, v2, v3, M, Q => ((v2 ≤ v3 → ((0 ≤ v1 ∧ v1 < 500) ∧ mm_chk (Nat.beq (mm_ak lay_c (Int.toNat ((mm_up (mm_up M 121 0 v1) 122 (Int.toNat v1) 0) 121 2))).1 0) (((0 ≤ (0 : Int) ∧ (0 : Int) < ((mm_ak lay_c (Int.toNat ((mm_up (mm_up M 121 0 v1) 122 (Int.toNat v1) 0) 121 2))).2 : Int)) ∧ Q (mm_up (mm_up (mm_up (mm_up (mm_up M 121 0 v1) 122 (Int.toNat v1) 0) (Int.toNat ((mm_up (mm_up M 121 0 v1) 122 (Int.toNat v1) 0) 121 2)) 0 v1) 121 3 1) 121 5 0))))) ∧ (v3 < v2 → ((0 ≤ v3 ∧ v3 < 500) ∧ (bX5_begin_2 n v1 v2 (mm_w (v3 + 1)) (mm_up M 122 (Int.toNat v3) (-1)) Q))))
def mX5_begin (v1 : Int) (v2 : Int) (M : mm_M) (Q : mm_M → Prop) : Prop := (∃ j, bX5_begin_2 j v1 v2 0 M Q)
def fX5_begin : mm_F := fun as M Q => match as with
  | [.inr (.inr c0), .inl v1, .inl v2] => mm_chk (Nat.beq c0 121) (mX5_begin v1 v2 M (fun M => Q none M))
  | _ => False
def mX5_isReached (v1 : Int) (M : mm_M) (Q : Int → mm_M → Prop) : Prop := ((0 ≤ v1 ∧ v1 < 500) ∧ (((M 122 (Int.toNat v1)) = (-1) → (((0 : Int) = 0 ∨ (0 : Int) = 1) ∧ Q 0 M)) ∧ (¬ (M 122 (Int.toNat v1)) = (-1) → (((1 : Int) = 0 ∨ (1 : Int) = 1) ∧ Q 1 M))))
def fX5_isReached : mm_F := fun as M Q => match as with
  | [.inr (.inr c0), .inl v1] => mm_chk (Nat.beq c0 121) (mX5_isReached v1 M (fun r M => Q (some (.inl r)) M))
  | _ => False
def bX0_countReached_53 : Nat → Int → mm_M → (mm_M → Prop) → Prop
  | 0, _, _, _ => False
  | n + 1, v1, M, Q => (((M 115 8) ≤ v1 → Q M) ∧ (v1 < (M 115 8) → ((0 ≤ v1 ∧ v1 < 500) ∧ mX5_isReached (M 120 (Int.toNat v1)) M (fun r1 M1 => ((r1 = 0 → (bX0_countReached_53 n (mm_w (v1 + 1)) (mm_up M1 115 17 (mm_w ((M 115 17) + (0 : Int)))) Q)) ∧ (¬ r1 = 0 → (bX0_countReached_53 n (mm_w (v1 + 1)) (mm_up M1 115 17 (mm_w ((M 115 17) + (1 : Int)))) Q)))))))
def bX0_countReached_7 : Nat → Int → mm_M → (mm_M → Prop) → Prop
  | 0, _, _, _ => False
  | n + 1, v1, M, Q => (((M 115 1) ≤ v1 → (∃ j, bX0_countReached_53 j 0 (mm_up M 115 17 0) Q)) ∧ (v1 < (M 115 1) → mX5_isReached v1 M (fun r1 M1 => ((r1 = 0 → (bX0_countReached_7 n (mm_w (v1 + 1)) (mm_up M1 115 16 (mm_w ((M 115 16) + (0 : Int)))) Q)) ∧ (¬ r1 = 0 → (bX0_countReached_7 n (mm_w (v1 + 1)) (mm_up M1 115 16 (mm_w ((M 115 16) + (1 : Int)))) Q))))))
def mX0_countReached  (M : mm_M) (Q : mm_M → Prop) : Prop := (∃ j, bX0_countReached_7 j 0 (mm_up M 115 16 0) Q)
def fX0_countReached : mm_F := fun as M Q => match as with
  | [.inr (.inr c0)] => mm_chk (Nat.beq c0 115) (mX0_countReached M (fun M => Q none M))
  | _ => False
def mX5_goOn  (M : mm_M) (Q : mm_M → Prop) : Prop := Q (mm_up (mm_up (mm_up (mm_up M 121 2 (Int.ofNat (Int.toNat (M 121 4)))) 121 3 ((mm_up M 121 2 (Int.ofNat (Int.toNat (M 121 4)))) 121 5)) 121 4 (Int.ofNat (Int.toNat (M 121 2)))) 121 5 0)
def fX5_goOn : mm_F := fun as M Q => match as with
  | [.inr (.inr c0)] => mm_chk (Nat.beq c0 121) (mX5_goOn M (fun M => Q none M))
  | _ => False
def mX5_offer (v1 : Int) (v2 : Int) (M : mm_M) (Q : mm_M → Prop) : Prop := ((0 ≤ v1 ∧ v1 < 500) ∧ (((M 122 (Int.toNat v1)) = v2 → Q M) ∧ (¬ (M 122 (Int.toNat v1)) = v2 → ((0 ≤ v1 ∧ v1 < 500) ∧ mm_chk (Nat.beq (mm_ak lay_c (Int.toNat ((mm_up M 122 (Int.toNat v1) v2) 121 4))).1 0) (((0 ≤ ((mm_up M 122 (Int.toNat v1) v2) 121 5) ∧ ((mm_up M 122 (Int.toNat v1) v2) 121 5) < ((mm_ak lay_c (Int.toNat ((mm_up M 122 (Int.toNat v1) v2) 121 4))).2 : Int)) ∧ Q (mm_up (mm_up (mm_up M 122 (Int.toNat v1) v2) (Int.toNat ((mm_up M 122 (Int.toNat v1) v2) 121 4)) (Int.toNat ((mm_up M 122 (Int.toNat v1) v2) 121 5)) v1) 121 5 (mm_w (((mm_up (mm_up M 122 (Int.toNat v1) v2) (Int.toNat ((mm_up M 122 (Int.toNat v1) v2) 121 4)) (Int.toNat ((mm_up M 122 (Int.toNat v1) v2) 121 5)) v1) 121 5) + (1 : Int))))))))))
def fX5_offer : mm_F := fun as M Q => match as with
  | [.inr (.inr c0), .inl v1, .inl v2] => mm_chk (Nat.beq c0 121) (mX5_offer v1 v2 M (fun M => Q none M))
  | _ => False
def bX0_offerChanges_34 (K2 : Int → Int → Int → mm_M → Prop) : Nat → Int → Int → Int → Int → Int → Int → mm_M → (mm_M → Prop) → Prop
  | 0, _, _, _, _, _, _, _, _ => False
  | n + 1, v1, v2, v3, v4, v5, v6, M, Q => ((0 ≤ v3 ∧ v3 < 5) ∧ (((M 116 (Int.toNat v3)) ≤ v6 → (K2 v1 v2 (mm_w (v3 + 1)) M)) ∧ (v6 < (M 116 (Int.toNat v3)) → ((0 ≤ (mm_w (v5 + (mm_w (v6 * v4)))) ∧ (mm_w (v5 + (mm_w (v6 * v4)))) < 500) ∧ ((0 ≤ v1 ∧ v1 < 500) ∧ (((M 119 (Int.toNat v1)) ≤ (M 119 (Int.toNat (mm_w (v5 + (mm_w (v6 * v4)))))) → (bX0_offerChanges_34 K2 n v1 v2 v3 v4 v5 (mm_w (v6 + 1)) M Q)) ∧ ((M 119 (Int.toNat (mm_w (v5 + (mm_w (v6 * v4)))))) < (M 119 (Int.toNat v1)) → mX5_offer (mm_w (v5 + (mm_w (v6 * v4)))) v2 M (fun M1 => (bX0_offerChanges_34 K2 n v1 v2 v3 v4 v5 (mm_w (v6 + 1)) M1 Q)))))))))
def bX0_offerChanges_2 : Nat → Int → Int → Int → mm_M → (mm_M → Prop) → Prop
  | 0, _, _, _, _, _ => False
  | n + 1, v1, v2, v3, M, Q => (((M 115 2) ≤ v3 → Q M) ∧ (v3 < (M 115 2) → ((0 ≤ v3 ∧ v3 < 5) ∧ mX0_wayIn v1 v3 M (fun r1 M1 => (∃ j, bX0_offerChanges_34 (fun v1 v2 v3 M => bX0_offerChanges_2 n v1 v2 v3 M Q) j v1 v2 v3 (M 117 (Int.toNat v3)) (mm_w (v1 - (mm_w (r1 * (M 117 (Int.toNat v3)))))) 0 M1 Q)))))
def mX0_offerChanges (v1 : Int) (v2 : Int) (M : mm_M) (Q : mm_M → Prop) : Prop := (∃ j, bX0_offerChanges_2 j v1 v2 0 M Q)
def fX0_offerChanges : mm_F := fun as M Q => match as with
  | [.inr (.inr c0), .inl v1, .inl v2] => mm_chk (Nat.beq c0 115) (mX0_offerChanges v1 v2 M (fun M => Q none M))
  | _ => False
def bX0_spreadFrom_51 (K31 : Int → Int → mm_M → Prop) : Nat → Int → Int → Int → mm_M → (mm_M → Prop) → Prop
  | 0, _, _, _, _, _ => False
  | n + 1, v1, v2, v3, M, Q => (((M 121 3) ≤ v3 → mX5_goOn M (fun M1 => (((M1 121 3) ≤ 0 → (K31 v1 (mm_w (v2 + 1)) M1)) ∧ ((0 : Int) < (M1 121 3) → (K31 v1 (mm_w (v2 + 1)) (mm_up M1 115 18 v2)))))) ∧ (v3 < (M 121 3) → mm_chk (Nat.beq (mm_ak lay_c (Int.toNat (M 121 2))).1 0) (((0 ≤ v3 ∧ v3 < ((mm_ak lay_c (Int.toNat (M 121 2))).2 : Int)) ∧ mX0_offerChanges (M (Int.toNat (M 121 2)) (Int.toNat v3)) v2 M (fun M2 => (bX0_spreadFrom_51 K31 n v1 v2 (mm_w (v3 + 1)) M2 Q))))))
def bX0_spreadFrom_31 : Nat → Int → Int → mm_M → (mm_M → Prop) → Prop
  | 0, _, _, _, _ => False
  | n + 1, v1, v2, M, Q => (((M 115 1) < v2 → mX0_countReached M (fun M1 => Q M1)) ∧ (v2 ≤ (M 115 1) → (((M 121 3) ≤ 0 → mX0_countReached M (fun M2 => Q M2)) ∧ ((0 : Int) < (M 121 3) → (∃ j, bX0_spreadFrom_51 (fun v1 v2 M => bX0_spreadFrom_31 n v1 v2 M Q) j v1 v2 0 M Q)))))
def mX0_spreadFrom (v1 : Int) (M : mm_M) (Q : mm_M → Prop) : Prop := ((¬ (M 121 0) = v1 → mX5_begin v1 (M 115 1) M (fun M1 => (∃ j, bX0_spreadFrom_31 j v1 1 (mm_up M1 115 18 0) Q))) ∧ ((M 121 0) = v1 → Q M))
def fX0_spreadFrom : mm_F := fun as M Q => match as with
  | [.inr (.inr c0), .inl v1] => mm_chk (Nat.beq c0 115) (mX0_spreadFrom v1 M (fun M => Q none M))
  | _ => False
def mX1_add (v1 : Int) (v2 : Int) (M : mm_M) (Q : mm_M → Prop) : Prop := ((0 ≤ (M 125 3) ∧ (M 125 3) < 5) ∧ ((0 ≤ ((mm_up M 126 (Int.toNat (M 125 3)) v1) 125 3) ∧ ((mm_up M 126 (Int.toNat (M 125 3)) v1) 125 3) < 5) ∧ ((¬ v2 = 1 → ((¬ v2 = 2 → ((0 ≤ ((mm_up (mm_up M 126 (Int.toNat (M 125 3)) v1) 127 (Int.toNat ((mm_up M 126 (Int.toNat (M 125 3)) v1) 125 3)) v2) 125 3) ∧ ((mm_up (mm_up M 126 (Int.toNat (M 125 3)) v1) 127 (Int.toNat ((mm_up M 126 (Int.toNat (M 125 3)) v1) 125 3)) v2) 125 3) < 5) ∧ Q (mm_up (mm_up (mm_up (mm_up (mm_up M 126 (Int.toNat (M 125 3)) v1) 127 (Int.toNat ((mm_up M 126 (Int.toNat (M 125 3)) v1) 125 3)) v2) 128 (Int.toNat ((mm_up (mm_up M 126 (Int.toNat (M 125 3)) v1) 127 (Int.toNat ((mm_up M 126 (Int.toNat (M 125 3)) v1) 125 3)) v2) 125 3)) 1) 125 3 (mm_w (((mm_up (mm_up (mm_up M 126 (Int.toNat (M 125 3)) v1) 127 (Int.toNat ((mm_up M 126 (Int.toNat (M 125 3)) v1) 125 3)) v2) 128 (Int.toNat ((mm_up (mm_up M 126 (Int.toNat (M 125 3)) v1) 127 (Int.toNat ((mm_up M 126 (Int.toNat (M 125 3)) v1) 125 3)) v2) 125 3)) 1) 125 3) + (1 : Int)))) 125 6 0))) ∧ (v2 = 2 → ((0 ≤ ((mm_up (mm_up M 126 (Int.toNat (M 125 3)) v1) 127 (Int.toNat ((mm_up M 126 (Int.toNat (M 125 3)) v1) 125 3)) v2) 125 3) ∧ ((mm_up (mm_up M 126 (Int.toNat (M 125 3)) v1) 127 (Int.toNat ((mm_up M 126 (Int.toNat (M 125 3)) v1) 125 3)) v2) 125 3) < 5) ∧ Q (mm_up (mm_up (mm_up (mm_up (mm_up M 126 (Int.toNat (M 125 3)) v1) 127 (Int.toNat ((mm_up M 126 (Int.toNat (M 125 3)) v1) 125 3)) v2) 128 (Int.toNat ((mm_up (mm_up M 126 (Int.toNat (M 125 3)) v1) 127 (Int.toNat ((mm_up M 126 (Int.toNat (M 125 3)) v1) 125 3)) v2) 125 3)) 2) 125 3 (mm_w (((mm_up (mm_up (mm_up M 126 (Int.toNat (M 125 3)) v1) 127 (Int.toNat ((mm_up M 126 (Int.toNat (M 125 3)) v1) 125 3)) v2) 128 (Int.toNat ((mm_up (mm_up M 126 (Int.toNat (M 125 3)) v1) 127 (Int.toNat ((mm_up M 126 (Int.toNat (M 125 3)) v1) 125 3)) v2) 125 3)) 2) 125 3) + (1 : Int)))) 125 6 0))))) ∧ (v2 = 1 → ((0 ≤ ((mm_up (mm_up M 126 (Int.toNat (M 125 3)) v1) 127 (Int.toNat ((mm_up M 126 (Int.toNat (M 125 3)) v1) 125 3)) v2) 125 3) ∧ ((mm_up (mm_up M 126 (Int.toNat (M 125 3)) v1) 127 (Int.toNat ((mm_up M 126 (Int.toNat (M 125 3)) v1) 125 3)) v2) 125 3) < 5) ∧ Q (mm_up (mm_up (mm_up (mm_up (mm_up M 126 (Int.toNat (M 125 3)) v1) 127 (Int.toNat ((mm_up M 126 (Int.toNat (M 125 3)) v1) 125 3)) v2) 128 (Int.toNat ((mm_up (mm_up M 126 (Int.toNat (M 125 3)) v1) 127 (Int.toNat ((mm_up M 126 (Int.toNat (M 125 3)) v1) 125 3)) v2) 125 3)) 4) 125 3 (mm_w (((mm_up (mm_up (mm_up M 126 (Int.toNat (M 125 3)) v1) 127 (Int.toNat ((mm_up M 126 (Int.toNat (M 125 3)) v1) 125 3)) v2) 128 (Int.toNat ((mm_up (mm_up M 126 (Int.toNat (M 125 3)) v1) 127 (Int.toNat ((mm_up M 126 (Int.toNat (M 125 3)) v1) 125 3)) v2) 125 3)) 4) 125 3) + (1 : Int)))) 125 6 0))))))
def fX1_add : mm_F := fun as M Q => match as with
  | [.inr (.inr c0), .inl v1, .inl v2] => mm_chk (Nat.beq c0 125) (mX1_add v1 v2 M (fun M => Q none M))
  | _ => False
def bX1_layGround_2 : Nat → Int → mm_M → (mm_M → Prop) → Prop
  | 0, _, _, _ => False
  | n + 1, v1, M, Q => (((M 125 3) ≤ v1 → Q M) ∧ (v1 < (M 125 3) → ((0 ≤ v1 ∧ v1 < 5) ∧ ((0 ≤ v1 ∧ v1 < 5) ∧ (bX1_layGround_2 n (mm_w (v1 + 1)) (mm_up M 130 (Int.toNat v1) (M 126 (Int.toNat v1))) Q)))))
def mX1_layGround  (M : mm_M) (Q : mm_M → Prop) : Prop := (∃ j, bX1_layGround_2 j 0 M Q)
def fX1_layGround : mm_F := fun as M Q => match as with
  | [.inr (.inr c0)] => mm_chk (Nat.beq c0 125) (mX1_layGround M (fun M => Q none M))
  | _ => False
def bX1_weighOpen_12 : Nat → Int → mm_M → (mm_M → Prop) → Prop
  | 0, _, _, _ => False
  | n + 1, v3, M, Q => (((M 125 3) ≤ v3 → Q M) ∧ (v3 < (M 125 3) → ((0 ≤ v3 ∧ v3 < 5) ∧ (((M 131 (Int.toNat v3)) = 0 → (bX1_weighOpen_12 n (mm_w (v3 + 1)) M Q)) ∧ (¬ (M 131 (Int.toNat v3)) = 0 → ((0 ≤ v3 ∧ v3 < 5) ∧ ((0 ≤ v3 ∧ v3 < 5) ∧ ((0 ≤ v3 ∧ v3 < 5) ∧ (bX1_weighOpen_12 n (mm_w (v3 + 1)) (mm_up (mm_up M 125 13 (mm_wl ((M 125 13) + (M 128 (Int.toNat v3))))) 125 14 (mm_wl (((mm_up M 125 13 (mm_wl ((M 125 13) + (M 128 (Int.toNat v3))))) 125 14) + (mm_wl (((mm_up M 125 13 (mm_wl ((M 125 13) + (M 128 (Int.toNat v3))))) 128 (Int.toNat v3)) * ((mm_up M 125 13 (mm_wl ((M 125 13) + (M 128 (Int.toNat v3))))) 130 (Int.toNat v3))))))) Q)))))))))
def mX1_weighOpen (v1 : Int) (M : mm_M) (Q : mm_M → Prop) : Prop := (∃ j, bX1_weighOpen_12 j 0 (mm_up (mm_up M 125 13 0) 125 14 v1) Q)
def fX1_weighOpen : mm_F := fun as M Q => match as with
  | [.inr (.inr c0), .inr (.inl v1)] => mm_chk (Nat.beq c0 125) (mX1_weighOpen v1 M (fun M => Q none M))
  | _ => False
def bX1_shutAbove_4 : Nat → Int → Int → mm_M → (Int → mm_M → Prop) → Prop
  | 0, _, _, _, _ => False
  | n + 1, v1, v2, M, Q => (((M 125 3) ≤ v2 → ((v1 = 0 ∨ v1 = 1) ∧ Q v1 M)) ∧ (v2 < (M 125 3) → ((0 ≤ v2 ∧ v2 < 5) ∧ (((M 131 (Int.toNat v2)) = 0 → (bX1_shutAbove_4 n v1 (mm_w (v2 + 1)) M Q)) ∧ (¬ (M 131 (Int.toNat v2)) = 0 → ((0 ≤ v2 ∧ v2 < 5) ∧ (((mm_cmp (mm_wl ((M 130 (Int.toNat v2)) * (M 125 13))) (M 125 14)) ≤ 0 → (bX1_shutAbove_4 n v1 (mm_w (v2 + 1)) M Q)) ∧ ((0 : Int) < (mm_cmp (mm_wl ((M 130 (Int.toNat v2)) * (M 125 13))) (M 125 14)) → ((0 ≤ v2 ∧ v2 < 5) ∧ (bX1_shutAbove_4 n 1 (mm_w (v2 + 1)) (mm_up M 131 (Int.toNat v2) 0) Q))))))))))
def mX1_shutAbove  (M : mm_M) (Q : Int → mm_M → Prop) : Prop := (∃ j, bX1_shutAbove_4 j 0 0 M Q)
def fX1_shutAbove : mm_F := fun as M Q => match as with
  | [.inr (.inr c0)] => mm_chk (Nat.beq c0 125) (mX1_shutAbove M (fun r M => Q (some (.inl r)) M))
  | _ => False
def bX1_pour_69 : Nat → Nat → Int → Int → mm_M → (mm_M → Prop) → Prop
  | 0, _, _, _, _, _ => False
  | n + 1, v1, v6, v7, M, Q => (((M 125 3) ≤ v7 → Q M) ∧ (v7 < (M 125 3) → ((0 ≤ v7 ∧ v7 < 5) ∧ ((0 ≤ v7 ∧ v7 < 5) ∧ (((M 131 (Int.toNat v7)) = 0 → mm_chk (Nat.beq (mm_ak lay_c v1).1 1) (((0 ≤ v7 ∧ v7 < ((mm_ak lay_c v1).2 : Int)) ∧ (bX1_pour_69 n v1 v6 (mm_w (v7 + 1)) (mm_up M v1 (Int.toNat v7) 0) Q)))) ∧ (¬ (M 131 (Int.toNat v7)) = 0 → ((0 ≤ v7 ∧ v7 < 5) ∧ mm_chk (Nat.beq (mm_ak lay_c v1).1 1) (((0 ≤ v7 ∧ v7 < ((mm_ak lay_c v1).2 : Int)) ∧ (bX1_pour_69 n v1 v6 (mm_w (v7 + 1)) (mm_up M v1 (Int.toNat v7) (mm_wl ((M 128 (Int.toNat v7)) * (mm_wl ((M 125 14) - (mm_wl ((M 130 (Int.toNat v7)) * (M 125 13)))))))) Q))))))))))
def bX1_pour_32 : Nat → Nat → Int → Int → Int → Int → mm_M → (mm_M → Prop) → Prop
  | 0, _, _, _, _, _, _, _ => False
  | n + 1, v1, v2, v4, v6, v7, M, Q => (((M 125 3) ≤ v7 → (∃ j, bX1_pour_69 j v1 v6 0 M Q)) ∧ (v7 < (M 125 3) → ((v6 = 0 → (∃ j, bX1_pour_69 j v1 v6 0 M Q)) ∧ (¬ v6 = 0 → mX1_weighOpen (mm_wl (v4 * v2)) M (fun M1 => mX1_shutAbove M1 (fun r2 M2 => (bX1_pour_32 n v1 v2 v4 r2 (mm_w (v7 + 1)) M2 Q)))))))
def bX1_pour_3 : Nat → Nat → Int → Int → Int → mm_M → (mm_M → Prop) → Prop
  | 0, _, _, _, _, _, _ => False
  | n + 1, v1, v2, v4, v6, M, Q => (((M 125 3) ≤ v6 → (∃ j, bX1_pour_32 j v1 v2 v4 1 0 M Q)) ∧ (v6 < (M 125 3) → ((0 ≤ v6 ∧ v6 < 5) ∧ (bX1_pour_3 n v1 v2 v4 (mm_w (v6 + 1)) (mm_up M 131 (Int.toNat v6) 1) Q))))
def mX1_pour (v1 : Nat) (v2 : Int) (v4 : Int) (M : mm_M) (Q : mm_M → Prop) : Prop := (∃ j, bX1_pour_3 j v1 v2 v4 0 M Q)
def fX1_pour : mm_F := fun as M Q => match as with
  | [.inr (.inr c0), .inr (.inr v1), .inr (.inl v2), .inr (.inl v4)] => mm_chk (Nat.beq c0 125) (mX1_pour v1 v2 v4 M (fun M => Q none M))
  | _ => False
def mX1_partEven  (M : mm_M) (Q : mm_M → Prop) : Prop := ((0 ≤ (0 : Int) ∧ (0 : Int) < 4) ∧ mX1_pour 133 (M 125 4) 4 M (fun M1 => ((0 ≤ (0 : Int) ∧ (0 : Int) < 4) ∧ Q (mm_up (mm_up (mm_up M1 129 0 (mm_wl ((4 : Int) * (M1 125 13)))) 125 9 ((mm_up M1 129 0 (mm_wl ((4 : Int) * (M1 125 13)))) 125 14)) 125 10 ((mm_up (mm_up M1 129 0 (mm_wl ((4 : Int) * (M1 125 13)))) 125 9 ((mm_up M1 129 0 (mm_wl ((4 : Int) * (M1 125 13)))) 125 14)) 125 13)))))
def fX1_partEven : mm_F := fun as M Q => match as with
  | [.inr (.inr c0)] => mm_chk (Nat.beq c0 125) (mX1_partEven M (fun M => Q none M))
  | _ => False
def mX1_partWise  (M : mm_M) (Q : mm_M → Prop) : Prop := ((0 ≤ (1 : Int) ∧ (1 : Int) < 4) ∧ mX1_pour 134 (M 125 4) 8 M (fun M1 => ((0 ≤ (1 : Int) ∧ (1 : Int) < 4) ∧ Q (mm_up M1 129 1 (mm_wl ((8 : Int) * (M1 125 13)))))))
def fX1_partWise : mm_F := fun as M Q => match as with
  | [.inr (.inr c0)] => mm_chk (Nat.beq c0 125) (mX1_partWise M (fun M => Q none M))
  | _ => False
def bX1_dearestOpenByWise_9 : Nat → Int → Int → Int → mm_M → (Int → mm_M → Prop) → Prop
  | 0, _, _, _, _, _ => False
  | n + 1, v1, v2, v4, M, Q => (((M 125 3) ≤ v4 → Q v1 M) ∧ (v4 < (M 125 3) → ((0 ≤ v4 ∧ v4 < 5) ∧ ((0 ≤ (1 : Int) ∧ (1 : Int) < 4) ∧ ((0 ≤ v4 ∧ v4 < 5) ∧ ((0 ≤ (1 : Int) ∧ (1 : Int) < 4) ∧ ((0 ≤ v4 ∧ v4 < 5) ∧ ((0 ≤ v4 ∧ v4 < 5) ∧ (((M 131 (Int.toNat v4)) = 0 → (bX1_dearestOpenByWise_9 n v1 v2 (mm_w (v4 + 1)) M Q)) ∧ (¬ (M 131 (Int.toNat v4)) = 0 → (((mm_cmp (mm_wl ((mm_wl ((M 126 (Int.toNat v4)) * (M 129 1))) + (mm_wl ((M 127 (Int.toNat v4)) * (M 134 (Int.toNat v4)))))) v2) ≤ 0 → (bX1_dearestOpenByWise_9 n v1 v2 (mm_w (v4 + 1)) M Q)) ∧ ((0 : Int) < (mm_cmp (mm_wl ((mm_wl ((M 126 (Int.toNat v4)) * (M 129 1))) + (mm_wl ((M 127 (Int.toNat v4)) * (M 134 (Int.toNat v4)))))) v2) → (bX1_dearestOpenByWise_9 n v4 (mm_wl ((mm_wl ((M 126 (Int.toNat v4)) * (M 129 1))) + (mm_wl ((M 127 (Int.toNat v4)) * (M 134 (Int.toNat v4)))))) (mm_w (v4 + 1)) M Q)))))))))))))
def mX1_dearestOpenByWise  (M : mm_M) (Q : Int → mm_M → Prop) : Prop := (∃ j, bX1_dearestOpenByWise_9 j 0 (-1) 0 M Q)
def fX1_dearestOpenByWise : mm_F := fun as M Q => match as with
  | [.inr (.inr c0)] => mm_chk (Nat.beq c0 125) (mX1_dearestOpenByWise M (fun r M => Q (some (.inl r)) M))
  | _ => False
def mJ9_min_f86c9 (v0 : Int) (v2 : Int) (M : mm_M) (Q : Int → mm_M → Prop) : Prop := (((0 : Int) < (mm_cmp v0 v2) → Q v2 M) ∧ ((mm_cmp v0 v2) ≤ 0 → Q v0 M))
def fJ9_min_f86c9 : mm_F := fun as M Q => match as with
  | [.inr (.inl v0), .inr (.inl v2)] => mJ9_min_f86c9 v0 v2 M (fun r M => Q (some (.inr (.inl r))) M)
  | _ => False
def bX1_partLeaders_60 : Nat → Int → Int → mm_M → (mm_M → Prop) → Prop
  | 0, _, _, _, _ => False
  | n + 1, v1, v3, M, Q => (((M 125 3) ≤ v3 → Q M) ∧ (v3 < (M 125 3) → mX1_dearestOpenByWise M (fun r1 M1 => ((0 ≤ (1 : Int) ∧ (1 : Int) < 4) ∧ ((0 ≤ r1 ∧ r1 < 5) ∧ mJ9_min_f86c9 v1 (mm_wl ((10 : Int) * (M1 134 (Int.toNat r1)))) M1 (fun r2 M2 => ((0 ≤ (3 : Int) ∧ (3 : Int) < 4) ∧ ((0 ≤ r1 ∧ r1 < 5) ∧ ((0 ≤ r1 ∧ r1 < 5) ∧ (bX1_partLeaders_60 n (mm_wl (v1 - r2)) (mm_w (v3 + 1)) (mm_up (mm_up M2 136 (Int.toNat r1) r2) 131 (Int.toNat r1) 0) Q))))))))))
def bX1_partLeaders_37 : Nat → Int → Int → mm_M → (mm_M → Prop) → Prop
  | 0, _, _, _, _ => False
  | n + 1, v1, v3, M, Q => (((M 125 3) ≤ v3 → (∃ j, bX1_partLeaders_60 j v1 0 M Q)) ∧ (v3 < (M 125 3) → ((0 ≤ v3 ∧ v3 < 5) ∧ (bX1_partLeaders_37 n v1 (mm_w (v3 + 1)) (mm_up M 131 (Int.toNat v3) 1) Q))))
def mX1_partLeaders  (M : mm_M) (Q : mm_M → Prop) : Prop := ((0 ≤ (1 : Int) ∧ (1 : Int) < 4) ∧ ((0 ≤ (3 : Int) ∧ (3 : Int) < 4) ∧ ((0 ≤ (1 : Int) ∧ (1 : Int) < 4) ∧ (∃ j, bX1_partLeaders_37 j (mm_wl ((mm_wl (((mm_up M 129 3 (mm_wl ((10 : Int) * (M 129 1)))) 129 1) * ((mm_up M 129 3 (mm_wl ((10 : Int) * (M 129 1)))) 125 5))) * ((mm_up M 129 3 (mm_wl ((10 : Int) * (M 129 1)))) 125 4))) 0 (mm_up M 129 3 (mm_wl ((10 : Int) * (M 129 1)))) Q))))
def fX1_partLeaders : mm_F := fun as M Q => match as with
  | [.inr (.inr c0)] => mm_chk (Nat.beq c0 125) (mX1_partLeaders M (fun M => Q none M))
  | _ => False
def bX1_partLed_107 : Nat → Int → mm_M → (mm_M → Prop) → Prop
  | 0, _, _, _ => False
  | n + 1, v3, M, Q => (((M 125 3) ≤ v3 → Q M) ∧ (v3 < (M 125 3) → ((0 ≤ (2 : Int) ∧ (2 : Int) < 4) ∧ ((0 ≤ v3 ∧ v3 < 5) ∧ ((0 ≤ (3 : Int) ∧ (3 : Int) < 4) ∧ ((0 ≤ v3 ∧ v3 < 5) ∧ ((0 ≤ v3 ∧ v3 < 5) ∧ (bX1_partLed_107 n (mm_w (v3 + 1)) (mm_up M 135 (Int.toNat v3) (mm_wl ((M 135 (Int.toNat v3)) + (mm_wl ((mm_wl ((4 : Int) * (M 125 13))) * (M 136 (Int.toNat v3))))))) Q))))))))
def bX1_partLed_9 : Nat → Int → Int → mm_M → (mm_M → Prop) → Prop
  | 0, _, _, _, _ => False
  | n + 1, v1, v3, M, Q => (((M 125 3) ≤ v3 → ((0 ≤ (2 : Int) ∧ (2 : Int) < 4) ∧ ((0 ≤ (1 : Int) ∧ (1 : Int) < 4) ∧ mX1_pour 135 (mm_wl ((mm_wl ((M 129 1) * (mm_w ((10 : Int) - (M 125 5))))) * (M 125 4))) 4 M (fun M1 => ((0 ≤ (2 : Int) ∧ (2 : Int) < 4) ∧ (∃ j, bX1_partLed_107 j 0 (mm_up M1 129 2 (mm_wl ((mm_wl ((4 : Int) * (M1 125 13))) * v1))) Q)))))) ∧ (v3 < (M 125 3) → ((0 ≤ v3 ∧ v3 < 5) ∧ ((0 ≤ v3 ∧ v3 < 5) ∧ ((0 ≤ (3 : Int) ∧ (3 : Int) < 4) ∧ ((0 ≤ v3 ∧ v3 < 5) ∧ ((0 ≤ v3 ∧ v3 < 5) ∧ (bX1_partLed_9 n v1 (mm_w (v3 + 1)) (mm_up M 130 (Int.toNat v3) (mm_wl ((mm_wl ((M 126 (Int.toNat v3)) * v1)) + (mm_wl ((M 127 (Int.toNat v3)) * (M 136 (Int.toNat v3))))))) Q))))))))
def mX1_partLed  (M : mm_M) (Q : mm_M → Prop) : Prop := ((0 ≤ (3 : Int) ∧ (3 : Int) < 4) ∧ (∃ j, bX1_partLed_9 j (M 129 3) 0 M Q))
def fX1_partLed : mm_F := fun as M Q => match as with
  | [.inr (.inr c0)] => mm_chk (Nat.beq c0 125) (mX1_partLed M (fun M => Q none M))
  | _ => False
def mX1_partAll  (M : mm_M) (Q : mm_M → Prop) : Prop := ((¬ (M 125 6) = 0 → Q M) ∧ ((M 125 6) = 0 → ((¬ (M 125 3) = 0 → mX1_layGround M (fun M1 => mX1_partEven M1 (fun M2 => mX1_partWise M2 (fun M3 => mX1_partLeaders M3 (fun M4 => mX1_partLed M4 (fun M5 => Q (mm_up M5 125 6 1))))))) ∧ ((M 125 3) = 0 → Q M))))
def fX1_partAll : mm_F := fun as M Q => match as with
  | [.inr (.inr c0)] => mm_chk (Nat.beq c0 125) (mX1_partAll M (fun M => Q none M))
  | _ => False
def bX1_thousandths_13 : Nat → Int → Int → Int → Int → mm_M → (Int → mm_M → Prop) → Prop
  | 0, _, _, _, _, _, _ => False
  | n + 1, v1, v2, v4, v6, M, Q => (((M 125 3) ≤ v6 → ((¬ (mm_cmp v2 0) = 0 → (¬ (mm_wl (v2 * v2)) = 0 ∧ Q (mm_divl (mm_wl ((1000 : Int) * v4)) (mm_wl (v2 * v2))) M)) ∧ ((mm_cmp v2 0) = 0 → Q 0 M))) ∧ (v6 < (M 125 3) → ((0 ≤ v1 ∧ v1 < 4) ∧ mm_chk (Nat.beq (mm_ak lay_c (133 + (Int.toNat v1))).1 1) (((0 ≤ v6 ∧ v6 < ((mm_ak lay_c (133 + (Int.toNat v1))).2 : Int)) ∧ ((0 ≤ v6 ∧ v6 < 5) ∧ ((0 ≤ v6 ∧ v6 < 5) ∧ (bX1_thousandths_13 n v1 v2 (mm_wl (v4 + (mm_wl ((M (133 + (Int.toNat v1)) (Int.toNat v6)) * (mm_wl ((mm_wl ((M 126 (Int.toNat v6)) * v2)) + (mm_wl ((M 127 (Int.toNat v6)) * (M (133 + (Int.toNat v1)) (Int.toNat v6)))))))))) (mm_w (v6 + 1)) M Q))))))))
def mX1_thousandths (v1 : Int) (M : mm_M) (Q : Int → mm_M → Prop) : Prop := ((0 ≤ v1 ∧ v1 < 4) ∧ (∃ j, bX1_thousandths_13 j v1 (M 129 (Int.toNat v1)) 0 0 M Q))
def fX1_thousandths : mm_F := fun as M Q => match as with
  | [.inr (.inr c0), .inl v1] => mm_chk (Nat.beq c0 125) (mX1_thousandths v1 M (fun r M => Q (some (.inr (.inl r))) M))
  | _ => False
def bX2_becomeLike_18 : Nat → Int → mm_M → (mm_M → Prop) → Prop
  | 0, _, _, _ => False
  | n + 1, v2, M, Q => (((M 10 1) ≤ v2 → Q M) ∧ (v2 < (M 10 1) → ((0 ≤ v2 ∧ v2 < 10) ∧ ((0 ≤ v2 ∧ v2 < 10) ∧ ((0 ≤ v2 ∧ v2 < 10) ∧ ((0 ≤ v2 ∧ v2 < 10) ∧ ((0 ≤ v2 ∧ v2 < 10) ∧ ((0 ≤ v2 ∧ v2 < 10) ∧ ((0 ≤ v2 ∧ v2 < 10) ∧ ((0 ≤ v2 ∧ v2 < 10) ∧ ((0 ≤ v2 ∧ v2 < 10) ∧ (bX2_becomeLike_18 n (mm_w (v2 + 1)) (mm_up (mm_up (mm_up (mm_up (mm_up M 11 (Int.toNat v2) (M 4 (Int.toNat v2))) 12 (Int.toNat v2) ((mm_up M 11 (Int.toNat v2) (M 4 (Int.toNat v2))) 5 (Int.toNat v2))) 13 (Int.toNat v2) ((mm_up (mm_up M 11 (Int.toNat v2) (M 4 (Int.toNat v2))) 12 (Int.toNat v2) ((mm_up M 11 (Int.toNat v2) (M 4 (Int.toNat v2))) 5 (Int.toNat v2))) 6 (Int.toNat v2))) 14 (Int.toNat v2) ((mm_up (mm_up (mm_up M 11 (Int.toNat v2) (M 4 (Int.toNat v2))) 12 (Int.toNat v2) ((mm_up M 11 (Int.toNat v2) (M 4 (Int.toNat v2))) 5 (Int.toNat v2))) 13 (Int.toNat v2) ((mm_up (mm_up M 11 (Int.toNat v2) (M 4 (Int.toNat v2))) 12 (Int.toNat v2) ((mm_up M 11 (Int.toNat v2) (M 4 (Int.toNat v2))) 5 (Int.toNat v2))) 6 (Int.toNat v2))) 7 (Int.toNat v2))) 15 (Int.toNat v2) 0) Q))))))))))))
def mX2_becomeLike  (M : mm_M) (Q : mm_M → Prop) : Prop := (∃ j, bX2_becomeLike_18 j 0 (mm_up (mm_up M 10 0 (M 3 0)) 10 1 ((mm_up M 10 0 (M 3 0)) 3 1)) Q)
def fX2_becomeLike : mm_F := fun as M Q => match as with
  | [.inr (.inr c0), .inr (.inr c1)] => mm_chk (Nat.beq c0 10 && Nat.beq c1 3) (mX2_becomeLike M (fun M => Q none M))
  | _ => False
def mX7_within (v0 : Int) (v1 : Int) (v2 : Int) (M : mm_M) (Q : Int → mm_M → Prop) : Prop := ((v0 < v1 → (((0 : Int) = 0 ∨ (0 : Int) = 1) ∧ Q 0 M)) ∧ (v1 ≤ v0 → ((v2 < v0 → (((0 : Int) = 0 ∨ (0 : Int) = 1) ∧ Q 0 M)) ∧ (v0 ≤ v2 → (((1 : Int) = 0 ∨ (1 : Int) = 1) ∧ Q 1 M)))))
def fX7_within : mm_F := fun as M Q => match as with
  | [.inl v0, .inl v1, .inl v2] => mX7_within v0 v1 v2 M (fun r M => Q (some (.inl r)) M)
  | _ => False
def mX3_readNodes (v1 : Int) (M : mm_M) (Q : Int → mm_M → Prop) : Prop := mX7_within v1 2 6 M (fun r1 M1 => ((¬ r1 = 0 → Q 1 (mm_up M1 3 0 v1)) ∧ (r1 = 0 → Q (-1) M1)))
def fX3_readNodes : mm_F := fun as M Q => match as with
  | [.inr (.inr c0), .inl v1] => mm_chk (Nat.beq c0 1) (mX3_readNodes v1 M (fun r M => Q (some (.inl r)) M))
  | _ => False
def mX3_readFrom (v1 : Int) (M : mm_M) (Q : Int → mm_M → Prop) : Prop := mX7_within v1 0 (mm_w ((M 3 0) - (1 : Int))) M (fun r1 M1 => ((¬ r1 = 0 → ((0 ≤ (M1 3 1) ∧ (M1 3 1) < 10) ∧ Q 3 (mm_up M1 4 (Int.toNat (M1 3 1)) v1))) ∧ (r1 = 0 → Q (-1) M1)))
def fX3_readFrom : mm_F := fun as M Q => match as with
  | [.inr (.inr c0), .inl v1] => mm_chk (Nat.beq c0 1) (mX3_readFrom v1 M (fun r M => Q (some (.inl r)) M))
  | _ => False
def mX3_readTo (v1 : Int) (M : mm_M) (Q : Int → mm_M → Prop) : Prop := mX7_within v1 0 (mm_w ((M 3 0) - (1 : Int))) M (fun r1 M1 => ((r1 = 0 → Q (-1) M1) ∧ (¬ r1 = 0 → ((0 ≤ (M1 3 1) ∧ (M1 3 1) < 10) ∧ ((¬ v1 = (M1 4 (Int.toNat (M1 3 1))) → ((0 ≤ (M1 3 1) ∧ (M1 3 1) < 10) ∧ Q 5 (mm_up M1 5 (Int.toNat (M1 3 1)) v1))) ∧ (v1 = (M1 4 (Int.toNat (M1 3 1))) → Q (-1) M1))))))
def fX3_readTo : mm_F := fun as M Q => match as with
  | [.inr (.inr c0), .inl v1] => mm_chk (Nat.beq c0 1) (mX3_readTo v1 M (fun r M => Q (some (.inl r)) M))
  | _ => False
def mX3_readA (v1 : Int) (M : mm_M) (Q : Int → mm_M → Prop) : Prop := ((¬ v1 = (-1) → ((0 ≤ (M 3 1) ∧ (M 3 1) < 10) ∧ Q 7 (mm_up M 6 (Int.toNat (M 3 1)) v1))) ∧ (v1 = (-1) → Q (-1) M))
def fX3_readA : mm_F := fun as M Q => match as with
  | [.inr (.inr c0), .inl v1] => mm_chk (Nat.beq c0 1) (mX3_readA v1 M (fun r M => Q (some (.inl r)) M))
  | _ => False
def mX3_readMoreOfA (v1 : Int) (M : mm_M) (Q : Int → mm_M → Prop) : Prop := ((0 ≤ (M 3 1) ∧ (M 3 1) < 10) ∧ ((v1 = (-1) → Q (-1) M) ∧ (¬ v1 = (-1) → (((M 6 (Int.toNat (M 3 1))) = 0 → Q (-1) M) ∧ (¬ (M 6 (Int.toNat (M 3 1))) = 0 → (((mm_w ((mm_w ((10 : Int) * (M 6 (Int.toNat (M 3 1))))) + v1)) ≤ 20 → ((0 ≤ (M 3 1) ∧ (M 3 1) < 10) ∧ Q 7 (mm_up M 6 (Int.toNat (M 3 1)) (mm_w ((mm_w ((10 : Int) * (M 6 (Int.toNat (M 3 1))))) + v1))))) ∧ ((20 : Int) < (mm_w ((mm_w ((10 : Int) * (M 6 (Int.toNat (M 3 1))))) + v1)) → Q (-1) M)))))))
def fX3_readMoreOfA : mm_F := fun as M Q => match as with
  | [.inr (.inr c0), .inl v1] => mm_chk (Nat.beq c0 1) (mX3_readMoreOfA v1 M (fun r M => Q (some (.inl r)) M))
  | _ => False
def mX3_readB (v1 : Int) (M : mm_M) (Q : Int → mm_M → Prop) : Prop := ((¬ v1 = (-1) → ((0 ≤ (M 3 1) ∧ (M 3 1) < 10) ∧ Q 1 (mm_up (mm_up M 7 (Int.toNat (M 3 1)) v1) 3 1 (mm_w (((mm_up M 7 (Int.toNat (M 3 1)) v1) 3 1) + (1 : Int)))))) ∧ (v1 = (-1) → Q (-1) M))
def fX3_readB : mm_F := fun as M Q => match as with
  | [.inr (.inr c0), .inl v1] => mm_chk (Nat.beq c0 1) (mX3_readB v1 M (fun r M => Q (some (.inl r)) M))
  | _ => False
def bX3_phaseBehind_19 (v1 : Int) (w0 : Int) (M : mm_M) (Q : Int → mm_M → Prop) : Prop := (((M 1 3) < 0 ∨ (8 : Int) < (M 1 3) → Q (-1) M) ∧ ((M 1 3) = 0 → mX3_readNodes w0 M (fun r1 M1 => Q r1 M1)) ∧ ((M 1 3) = 1 → ((¬ v1 = 59 → Q (-1) M) ∧ (v1 = 59 → (((10 : Int) ≤ (M 3 1) → Q (-1) M) ∧ ((M 3 1) < 10 → Q 2 M))))) ∧ ((M 1 3) = 2 → mX3_readFrom w0 M (fun r2 M2 => Q r2 M2)) ∧ ((M 1 3) = 3 → ((¬ v1 = 62 → Q (-1) M) ∧ (v1 = 62 → Q 4 M))) ∧ ((M 1 3) = 4 → mX3_readTo w0 M (fun r3 M3 => Q r3 M3)) ∧ ((M 1 3) = 5 → ((¬ v1 = 58 → Q (-1) M) ∧ (v1 = 58 → Q 6 M))) ∧ ((M 1 3) = 6 → mX3_readA w0 M (fun r4 M4 => Q r4 M4)) ∧ ((M 1 3) = 7 → ((¬ v1 = 43 → mX3_readMoreOfA w0 M (fun r5 M5 => Q r5 M5)) ∧ (v1 = 43 → Q 8 M))) ∧ ((M 1 3) = 8 → mX3_readB w0 M (fun r6 M6 => Q r6 M6)) ∧ True)
def mX3_phaseBehind (v1 : Int) (M : mm_M) (Q : Int → mm_M → Prop) : Prop := mX7_within v1 48 57 M (fun r1 M1 => ((r1 = 0 → (bX3_phaseBehind_19 v1 (-1) M1 Q)) ∧ (¬ r1 = 0 → (bX3_phaseBehind_19 v1 (mm_w (v1 - (48 : Int))) M1 Q))))
def fX3_phaseBehind : mm_F := fun as M Q => match as with
  | [.inr (.inr c0), .inl v1] => mm_chk (Nat.beq c0 1) (mX3_phaseBehind v1 M (fun r M => Q (some (.inl r)) M))
  | _ => False
def bX3_readIntoDraft_23 : Nat → Int → mm_M → (Int → mm_M → Prop) → Prop
  | 0, _, _, _ => False
  | n + 1, v1, M, Q => (((M 1 1) ≤ v1 → Q (M 1 1) M) ∧ (v1 < (M 1 1) → ((0 ≤ v1 ∧ v1 < 92) ∧ mX3_phaseBehind (M 2 (Int.toNat v1)) M (fun r1 M1 => ((¬ ((mm_up M1 1 3 r1) 1 3) = (-1) → (bX3_readIntoDraft_23 n (mm_w (v1 + 1)) (mm_up M1 1 3 r1) Q)) ∧ (((mm_up M1 1 3 r1) 1 3) = (-1) → Q v1 (mm_up M1 1 3 r1)))))))
def mX3_readIntoDraft  (M : mm_M) (Q : Int → mm_M → Prop) : Prop := (∃ j, bX3_readIntoDraft_23 j 0 (mm_up (mm_up (mm_up M 1 3 0) 3 0 0) 3 1 0) Q)
def fX3_readIntoDraft : mm_F := fun as M Q => match as with
  | [.inr (.inr c0)] => mm_chk (Nat.beq c0 1) (mX3_readIntoDraft M (fun r M => Q (some (.inl r)) M))
  | _ => False
def mX3_isWhole  (M : mm_M) (Q : Int → mm_M → Prop) : Prop := ((¬ (M 1 3) = 1 → (((0 : Int) = 0 ∨ (0 : Int) = 1) ∧ Q 0 M)) ∧ ((M 1 3) = 1 → (((M 3 1) ≤ 0 → (((0 : Int) = 0 ∨ (0 : Int) = 1) ∧ Q 0 M)) ∧ ((0 : Int) < (M 3 1) → (((1 : Int) = 0 ∨ (1 : Int) = 1) ∧ Q 1 M)))))
def fX3_isWhole : mm_F := fun as M Q => match as with
  | [.inr (.inr c0)] => mm_chk (Nat.beq c0 1) (mX3_isWhole M (fun r M => Q (some (.inl r)) M))
  | _ => False
def bX4_keepPath_31 : Nat → Nat → Int → Int → mm_M → (mm_M → Prop) → Prop
  | 0, _, _, _, _, _ => False
  | n + 1, v0, v1, v2, M, Q => ((v1 ≤ v2 → mm_chk (mm_kd lay_c v0 4) (mm_chk (mm_kd lay_c v0 4) (Q (mm_up M v0 2 (mm_w ((M v0 2) + (1 : Int))))))) ∧ (v2 < v1 → mm_chk (mm_kd lay_c v0 4) (mm_chk (mm_kd lay_c v0 4) (mm_chk (Nat.ble 3 (mm_ak lay_c (v0 + 4)).1 && Nat.ble (mm_ak lay_c (v0 + 4)).1 5) (((0 ≤ (M v0 2) ∧ (M v0 2) < ((mm_ak lay_c (v0 + 4)).2 : Int)) ∧ mm_chk (mm_kd lay_c v0 4) (mm_chk (Nat.beq (mm_ak lay_c (v0 + 3)).1 0) (((0 ≤ v2 ∧ v2 < ((mm_ak lay_c (v0 + 3)).2 : Int)) ∧ mm_chk (Nat.beq (mm_ak lay_c (mm_el (mm_ak lay_c (v0 + 4)).1 (v0 + 4) (Int.toNat (M v0 2)))).1 0) (((0 ≤ v2 ∧ v2 < ((mm_ak lay_c (mm_el (mm_ak lay_c (v0 + 4)).1 (v0 + 4) (Int.toNat (M v0 2)))).2 : Int)) ∧ mm_chk (mm_kd lay_c v0 4) (mm_chk (mm_kd lay_c v0 4) (mm_chk (Nat.beq (mm_ak lay_c (v0 + 2)).1 0) (((0 ≤ ((mm_up M (mm_el (mm_ak lay_c (v0 + 4)).1 (v0 + 4) (Int.toNat (M v0 2))) (Int.toNat v2) (M (v0 + 3) (Int.toNat v2))) v0 2) ∧ ((mm_up M (mm_el (mm_ak lay_c (v0 + 4)).1 (v0 + 4) (Int.toNat (M v0 2))) (Int.toNat v2) (M (v0 + 3) (Int.toNat v2))) v0 2) < ((mm_ak lay_c (v0 + 2)).2 : Int)) ∧ mm_chk (mm_kd lay_c v0 4) (mm_chk (Nat.beq (mm_ak lay_c (v0 + 3)).1 0) (((0 ≤ v2 ∧ v2 < ((mm_ak lay_c (v0 + 3)).2 : Int)) ∧ mm_chk (Nat.beq (mm_ak lay_c (v0 + 2)).1 0) (((0 ≤ ((mm_up M (mm_el (mm_ak lay_c (v0 + 4)).1 (v0 + 4) (Int.toNat (M v0 2))) (Int.toNat v2) (M (v0 + 3) (Int.toNat v2))) v0 2) ∧ ((mm_up M (mm_el (mm_ak lay_c (v0 + 4)).1 (v0 + 4) (Int.toNat (M v0 2))) (Int.toNat v2) (M (v0 + 3) (Int.toNat v2))) v0 2) < ((mm_ak lay_c (v0 + 2)).2 : Int)) ∧ (bX4_keepPath_31 n v0 v1 (mm_w (v2 + 1)) (mm_up (mm_up M (mm_el (mm_ak lay_c (v0 + 4)).1 (v0 + 4) (Int.toNat (M v0 2))) (Int.toNat v2) (M (v0 + 3) (Int.toNat v2))) (v0 + 2) (Int.toNat ((mm_up M (mm_el (mm_ak lay_c (v0 + 4)).1 (v0 + 4) (Int.toNat (M v0 2))) (Int.toNat v2) (M (v0 + 3) (Int.toNat v2))) v0 2)) (mm_or ((mm_up M (mm_el (mm_ak lay_c (v0 + 4)).1 (v0 + 4) (Int.toNat (M v0 2))) (Int.toNat v2) (M (v0 + 3) (Int.toNat v2))) (v0 + 2) (Int.toNat ((mm_up M (mm_el (mm_ak lay_c (v0 + 4)).1 (v0 + 4) (Int.toNat (M v0 2))) (Int.toNat v2) (M (v0 + 3) (Int.toNat v2))) v0 2))) (mm_shl (1 : Int) ((mm_up M (mm_el (mm_ak lay_c (v0 + 4)).1 (v0 + 4) (Int.toNat (M v0 2))) (Int.toNat v2) (M (v0 + 3) (Int.toNat v2))) (v0 + 3) (Int.toNat v2))))) Q)))))))))))))))))))))
def mX4_keepPath (v0 : Nat) (v1 : Int) (M : mm_M) (Q : mm_M → Prop) : Prop := mm_chk (mm_kd lay_c v0 4) ((((12 : Int) ≤ (M v0 2) → mm_chk (mm_kd lay_c v0 4) (mm_chk (mm_kd lay_c v0 4) (Q (mm_up M v0 2 (mm_w ((M v0 2) + (1 : Int))))))) ∧ ((M v0 2) < 12 → mm_chk (mm_kd lay_c v0 4) (mm_chk (mm_kd lay_c v0 4) (mm_chk (Nat.beq (mm_ak lay_c (v0 + 1)).1 0) (((0 ≤ (M v0 2) ∧ (M v0 2) < ((mm_ak lay_c (v0 + 1)).2 : Int)) ∧ mm_chk (mm_kd lay_c v0 4) (mm_chk (mm_kd lay_c v0 4) (mm_chk (Nat.beq (mm_ak lay_c (v0 + 2)).1 0) (((0 ≤ ((mm_up M (v0 + 1) (Int.toNat (M v0 2)) v1) v0 2) ∧ ((mm_up M (v0 + 1) (Int.toNat (M v0 2)) v1) v0 2) < ((mm_ak lay_c (v0 + 2)).2 : Int)) ∧ (∃ j, bX4_keepPath_31 j v0 v1 0 (mm_up (mm_up M (v0 + 1) (Int.toNat (M v0 2)) v1) (v0 + 2) (Int.toNat ((mm_up M (v0 + 1) (Int.toNat (M v0 2)) v1) v0 2)) 0) Q))))))))))))
def fX4_keepPath : mm_F := fun as M Q => match as with
  | [.inr (.inr v0), .inl v1] => mX4_keepPath v0 v1 M (fun M => Q none M)
  | _ => False
def bX4_extend_28 (rc : Nat → Int → Int → Int → Int → mm_M → (mm_M → Prop) → Prop) : Nat → Nat → Int → Int → Int → Int → Int → mm_M → (mm_M → Prop) → Prop
  | 0, _, _, _, _, _, _, _, _ => False
  | n + 1, v1, v2, v3, v4, v5, v6, M, Q => (((M 10 1) ≤ v6 → Q M) ∧ (v6 < (M 10 1) → mm_chk (mm_kd lay_c v1 4) ((((12 : Int) < (M v1 2) → Q M) ∧ ((M v1 2) ≤ 12 → ((0 ≤ v6 ∧ v6 < 10) ∧ ((0 ≤ v6 ∧ v6 < 10) ∧ ((¬ (M 11 (Int.toNat v6)) = v2 → (bX4_extend_28 rc n v1 v2 v3 v4 v5 (mm_w (v6 + 1)) M Q)) ∧ ((M 11 (Int.toNat v6)) = v2 → ((¬ (mm_and (mm_shr v5 (M 12 (Int.toNat v6))) (1 : Int)) = 0 → (bX4_extend_28 rc n v1 v2 v3 v4 v5 (mm_w (v6 + 1)) M Q)) ∧ ((mm_and (mm_shr v5 (M 12 (Int.toNat v6))) (1 : Int)) = 0 → mm_chk (mm_kd lay_c v1 4) (mm_chk (Nat.beq (mm_ak lay_c (v1 + 3)).1 0) (((0 ≤ v3 ∧ v3 < ((mm_ak lay_c (v1 + 3)).2 : Int)) ∧ rc v1 (M 12 (Int.toNat v6)) (mm_w (v3 + (1 : Int))) v4 (mm_or v5 (mm_shl (1 : Int) (M 12 (Int.toNat v6)))) (mm_up M (v1 + 3) (Int.toNat v3) v6) (fun M1 => (bX4_extend_28 rc n v1 v2 v3 v4 v5 (mm_w (v6 + 1)) M1 Q))))))))))))))))
def mX4_extend : Nat → Nat → Int → Int → Int → Int → mm_M → (mm_M → Prop) → Prop
  | 0, _, _, _, _, _, _, _ => False
  | d + 1, v1, v2, v3, v4, v5, M, Q => ((v4 ≤ v3 → mm_chk (mm_kd lay_c v1 4) (((¬ v2 = (M v1 1) → Q M) ∧ (v2 = (M v1 1) → mm_chk (mm_kd lay_c v1 4) (mX4_keepPath v1 v3 M (fun M1 => Q M1)))))) ∧ (v3 < v4 → ((v3 < 5 → (∃ j, bX4_extend_28 (mX4_extend d) j v1 v2 v3 v4 v5 0 M Q)) ∧ ((5 : Int) ≤ v3 → mm_chk (mm_kd lay_c v1 4) (((¬ v2 = (M v1 1) → Q M) ∧ (v2 = (M v1 1) → mm_chk (mm_kd lay_c v1 4) (mX4_keepPath v1 v3 M (fun M2 => Q M2)))))))))
def fX4_extend (d : Nat) : mm_F := fun as M Q => match as with
  | [.inr (.inr c0), .inr (.inr v1), .inl v2, .inl v3, .inl v4, .inl v5] => mm_chk (Nat.beq c0 10) (mX4_extend d v1 v2 v3 v4 v5 M (fun M => Q none M))
  | _ => False
def bX4_findWays_12 : Nat → Nat → Int → mm_M → (mm_M → Prop) → Prop
  | 0, _, _, _, _ => False
  | n + 1, v0, v2, M, Q => (((M 10 0) ≤ v2 → Q M) ∧ (v2 < (M 10 0) → mm_chk (mm_kd lay_c v0 4) (mm_chk (mm_kd lay_c v0 4) (mX4_extend 8 v0 (M v0 0) 0 v2 (mm_shl (1 : Int) (M v0 0)) M (fun M1 => (bX4_findWays_12 n v0 (mm_w (v2 + 1)) M1 Q))))))
def mX4_findWays (v0 : Nat) (M : mm_M) (Q : mm_M → Prop) : Prop := mm_chk (mm_kd lay_c v0 4) (mm_chk (mm_kd lay_c v0 4) ((∃ j, bX4_findWays_12 j v0 1 (mm_up (mm_up M v0 2 0) v0 3 0) Q)))
def fX4_findWays : mm_F := fun as M Q => match as with
  | [.inr (.inr v0), .inr (.inr c1)] => mm_chk (Nat.beq c1 10) (mX4_findWays v0 M (fun M => Q none M))
  | _ => False
def bX6_priceRoads_70 (K2 : Int → mm_M → Prop) : Nat → Int → Int → Int → Int → mm_M → (mm_M → Prop) → Prop
  | 0, _, _, _, _, _, _ => False
  | n + 1, v1, v2, v3, v4, M, Q => (((6 : Int) < v4 → (K2 (mm_w (v1 + 1)) M)) ∧ (v4 ≤ 6 → ((0 ≤ v1 ∧ v1 < 10) ∧ ((0 ≤ v1 ∧ v1 < 10) ∧ mm_chk (Nat.beq (mm_ak lay_c (19 + (Int.toNat v1))).1 0) (((0 ≤ v4 ∧ v4 < ((mm_ak lay_c (19 + (Int.toNat v1))).2 : Int)) ∧ (bX6_priceRoads_70 K2 n v1 v2 v3 (mm_w (v4 + 1)) (mm_up M (19 + (Int.toNat v1)) (Int.toNat v4) (mm_w ((mm_w (v2 + (mm_w ((M 14 (Int.toNat v1)) * v4)))) + (mm_w (v3 * (mm_w (v4 - (1 : Int)))))))) Q)))))))
def bX6_priceRoads_43 (K2 : Int → mm_M → Prop) (v1 : Int) (w0 : Int) (w1 : Int) (M : mm_M) (Q : mm_M → Prop) : Prop := ((¬ (M 9 3) = 2 → (∃ j, bX6_priceRoads_70 K2 j v1 (mm_w (w1 + w0)) 0 1 M Q)) ∧ ((M 9 3) = 2 → ((0 ≤ v1 ∧ v1 < 10) ∧ (∃ j, bX6_priceRoads_70 K2 j v1 (mm_w (w1 + w0)) (M 14 (Int.toNat v1)) 1 M Q))))
def bX6_priceRoads_2 : Nat → Int → mm_M → (mm_M → Prop) → Prop
  | 0, _, _, _ => False
  | n + 1, v1, M, Q => (((M 10 1) ≤ v1 → Q M) ∧ (v1 < (M 10 1) → ((0 ≤ v1 ∧ v1 < 10) ∧ ((¬ (M 9 3) = 1 → (bX6_priceRoads_43 (fun v1 M => bX6_priceRoads_2 n v1 M Q) v1 0 (M 13 (Int.toNat v1)) M Q)) ∧ ((M 9 3) = 1 → ((0 ≤ v1 ∧ v1 < 10) ∧ (bX6_priceRoads_43 (fun v1 M => bX6_priceRoads_2 n v1 M Q) v1 (M 15 (Int.toNat v1)) (M 13 (Int.toNat v1)) M Q)))))))
def mX6_priceRoads  (M : mm_M) (Q : mm_M → Prop) : Prop := (∃ j, bX6_priceRoads_2 j 0 M Q)
def fX6_priceRoads : mm_F := fun as M Q => match as with
  | [.inr (.inr c0)] => mm_chk (Nat.beq c0 9) (mX6_priceRoads M (fun M => Q none M))
  | _ => False
def bX6_beginOn_15 : Nat → Int → mm_M → (mm_M → Prop) → Prop
  | 0, _, _, _ => False
  | n + 1, v2, M, Q => (((10 : Int) ≤ v2 → mX6_priceRoads M (fun M1 => Q M1)) ∧ (v2 < 10 → ((0 ≤ v2 ∧ v2 < 10) ∧ (bX6_beginOn_15 n (mm_w (v2 + 1)) (mm_up M 16 (Int.toNat v2) 0) Q))))
def mX6_beginOn  (M : mm_M) (Q : mm_M → Prop) : Prop := mX2_becomeLike M (fun M1 => (∃ j, bX6_beginOn_15 j 0 (mm_up M1 9 2 0) Q))
def fX6_beginOn : mm_F := fun as M Q => match as with
  | [.inr (.inr c0), .inr (.inr c1)] => mm_chk (Nat.beq c0 9 && Nat.beq c1 3) (mX6_beginOn M (fun M => Q none M))
  | _ => False
def bX6_payBy_53 (K16 : Nat → Int → Int → Int → Int → mm_M → Prop) (v1 : Nat) (v2 : Int) (v3 : Int) (v4 : Int) (v5 : Int) (v6 : Int) (w0 : Int) (M : mm_M) (Q : Int → mm_M → Prop) : Prop := ((0 ≤ v6 ∧ v6 < 10) ∧ ((0 ≤ v6 ∧ v6 < 10) ∧ mm_chk (Nat.beq (mm_ak lay_c (19 + (Int.toNat v6))).1 0) (((0 ≤ (mm_w ((M 16 (Int.toNat v6)) + w0)) ∧ (mm_w ((M 16 (Int.toNat v6)) + w0)) < ((mm_ak lay_c (19 + (Int.toNat v6))).2 : Int)) ∧ (K16 v1 v2 v3 (mm_w (v4 + (M (19 + (Int.toNat v6)) (Int.toNat (mm_w ((M 16 (Int.toNat v6)) + w0)))))) (mm_w (v5 + 1)) M)))))
def bX6_payBy_16 : Nat → Nat → Int → Int → Int → Int → mm_M → (Int → mm_M → Prop) → Prop
  | 0, _, _, _, _, _, _, _ => False
  | n + 1, v1, v2, v3, v4, v5, M, Q => mm_chk (mm_kd lay_c v1 4) (mm_chk (Nat.beq (mm_ak lay_c (v1 + 1)).1 0) (((0 ≤ v2 ∧ v2 < ((mm_ak lay_c (v1 + 1)).2 : Int)) ∧ (((M (v1 + 1) (Int.toNat v2)) ≤ v5 → Q v4 M) ∧ (v5 < (M (v1 + 1) (Int.toNat v2)) → mm_chk (mm_kd lay_c v1 4) (mm_chk (Nat.ble 3 (mm_ak lay_c (v1 + 4)).1 && Nat.ble (mm_ak lay_c (v1 + 4)).1 5) (((0 ≤ v2 ∧ v2 < ((mm_ak lay_c (v1 + 4)).2 : Int)) ∧ mm_chk (Nat.beq (mm_ak lay_c (mm_el (mm_ak lay_c (v1 + 4)).1 (v1 + 4) (Int.toNat v2))).1 0) (((0 ≤ v5 ∧ v5 < ((mm_ak lay_c (mm_el (mm_ak lay_c (v1 + 4)).1 (v1 + 4) (Int.toNat v2))).2 : Int)) ∧ ((¬ (mm_and (mm_shr v3 (M (mm_el (mm_ak lay_c (v1 + 4)).1 (v1 + 4) (Int.toNat v2)) (Int.toNat v5))) (1 : Int)) = 1 → (bX6_payBy_53 (fun v1 v2 v3 v4 v5 M => bX6_payBy_16 n v1 v2 v3 v4 v5 M Q) v1 v2 v3 v4 v5 (M (mm_el (mm_ak lay_c (v1 + 4)).1 (v1 + 4) (Int.toNat v2)) (Int.toNat v5)) 1 M Q)) ∧ ((mm_and (mm_shr v3 (M (mm_el (mm_ak lay_c (v1 + 4)).1 (v1 + 4) (Int.toNat v2)) (Int.toNat v5))) (1 : Int)) = 1 → (bX6_payBy_53 (fun v1 v2 v3 v4 v5 M => bX6_payBy_16 n v1 v2 v3 v4 v5 M Q) v1 v2 v3 v4 v5 (M (mm_el (mm_ak lay_c (v1 + 4)).1 (v1 + 4) (Int.toNat v2)) (Int.toNat v5)) 0 M Q)))))))))))))
def mX6_payBy (v1 : Nat) (v2 : Int) (M : mm_M) (Q : Int → mm_M → Prop) : Prop := mm_chk (mm_kd lay_c v1 4) (mm_chk (mm_kd lay_c v1 4) (mm_chk (Nat.beq (mm_ak lay_c (v1 + 2)).1 0) (((0 ≤ (M v1 3) ∧ (M v1 3) < ((mm_ak lay_c (v1 + 2)).2 : Int)) ∧ (∃ j, bX6_payBy_16 j v1 v2 (M (v1 + 2) (Int.toNat (M v1 3))) 0 0 M Q)))))
def fX6_payBy : mm_F := fun as M Q => match as with
  | [.inr (.inr c0), .inr (.inr v1), .inl v2] => mm_chk (Nat.beq c0 9) (mX6_payBy v1 v2 M (fun r M => Q (some (.inl r)) M))
  | _ => False
def bX6_bestWayOf_18 : Nat → Nat → Int → Int → Int → mm_M → (Int → mm_M → Prop) → Prop
  | 0, _, _, _, _, _, _ => False
  | n + 1, v1, v2, v3, v4, M, Q => mm_chk (mm_kd lay_c v1 4) ((((M v1 2) ≤ v4 → Q v2 M) ∧ (v4 < (M v1 2) → mX6_payBy v1 v4 M (fun r1 M1 => ((v3 ≤ r1 → (bX6_bestWayOf_18 n v1 v2 v3 (mm_w (v4 + 1)) M1 Q)) ∧ (r1 < v3 → (bX6_bestWayOf_18 n v1 v4 r1 (mm_w (v4 + 1)) M1 Q)))))))
def mX6_bestWayOf (v1 : Nat) (M : mm_M) (Q : Int → mm_M → Prop) : Prop := mm_chk (mm_kd lay_c v1 4) (mm_chk (mm_kd lay_c v1 4) (mX6_payBy v1 (M v1 3) M (fun r1 M1 => (∃ j, bX6_bestWayOf_18 j v1 (M v1 3) r1 0 M1 Q))))
def fX6_bestWayOf : mm_F := fun as M Q => match as with
  | [.inr (.inr c0), .inr (.inr v1)] => mm_chk (Nat.beq c0 9) (mX6_bestWayOf v1 M (fun r M => Q (some (.inl r)) M))
  | _ => False
def mX6_admit (v1 : Int) (v2 : Int) (M : mm_M) (Q : Int → mm_M → Prop) : Prop := ((0 ≤ (M 9 2) ∧ (M 9 2) < 5) ∧ mm_chk (mm_kd lay_c (30 + 17 * (Int.toNat (M 9 2))) 4) (mm_chk (mm_kd lay_c (30 + 17 * (Int.toNat (M 9 2))) 4) (mm_chk (mm_kd lay_c (30 + 17 * (Int.toNat (M 9 2))) 4) (mX4_findWays (30 + 17 * (Int.toNat (M 9 2))) (mm_up (mm_up M (30 + 17 * (Int.toNat (M 9 2))) 0 v1) (30 + 17 * (Int.toNat (M 9 2))) 1 v2) (fun M1 => mm_chk (mm_kd lay_c (30 + 17 * (Int.toNat (M 9 2))) 4) ((((M1 (30 + 17 * (Int.toNat (M 9 2))) 2) = 0 → (((0 : Int) = 0 ∨ (0 : Int) = 1) ∧ Q 0 M1)) ∧ (¬ (M1 (30 + 17 * (Int.toNat (M 9 2))) 2) = 0 → mm_chk (mm_kd lay_c (30 + 17 * (Int.toNat (M 9 2))) 4) ((((M1 (30 + 17 * (Int.toNat (M 9 2))) 2) ≤ 12 → mX6_burden (30 + 17 * (Int.toNat (M 9 2))) 1 (mm_up M1 9 2 (mm_w ((M1 9 2) + (1 : Int)))) (fun M2 => mX6_bestWayOf (30 + 17 * (Int.toNat (M 9 2))) M2 (fun r3 M3 => mX6_moveTo (30 + 17 * (Int.toNat (M 9 2))) r3 M3 (fun M4 => (((1 : Int) = 0 ∨ (1 : Int) = 1) ∧ Q 1 M4))))) ∧ ((12 : Int) < (M1 (30 + 17 * (Int.toNat (M 9 2))) 2) → (((0 : Int) = 0 ∨ (0 : Int) = 1) ∧ Q 0 M1))))))))))))
def fX6_admit : mm_F := fun as M Q => match as with
  | [.inr (.inr c0), .inl v1, .inl v2] => mm_chk (Nat.beq c0 9) (mX6_admit v1 v2 M (fun r M => Q (some (.inl r)) M))
  | _ => False
def mX6_dismissLast  (M : mm_M) (Q : mm_M → Prop) : Prop := (((M 9 2) ≤ 0 → Q M) ∧ ((0 : Int) < (M 9 2) → ((0 ≤ ((mm_up M 9 2 (mm_w ((M 9 2) - (1 : Int)))) 9 2) ∧ ((mm_up M 9 2 (mm_w ((M 9 2) - (1 : Int)))) 9 2) < 5) ∧ mX6_burden (30 + 17 * (Int.toNat ((mm_up M 9 2 (mm_w ((M 9 2) - (1 : Int)))) 9 2))) (-1) (mm_up M 9 2 (mm_w ((M 9 2) - (1 : Int)))) (fun M1 => Q M1))))
def fX6_dismissLast : mm_F := fun as M Q => match as with
  | [.inr (.inr c0)] => mm_chk (Nat.beq c0 9) (mX6_dismissLast M (fun M => Q none M))
  | _ => False
def bX6_restsNow_2 : Nat → Int → mm_M → (Int → mm_M → Prop) → Prop
  | 0, _, _, _ => False
  | n + 1, v1, M, Q => (((M 9 2) ≤ v1 → (((1 : Int) = 0 ∨ (1 : Int) = 1) ∧ Q 1 M)) ∧ (v1 < (M 9 2) → ((0 ≤ v1 ∧ v1 < 5) ∧ mX6_bestWayOf (30 + 17 * (Int.toNat v1)) M (fun r1 M1 => ((0 ≤ v1 ∧ v1 < 5) ∧ mm_chk (mm_kd lay_c (30 + 17 * (Int.toNat v1)) 4) (((r1 = (M1 (30 + 17 * (Int.toNat v1)) 3) → (bX6_restsNow_2 n (mm_w (v1 + 1)) M1 Q)) ∧ (¬ r1 = (M1 (30 + 17 * (Int.toNat v1)) 3) → (((0 : Int) = 0 ∨ (0 : Int) = 1) ∧ Q 0 M1)))))))))
def mX6_restsNow  (M : mm_M) (Q : Int → mm_M → Prop) : Prop := (∃ j, bX6_restsNow_2 j 0 M Q)
def fX6_restsNow : mm_F := fun as M Q => match as with
  | [.inr (.inr c0)] => mm_chk (Nat.beq c0 9) (mX6_restsNow M (fun r M => Q (some (.inl r)) M))
  | _ => False
def bX6_moveFirst_34 (K2 : Int → Int → mm_M → Prop) (v1 : Int) (v2 : Int) (v3 : Nat) (w0 : Int) (M : mm_M) (Q : Int → mm_M → Prop) : Prop := mm_chk (mm_kd lay_c v3 4) (((w0 = (M v3 3) → (K2 v1 (mm_w (v2 + 1)) M)) ∧ (¬ w0 = (M v3 3) → mX6_moveTo v3 w0 M (fun M1 => Q v2 M1))))
def bX6_moveFirst_2 : Nat → Int → Int → mm_M → (Int → mm_M → Prop) → Prop
  | 0, _, _, _, _ => False
  | n + 1, v1, v2, M, Q => (((M 9 2) ≤ v2 → Q (-1) M) ∧ (v2 < (M 9 2) → ((0 ≤ v2 ∧ v2 < 5) ∧ ((¬ v2 = v1 → mX6_bestWayOf (30 + 17 * (Int.toNat v2)) M (fun r1 M1 => (bX6_moveFirst_34 (fun v1 v2 M => bX6_moveFirst_2 n v1 v2 M Q) v1 v2 (30 + 17 * (Int.toNat v2)) r1 M1 Q))) ∧ (v2 = v1 → mm_chk (mm_kd lay_c (30 + 17 * (Int.toNat v2)) 4) ((bX6_moveFirst_34 (fun v1 v2 M => bX6_moveFirst_2 n v1 v2 M Q) v1 v2 (30 + 17 * (Int.toNat v2)) (M (30 + 17 * (Int.toNat v2)) 3) M Q)))))))
def mX6_moveFirst (v1 : Int) (M : mm_M) (Q : Int → mm_M → Prop) : Prop := (∃ j, bX6_moveFirst_2 j v1 0 M Q)
def fX6_moveFirst : mm_F := fun as M Q => match as with
  | [.inr (.inr c0), .inl v1] => mm_chk (Nat.beq c0 9) (mX6_moveFirst v1 M (fun r M => Q (some (.inl r)) M))
  | _ => False
def bX6_settleBehind_13 : Nat → Int → Int → Int → mm_M → (Int → mm_M → Prop) → Prop
  | 0, _, _, _, _, _ => False
  | n + 1, v1, v2, v3, M, Q => (((1000000 : Int) ≤ v3 → ((0 ≤ v1 ∧ v1 < 5) ∧ mX6_payBy (30 + 17 * (Int.toNat v1)) v2 M (fun r1 M1 => Q r1 M1))) ∧ (v3 < 1000000 → mX6_moveFirst v1 M (fun r2 M2 => ((¬ r2 = (-1) → (bX6_settleBehind_13 n v1 v2 (mm_w (v3 + 1)) M2 Q)) ∧ (r2 = (-1) → ((0 ≤ v1 ∧ v1 < 5) ∧ mX6_payBy (30 + 17 * (Int.toNat v1)) v2 M2 (fun r3 M3 => Q r3 M3)))))))
def mX6_settleBehind (v1 : Int) (v2 : Int) (M : mm_M) (Q : Int → mm_M → Prop) : Prop := ((0 ≤ v1 ∧ v1 < 5) ∧ mX6_moveTo (30 + 17 * (Int.toNat v1)) v2 M (fun M1 => (∃ j, bX6_settleBehind_13 j v1 v2 0 M1 Q)))
def fX6_settleBehind : mm_F := fun as M Q => match as with
  | [.inr (.inr c0), .inl v1, .inl v2] => mm_chk (Nat.beq c0 9) (mX6_settleBehind v1 v2 M (fun r M => Q (some (.inl r)) M))
  | _ => False
def mX6_payIfLeading (v1 : Int) (v2 : Int) (M : mm_M) (Q : Int → mm_M → Prop) : Prop := mX6_keepSet M (fun M1 => mX6_settleBehind v1 v2 M1 (fun r2 M2 => mX6_takeKeptSet M2 (fun M3 => Q r2 M3)))
def fX6_payIfLeading : mm_F := fun as M Q => match as with
  | [.inr (.inr c0), .inl v1, .inl v2] => mm_chk (Nat.beq c0 9) (mX6_payIfLeading v1 v2 M (fun r M => Q (some (.inl r)) M))
  | _ => False
def bX6_bestLeadOf_12 : Nat → Int → Int → Int → Int → mm_M → (Int → mm_M → Prop) → Prop
  | 0, _, _, _, _, _, _ => False
  | n + 1, v1, v2, v3, v4, M, Q => ((0 ≤ v1 ∧ v1 < 5) ∧ mm_chk (mm_kd lay_c (30 + 17 * (Int.toNat v1)) 4) ((((M (30 + 17 * (Int.toNat v1)) 2) ≤ v4 → Q v2 M) ∧ (v4 < (M (30 + 17 * (Int.toNat v1)) 2) → mX6_payIfLeading v1 v4 M (fun r1 M1 => ((v3 ≤ r1 → (bX6_bestLeadOf_12 n v1 v2 v3 (mm_w (v4 + 1)) M1 Q)) ∧ (r1 < v3 → (bX6_bestLeadOf_12 n v1 v4 r1 (mm_w (v4 + 1)) M1 Q))))))))
def mX6_bestLeadOf (v1 : Int) (M : mm_M) (Q : Int → mm_M → Prop) : Prop := mX6_payIfLeading v1 0 M (fun r1 M1 => (∃ j, bX6_bestLeadOf_12 j v1 0 r1 1 M1 Q))
def fX6_bestLeadOf : mm_F := fun as M Q => match as with
  | [.inr (.inr c0), .inl v1] => mm_chk (Nat.beq c0 9) (mX6_bestLeadOf v1 M (fun r M => Q (some (.inl r)) M))
  | _ => False
def bX6_numberOfSet_4 : Nat → Int → Int → mm_M → (Int → mm_M → Prop) → Prop
  | 0, _, _, _, _ => False
  | n + 1, v1, v2, M, Q => (((M 9 2) ≤ v2 → Q v1 M) ∧ (v2 < (M 9 2) → ((0 ≤ v2 ∧ v2 < 5) ∧ mm_chk (mm_kd lay_c (30 + 17 * (Int.toNat v2)) 4) (((0 ≤ v2 ∧ v2 < 5) ∧ mm_chk (mm_kd lay_c (30 + 17 * (Int.toNat v2)) 4) ((bX6_numberOfSet_4 n (mm_w ((mm_w (v1 * (M (30 + 17 * (Int.toNat v2)) 2))) + (M (30 + 17 * (Int.toNat v2)) 3))) (mm_w (v2 + 1)) M Q)))))))
def mX6_numberOfSet  (M : mm_M) (Q : Int → mm_M → Prop) : Prop := (∃ j, bX6_numberOfSet_4 j 0 0 M Q)
def fX6_numberOfSet : mm_F := fun as M Q => match as with
  | [.inr (.inr c0)] => mm_chk (Nat.beq c0 9) (mX6_numberOfSet M (fun r M => Q (some (.inl r)) M))
  | _ => False
def bX6_greatestLoad_4 : Nat → Int → Int → mm_M → (Int → mm_M → Prop) → Prop
  | 0, _, _, _, _ => False
  | n + 1, v1, v2, M, Q => (((M 10 1) ≤ v2 → Q v1 M) ∧ (v2 < (M 10 1) → ((0 ≤ v2 ∧ v2 < 10) ∧ mJ9_max_7cf53 v1 (M 16 (Int.toNat v2)) M (fun r1 M1 => (bX6_greatestLoad_4 n r1 (mm_w (v2 + 1)) M1 Q)))))
def mX6_greatestLoad  (M : mm_M) (Q : Int → mm_M → Prop) : Prop := (∃ j, bX6_greatestLoad_4 j 0 0 M Q)
def fX6_greatestLoad : mm_F := fun as M Q => match as with
  | [.inr (.inr c0)] => mm_chk (Nat.beq c0 9) (mX6_greatestLoad M (fun r M => Q (some (.inl r)) M))
  | _ => False
def mX7_letter (v1 : Int) (M : mm_M) (Q : Int → mm_M → Prop) : Prop := mX7_within v1 32 126 M (fun r1 M1 => ((¬ r1 = 0 → (((M1 1 1) < 92 → ((0 ≤ (M1 1 1) ∧ (M1 1 1) < 92) ∧ Q ((mm_up (mm_up M1 2 (Int.toNat (M1 1 1)) v1) 1 1 (mm_w (((mm_up M1 2 (Int.toNat (M1 1 1)) v1) 1 1) + (1 : Int)))) 1 1) (mm_up (mm_up M1 2 (Int.toNat (M1 1 1)) v1) 1 1 (mm_w (((mm_up M1 2 (Int.toNat (M1 1 1)) v1) 1 1) + (1 : Int)))))) ∧ ((92 : Int) ≤ (M1 1 1) → Q (-104) M1))) ∧ (r1 = 0 → Q (-102) M1)))
def fX7_letter : mm_F := fun as M Q => match as with
  | [.inr (.inr c0), .inl v1] => mm_chk (Nat.beq c0 0) (mX7_letter v1 M (fun r M => Q (some (.inl r)) M))
  | _ => False
def mX7_blank  (M : mm_M) (Q : Int → mm_M → Prop) : Prop := Q (M 1 1) (mm_up M 1 1 0)
def fX7_blank : mm_F := fun as M Q => match as with
  | [.inr (.inr c0)] => mm_chk (Nat.beq c0 0) (mX7_blank M (fun r M => Q (some (.inl r)) M))
  | _ => False
def mX7_fault  (M : mm_M) (Q : Int → mm_M → Prop) : Prop := mX3_readIntoDraft M (fun r1 M1 => Q r1 M1)
def fX7_fault : mm_F := fun as M Q => match as with
  | [.inr (.inr c0)] => mm_chk (Nat.beq c0 0) (mX7_fault M (fun r M => Q (some (.inl r)) M))
  | _ => False
def mX7_net  (M : mm_M) (Q : Int → mm_M → Prop) : Prop := mX3_readIntoDraft M (fun r1 M1 => ((r1 < (M1 1 1) → Q (-103) M1) ∧ ((M1 1 1) ≤ r1 → mX3_isWhole M1 (fun r2 M2 => ((¬ r2 = 0 → mX6_beginOn M2 (fun M3 => Q ((mm_up (mm_up (mm_up M3 115 0 0) 1 1 0) 0 4 (mm_w (((mm_up (mm_up M3 115 0 0) 1 1 0) 0 4) + (1 : Int)))) 10 1) (mm_up (mm_up (mm_up M3 115 0 0) 1 1 0) 0 4 (mm_w (((mm_up (mm_up M3 115 0 0) 1 1 0) 0 4) + (1 : Int)))))) ∧ (r2 = 0 → Q (-103) M2))))))
def fX7_net : mm_F := fun as M Q => match as with
  | [.inr (.inr c0)] => mm_chk (Nat.beq c0 0) (mX7_net M (fun r M => Q (some (.inl r)) M))
  | _ => False
def mX7_hasNet  (M : mm_M) (Q : Int → mm_M → Prop) : Prop := (((M 10 1) ≤ 0 → (((0 : Int) = 0 ∨ (0 : Int) = 1) ∧ Q 0 M)) ∧ ((0 : Int) < (M 10 1) → (((1 : Int) = 0 ∨ (1 : Int) = 1) ∧ Q 1 M)))
def fX7_hasNet : mm_F := fun as M Q => match as with
  | [.inr (.inr c0)] => mm_chk (Nat.beq c0 0) (mX7_hasNet M (fun r M => Q (some (.inl r)) M))
  | _ => False
def mX7_about (v1 : Int) (M : mm_M) (Q : Int → mm_M → Prop) : Prop := mX7_within v1 0 7 M (fun r1 M1 => ((¬ r1 = 0 → mX7_hasNet M1 (fun r2 M2 => ((¬ r2 = 0 → ((v1 < 0 ∨ (6 : Int) < v1 → mX6_greatestLoad M2 (fun r3 M3 => Q r3 M3)) ∧ (v1 = 0 → Q (M2 10 0) M2) ∧ (v1 = 1 → Q (M2 10 1) M2) ∧ (v1 = 2 → Q (M2 9 3) M2) ∧ (v1 = 3 → mX6_socialNow M2 (fun r4 M4 => Q r4 M4)) ∧ (v1 = 4 → mX6_potentialNow M2 (fun r5 M5 => Q r5 M5)) ∧ (v1 = 5 → mX6_restsNow M2 (fun r6 M6 => ((r6 = 0 → Q 0 M6) ∧ (¬ r6 = 0 → Q 1 M6)))) ∧ (v1 = 6 → mX6_setsInAll M2 (fun r7 M7 => Q r7 M7)) ∧ True)) ∧ (r2 = 0 → Q (-103) M2)))) ∧ (r1 = 0 → Q (-102) M1)))
def fX7_about : mm_F := fun as M Q => match as with
  | [.inr (.inr c0), .inl v1] => mm_chk (Nat.beq c0 0) (mX7_about v1 M (fun r M => Q (some (.inl r)) M))
  | _ => False
def mX7_isRoad (v1 : Int) (M : mm_M) (Q : Int → mm_M → Prop) : Prop := mX7_within v1 0 (mm_w ((M 10 1) - (1 : Int))) M (fun r1 M1 => ((r1 = 0 ∨ r1 = 1) ∧ Q r1 M1))
def fX7_isRoad : mm_F := fun as M Q => match as with
  | [.inr (.inr c0), .inl v1] => mm_chk (Nat.beq c0 0) (mX7_isRoad v1 M (fun r M => Q (some (.inl r)) M))
  | _ => False
def mX7_road (v1 : Int) (v2 : Int) (M : mm_M) (Q : Int → mm_M → Prop) : Prop := mX7_isRoad v1 M (fun r1 M1 => ((¬ r1 = 0 → mX7_within v2 0 7 M1 (fun r2 M2 => ((¬ r2 = 0 → ((0 ≤ v1 ∧ v1 < 10) ∧ ((v2 < 0 ∨ (6 : Int) < v2 → ((0 ≤ v1 ∧ v1 < 10) ∧ mm_chk (Nat.beq (mm_ak lay_c (19 + (Int.toNat v1))).1 0) (((0 ≤ (mm_w ((M2 16 (Int.toNat v1)) + (1 : Int))) ∧ (mm_w ((M2 16 (Int.toNat v1)) + (1 : Int))) < ((mm_ak lay_c (19 + (Int.toNat v1))).2 : Int)) ∧ Q (M2 (19 + (Int.toNat v1)) (Int.toNat (mm_w ((M2 16 (Int.toNat v1)) + (1 : Int))))) M2)))) ∧ (v2 = 0 → ((0 ≤ v1 ∧ v1 < 10) ∧ Q (M2 11 (Int.toNat v1)) M2)) ∧ (v2 = 1 → ((0 ≤ v1 ∧ v1 < 10) ∧ Q (M2 12 (Int.toNat v1)) M2)) ∧ (v2 = 2 → ((0 ≤ v1 ∧ v1 < 10) ∧ Q (M2 13 (Int.toNat v1)) M2)) ∧ (v2 = 3 → ((0 ≤ v1 ∧ v1 < 10) ∧ Q (M2 14 (Int.toNat v1)) M2)) ∧ (v2 = 4 → ((0 ≤ v1 ∧ v1 < 10) ∧ Q (M2 15 (Int.toNat v1)) M2)) ∧ (v2 = 5 → Q (M2 16 (Int.toNat v1)) M2) ∧ (v2 = 6 → ((¬ (M2 16 (Int.toNat v1)) = 0 → ((0 ≤ v1 ∧ v1 < 10) ∧ mm_chk (Nat.beq (mm_ak lay_c (19 + (Int.toNat v1))).1 0) (((0 ≤ (M2 16 (Int.toNat v1)) ∧ (M2 16 (Int.toNat v1)) < ((mm_ak lay_c (19 + (Int.toNat v1))).2 : Int)) ∧ Q (M2 (19 + (Int.toNat v1)) (Int.toNat (M2 16 (Int.toNat v1)))) M2)))) ∧ ((M2 16 (Int.toNat v1)) = 0 → Q (-1) M2))) ∧ True))) ∧ (r2 = 0 → Q (-102) M2)))) ∧ (r1 = 0 → Q (-101) M1)))
def fX7_road : mm_F := fun as M Q => match as with
  | [.inr (.inr c0), .inl v1, .inl v2] => mm_chk (Nat.beq c0 0) (mX7_road v1 v2 M (fun r M => Q (some (.inl r)) M))
  | _ => False
def bX7_put_98 (v1 : Int) (v3 : Int) (v5 : Int) (w0 : Nat) (M : mm_M) (Q : Int → mm_M → Prop) : Prop := mm_chk (Nat.beq (mm_ak lay_c w0).1 0) (((0 ≤ v1 ∧ v1 < ((mm_ak lay_c w0).2 : Int)) ∧ mm_chk (Nat.beq (mm_ak lay_c w0).1 0) (((0 ≤ v1 ∧ v1 < ((mm_ak lay_c w0).2 : Int)) ∧ mX6_priceRoads (mm_up M w0 (Int.toNat v1) v3) (fun M1 => Q (M w0 (Int.toNat v1)) (mm_up M1 115 0 0))))))
def bX7_put_53 (v1 : Int) (v2 : Int) (v3 : Int) (w0 : Int) (M : mm_M) (Q : Int → mm_M → Prop) : Prop := mX7_within v3 0 w0 M (fun r1 M1 => ((¬ r1 = 0 → ((¬ v2 = 0 → ((¬ v2 = 1 → (bX7_put_98 v1 v3 w0 15 M1 Q)) ∧ (v2 = 1 → (bX7_put_98 v1 v3 w0 14 M1 Q)))) ∧ (v2 = 0 → (bX7_put_98 v1 v3 w0 13 M1 Q)))) ∧ (r1 = 0 → Q (-102) M1)))
def mX7_put (v1 : Int) (v2 : Int) (v3 : Int) (M : mm_M) (Q : Int → mm_M → Prop) : Prop := mX7_isRoad v1 M (fun r1 M1 => ((¬ r1 = 0 → mX7_within v2 0 2 M1 (fun r2 M2 => ((¬ r2 = 0 → ((¬ v2 = 0 → ((¬ v2 = 1 → (bX7_put_53 v1 v2 v3 40 M2 Q)) ∧ (v2 = 1 → (bX7_put_53 v1 v2 v3 9 M2 Q)))) ∧ (v2 = 0 → (bX7_put_53 v1 v2 v3 20 M2 Q)))) ∧ (r2 = 0 → Q (-102) M2)))) ∧ (r1 = 0 → Q (-101) M1)))
def fX7_put : mm_F := fun as M Q => match as with
  | [.inr (.inr c0), .inl v1, .inl v2, .inl v3] => mm_chk (Nat.beq c0 0) (mX7_put v1 v2 v3 M (fun r M => Q (some (.inl r)) M))
  | _ => False
def mX7_mode (v1 : Int) (M : mm_M) (Q : Int → mm_M → Prop) : Prop := mX7_within v1 0 2 M (fun r1 M1 => ((¬ r1 = 0 → mX6_priceRoads (mm_up M1 9 3 v1) (fun M2 => Q (M1 9 3) (mm_up M2 115 0 0))) ∧ (r1 = 0 → Q (-102) M1)))
def fX7_mode : mm_F := fun as M Q => match as with
  | [.inr (.inr c0), .inl v1] => mm_chk (Nat.beq c0 0) (mX7_mode v1 M (fun r M => Q (some (.inl r)) M))
  | _ => False
def mX7_player (v1 : Int) (v2 : Int) (M : mm_M) (Q : Int → mm_M → Prop) : Prop := mX7_hasNet M (fun r1 M1 => ((¬ r1 = 0 → mX7_within v1 0 (mm_w ((M1 10 0) - (1 : Int))) M1 (fun r2 M2 => ((r2 = 0 → Q (-101) M2) ∧ (¬ r2 = 0 → mX7_within v2 0 (mm_w ((M1 10 0) - (1 : Int))) M2 (fun r3 M3 => ((r3 = 0 → Q (-101) M3) ∧ (¬ r3 = 0 → ((¬ v1 = v2 → (((M3 9 2) < 5 → mX6_admit v1 v2 M3 (fun r4 M4 => ((¬ r4 = 0 → Q (mm_w (((mm_up (mm_up M4 115 0 0) 0 5 (mm_w (((mm_up M4 115 0 0) 0 5) + (1 : Int)))) 9 2) - (1 : Int))) (mm_up (mm_up M4 115 0 0) 0 5 (mm_w (((mm_up M4 115 0 0) 0 5) + (1 : Int))))) ∧ (r4 = 0 → Q (-103) M4)))) ∧ ((5 : Int) ≤ (M3 9 2) → Q (-104) M3))) ∧ (v1 = v2 → Q (-101) M3))))))))) ∧ (r1 = 0 → Q (-103) M1)))
def fX7_player : mm_F := fun as M Q => match as with
  | [.inr (.inr c0), .inl v1, .inl v2] => mm_chk (Nat.beq c0 0) (mX7_player v1 v2 M (fun r M => Q (some (.inl r)) M))
  | _ => False
def mX7_drop  (M : mm_M) (Q : Int → mm_M → Prop) : Prop := ((¬ (M 9 2) = 0 → mX6_dismissLast M (fun M1 => Q ((mm_up M1 115 0 0) 9 2) (mm_up M1 115 0 0))) ∧ ((M 9 2) = 0 → Q (-103) M))
def fX7_drop : mm_F := fun as M Q => match as with
  | [.inr (.inr c0)] => mm_chk (Nat.beq c0 0) (mX7_drop M (fun r M => Q (some (.inl r)) M))
  | _ => False
def mX7_isPlayer (v1 : Int) (M : mm_M) (Q : Int → mm_M → Prop) : Prop := mX7_within v1 0 (mm_w ((M 9 2) - (1 : Int))) M (fun r1 M1 => ((r1 = 0 ∨ r1 = 1) ∧ Q r1 M1))
def fX7_isPlayer : mm_F := fun as M Q => match as with
  | [.inr (.inr c0), .inl v1] => mm_chk (Nat.beq c0 0) (mX7_isPlayer v1 M (fun r M => Q (some (.inl r)) M))
  | _ => False
def mX7_who (v1 : Int) (v2 : Int) (M : mm_M) (Q : Int → mm_M → Prop) : Prop := mX7_isPlayer v1 M (fun r1 M1 => ((¬ r1 = 0 → mX7_within v2 0 6 M1 (fun r2 M2 => ((¬ r2 = 0 → ((0 ≤ v1 ∧ v1 < 5) ∧ ((v2 < 0 ∨ (5 : Int) < v2 → mX6_bestWayOf (30 + 17 * (Int.toNat v1)) M2 (fun r3 M3 => mX6_payBy (30 + 17 * (Int.toNat v1)) r3 M3 (fun r4 M4 => Q r4 M4))) ∧ (v2 = 0 → mm_chk (mm_kd lay_c (30 + 17 * (Int.toNat v1)) 4) (Q (M2 (30 + 17 * (Int.toNat v1)) 0) M2)) ∧ (v2 = 1 → mm_chk (mm_kd lay_c (30 + 17 * (Int.toNat v1)) 4) (Q (M2 (30 + 17 * (Int.toNat v1)) 1) M2)) ∧ (v2 = 2 → mm_chk (mm_kd lay_c (30 + 17 * (Int.toNat v1)) 4) (Q (M2 (30 + 17 * (Int.toNat v1)) 2) M2)) ∧ (v2 = 3 → mm_chk (mm_kd lay_c (30 + 17 * (Int.toNat v1)) 4) (Q (M2 (30 + 17 * (Int.toNat v1)) 3) M2)) ∧ (v2 = 4 → mm_chk (mm_kd lay_c (30 + 17 * (Int.toNat v1)) 4) (mX6_payBy (30 + 17 * (Int.toNat v1)) (M2 (30 + 17 * (Int.toNat v1)) 3) M2 (fun r5 M5 => Q r5 M5))) ∧ (v2 = 5 → mX6_bestWayOf (30 + 17 * (Int.toNat v1)) M2 (fun r6 M6 => Q r6 M6)) ∧ True))) ∧ (r2 = 0 → Q (-102) M2)))) ∧ (r1 = 0 → Q (-101) M1)))
def fX7_who : mm_F := fun as M Q => match as with
  | [.inr (.inr c0), .inl v1, .inl v2] => mm_chk (Nat.beq c0 0) (mX7_who v1 v2 M (fun r M => Q (some (.inl r)) M))
  | _ => False
def mX7_isWay (v1 : Int) (v2 : Int) (M : mm_M) (Q : Int → mm_M → Prop) : Prop := mX7_isPlayer v1 M (fun r1 M1 => ((r1 = 0 → (((0 : Int) = 0 ∨ (0 : Int) = 1) ∧ Q 0 M1)) ∧ (¬ r1 = 0 → ((0 ≤ v1 ∧ v1 < 5) ∧ mm_chk (mm_kd lay_c (30 + 17 * (Int.toNat v1)) 4) (mX7_within v2 0 (mm_w ((M1 (30 + 17 * (Int.toNat v1)) 2) - (1 : Int))) M1 (fun r2 M2 => ((r2 = 0 → (((0 : Int) = 0 ∨ (0 : Int) = 1) ∧ Q 0 M2)) ∧ (¬ r2 = 0 → (((1 : Int) = 0 ∨ (1 : Int) = 1) ∧ Q 1 M2)))))))))
def fX7_isWay : mm_F := fun as M Q => match as with
  | [.inr (.inr c0), .inl v1, .inl v2] => mm_chk (Nat.beq c0 0) (mX7_isWay v1 v2 M (fun r M => Q (some (.inl r)) M))
  | _ => False
def mX7_way (v1 : Int) (v2 : Int) (v3 : Int) (M : mm_M) (Q : Int → mm_M → Prop) : Prop := mX7_isWay v1 v2 M (fun r1 M1 => ((¬ r1 = 0 → ((0 ≤ v1 ∧ v1 < 5) ∧ mm_chk (mm_kd lay_c (30 + 17 * (Int.toNat v1)) 4) (mm_chk (Nat.beq (mm_ak lay_c ((30 + 17 * (Int.toNat v1)) + 1)).1 0) (((0 ≤ v2 ∧ v2 < ((mm_ak lay_c ((30 + 17 * (Int.toNat v1)) + 1)).2 : Int)) ∧ mX7_within v3 0 (mm_w ((M1 ((30 + 17 * (Int.toNat v1)) + 1) (Int.toNat v2)) - (1 : Int))) M1 (fun r2 M2 => ((¬ r2 = 0 → mm_chk (mm_kd lay_c (30 + 17 * (Int.toNat v1)) 4) (mm_chk (Nat.ble 3 (mm_ak lay_c ((30 + 17 * (Int.toNat v1)) + 4)).1 && Nat.ble (mm_ak lay_c ((30 + 17 * (Int.toNat v1)) + 4)).1 5) (((0 ≤ v2 ∧ v2 < ((mm_ak lay_c ((30 + 17 * (Int.toNat v1)) + 4)).2 : Int)) ∧ mm_chk (Nat.beq (mm_ak lay_c (mm_el (mm_ak lay_c ((30 + 17 * (Int.toNat v1)) + 4)).1 ((30 + 17 * (Int.toNat v1)) + 4) (Int.toNat v2))).1 0) (((0 ≤ v3 ∧ v3 < ((mm_ak lay_c (mm_el (mm_ak lay_c ((30 + 17 * (Int.toNat v1)) + 4)).1 ((30 + 17 * (Int.toNat v1)) + 4) (Int.toNat v2))).2 : Int)) ∧ Q (M2 (mm_el (mm_ak lay_c ((30 + 17 * (Int.toNat v1)) + 4)).1 ((30 + 17 * (Int.toNat v1)) + 4) (Int.toNat v2)) (Int.toNat v3)) M2)))))) ∧ (r2 = 0 → Q (-101) M2)))))))) ∧ (r1 = 0 → Q (-101) M1)))
def fX7_way : mm_F := fun as M Q => match as with
  | [.inr (.inr c0), .inl v1, .inl v2, .inl v3] => mm_chk (Nat.beq c0 0) (mX7_way v1 v2 v3 M (fun r M => Q (some (.inl r)) M))
  | _ => False
def mX7_pay (v1 : Int) (v2 : Int) (M : mm_M) (Q : Int → mm_M → Prop) : Prop := mX7_isWay v1 v2 M (fun r1 M1 => ((¬ r1 = 0 → ((0 ≤ v1 ∧ v1 < 5) ∧ mX6_payBy (30 + 17 * (Int.toNat v1)) v2 M1 (fun r2 M2 => Q r2 M2))) ∧ (r1 = 0 → Q (-101) M1)))
def fX7_pay : mm_F := fun as M Q => match as with
  | [.inr (.inr c0), .inl v1, .inl v2] => mm_chk (Nat.beq c0 0) (mX7_pay v1 v2 M (fun r M => Q (some (.inl r)) M))
  | _ => False
def mX7_set (v1 : Int) (v2 : Int) (M : mm_M) (Q : Int → mm_M → Prop) : Prop := mX7_isWay v1 v2 M (fun r1 M1 => ((¬ r1 = 0 → ((0 ≤ v1 ∧ v1 < 5) ∧ mm_chk (mm_kd lay_c (30 + 17 * (Int.toNat v1)) 4) (mX6_moveTo (30 + 17 * (Int.toNat v1)) v2 M1 (fun M2 => Q (M1 (30 + 17 * (Int.toNat v1)) 3) M2)))) ∧ (r1 = 0 → Q (-101) M1)))
def fX7_set : mm_F := fun as M Q => match as with
  | [.inr (.inr c0), .inl v1, .inl v2] => mm_chk (Nat.beq c0 0) (mX7_set v1 v2 M (fun r M => Q (some (.inl r)) M))
  | _ => False
def mX7_turn  (M : mm_M) (Q : Int → mm_M → Prop) : Prop := mX7_hasNet M (fun r1 M1 => ((¬ r1 = 0 → mX6_moveFirst (-1) M1 (fun r2 M2 => ((r2 = (-1) → Q r2 M2) ∧ (¬ r2 = (-1) → Q r2 (mm_up M2 0 6 (mm_w ((M2 0 6) + (1 : Int)))))))) ∧ (r1 = 0 → Q (-103) M1)))
def fX7_turn : mm_F := fun as M Q => match as with
  | [.inr (.inr c0)] => mm_chk (Nat.beq c0 0) (mX7_turn M (fun r M => Q (some (.inl r)) M))
  | _ => False
def bX7_run_25 : Nat → Int → Int → mm_M → (Int → mm_M → Prop) → Prop
  | 0, _, _, _, _ => False
  | n + 1, v1, v2, M, Q => ((v1 ≤ v2 → Q v2 (mm_up M 0 6 (mm_w ((M 0 6) + v2)))) ∧ (v2 < v1 → mX6_moveFirst (-1) M (fun r1 M1 => ((r1 = (-1) → Q v2 (mm_up M1 0 6 (mm_w ((M1 0 6) + v2)))) ∧ (¬ r1 = (-1) → (bX7_run_25 n v1 (mm_w (v2 + 1)) M1 Q))))))
def mX7_run (v1 : Int) (M : mm_M) (Q : Int → mm_M → Prop) : Prop := mX7_within v1 1 60 M (fun r1 M1 => ((¬ r1 = 0 → mX7_hasNet M1 (fun r2 M2 => ((¬ r2 = 0 → (∃ j, bX7_run_25 j v1 0 M2 Q)) ∧ (r2 = 0 → Q (-103) M2)))) ∧ (r1 = 0 → Q (-102) M1)))
def fX7_run : mm_F := fun as M Q => match as with
  | [.inr (.inr c0), .inl v1] => mm_chk (Nat.beq c0 0) (mX7_run v1 M (fun r M => Q (some (.inl r)) M))
  | _ => False
def mX7_surveyed  (M : mm_M) (Q : Int → mm_M → Prop) : Prop := (((M 9 2) = 0 → (((0 : Int) = 0 ∨ (0 : Int) = 1) ∧ Q 0 M)) ∧ (¬ (M 9 2) = 0 → mX6_setsInAll M (fun r1 M1 => ((r1 ≤ 500 → ((¬ (M1 115 0) = 0 → (((1 : Int) = 0 ∨ (1 : Int) = 1) ∧ Q 1 M1)) ∧ ((M1 115 0) = 0 → mX0_survey M1 (fun M2 => (((1 : Int) = 0 ∨ (1 : Int) = 1) ∧ Q 1 M2))))) ∧ ((500 : Int) < r1 → (((0 : Int) = 0 ∨ (0 : Int) = 1) ∧ Q 0 M1))))))
def fX7_surveyed : mm_F := fun as M Q => match as with
  | [.inr (.inr c0)] => mm_chk (Nat.beq c0 0) (mX7_surveyed M (fun r M => Q (some (.inl r)) M))
  | _ => False
def mX7_rests (v1 : Int) (M : mm_M) (Q : Int → mm_M → Prop) : Prop := mX7_within v1 0 5 M (fun r1 M1 => ((¬ r1 = 0 → mX7_surveyed M1 (fun r2 M2 => ((¬ r2 = 0 → ((v1 < 0 ∨ (4 : Int) < v1 → Q (M2 115 13) M2) ∧ (v1 = 0 → Q (M2 115 8) M2) ∧ (v1 = 1 → Q (M2 115 9) M2) ∧ (v1 = 2 → Q (M2 115 10) M2) ∧ (v1 = 3 → Q (M2 115 11) M2) ∧ (v1 = 4 → Q (M2 115 14) M2) ∧ True)) ∧ (r2 = 0 → Q (-103) M2)))) ∧ (r1 = 0 → Q (-102) M1)))
def fX7_rests : mm_F := fun as M Q => match as with
  | [.inr (.inr c0), .inl v1] => mm_chk (Nat.beq c0 0) (mX7_rests v1 M (fun r M => Q (some (.inl r)) M))
  | _ => False
def mX7_rest (v1 : Int) (v2 : Int) (M : mm_M) (Q : Int → mm_M → Prop) : Prop := mX7_surveyed M (fun r1 M1 => ((¬ r1 = 0 → mX7_within v1 0 (mm_w ((M1 115 8) - (1 : Int))) M1 (fun r2 M2 => ((r2 = 0 → Q (-101) M2) ∧ (¬ r2 = 0 → mX7_isPlayer v2 M2 (fun r3 M3 => ((¬ r3 = 0 → ((0 ≤ v1 ∧ v1 < 500) ∧ mX0_wayIn (M3 120 (Int.toNat v1)) v2 M3 (fun r4 M4 => Q r4 M4))) ∧ (r3 = 0 → Q (-101) M3))))))) ∧ (r1 = 0 → Q (-103) M1)))
def fX7_rest : mm_F := fun as M Q => match as with
  | [.inr (.inr c0), .inl v1, .inl v2] => mm_chk (Nat.beq c0 0) (mX7_rest v1 v2 M (fun r M => Q (some (.inl r)) M))
  | _ => False
def mX7_go (v1 : Int) (M : mm_M) (Q : Int → mm_M → Prop) : Prop := mX7_surveyed M (fun r1 M1 => ((¬ r1 = 0 → mX7_within v1 0 (mm_w ((M1 115 8) - (1 : Int))) M1 (fun r2 M2 => ((¬ r2 = 0 → ((0 ≤ v1 ∧ v1 < 500) ∧ mX6_takeSet (M2 120 (Int.toNat v1)) M2 (fun M3 => mX6_socialNow M3 (fun r4 M4 => Q r4 M4)))) ∧ (r2 = 0 → Q (-101) M2)))) ∧ (r1 = 0 → Q (-103) M1)))
def fX7_go : mm_F := fun as M Q => match as with
  | [.inr (.inr c0), .inl v1] => mm_chk (Nat.beq c0 0) (mX7_go v1 M (fun r M => Q (some (.inl r)) M))
  | _ => False
def mX7_best  (M : mm_M) (Q : Int → mm_M → Prop) : Prop := mX7_surveyed M (fun r1 M1 => ((¬ r1 = 0 → mX6_takeSet (M1 115 12) M1 (fun M2 => mX6_socialNow M2 (fun r3 M3 => Q r3 M3))) ∧ (r1 = 0 → Q (-103) M1)))
def fX7_best : mm_F := fun as M Q => match as with
  | [.inr (.inr c0)] => mm_chk (Nat.beq c0 0) (mX7_best M (fun r M => Q (some (.inl r)) M))
  | _ => False
def bX7_greatestDivisor_9 : Nat → Int → Int → Int → mm_M → (Int → mm_M → Prop) → Prop
  | 0, _, _, _, _, _ => False
  | n + 1, v4, v6, v8, M, Q => (((200 : Int) ≤ v8 → Q v4 M) ∧ (v8 < 200 → (((mm_cmp v6 0) = 0 → Q v4 M) ∧ (¬ (mm_cmp v6 0) = 0 → (¬ v6 = 0 ∧ (bX7_greatestDivisor_9 n v6 (mm_reml v4 v6) (mm_w (v8 + 1)) M Q))))))
def mX7_greatestDivisor (v0 : Int) (v2 : Int) (M : mm_M) (Q : Int → mm_M → Prop) : Prop := (∃ j, bX7_greatestDivisor_9 j v0 v2 0 M Q)
def fX7_greatestDivisor : mm_F := fun as M Q => match as with
  | [.inr (.inl v0), .inr (.inl v2)] => mX7_greatestDivisor v0 v2 M (fun r M => Q (some (.inr (.inl r))) M)
  | _ => False
def mX7_lowestBelow (v0 : Int) (v2 : Int) (M : mm_M) (Q : Int → mm_M → Prop) : Prop := mX7_greatestDivisor v0 v2 M (fun r1 M1 => ((¬ (mm_cmp r1 0) = 0 → (¬ r1 = 0 ∧ Q (mm_w (mm_divl v2 r1)) M1)) ∧ ((mm_cmp r1 0) = 0 → Q 1 M1)))
def fX7_lowestBelow : mm_F := fun as M Q => match as with
  | [.inr (.inl v0), .inr (.inl v2)] => mX7_lowestBelow v0 v2 M (fun r M => Q (some (.inl r)) M)
  | _ => False
def mX7_lowestAbove (v0 : Int) (v2 : Int) (M : mm_M) (Q : Int → mm_M → Prop) : Prop := mX7_greatestDivisor v0 v2 M (fun r1 M1 => ((¬ (mm_cmp r1 0) = 0 → (¬ r1 = 0 ∧ Q (mm_w (mm_divl v0 r1)) M1)) ∧ ((mm_cmp r1 0) = 0 → Q 0 M1)))
def fX7_lowestAbove : mm_F := fun as M Q => match as with
  | [.inr (.inl v0), .inr (.inl v2)] => mX7_lowestAbove v0 v2 M (fun r M => Q (some (.inl r)) M)
  | _ => False
def bX7_price_44 (v1 : Int) (w0 : Int) (M : mm_M) (Q : Int → mm_M → Prop) : Prop := ((¬ (M 115 11) = 0 → (¬ (2 : Int) = 0 ∧ ((¬ (mm_rem v1 (2 : Int)) = 0 → mX7_lowestBelow w0 (M 115 11) M (fun r1 M1 => Q r1 M1)) ∧ ((mm_rem v1 (2 : Int)) = 0 → mX7_lowestAbove w0 (M 115 11) M (fun r2 M2 => Q r2 M2))))) ∧ ((M 115 11) = 0 → (¬ (2 : Int) = 0 ∧ (((mm_rem v1 (2 : Int)) = 0 → Q 1 M) ∧ (¬ (mm_rem v1 (2 : Int)) = 0 → ((¬ w0 = 0 → Q 0 M) ∧ (w0 = 0 → Q 1 M)))))))
def mX7_price (v1 : Int) (M : mm_M) (Q : Int → mm_M → Prop) : Prop := mX7_within v1 0 3 M (fun r1 M1 => ((¬ r1 = 0 → mX7_surveyed M1 (fun r2 M2 => ((¬ r2 = 0 → (((2 : Int) ≤ v1 → (bX7_price_44 v1 (M2 115 9) M2 Q)) ∧ (v1 < 2 → (bX7_price_44 v1 (M2 115 10) M2 Q)))) ∧ (r2 = 0 → Q (-103) M2)))) ∧ (r1 = 0 → Q (-102) M1)))
def fX7_price : mm_F := fun as M Q => match as with
  | [.inr (.inr c0), .inl v1] => mm_chk (Nat.beq c0 0) (mX7_price v1 M (fun r M => Q (some (.inl r)) M))
  | _ => False
def mX7_reach (v1 : Int) (M : mm_M) (Q : Int → mm_M → Prop) : Prop := mX7_within v1 0 2 M (fun r1 M1 => ((¬ r1 = 0 → mX7_surveyed M1 (fun r2 M2 => ((¬ r2 = 0 → mX6_numberOfSet M2 (fun r3 M3 => mX0_spreadFrom r3 M3 (fun M4 => ((¬ v1 = 0 → ¬ v1 = 1 → Q (M4 115 18) M4) ∧ (v1 = 0 → Q (M4 115 16) M4) ∧ (v1 = 1 → Q (M4 115 17) M4) ∧ True)))) ∧ (r2 = 0 → Q (-103) M2)))) ∧ (r1 = 0 → Q (-102) M1)))
def fX7_reach : mm_F := fun as M Q => match as with
  | [.inr (.inr c0), .inl v1] => mm_chk (Nat.beq c0 0) (mX7_reach v1 M (fun r M => Q (some (.inl r)) M))
  | _ => False
def mX7_lead (v1 : Int) (v2 : Int) (M : mm_M) (Q : Int → mm_M → Prop) : Prop := mX7_isWay v1 v2 M (fun r1 M1 => ((¬ r1 = 0 → mX6_payIfLeading v1 v2 M1 (fun r2 M2 => Q r2 M2)) ∧ (r1 = 0 → Q (-101) M1)))
def fX7_lead : mm_F := fun as M Q => match as with
  | [.inr (.inr c0), .inl v1, .inl v2] => mm_chk (Nat.beq c0 0) (mX7_lead v1 v2 M (fun r M => Q (some (.inl r)) M))
  | _ => False
def mX7_leads (v1 : Int) (M : mm_M) (Q : Int → mm_M → Prop) : Prop := mX7_isPlayer v1 M (fun r1 M1 => ((¬ r1 = 0 → mX6_bestLeadOf v1 M1 (fun r2 M2 => Q r2 M2)) ∧ (r1 = 0 → Q (-101) M1)))
def fX7_leads : mm_F := fun as M Q => match as with
  | [.inr (.inr c0), .inl v1] => mm_chk (Nat.beq c0 0) (mX7_leads v1 M (fun r M => Q (some (.inl r)) M))
  | _ => False
def mX7_follow (v1 : Int) (M : mm_M) (Q : Int → mm_M → Prop) : Prop := mX7_isPlayer v1 M (fun r1 M1 => ((¬ r1 = 0 → mX6_bestLeadOf v1 M1 (fun r2 M2 => mX6_settleBehind v1 r2 M2 (fun r3 M3 => Q r3 M3))) ∧ (r1 = 0 → Q (-101) M1)))
def fX7_follow : mm_F := fun as M Q => match as with
  | [.inr (.inr c0), .inl v1] => mm_chk (Nat.beq c0 0) (mX7_follow v1 M (fun r M => Q (some (.inl r)) M))
  | _ => False
def bX7_lane_28 (v1 : Int) (v2 : Int) (M : mm_M) (Q : Int → mm_M → Prop) : Prop := (((M 125 3) < 5 → mX1_add v1 v2 M (fun M1 => Q (mm_w ((M1 125 3) - (1 : Int))) M1)) ∧ ((5 : Int) ≤ (M 125 3) → Q (-104) M))
def mX7_lane (v1 : Int) (v2 : Int) (M : mm_M) (Q : Int → mm_M → Prop) : Prop := mX7_within v1 0 20 M (fun r1 M1 => ((r1 = 0 → Q (-102) M1) ∧ (¬ r1 = 0 → ((v2 = 1 → (bX7_lane_28 v1 v2 M1 Q)) ∧ (¬ v2 = 1 → ((v2 = 2 → (bX7_lane_28 v1 v2 M1 Q)) ∧ (¬ v2 = 2 → ((v2 = 4 → (bX7_lane_28 v1 v2 M1 Q)) ∧ (¬ v2 = 4 → Q (-102) M1)))))))))
def fX7_lane : mm_F := fun as M Q => match as with
  | [.inr (.inr c0), .inl v1, .inl v2] => mm_chk (Nat.beq c0 0) (mX7_lane v1 v2 M (fun r M => Q (some (.inl r)) M))
  | _ => False
def mX7_clear  (M : mm_M) (Q : Int → mm_M → Prop) : Prop := Q (M 125 3) (mm_up (mm_up M 125 3 0) 125 6 0)
def fX7_clear : mm_F := fun as M Q => match as with
  | [.inr (.inr c0)] => mm_chk (Nat.beq c0 0) (mX7_clear M (fun r M => Q (some (.inl r)) M))
  | _ => False
def mX7_stream (v1 : Int) (M : mm_M) (Q : Int → mm_M → Prop) : Prop := mX7_within v1 1 40 M (fun r1 M1 => ((¬ r1 = 0 → Q (M1 125 4) (mm_up (mm_up M1 125 4 v1) 125 6 0)) ∧ (r1 = 0 → Q (-102) M1)))
def fX7_stream : mm_F := fun as M Q => match as with
  | [.inr (.inr c0), .inl v1] => mm_chk (Nat.beq c0 0) (mX7_stream v1 M (fun r M => Q (some (.inl r)) M))
  | _ => False
def mX7_share (v1 : Int) (M : mm_M) (Q : Int → mm_M → Prop) : Prop := mX7_within v1 0 10 M (fun r1 M1 => ((¬ r1 = 0 → Q (M1 125 5) (mm_up (mm_up M1 125 5 v1) 125 6 0)) ∧ (r1 = 0 → Q (-102) M1)))
def fX7_share : mm_F := fun as M Q => match as with
  | [.inr (.inr c0), .inl v1] => mm_chk (Nat.beq c0 0) (mX7_share v1 M (fun r M => Q (some (.inl r)) M))
  | _ => False
def mX7_flow (v1 : Int) (v2 : Int) (v3 : Int) (M : mm_M) (Q : Int → mm_M → Prop) : Prop := mX7_within v2 0 (mm_w ((M 125 3) - (1 : Int))) M (fun r1 M1 => ((¬ r1 = 0 → mX7_within v1 0 3 M1 (fun r2 M2 => ((r2 = 0 → Q (-102) M2) ∧ (¬ r2 = 0 → mX7_within v3 0 1 M2 (fun r3 M3 => ((¬ r3 = 0 → mX1_partAll M3 (fun M4 => ((0 ≤ v1 ∧ v1 < 4) ∧ mm_chk (Nat.beq (mm_ak lay_c (133 + (Int.toNat v1))).1 1) (((0 ≤ v2 ∧ v2 < ((mm_ak lay_c (133 + (Int.toNat v1))).2 : Int)) ∧ ((0 ≤ v1 ∧ v1 < 4) ∧ ((¬ v3 = 0 → mX7_lowestBelow (M4 (133 + (Int.toNat v1)) (Int.toNat v2)) (M4 129 (Int.toNat v1)) M4 (fun r5 M5 => Q r5 M5)) ∧ (v3 = 0 → mX7_lowestAbove (M4 (133 + (Int.toNat v1)) (Int.toNat v2)) (M4 129 (Int.toNat v1)) M4 (fun r6 M6 => Q r6 M6))))))))) ∧ (r3 = 0 → Q (-102) M3))))))) ∧ (r1 = 0 → Q (-101) M1)))
def fX7_flow : mm_F := fun as M Q => match as with
  | [.inr (.inr c0), .inl v1, .inl v2, .inl v3] => mm_chk (Nat.beq c0 0) (mX7_flow v1 v2 v3 M (fun r M => Q (some (.inl r)) M))
  | _ => False
def mX7_level (v1 : Int) (M : mm_M) (Q : Int → mm_M → Prop) : Prop := mX7_within v1 0 1 M (fun r1 M1 => ((¬ r1 = 0 → ((¬ (M1 125 3) = 0 → mX1_partAll M1 (fun M2 => ((¬ v1 = 0 → mX7_lowestBelow (M2 125 9) (M2 125 10) M2 (fun r3 M3 => Q r3 M3)) ∧ (v1 = 0 → mX7_lowestAbove (M2 125 9) (M2 125 10) M2 (fun r4 M4 => Q r4 M4))))) ∧ ((M1 125 3) = 0 → Q (-103) M1))) ∧ (r1 = 0 → Q (-102) M1)))
def fX7_level : mm_F := fun as M Q => match as with
  | [.inr (.inr c0), .inl v1] => mm_chk (Nat.beq c0 0) (mX7_level v1 M (fun r M => Q (some (.inl r)) M))
  | _ => False
def mX7_total (v1 : Int) (M : mm_M) (Q : Int → mm_M → Prop) : Prop := mX7_within v1 0 2 M (fun r1 M1 => ((¬ r1 = 0 → ((¬ (M1 125 3) = 0 → mX1_partAll M1 (fun M2 => mX1_thousandths v1 M2 (fun r3 M3 => Q (mm_w r3) M3))) ∧ ((M1 125 3) = 0 → Q (-103) M1))) ∧ (r1 = 0 → Q (-102) M1)))
def fX7_total : mm_F := fun as M Q => match as with
  | [.inr (.inr c0), .inl v1] => mm_chk (Nat.beq c0 0) (mX7_total v1 M (fun r M => Q (some (.inl r)) M))
  | _ => False
def mX7_worse (v1 : Int) (M : mm_M) (Q : Int → mm_M → Prop) : Prop := mX7_within v1 0 2 M (fun r1 M1 => ((¬ r1 = 0 → ((¬ (M1 125 3) = 0 → mX1_partAll M1 (fun M2 => mX1_thousandths 1 M2 (fun r3 M3 => (((0 : Int) < (mm_cmp r3 0) → mX1_thousandths v1 M3 (fun r4 M4 => (¬ r3 = 0 ∧ Q (mm_w (mm_divl (mm_wl ((10000 : Int) * r4)) r3)) M4))) ∧ ((mm_cmp r3 0) ≤ 0 → Q 0 M3))))) ∧ ((M1 125 3) = 0 → Q (-103) M1))) ∧ (r1 = 0 → Q (-102) M1)))
def fX7_worse : mm_F := fun as M Q => match as with
  | [.inr (.inr c0), .inl v1] => mm_chk (Nat.beq c0 0) (mX7_worse v1 M (fun r M => Q (some (.inl r)) M))
  | _ => False
def mX7_count (v1 : Int) (M : mm_M) (Q : Int → mm_M → Prop) : Prop := ((v1 < 0 ∨ (6 : Int) < v1 → Q (-102) M) ∧ (v1 = 0 → Q (M 10 1) M) ∧ (v1 = 1 → Q (M 9 2) M) ∧ (v1 = 2 → Q (M 125 3) M) ∧ (v1 = 3 → Q (M 1 1) M) ∧ (v1 = 4 → Q (M 0 4) M) ∧ (v1 = 5 → Q (M 0 5) M) ∧ (v1 = 6 → Q (M 0 6) M) ∧ True)
def fX7_count : mm_F := fun as M Q => match as with
  | [.inr (.inr c0), .inl v1] => mm_chk (Nat.beq c0 0) (mX7_count v1 M (fun r M => Q (some (.inl r)) M))
  | _ => False
def mX7_mix (v0 : Int) (v2 : Int) (M : mm_M) (Q : Int → mm_M → Prop) : Prop := Q (mm_wl ((mm_wl ((31 : Int) * v0)) + v2)) M
def fX7_mix : mm_F := fun as M Q => match as with
  | [.inr (.inl v0), .inr (.inl v2)] => mX7_mix v0 v2 M (fun r M => Q (some (.inr (.inl r))) M)
  | _ => False
def bX7_mixLanes_103 : Nat → Int → Int → mm_M → (Int → mm_M → Prop) → Prop
  | 0, _, _, _, _ => False
  | n + 1, v3, v5, M, Q => (((2 : Int) < v5 → Q v3 M) ∧ (v5 ≤ 2 → mX7_total v5 M (fun r1 M1 => mX7_mix v3 r1 M1 (fun r2 M2 => (bX7_mixLanes_103 n r2 (mm_w (v5 + 1)) M2 Q)))))
def bX7_mixLanes_20 (K5 : Int → Int → mm_M → Prop) : Nat → Int → Int → Int → mm_M → (Int → mm_M → Prop) → Prop
  | 0, _, _, _, _, _ => False
  | n + 1, v3, v5, v6, M, Q => (((4 : Int) ≤ v6 → (K5 v3 (mm_w (v5 + 1)) M)) ∧ (v6 < 4 → mX7_flow v6 v5 0 M (fun r1 M1 => mX7_mix v3 r1 M1 (fun r2 M2 => mX7_flow v6 v5 1 M2 (fun r3 M3 => mX7_mix r2 r3 M3 (fun r4 M4 => (bX7_mixLanes_20 K5 n r4 v5 (mm_w (v6 + 1)) M4 Q)))))))
def bX7_mixLanes_5 : Nat → Int → Int → mm_M → (Int → mm_M → Prop) → Prop
  | 0, _, _, _, _ => False
  | n + 1, v3, v5, M, Q => (((M 125 3) ≤ v5 → (((M 125 3) ≤ 0 → Q v3 M) ∧ ((0 : Int) < (M 125 3) → mX7_level 0 M (fun r1 M1 => mX7_mix v3 r1 M1 (fun r2 M2 => mX7_level 1 M2 (fun r3 M3 => mX7_mix r2 r3 M3 (fun r4 M4 => (∃ j, bX7_mixLanes_103 j r4 0 M4 Q)))))))) ∧ (v5 < (M 125 3) → (∃ j, bX7_mixLanes_20 (fun v3 v5 M => bX7_mixLanes_5 n v3 v5 M Q) j v3 v5 0 M Q)))
def mX7_mixLanes (v1 : Int) (M : mm_M) (Q : Int → mm_M → Prop) : Prop := (∃ j, bX7_mixLanes_5 j v1 0 M Q)
def fX7_mixLanes : mm_F := fun as M Q => match as with
  | [.inr (.inr c0), .inr (.inl v1)] => mm_chk (Nat.beq c0 0) (mX7_mixLanes v1 M (fun r M => Q (some (.inr (.inl r))) M))
  | _ => False
def bX7_mixNet_51 (K33 : Int → Int → mm_M → Prop) : Nat → Int → Int → Int → mm_M → (Int → mm_M → Prop) → Prop
  | 0, _, _, _, _, _ => False
  | n + 1, v3, v5, v6, M, Q => (((7 : Int) < v6 → (K33 v3 (mm_w (v5 + 1)) M)) ∧ (v6 ≤ 7 → mX7_road v5 v6 M (fun r1 M1 => mX7_mix v3 r1 M1 (fun r2 M2 => (bX7_mixNet_51 K33 n r2 v5 (mm_w (v6 + 1)) M2 Q)))))
def bX7_mixNet_33 : Nat → Int → Int → mm_M → (Int → mm_M → Prop) → Prop
  | 0, _, _, _, _ => False
  | n + 1, v3, v5, M, Q => (((M 10 1) ≤ v5 → Q v3 M) ∧ (v5 < (M 10 1) → (∃ j, bX7_mixNet_51 (fun v3 v5 M => bX7_mixNet_33 n v3 v5 M Q) j v3 v5 0 M Q)))
def bX7_mixNet_5 : Nat → Int → Int → mm_M → (Int → mm_M → Prop) → Prop
  | 0, _, _, _, _ => False
  | n + 1, v3, v5, M, Q => (((7 : Int) < v5 → (∃ j, bX7_mixNet_33 j v3 0 M Q)) ∧ (v5 ≤ 7 → mX7_about v5 M (fun r1 M1 => mX7_mix v3 r1 M1 (fun r2 M2 => (bX7_mixNet_5 n r2 (mm_w (v5 + 1)) M2 Q)))))
def mX7_mixNet (v1 : Int) (M : mm_M) (Q : Int → mm_M → Prop) : Prop := (∃ j, bX7_mixNet_5 j v1 0 M Q)
def fX7_mixNet : mm_F := fun as M Q => match as with
  | [.inr (.inr c0), .inr (.inl v1)] => mm_chk (Nat.beq c0 0) (mX7_mixNet v1 M (fun r M => Q (some (.inr (.inl r))) M))
  | _ => False
def bX7_mixPlayers_98 (K5 : Int → Int → mm_M → Prop) : Nat → Int → Int → Nat → Int → mm_M → (Int → mm_M → Prop) → Prop
  | 0, _, _, _, _, _, _ => False
  | n + 1, v3, v5, v6, v7, M, Q => mm_chk (mm_kd lay_c v6 4) (mm_chk (mm_kd lay_c v6 4) (mm_chk (Nat.beq (mm_ak lay_c (v6 + 1)).1 0) (((0 ≤ (M v6 3) ∧ (M v6 3) < ((mm_ak lay_c (v6 + 1)).2 : Int)) ∧ (((M (v6 + 1) (Int.toNat (M v6 3))) ≤ v7 → (K5 v3 (mm_w (v5 + 1)) M)) ∧ (v7 < (M (v6 + 1) (Int.toNat (M v6 3))) → mm_chk (mm_kd lay_c v6 4) (mm_chk (mm_kd lay_c v6 4) (mm_chk (Nat.ble 3 (mm_ak lay_c (v6 + 4)).1 && Nat.ble (mm_ak lay_c (v6 + 4)).1 5) (((0 ≤ (M v6 3) ∧ (M v6 3) < ((mm_ak lay_c (v6 + 4)).2 : Int)) ∧ mm_chk (Nat.beq (mm_ak lay_c (mm_el (mm_ak lay_c (v6 + 4)).1 (v6 + 4) (Int.toNat (M v6 3)))).1 0) (((0 ≤ v7 ∧ v7 < ((mm_ak lay_c (mm_el (mm_ak lay_c (v6 + 4)).1 (v6 + 4) (Int.toNat (M v6 3)))).2 : Int)) ∧ mX7_mix v3 (M (mm_el (mm_ak lay_c (v6 + 4)).1 (v6 + 4) (Int.toNat (M v6 3))) (Int.toNat v7)) M (fun r1 M1 => (bX7_mixPlayers_98 K5 n r1 v5 v6 (mm_w (v7 + 1)) M1 Q))))))))))))))
def bX7_mixPlayers_62 (K5 : Int → Int → mm_M → Prop) : Nat → Int → Int → Nat → Int → mm_M → (Int → mm_M → Prop) → Prop
  | 0, _, _, _, _, _, _ => False
  | n + 1, v3, v5, v6, v7, M, Q => mm_chk (mm_kd lay_c v6 4) ((((M v6 2) ≤ v7 → (∃ j, bX7_mixPlayers_98 K5 j v3 v5 v6 0 M Q)) ∧ (v7 < (M v6 2) → mX6_payBy v6 v7 M (fun r1 M1 => mX7_mix v3 r1 M1 (fun r2 M2 => (bX7_mixPlayers_62 K5 n r2 v5 v6 (mm_w (v7 + 1)) M2 Q))))))
def bX7_mixPlayers_32 (K5 : Int → Int → mm_M → Prop) : Nat → Int → Int → Nat → Int → mm_M → (Int → mm_M → Prop) → Prop
  | 0, _, _, _, _, _, _ => False
  | n + 1, v3, v5, v6, v7, M, Q => (((6 : Int) < v7 → (∃ j, bX7_mixPlayers_62 K5 j v3 v5 v6 0 M Q)) ∧ (v7 ≤ 6 → mX7_who v5 v7 M (fun r1 M1 => mX7_mix v3 r1 M1 (fun r2 M2 => (bX7_mixPlayers_32 K5 n r2 v5 v6 (mm_w (v7 + 1)) M2 Q)))))
def bX7_mixPlayers_5 : Nat → Int → Int → mm_M → (Int → mm_M → Prop) → Prop
  | 0, _, _, _, _ => False
  | n + 1, v3, v5, M, Q => (((M 9 2) ≤ v5 → Q v3 M) ∧ (v5 < (M 9 2) → ((0 ≤ v5 ∧ v5 < 5) ∧ (∃ j, bX7_mixPlayers_32 (fun v3 v5 M => bX7_mixPlayers_5 n v3 v5 M Q) j v3 v5 (30 + 17 * (Int.toNat v5)) 0 M Q))))
def mX7_mixPlayers (v1 : Int) (M : mm_M) (Q : Int → mm_M → Prop) : Prop := (∃ j, bX7_mixPlayers_5 j v1 0 M Q)
def fX7_mixPlayers : mm_F := fun as M Q => match as with
  | [.inr (.inr c0), .inr (.inl v1)] => mm_chk (Nat.beq c0 0) (mX7_mixPlayers v1 M (fun r M => Q (some (.inr (.inl r))) M))
  | _ => False
def bX7_mixSets_68 : Nat → Int → Int → mm_M → (Int → mm_M → Prop) → Prop
  | 0, _, _, _, _ => False
  | n + 1, v3, v5, M, Q => (((2 : Int) < v5 → Q v3 M) ∧ (v5 ≤ 2 → mX7_reach v5 M (fun r1 M1 => mX7_mix v3 r1 M1 (fun r2 M2 => (bX7_mixSets_68 n r2 (mm_w (v5 + 1)) M2 Q)))))
def bX7_mixSets_41 : Nat → Int → Int → mm_M → (Int → mm_M → Prop) → Prop
  | 0, _, _, _, _ => False
  | n + 1, v3, v5, M, Q => (((3 : Int) < v5 → (∃ j, bX7_mixSets_68 j v3 0 M Q)) ∧ (v5 ≤ 3 → mX7_price v5 M (fun r1 M1 => mX7_mix v3 r1 M1 (fun r2 M2 => (bX7_mixSets_41 n r2 (mm_w (v5 + 1)) M2 Q)))))
def bX7_mixSets_14 : Nat → Int → Int → mm_M → (Int → mm_M → Prop) → Prop
  | 0, _, _, _, _ => False
  | n + 1, v3, v5, M, Q => (((5 : Int) < v5 → (∃ j, bX7_mixSets_41 j v3 0 M Q)) ∧ (v5 ≤ 5 → mX7_rests v5 M (fun r1 M1 => mX7_mix v3 r1 M1 (fun r2 M2 => (bX7_mixSets_14 n r2 (mm_w (v5 + 1)) M2 Q)))))
def mX7_mixSets (v1 : Int) (M : mm_M) (Q : Int → mm_M → Prop) : Prop := mX7_surveyed M (fun r1 M1 => ((¬ r1 = 0 → (∃ j, bX7_mixSets_14 j v1 0 M1 Q)) ∧ (r1 = 0 → Q v1 M1)))
def fX7_mixSets : mm_F := fun as M Q => match as with
  | [.inr (.inr c0), .inr (.inl v1)] => mm_chk (Nat.beq c0 0) (mX7_mixSets v1 M (fun r M => Q (some (.inr (.inl r))) M))
  | _ => False
def bX7_mixLeads_20 (K5 : Int → Int → mm_M → Prop) : Nat → Int → Int → Int → mm_M → (Int → mm_M → Prop) → Prop
  | 0, _, _, _, _, _ => False
  | n + 1, v3, v5, v6, M, Q => ((0 ≤ v5 ∧ v5 < 5) ∧ mm_chk (mm_kd lay_c (30 + 17 * (Int.toNat v5)) 4) ((((M (30 + 17 * (Int.toNat v5)) 2) ≤ v6 → (K5 v3 (mm_w (v5 + 1)) M)) ∧ (v6 < (M (30 + 17 * (Int.toNat v5)) 2) → mX6_payIfLeading v5 v6 M (fun r1 M1 => mX7_mix v3 r1 M1 (fun r2 M2 => (bX7_mixLeads_20 K5 n r2 v5 (mm_w (v6 + 1)) M2 Q)))))))
def bX7_mixLeads_5 : Nat → Int → Int → mm_M → (Int → mm_M → Prop) → Prop
  | 0, _, _, _, _ => False
  | n + 1, v3, v5, M, Q => (((M 9 2) ≤ v5 → Q v3 M) ∧ (v5 < (M 9 2) → (∃ j, bX7_mixLeads_20 (fun v3 v5 M => bX7_mixLeads_5 n v3 v5 M Q) j v3 v5 0 M Q)))
def mX7_mixLeads (v1 : Int) (M : mm_M) (Q : Int → mm_M → Prop) : Prop := (∃ j, bX7_mixLeads_5 j v1 0 M Q)
def fX7_mixLeads : mm_F := fun as M Q => match as with
  | [.inr (.inr c0), .inr (.inl v1)] => mm_chk (Nat.beq c0 0) (mX7_mixLeads v1 M (fun r M => Q (some (.inr (.inl r))) M))
  | _ => False
def bX7_digest_77 : Nat → Int → Int → mm_M → (Int → mm_M → Prop) → Prop
  | 0, _, _, _, _ => False
  | n + 1, v1, v3, M, Q => (((6 : Int) < v3 → Q v1 M) ∧ (v3 ≤ 6 → mX7_count v3 M (fun r1 M1 => mX7_mix v1 r1 M1 (fun r2 M2 => (bX7_digest_77 n r2 (mm_w (v3 + 1)) M2 Q)))))
def bX7_digest_43 : Nat → Int → Int → mm_M → (Int → mm_M → Prop) → Prop
  | 0, _, _, _, _ => False
  | n + 1, v1, v3, M, Q => (((M 1 1) ≤ v3 → (∃ j, bX7_digest_77 j v1 0 M Q)) ∧ (v3 < (M 1 1) → ((0 ≤ v3 ∧ v3 < 92) ∧ mX7_mix v1 (M 2 (Int.toNat v3)) M (fun r1 M1 => (bX7_digest_43 n r1 (mm_w (v3 + 1)) M1 Q)))))
def mX7_digest  (M : mm_M) (Q : Int → mm_M → Prop) : Prop := mX7_hasNet M (fun r1 M1 => ((r1 = 0 → mX7_mixLanes 1543 M1 (fun r2 M2 => (∃ j, bX7_digest_43 j r2 0 M2 Q))) ∧ (¬ r1 = 0 → mX7_mixNet 1543 M1 (fun r3 M3 => mX7_mixPlayers r3 M3 (fun r4 M4 => mX7_mixSets r4 M4 (fun r5 M5 => mX7_mixLeads r5 M5 (fun r6 M6 => mX7_mixLanes r6 M6 (fun r7 M7 => (∃ j, bX7_digest_43 j r7 0 M7 Q)))))))))
def fX7_digest : mm_F := fun as M Q => match as with
  | [.inr (.inr c0)] => mm_chk (Nat.beq c0 0) (mX7_digest M (fun r M => Q (some (.inr (.inl r))) M))
  | _ => False
def mX8_within (v0 : Int) (v1 : Int) (v2 : Int) (M : mm_M) (Q : Int → mm_M → Prop) : Prop := ((v0 < v1 → (((0 : Int) = 0 ∨ (0 : Int) = 1) ∧ Q 0 M)) ∧ (v1 ≤ v0 → ((v2 < v0 → (((0 : Int) = 0 ∨ (0 : Int) = 1) ∧ Q 0 M)) ∧ (v0 ≤ v2 → (((1 : Int) = 0 ∨ (1 : Int) = 1) ∧ Q 1 M)))))
def fX8_within : mm_F := fun as M Q => match as with
  | [.inl v0, .inl v1, .inl v2] => mX8_within v0 v1 v2 M (fun r M => Q (some (.inl r)) M)
  | _ => False
def mX8_letter (v1 : Int) (M : mm_M) (Q : Int → mm_M → Prop) : Prop := mX8_within v1 32 126 M (fun r1 M1 => ((¬ r1 = 0 → ((¬ (M1 0 23) = 92 → ((0 ≤ (M1 0 23) ∧ (M1 0 23) < 92) ∧ Q ((mm_up (mm_up M1 14 (Int.toNat (M1 0 23)) v1) 0 23 (mm_w (((mm_up M1 14 (Int.toNat (M1 0 23)) v1) 0 23) + (1 : Int)))) 0 23) (mm_up (mm_up M1 14 (Int.toNat (M1 0 23)) v1) 0 23 (mm_w (((mm_up M1 14 (Int.toNat (M1 0 23)) v1) 0 23) + (1 : Int)))))) ∧ ((M1 0 23) = 92 → Q (-104) M1))) ∧ (r1 = 0 → Q (-102) M1)))
def fX8_letter : mm_F := fun as M Q => match as with
  | [.inr (.inr c0), .inl v1] => mm_chk (Nat.beq c0 0) (mX8_letter v1 M (fun r M => Q (some (.inl r)) M))
  | _ => False
def mX8_blank  (M : mm_M) (Q : Int → mm_M → Prop) : Prop := Q (M 0 23) (mm_up M 0 23 0)
def fX8_blank : mm_F := fun as M Q => match as with
  | [.inr (.inr c0)] => mm_chk (Nat.beq c0 0) (mX8_blank M (fun r M => Q (some (.inl r)) M))
  | _ => False
def mX8_goes (v1 : Int) (v2 : Int) (M : mm_M) (Q : Int → mm_M → Prop) : Prop := ((v1 = 0 → ((v1 = 0 ∨ v1 = 1) ∧ Q v1 (mm_up M 0 25 (M 0 25)))) ∧ (¬ v1 = 0 → ((v1 = 0 ∨ v1 = 1) ∧ Q v1 (mm_up M 0 25 v2))))
def fX8_goes : mm_F := fun as M Q => match as with
  | [.inr (.inr c0), .inl v1, .inl v2] => mm_chk (Nat.beq c0 0) (mX8_goes v1 v2 M (fun r M => Q (some (.inl r)) M))
  | _ => False
def mX8_takesEnd (v1 : Int) (M : mm_M) (Q : Int → mm_M → Prop) : Prop := mX8_within (mm_w (v1 - (48 : Int))) 0 (mm_w ((M 0 26) - (1 : Int))) M (fun r1 M1 => ((¬ (M1 0 25) = 2 → ((0 ≤ (M1 0 27) ∧ (M1 0 27) < 10) ∧ ((r1 = 0 → mX8_goes 0 5 (mm_up M1 16 (Int.toNat (M1 0 27)) (mm_w (v1 - (48 : Int)))) (fun r2 M2 => ((r2 = 0 ∨ r2 = 1) ∧ Q r2 M2))) ∧ (¬ r1 = 0 → ((0 ≤ ((mm_up M1 16 (Int.toNat (M1 0 27)) (mm_w (v1 - (48 : Int)))) 0 27) ∧ ((mm_up M1 16 (Int.toNat (M1 0 27)) (mm_w (v1 - (48 : Int)))) 0 27) < 10) ∧ (((mm_w (v1 - (48 : Int))) = ((mm_up M1 16 (Int.toNat (M1 0 27)) (mm_w (v1 - (48 : Int)))) 15 (Int.toNat ((mm_up M1 16 (Int.toNat (M1 0 27)) (mm_w (v1 - (48 : Int)))) 0 27))) → mX8_goes 0 5 (mm_up M1 16 (Int.toNat (M1 0 27)) (mm_w (v1 - (48 : Int)))) (fun r3 M3 => ((r3 = 0 ∨ r3 = 1) ∧ Q r3 M3))) ∧ (¬ (mm_w (v1 - (48 : Int))) = ((mm_up M1 16 (Int.toNat (M1 0 27)) (mm_w (v1 - (48 : Int)))) 15 (Int.toNat ((mm_up M1 16 (Int.toNat (M1 0 27)) (mm_w (v1 - (48 : Int)))) 0 27))) → mX8_goes 1 5 (mm_up M1 16 (Int.toNat (M1 0 27)) (mm_w (v1 - (48 : Int)))) (fun r4 M4 => ((r4 = 0 ∨ r4 = 1) ∧ Q r4 M4))))))))) ∧ ((M1 0 25) = 2 → ((0 ≤ (M1 0 27) ∧ (M1 0 27) < 10) ∧ mX8_goes r1 3 (mm_up M1 15 (Int.toNat (M1 0 27)) (mm_w (v1 - (48 : Int)))) (fun r5 M5 => ((r5 = 0 ∨ r5 = 1) ∧ Q r5 M5))))))
def fX8_takesEnd : mm_F := fun as M Q => match as with
  | [.inr (.inr c0), .inl v1] => mm_chk (Nat.beq c0 0) (mX8_takesEnd v1 M (fun r M => Q (some (.inl r)) M))
  | _ => False
def bX8_takesA_102 (v1 : Int) (v2 : Int) (v3 : Int) (w0 : Int) (M : mm_M) (Q : Int → mm_M → Prop) : Prop := ((w0 = 0 → ((w0 = 0 ∨ w0 = 1) ∧ Q w0 M)) ∧ (¬ w0 = 0 → ((0 ≤ (M 0 27) ∧ (M 0 27) < 10) ∧ ((w0 = 0 ∨ w0 = 1) ∧ Q w0 (mm_up (mm_up M 17 (Int.toNat (M 0 27)) v3) 0 25 8)))))
def mX8_takesA (v1 : Int) (M : mm_M) (Q : Int → mm_M → Prop) : Prop := ((¬ (M 0 25) = 6 → ((¬ v1 = 43 → ((0 ≤ (M 0 27) ∧ (M 0 27) < 10) ∧ ((¬ (M 0 25) = 7 → (bX8_takesA_102 v1 (mm_w (v1 - (48 : Int))) (mm_w ((mm_w ((10 : Int) * (M 17 (Int.toNat (M 0 27))))) + (mm_w (v1 - (48 : Int))))) 0 M Q)) ∧ ((M 0 25) = 7 → mX8_within (mm_w (v1 - (48 : Int))) 0 9 M (fun r1 M1 => ((r1 = 0 → (bX8_takesA_102 v1 (mm_w (v1 - (48 : Int))) (mm_w ((mm_w ((10 : Int) * (M 17 (Int.toNat (M 0 27))))) + (mm_w (v1 - (48 : Int))))) 0 M1 Q)) ∧ (¬ r1 = 0 → mX8_within (mm_w ((mm_w ((10 : Int) * (M 17 (Int.toNat (M 0 27))))) + (mm_w (v1 - (48 : Int))))) 10 20 M1 (fun r2 M2 => ((r2 = 0 → (bX8_takesA_102 v1 (mm_w (v1 - (48 : Int))) (mm_w ((mm_w ((10 : Int) * (M 17 (Int.toNat (M 0 27))))) + (mm_w (v1 - (48 : Int))))) 0 M2 Q)) ∧ (¬ r2 = 0 → (bX8_takesA_102 v1 (mm_w (v1 - (48 : Int))) (mm_w ((mm_w ((10 : Int) * (M 17 (Int.toNat (M 0 27))))) + (mm_w (v1 - (48 : Int))))) 1 M2 Q))))))))))) ∧ (v1 = 43 → (((1 : Int) = 0 ∨ (1 : Int) = 1) ∧ Q 1 (mm_up M 0 25 9))))) ∧ ((M 0 25) = 6 → ((0 ≤ (M 0 27) ∧ (M 0 27) < 10) ∧ mX8_within (mm_w (v1 - (48 : Int))) 0 9 (mm_up M 17 (Int.toNat (M 0 27)) (mm_w (v1 - (48 : Int)))) (fun r3 M3 => mX8_goes r3 7 M3 (fun r4 M4 => ((r4 = 0 ∨ r4 = 1) ∧ Q r4 M4))))))
def fX8_takesA : mm_F := fun as M Q => match as with
  | [.inr (.inr c0), .inl v1] => mm_chk (Nat.beq c0 0) (mX8_takesA v1 M (fun r M => Q (some (.inl r)) M))
  | _ => False
def mX8_takesB (v1 : Int) (M : mm_M) (Q : Int → mm_M → Prop) : Prop := ((0 ≤ (M 0 27) ∧ (M 0 27) < 10) ∧ mX8_within v1 48 57 (mm_up M 18 (Int.toNat (M 0 27)) (mm_w (v1 - (48 : Int)))) (fun r1 M1 => ((r1 = 0 → ((r1 = 0 ∨ r1 = 1) ∧ Q r1 M1)) ∧ (¬ r1 = 0 → ((r1 = 0 ∨ r1 = 1) ∧ Q r1 (mm_up (mm_up M1 0 27 (mm_w ((M1 0 27) + (1 : Int)))) 0 25 1))))))
def fX8_takesB : mm_F := fun as M Q => match as with
  | [.inr (.inr c0), .inl v1] => mm_chk (Nat.beq c0 0) (mX8_takesB v1 M (fun r M => Q (some (.inl r)) M))
  | _ => False
def mX8_takesLetter (v1 : Int) (M : mm_M) (Q : Int → mm_M → Prop) : Prop := (((M 0 25) < 0 ∨ (9 : Int) < (M 0 25) → mX8_takesA v1 M (fun r1 M1 => ((r1 = 0 ∨ r1 = 1) ∧ Q r1 M1))) ∧ ((M 0 25) = 0 → mX8_within ((mm_up M 0 26 (mm_w (v1 - (48 : Int)))) 0 26) 2 6 (mm_up M 0 26 (mm_w (v1 - (48 : Int)))) (fun r2 M2 => mX8_goes r2 1 M2 (fun r3 M3 => ((r3 = 0 ∨ r3 = 1) ∧ Q r3 M3)))) ∧ ((M 0 25) = 1 → ((¬ v1 = 59 → mX8_goes 0 2 M (fun r4 M4 => ((r4 = 0 ∨ r4 = 1) ∧ Q r4 M4))) ∧ (v1 = 59 → (((10 : Int) ≤ (M 0 27) → mX8_goes 0 2 M (fun r5 M5 => ((r5 = 0 ∨ r5 = 1) ∧ Q r5 M5))) ∧ ((M 0 27) < 10 → mX8_goes 1 2 M (fun r6 M6 => ((r6 = 0 ∨ r6 = 1) ∧ Q r6 M6))))))) ∧ ((M 0 25) = 2 → mX8_takesEnd v1 M (fun r7 M7 => ((r7 = 0 ∨ r7 = 1) ∧ Q r7 M7))) ∧ ((M 0 25) = 3 → ((¬ v1 = 62 → mX8_goes 0 4 M (fun r8 M8 => ((r8 = 0 ∨ r8 = 1) ∧ Q r8 M8))) ∧ (v1 = 62 → mX8_goes 1 4 M (fun r9 M9 => ((r9 = 0 ∨ r9 = 1) ∧ Q r9 M9))))) ∧ ((M 0 25) = 4 → mX8_takesEnd v1 M (fun r10 M10 => ((r10 = 0 ∨ r10 = 1) ∧ Q r10 M10))) ∧ ((M 0 25) = 5 → ((¬ v1 = 58 → mX8_goes 0 6 M (fun r11 M11 => ((r11 = 0 ∨ r11 = 1) ∧ Q r11 M11))) ∧ (v1 = 58 → mX8_goes 1 6 M (fun r12 M12 => ((r12 = 0 ∨ r12 = 1) ∧ Q r12 M12))))) ∧ ((M 0 25) = 6 → mX8_takesA v1 M (fun r13 M13 => ((r13 = 0 ∨ r13 = 1) ∧ Q r13 M13))) ∧ ((M 0 25) = 7 → mX8_takesA v1 M (fun r14 M14 => ((r14 = 0 ∨ r14 = 1) ∧ Q r14 M14))) ∧ ((M 0 25) = 8 → mX8_takesA v1 M (fun r15 M15 => ((r15 = 0 ∨ r15 = 1) ∧ Q r15 M15))) ∧ ((M 0 25) = 9 → mX8_takesB v1 M (fun r16 M16 => ((r16 = 0 ∨ r16 = 1) ∧ Q r16 M16))) ∧ True)
def fX8_takesLetter : mm_F := fun as M Q => match as with
  | [.inr (.inr c0), .inl v1] => mm_chk (Nat.beq c0 0) (mX8_takesLetter v1 M (fun r M => Q (some (.inl r)) M))
  | _ => False
def bX8_read_12 : Nat → Int → mm_M → (Int → mm_M → Prop) → Prop
  | 0, _, _, _ => False
  | n + 1, v1, M, Q => (((M 0 23) ≤ v1 → Q v1 M) ∧ (v1 < (M 0 23) → ((0 ≤ v1 ∧ v1 < 92) ∧ mX8_takesLetter (M 14 (Int.toNat v1)) M (fun r1 M1 => ((r1 = 0 → Q v1 M1) ∧ (¬ r1 = 0 → (bX8_read_12 n (mm_w (v1 + 1)) M1 Q)))))))
def mX8_read  (M : mm_M) (Q : Int → mm_M → Prop) : Prop := (∃ j, bX8_read_12 j 0 (mm_up (mm_up M 0 25 0) 0 27 0) Q)
def fX8_read : mm_F := fun as M Q => match as with
  | [.inr (.inr c0)] => mm_chk (Nat.beq c0 0) (mX8_read M (fun r M => Q (some (.inl r)) M))
  | _ => False
def mX8_fault  (M : mm_M) (Q : Int → mm_M → Prop) : Prop := mX8_read M (fun r1 M1 => Q r1 M1)
def fX8_fault : mm_F := fun as M Q => match as with
  | [.inr (.inr c0)] => mm_chk (Nat.beq c0 0) (mX8_fault M (fun r M => Q (some (.inl r)) M))
  | _ => False
def bX8_net_47 : Nat → Int → mm_M → (Int → mm_M → Prop) → Prop
  | 0, _, _, _ => False
  | n + 1, v1, M, Q => (((M 0 1) ≤ v1 → Q ((mm_up (mm_up (mm_up M 0 9 0) 0 8 (mm_w (((mm_up M 0 9 0) 0 8) + (1 : Int)))) 0 23 0) 0 1) (mm_up (mm_up (mm_up M 0 9 0) 0 8 (mm_w (((mm_up M 0 9 0) 0 8) + (1 : Int)))) 0 23 0)) ∧ (v1 < (M 0 1) → ((0 ≤ v1 ∧ v1 < 10) ∧ ((0 ≤ v1 ∧ v1 < 10) ∧ ((0 ≤ v1 ∧ v1 < 10) ∧ ((0 ≤ v1 ∧ v1 < 10) ∧ ((0 ≤ v1 ∧ v1 < 10) ∧ ((0 ≤ v1 ∧ v1 < 10) ∧ ((0 ≤ v1 ∧ v1 < 10) ∧ ((0 ≤ v1 ∧ v1 < 10) ∧ ((0 ≤ v1 ∧ v1 < 10) ∧ (bX8_net_47 n (mm_w (v1 + 1)) (mm_up (mm_up (mm_up (mm_up (mm_up M 1 (Int.toNat v1) (M 15 (Int.toNat v1))) 2 (Int.toNat v1) ((mm_up M 1 (Int.toNat v1) (M 15 (Int.toNat v1))) 16 (Int.toNat v1))) 3 (Int.toNat v1) ((mm_up (mm_up M 1 (Int.toNat v1) (M 15 (Int.toNat v1))) 2 (Int.toNat v1) ((mm_up M 1 (Int.toNat v1) (M 15 (Int.toNat v1))) 16 (Int.toNat v1))) 17 (Int.toNat v1))) 4 (Int.toNat v1) ((mm_up (mm_up (mm_up M 1 (Int.toNat v1) (M 15 (Int.toNat v1))) 2 (Int.toNat v1) ((mm_up M 1 (Int.toNat v1) (M 15 (Int.toNat v1))) 16 (Int.toNat v1))) 3 (Int.toNat v1) ((mm_up (mm_up M 1 (Int.toNat v1) (M 15 (Int.toNat v1))) 2 (Int.toNat v1) ((mm_up M 1 (Int.toNat v1) (M 15 (Int.toNat v1))) 16 (Int.toNat v1))) 17 (Int.toNat v1))) 18 (Int.toNat v1))) 5 (Int.toNat v1) 0) Q))))))))))))
def mX8_net  (M : mm_M) (Q : Int → mm_M → Prop) : Prop := mX8_read M (fun r1 M1 => ((r1 < (M1 0 23) → Q (-103) M1) ∧ ((M1 0 23) ≤ r1 → ((¬ (M1 0 25) = 1 → Q (-103) M1) ∧ ((M1 0 25) = 1 → ((¬ (M1 0 27) = 0 → (∃ j, bX8_net_47 j 0 (mm_up (mm_up M1 0 0 (M1 0 26)) 0 1 ((mm_up M1 0 0 (M1 0 26)) 0 27)) Q)) ∧ ((M1 0 27) = 0 → Q (-103) M1)))))))
def fX8_net : mm_F := fun as M Q => match as with
  | [.inr (.inr c0)] => mm_chk (Nat.beq c0 0) (mX8_net M (fun r M => Q (some (.inl r)) M))
  | _ => False
def mX8_isNet  (M : mm_M) (Q : Int → mm_M → Prop) : Prop := (((M 0 0) ≤ 0 → (((0 : Int) = 0 ∨ (0 : Int) = 1) ∧ Q 0 M)) ∧ ((0 : Int) < (M 0 0) → (((1 : Int) = 0 ∨ (1 : Int) = 1) ∧ Q 1 M)))
def fX8_isNet : mm_F := fun as M Q => match as with
  | [.inr (.inr c0)] => mm_chk (Nat.beq c0 0) (mX8_isNet M (fun r M => Q (some (.inl r)) M))
  | _ => False
def mX8_roadOf (v1 : Int) (v2 : Int) (v3 : Int) (M : mm_M) (Q : Int → mm_M → Prop) : Prop := ((0 ≤ (mm_w ((mm_w ((5 : Int) * (mm_w ((mm_w ((12 : Int) * v1)) + v2)))) + v3)) ∧ (mm_w ((mm_w ((5 : Int) * (mm_w ((mm_w ((12 : Int) * v1)) + v2)))) + v3)) < 300) ∧ Q (M 11 (Int.toNat (mm_w ((mm_w ((5 : Int) * (mm_w ((mm_w ((12 : Int) * v1)) + v2)))) + v3)))) M)
def fX8_roadOf : mm_F := fun as M Q => match as with
  | [.inr (.inr c0), .inl v1, .inl v2, .inl v3] => mm_chk (Nat.beq c0 0) (mX8_roadOf v1 v2 v3 M (fun r M => Q (some (.inl r)) M))
  | _ => False
def bX8_addWay_3 : Nat → Int → Int → Int → Int → mm_M → (mm_M → Prop) → Prop
  | 0, _, _, _, _, _, _ => False
  | n + 1, v1, v2, v3, v4, M, Q => ((0 ≤ (mm_w ((mm_w ((12 : Int) * v1)) + v2)) ∧ (mm_w ((mm_w ((12 : Int) * v1)) + v2)) < 60) ∧ (((M 10 (Int.toNat (mm_w ((mm_w ((12 : Int) * v1)) + v2)))) ≤ v4 → Q M) ∧ (v4 < (M 10 (Int.toNat (mm_w ((mm_w ((12 : Int) * v1)) + v2)))) → mX8_roadOf v1 v2 v4 M (fun r1 M1 => ((0 ≤ r1 ∧ r1 < 10) ∧ ((0 ≤ r1 ∧ r1 < 10) ∧ (bX8_addWay_3 n v1 v2 v3 (mm_w (v4 + 1)) (mm_up M1 19 (Int.toNat r1) (mm_w ((M1 19 (Int.toNat r1)) + v3))) Q)))))))
def mX8_addWay (v1 : Int) (v2 : Int) (v3 : Int) (M : mm_M) (Q : mm_M → Prop) : Prop := (∃ j, bX8_addWay_3 j v1 v2 v3 0 M Q)
def fX8_addWay : mm_F := fun as M Q => match as with
  | [.inr (.inr c0), .inl v1, .inl v2, .inl v3] => mm_chk (Nat.beq c0 0) (mX8_addWay v1 v2 v3 M (fun M => Q none M))
  | _ => False
def bX8_layLoad_23 : Nat → Int → mm_M → (mm_M → Prop) → Prop
  | 0, _, _, _ => False
  | n + 1, v1, M, Q => (((M 0 9) ≤ v1 → Q M) ∧ (v1 < (M 0 9) → ((0 ≤ v1 ∧ v1 < 5) ∧ mX8_addWay v1 (M 9 (Int.toNat v1)) 1 M (fun M1 => (bX8_layLoad_23 n (mm_w (v1 + 1)) M1 Q)))))
def bX8_layLoad_2 : Nat → Int → mm_M → (mm_M → Prop) → Prop
  | 0, _, _, _ => False
  | n + 1, v1, M, Q => (((10 : Int) ≤ v1 → (∃ j, bX8_layLoad_23 j 0 M Q)) ∧ (v1 < 10 → ((0 ≤ v1 ∧ v1 < 10) ∧ (bX8_layLoad_2 n (mm_w (v1 + 1)) (mm_up M 19 (Int.toNat v1) 0) Q))))
def mX8_layLoad  (M : mm_M) (Q : mm_M → Prop) : Prop := (∃ j, bX8_layLoad_2 j 0 M Q)
def fX8_layLoad : mm_F := fun as M Q => match as with
  | [.inr (.inr c0)] => mm_chk (Nat.beq c0 0) (mX8_layLoad M (fun M => Q none M))
  | _ => False
def mX8_payAt (v1 : Int) (v2 : Int) (M : mm_M) (Q : Int → mm_M → Prop) : Prop := ((0 ≤ v1 ∧ v1 < 10) ∧ ((0 ≤ v1 ∧ v1 < 10) ∧ ((¬ (M 0 7) = 1 → ((¬ (M 0 7) = 2 → Q (mm_w ((mm_w ((M 3 (Int.toNat v1)) + (mm_w ((M 4 (Int.toNat v1)) * v2)))) + (0 : Int))) M) ∧ ((M 0 7) = 2 → ((0 ≤ v1 ∧ v1 < 10) ∧ Q (mm_w ((mm_w ((M 3 (Int.toNat v1)) + (mm_w ((M 4 (Int.toNat v1)) * v2)))) + (mm_w ((M 4 (Int.toNat v1)) * (mm_w (v2 - (1 : Int))))))) M)))) ∧ ((M 0 7) = 1 → ((0 ≤ v1 ∧ v1 < 10) ∧ Q (mm_w ((mm_w ((M 3 (Int.toNat v1)) + (mm_w ((M 4 (Int.toNat v1)) * v2)))) + (M 5 (Int.toNat v1)))) M)))))
def fX8_payAt : mm_F := fun as M Q => match as with
  | [.inr (.inr c0), .inl v1, .inl v2] => mm_chk (Nat.beq c0 0) (mX8_payAt v1 v2 M (fun r M => Q (some (.inl r)) M))
  | _ => False
def bX8_payNow_24 : Nat → Int → Int → Int → Int → mm_M → (Int → mm_M → Prop) → Prop
  | 0, _, _, _, _, _, _ => False
  | n + 1, v1, v2, v3, v4, M, Q => ((0 ≤ (mm_w ((mm_w ((12 : Int) * v1)) + v2)) ∧ (mm_w ((mm_w ((12 : Int) * v1)) + v2)) < 60) ∧ (((M 10 (Int.toNat (mm_w ((mm_w ((12 : Int) * v1)) + v2)))) ≤ v4 → mX8_addWay v1 v2 (-1) M (fun M1 => ((0 ≤ v1 ∧ v1 < 5) ∧ mX8_addWay v1 (M1 9 (Int.toNat v1)) 1 M1 (fun M2 => Q v3 M2)))) ∧ (v4 < (M 10 (Int.toNat (mm_w ((mm_w ((12 : Int) * v1)) + v2)))) → mX8_roadOf v1 v2 v4 M (fun r3 M3 => ((0 ≤ r3 ∧ r3 < 10) ∧ mX8_payAt r3 (M3 19 (Int.toNat r3)) M3 (fun r4 M4 => (bX8_payNow_24 n v1 v2 (mm_w (v3 + r4)) (mm_w (v4 + 1)) M4 Q)))))))
def mX8_payNow (v1 : Int) (v2 : Int) (M : mm_M) (Q : Int → mm_M → Prop) : Prop := ((0 ≤ v1 ∧ v1 < 5) ∧ mX8_addWay v1 (M 9 (Int.toNat v1)) (-1) M (fun M1 => mX8_addWay v1 v2 1 M1 (fun M2 => (∃ j, bX8_payNow_24 j v1 v2 0 0 M2 Q))))
def fX8_payNow : mm_F := fun as M Q => match as with
  | [.inr (.inr c0), .inl v1, .inl v2] => mm_chk (Nat.beq c0 0) (mX8_payNow v1 v2 M (fun r M => Q (some (.inl r)) M))
  | _ => False
def mX8_payOf (v1 : Int) (v2 : Int) (M : mm_M) (Q : Int → mm_M → Prop) : Prop := mX8_layLoad M (fun M1 => mX8_payNow v1 v2 M1 (fun r2 M2 => Q r2 M2))
def fX8_payOf : mm_F := fun as M Q => match as with
  | [.inr (.inr c0), .inl v1, .inl v2] => mm_chk (Nat.beq c0 0) (mX8_payOf v1 v2 M (fun r M => Q (some (.inl r)) M))
  | _ => False
def bX8_socialNow_8 : Nat → Int → Int → mm_M → (Int → mm_M → Prop) → Prop
  | 0, _, _, _, _ => False
  | n + 1, v1, v2, M, Q => (((M 0 1) ≤ v2 → Q v1 M) ∧ (v2 < (M 0 1) → ((0 ≤ v2 ∧ v2 < 10) ∧ ((0 ≤ v2 ∧ v2 < 10) ∧ ((0 ≤ v2 ∧ v2 < 10) ∧ ((0 ≤ v2 ∧ v2 < 10) ∧ (bX8_socialNow_8 n (mm_w (v1 + (mm_w ((M 19 (Int.toNat v2)) * (mm_w ((M 3 (Int.toNat v2)) + (mm_w ((M 4 (Int.toNat v2)) * (M 19 (Int.toNat v2)))))))))) (mm_w (v2 + 1)) M Q)))))))
def mX8_socialNow  (M : mm_M) (Q : Int → mm_M → Prop) : Prop := mX8_layLoad M (fun M1 => (∃ j, bX8_socialNow_8 j 0 0 M1 Q))
def fX8_socialNow : mm_F := fun as M Q => match as with
  | [.inr (.inr c0)] => mm_chk (Nat.beq c0 0) (mX8_socialNow M (fun r M => Q (some (.inl r)) M))
  | _ => False
def bX8_potentialNow_18 (K8 : Int → Int → mm_M → Prop) : Nat → Int → Int → Int → mm_M → (Int → mm_M → Prop) → Prop
  | 0, _, _, _, _, _ => False
  | n + 1, v1, v2, v3, M, Q => ((0 ≤ v2 ∧ v2 < 10) ∧ (((M 19 (Int.toNat v2)) < v3 → (K8 v1 (mm_w (v2 + 1)) M)) ∧ (v3 ≤ (M 19 (Int.toNat v2)) → mX8_payAt v2 v3 M (fun r1 M1 => (bX8_potentialNow_18 K8 n (mm_w (v1 + r1)) v2 (mm_w (v3 + 1)) M1 Q)))))
def bX8_potentialNow_8 : Nat → Int → Int → mm_M → (Int → mm_M → Prop) → Prop
  | 0, _, _, _, _ => False
  | n + 1, v1, v2, M, Q => (((M 0 1) ≤ v2 → Q v1 M) ∧ (v2 < (M 0 1) → (∃ j, bX8_potentialNow_18 (fun v1 v2 M => bX8_potentialNow_8 n v1 v2 M Q) j v1 v2 1 M Q)))
def mX8_potentialNow  (M : mm_M) (Q : Int → mm_M → Prop) : Prop := mX8_layLoad M (fun M1 => (∃ j, bX8_potentialNow_8 j 0 0 M1 Q))
def fX8_potentialNow : mm_F := fun as M Q => match as with
  | [.inr (.inr c0)] => mm_chk (Nat.beq c0 0) (mX8_potentialNow M (fun r M => Q (some (.inl r)) M))
  | _ => False
def bX8_bestWay_21 : Nat → Int → Int → Int → Int → mm_M → (Int → mm_M → Prop) → Prop
  | 0, _, _, _, _, _, _ => False
  | n + 1, v1, v2, v3, v4, M, Q => ((0 ≤ v1 ∧ v1 < 5) ∧ (((M 8 (Int.toNat v1)) ≤ v4 → Q v2 M) ∧ (v4 < (M 8 (Int.toNat v1)) → mX8_payNow v1 v4 M (fun r1 M1 => ((v3 ≤ r1 → (bX8_bestWay_21 n v1 v2 v3 (mm_w (v4 + 1)) M1 Q)) ∧ (r1 < v3 → (bX8_bestWay_21 n v1 v4 r1 (mm_w (v4 + 1)) M1 Q)))))))
def mX8_bestWay (v1 : Int) (M : mm_M) (Q : Int → mm_M → Prop) : Prop := mX8_layLoad M (fun M1 => ((0 ≤ v1 ∧ v1 < 5) ∧ mX8_payNow v1 (M1 9 (Int.toNat v1)) M1 (fun r2 M2 => (∃ j, bX8_bestWay_21 j v1 (M1 9 (Int.toNat v1)) r2 0 M2 Q))))
def fX8_bestWay : mm_F := fun as M Q => match as with
  | [.inr (.inr c0), .inl v1] => mm_chk (Nat.beq c0 0) (mX8_bestWay v1 M (fun r M => Q (some (.inl r)) M))
  | _ => False
def bX8_restless_2 : Nat → Int → Int → mm_M → (Int → mm_M → Prop) → Prop
  | 0, _, _, _, _ => False
  | n + 1, v1, v2, M, Q => (((M 0 9) ≤ v2 → Q (-1) M) ∧ (v2 < (M 0 9) → ((v2 = v1 → (bX8_restless_2 n v1 (mm_w (v2 + 1)) M Q)) ∧ (¬ v2 = v1 → mX8_bestWay v2 M (fun r1 M1 => ((0 ≤ v2 ∧ v2 < 5) ∧ ((r1 = (M1 9 (Int.toNat v2)) → (bX8_restless_2 n v1 (mm_w (v2 + 1)) M1 Q)) ∧ (¬ r1 = (M1 9 (Int.toNat v2)) → Q v2 M1))))))))
def mX8_restless (v1 : Int) (M : mm_M) (Q : Int → mm_M → Prop) : Prop := (∃ j, bX8_restless_2 j v1 0 M Q)
def fX8_restless : mm_F := fun as M Q => match as with
  | [.inr (.inr c0), .inl v1] => mm_chk (Nat.beq c0 0) (mX8_restless v1 M (fun r M => Q (some (.inl r)) M))
  | _ => False
def bX8_setsAll_4 : Nat → Int → Int → mm_M → (Int → mm_M → Prop) → Prop
  | 0, _, _, _, _ => False
  | n + 1, v1, v2, M, Q => (((M 0 9) ≤ v2 → Q v1 M) ∧ (v2 < (M 0 9) → ((0 ≤ v2 ∧ v2 < 5) ∧ (bX8_setsAll_4 n (mm_w (v1 * (M 8 (Int.toNat v2)))) (mm_w (v2 + 1)) M Q))))
def mX8_setsAll  (M : mm_M) (Q : Int → mm_M → Prop) : Prop := (∃ j, bX8_setsAll_4 j 1 0 M Q)
def fX8_setsAll : mm_F := fun as M Q => match as with
  | [.inr (.inr c0)] => mm_chk (Nat.beq c0 0) (mX8_setsAll M (fun r M => Q (some (.inl r)) M))
  | _ => False
def bX8_greatestLoad_8 : Nat → Int → Int → mm_M → (Int → mm_M → Prop) → Prop
  | 0, _, _, _, _ => False
  | n + 1, v1, v2, M, Q => (((M 0 1) ≤ v2 → Q v1 M) ∧ (v2 < (M 0 1) → ((0 ≤ v2 ∧ v2 < 10) ∧ (((M 19 (Int.toNat v2)) ≤ v1 → (bX8_greatestLoad_8 n v1 (mm_w (v2 + 1)) M Q)) ∧ (v1 < (M 19 (Int.toNat v2)) → ((0 ≤ v2 ∧ v2 < 10) ∧ (bX8_greatestLoad_8 n (M 19 (Int.toNat v2)) (mm_w (v2 + 1)) M Q)))))))
def mX8_greatestLoad  (M : mm_M) (Q : Int → mm_M → Prop) : Prop := mX8_layLoad M (fun M1 => (∃ j, bX8_greatestLoad_8 j 0 0 M1 Q))
def fX8_greatestLoad : mm_F := fun as M Q => match as with
  | [.inr (.inr c0)] => mm_chk (Nat.beq c0 0) (mX8_greatestLoad M (fun r M => Q (some (.inl r)) M))
  | _ => False
def mX8_aboutNow (v1 : Int) (M : mm_M) (Q : Int → mm_M → Prop) : Prop := ((v1 < 0 ∨ (6 : Int) < v1 → mX8_greatestLoad M (fun r1 M1 => Q r1 M1)) ∧ (v1 = 0 → Q (M 0 0) M) ∧ (v1 = 1 → Q (M 0 1) M) ∧ (v1 = 2 → Q (M 0 7) M) ∧ (v1 = 3 → mX8_socialNow M (fun r2 M2 => Q r2 M2)) ∧ (v1 = 4 → mX8_potentialNow M (fun r3 M3 => Q r3 M3)) ∧ (v1 = 5 → mX8_restless (-1) M (fun r4 M4 => ((¬ r4 = (-1) → Q 0 M4) ∧ (r4 = (-1) → Q 1 M4)))) ∧ (v1 = 6 → mX8_setsAll M (fun r5 M5 => Q r5 M5)) ∧ True)
def fX8_aboutNow : mm_F := fun as M Q => match as with
  | [.inr (.inr c0), .inl v1] => mm_chk (Nat.beq c0 0) (mX8_aboutNow v1 M (fun r M => Q (some (.inl r)) M))
  | _ => False
def mX8_about (v1 : Int) (M : mm_M) (Q : Int → mm_M → Prop) : Prop := mX8_within v1 0 7 M (fun r1 M1 => ((¬ r1 = 0 → mX8_isNet M1 (fun r2 M2 => ((r2 = 0 → Q (-103) M2) ∧ (¬ r2 = 0 → mX8_aboutNow v1 M2 (fun r3 M3 => Q r3 M3))))) ∧ (r1 = 0 → Q (-102) M1)))
def fX8_about : mm_F := fun as M Q => match as with
  | [.inr (.inr c0), .inl v1] => mm_chk (Nat.beq c0 0) (mX8_about v1 M (fun r M => Q (some (.inl r)) M))
  | _ => False
def mX8_isRoad (v1 : Int) (M : mm_M) (Q : Int → mm_M → Prop) : Prop := mX8_isNet M (fun r1 M1 => ((r1 = 0 → (((0 : Int) = 0 ∨ (0 : Int) = 1) ∧ Q 0 M1)) ∧ (¬ r1 = 0 → mX8_within v1 0 (mm_w ((M1 0 1) - (1 : Int))) M1 (fun r2 M2 => ((r2 = 0 → (((0 : Int) = 0 ∨ (0 : Int) = 1) ∧ Q 0 M2)) ∧ (¬ r2 = 0 → (((1 : Int) = 0 ∨ (1 : Int) = 1) ∧ Q 1 M2)))))))
def fX8_isRoad : mm_F := fun as M Q => match as with
  | [.inr (.inr c0), .inl v1] => mm_chk (Nat.beq c0 0) (mX8_isRoad v1 M (fun r M => Q (some (.inl r)) M))
  | _ => False
def mX8_roadNow (v1 : Int) (v2 : Int) (M : mm_M) (Q : Int → mm_M → Prop) : Prop := mX8_layLoad M (fun M1 => ((v2 < 0 ∨ (6 : Int) < v2 → ((0 ≤ v1 ∧ v1 < 10) ∧ mX8_payAt v1 (mm_w ((M1 19 (Int.toNat v1)) + (1 : Int))) M1 (fun r2 M2 => Q r2 M2))) ∧ (v2 = 0 → ((0 ≤ v1 ∧ v1 < 10) ∧ Q (M1 1 (Int.toNat v1)) M1)) ∧ (v2 = 1 → ((0 ≤ v1 ∧ v1 < 10) ∧ Q (M1 2 (Int.toNat v1)) M1)) ∧ (v2 = 2 → ((0 ≤ v1 ∧ v1 < 10) ∧ Q (M1 3 (Int.toNat v1)) M1)) ∧ (v2 = 3 → ((0 ≤ v1 ∧ v1 < 10) ∧ Q (M1 4 (Int.toNat v1)) M1)) ∧ (v2 = 4 → ((0 ≤ v1 ∧ v1 < 10) ∧ Q (M1 5 (Int.toNat v1)) M1)) ∧ (v2 = 5 → ((0 ≤ v1 ∧ v1 < 10) ∧ Q (M1 19 (Int.toNat v1)) M1)) ∧ (v2 = 6 → ((0 ≤ v1 ∧ v1 < 10) ∧ ((¬ (M1 19 (Int.toNat v1)) = 0 → ((0 ≤ v1 ∧ v1 < 10) ∧ mX8_payAt v1 (M1 19 (Int.toNat v1)) M1 (fun r3 M3 => Q r3 M3))) ∧ ((M1 19 (Int.toNat v1)) = 0 → Q (-1) M1)))) ∧ True))
def fX8_roadNow : mm_F := fun as M Q => match as with
  | [.inr (.inr c0), .inl v1, .inl v2] => mm_chk (Nat.beq c0 0) (mX8_roadNow v1 v2 M (fun r M => Q (some (.inl r)) M))
  | _ => False
def mX8_road (v1 : Int) (v2 : Int) (M : mm_M) (Q : Int → mm_M → Prop) : Prop := mX8_isRoad v1 M (fun r1 M1 => ((¬ r1 = 0 → mX8_within v2 0 7 M1 (fun r2 M2 => ((r2 = 0 → Q (-102) M2) ∧ (¬ r2 = 0 → mX8_roadNow v1 v2 M2 (fun r3 M3 => Q r3 M3))))) ∧ (r1 = 0 → Q (-101) M1)))
def fX8_road : mm_F := fun as M Q => match as with
  | [.inr (.inr c0), .inl v1, .inl v2] => mm_chk (Nat.beq c0 0) (mX8_road v1 v2 M (fun r M => Q (some (.inl r)) M))
  | _ => False
def bX8_put_131 (v1 : Int) (v2 : Int) (v3 : Int) (v4 : Int) (v5 : Int) (w0 : Int) (w1 : Int) (M : mm_M) (Q : Int → mm_M → Prop) : Prop := ((0 ≤ w1 ∧ w1 < 10) ∧ ((¬ v2 = 2 → ((0 ≤ v1 ∧ v1 < 10) ∧ ((0 ≤ v1 ∧ v1 < 10) ∧ Q v5 (mm_up (mm_up M 4 (Int.toNat w1) w0) 5 (Int.toNat v1) ((mm_up M 4 (Int.toNat w1) w0) 5 (Int.toNat v1)))))) ∧ (v2 = 2 → ((0 ≤ v1 ∧ v1 < 10) ∧ Q v5 (mm_up (mm_up M 4 (Int.toNat w1) w0) 5 (Int.toNat v1) v3)))))
def bX8_put_110 (v1 : Int) (v2 : Int) (v3 : Int) (v4 : Int) (v5 : Int) (w0 : Int) (w1 : Int) (M : mm_M) (Q : Int → mm_M → Prop) : Prop := ((0 ≤ w1 ∧ w1 < 10) ∧ ((¬ v2 = 1 → ((0 ≤ v1 ∧ v1 < 10) ∧ (bX8_put_131 v1 v2 v3 v4 v5 ((mm_up M 3 (Int.toNat w1) w0) 4 (Int.toNat v1)) v1 (mm_up M 3 (Int.toNat w1) w0) Q))) ∧ (v2 = 1 → (bX8_put_131 v1 v2 v3 v4 v5 v3 v1 (mm_up M 3 (Int.toNat w1) w0) Q))))
def bX8_put_32 (v1 : Int) (v2 : Int) (v3 : Int) (w0 : Int) (M : mm_M) (Q : Int → mm_M → Prop) : Prop := mX8_within v2 0 2 M (fun r1 M1 => ((r1 = 0 → Q (-102) M1) ∧ (¬ r1 = 0 → mX8_within v3 0 w0 M1 (fun r2 M2 => ((¬ r2 = 0 → ((¬ v2 = 0 → ((¬ v2 = 1 → ((0 ≤ v1 ∧ v1 < 10) ∧ ((¬ v2 = 0 → ((0 ≤ v1 ∧ v1 < 10) ∧ (bX8_put_110 v1 v2 v3 w0 (M2 5 (Int.toNat v1)) (M2 3 (Int.toNat v1)) v1 M2 Q))) ∧ (v2 = 0 → (bX8_put_110 v1 v2 v3 w0 (M2 5 (Int.toNat v1)) v3 v1 M2 Q))))) ∧ (v2 = 1 → ((0 ≤ v1 ∧ v1 < 10) ∧ ((¬ v2 = 0 → ((0 ≤ v1 ∧ v1 < 10) ∧ (bX8_put_110 v1 v2 v3 w0 (M2 4 (Int.toNat v1)) (M2 3 (Int.toNat v1)) v1 M2 Q))) ∧ (v2 = 0 → (bX8_put_110 v1 v2 v3 w0 (M2 4 (Int.toNat v1)) v3 v1 M2 Q))))))) ∧ (v2 = 0 → ((0 ≤ v1 ∧ v1 < 10) ∧ ((¬ v2 = 0 → ((0 ≤ v1 ∧ v1 < 10) ∧ (bX8_put_110 v1 v2 v3 w0 (M2 3 (Int.toNat v1)) (M2 3 (Int.toNat v1)) v1 M2 Q))) ∧ (v2 = 0 → (bX8_put_110 v1 v2 v3 w0 (M2 3 (Int.toNat v1)) v3 v1 M2 Q))))))) ∧ (r2 = 0 → Q (-102) M2))))))
def mX8_put (v1 : Int) (v2 : Int) (v3 : Int) (M : mm_M) (Q : Int → mm_M → Prop) : Prop := mX8_isRoad v1 M (fun r1 M1 => ((¬ r1 = 0 → ((¬ v2 = 0 → ((¬ v2 = 1 → (bX8_put_32 v1 v2 v3 40 M1 Q)) ∧ (v2 = 1 → (bX8_put_32 v1 v2 v3 9 M1 Q)))) ∧ (v2 = 0 → (bX8_put_32 v1 v2 v3 20 M1 Q)))) ∧ (r1 = 0 → Q (-101) M1)))
def fX8_put : mm_F := fun as M Q => match as with
  | [.inr (.inr c0), .inl v1, .inl v2, .inl v3] => mm_chk (Nat.beq c0 0) (mX8_put v1 v2 v3 M (fun r M => Q (some (.inl r)) M))
  | _ => False
def mX8_mode (v1 : Int) (M : mm_M) (Q : Int → mm_M → Prop) : Prop := mX8_within v1 0 2 M (fun r1 M1 => ((¬ r1 = 0 → Q (M1 0 7) (mm_up M1 0 7 v1)) ∧ (r1 = 0 → Q (-102) M1)))
def fX8_mode : mm_F := fun as M Q => match as with
  | [.inr (.inr c0), .inl v1] => mm_chk (Nat.beq c0 0) (mX8_mode v1 M (fun r M => Q (some (.inl r)) M))
  | _ => False
def bX8_goesOn_54 : Nat → Int → Int → Int → Int → Int → mm_M → (Int → mm_M → Prop) → Prop
  | 0, _, _, _, _, _, _, _ => False
  | n + 1, v2, v3, v4, v5, v6, M, Q => ((v2 ≤ v6 → ((v5 = 0 ∨ v5 = 1) ∧ Q v5 M)) ∧ (v6 < v2 → ((v5 = 0 → (bX8_goesOn_54 n v2 v3 v4 0 (mm_w (v6 + 1)) M Q)) ∧ (¬ v5 = 0 → ((0 ≤ v6 ∧ v6 < 6) ∧ ((0 ≤ (M 20 (Int.toNat v6)) ∧ (M 20 (Int.toNat v6)) < 10) ∧ ((0 ≤ v3 ∧ v3 < 10) ∧ (((M 2 (Int.toNat (M 20 (Int.toNat v6)))) = (M 2 (Int.toNat v3)) → (bX8_goesOn_54 n v2 v3 v4 0 (mm_w (v6 + 1)) M Q)) ∧ (¬ (M 2 (Int.toNat (M 20 (Int.toNat v6)))) = (M 2 (Int.toNat v3)) → (bX8_goesOn_54 n v2 v3 v4 1 (mm_w (v6 + 1)) M Q))))))))))
def bX8_goesOn_21 (v1 : Int) (v2 : Int) (v3 : Int) (w0 : Int) (M : mm_M) (Q : Int → mm_M → Prop) : Prop := ((0 ≤ v3 ∧ v3 < 10) ∧ ((¬ (M 1 (Int.toNat v3)) = w0 → (∃ j, bX8_goesOn_54 j v2 v3 w0 0 0 M Q)) ∧ ((M 1 (Int.toNat v3)) = w0 → ((0 ≤ v3 ∧ v3 < 10) ∧ (((M 2 (Int.toNat v3)) = v1 → (∃ j, bX8_goesOn_54 j v2 v3 w0 0 0 M Q)) ∧ (¬ (M 2 (Int.toNat v3)) = v1 → (∃ j, bX8_goesOn_54 j v2 v3 w0 1 0 M Q)))))))
def mX8_goesOn (v1 : Int) (v2 : Int) (v3 : Int) (M : mm_M) (Q : Int → mm_M → Prop) : Prop := ((¬ v2 = 0 → ((0 ≤ (mm_w (v2 - (1 : Int))) ∧ (mm_w (v2 - (1 : Int))) < 6) ∧ ((0 ≤ (M 20 (Int.toNat (mm_w (v2 - (1 : Int))))) ∧ (M 20 (Int.toNat (mm_w (v2 - (1 : Int))))) < 10) ∧ (bX8_goesOn_21 v1 v2 v3 (M 2 (Int.toNat (M 20 (Int.toNat (mm_w (v2 - (1 : Int))))))) M Q)))) ∧ (v2 = 0 → (bX8_goesOn_21 v1 v2 v3 v1 M Q)))
def fX8_goesOn : mm_F := fun as M Q => match as with
  | [.inr (.inr c0), .inl v1, .inl v2, .inl v3] => mm_chk (Nat.beq c0 0) (mX8_goesOn v1 v2 v3 M (fun r M => Q (some (.inl r)) M))
  | _ => False
def bX8_keepWay_21 : Nat → Int → Int → Int → Int → mm_M → (mm_M → Prop) → Prop
  | 0, _, _, _, _, _, _ => False
  | n + 1, v1, v2, v3, v4, M, Q => ((v3 ≤ v4 → Q M) ∧ (v4 < v3 → ((0 ≤ v4 ∧ v4 < 6) ∧ ((0 ≤ (mm_w ((mm_w ((5 : Int) * (mm_w ((mm_w ((12 : Int) * v1)) + v2)))) + v4)) ∧ (mm_w ((mm_w ((5 : Int) * (mm_w ((mm_w ((12 : Int) * v1)) + v2)))) + v4)) < 300) ∧ (bX8_keepWay_21 n v1 v2 v3 (mm_w (v4 + 1)) (mm_up M 11 (Int.toNat (mm_w ((mm_w ((5 : Int) * (mm_w ((mm_w ((12 : Int) * v1)) + v2)))) + v4))) (M 20 (Int.toNat v4))) Q)))))
def mX8_keepWay (v1 : Int) (v2 : Int) (v3 : Int) (M : mm_M) (Q : mm_M → Prop) : Prop := (((12 : Int) ≤ v2 → Q M) ∧ (v2 < 12 → ((0 ≤ (mm_w ((mm_w ((12 : Int) * v1)) + v2)) ∧ (mm_w ((mm_w ((12 : Int) * v1)) + v2)) < 60) ∧ (∃ j, bX8_keepWay_21 j v1 v2 v3 0 (mm_up M 10 (Int.toNat (mm_w ((mm_w ((12 : Int) * v1)) + v2))) v3) Q))))
def fX8_keepWay : mm_F := fun as M Q => match as with
  | [.inr (.inr c0), .inl v1, .inl v2, .inl v3] => mm_chk (Nat.beq c0 0) (mX8_keepWay v1 v2 v3 M (fun M => Q none M))
  | _ => False
def bX8_layWays_14 : Nat → Int → Int → Int → Int → Int → Int → Int → mm_M → (Int → mm_M → Prop) → Prop
  | 0, _, _, _, _, _, _, _, _, _ => False
  | n + 1, v1, v2, v3, v4, v5, v6, v7, M, Q => ((v7 < 0 → Q v6 M) ∧ ((0 : Int) ≤ v7 → (((12 : Int) < v6 → Q v6 M) ∧ (v6 ≤ 12 → ((0 ≤ v7 ∧ v7 < 6) ∧ ((0 ≤ v7 ∧ v7 < 6) ∧ ((0 ≤ v7 ∧ v7 < 6) ∧ ((¬ ((mm_up M 20 (Int.toNat v7) (mm_w ((M 20 (Int.toNat v7)) + (1 : Int)))) 20 (Int.toNat v7)) = ((mm_up M 20 (Int.toNat v7) (mm_w ((M 20 (Int.toNat v7)) + (1 : Int)))) 0 1) → ((0 ≤ v7 ∧ v7 < 6) ∧ mX8_goesOn v2 v7 ((mm_up M 20 (Int.toNat v7) (mm_w ((M 20 (Int.toNat v7)) + (1 : Int)))) 20 (Int.toNat v7)) (mm_up M 20 (Int.toNat v7) (mm_w ((M 20 (Int.toNat v7)) + (1 : Int)))) (fun r1 M1 => ((r1 = 0 → (bX8_layWays_14 n v1 v2 v3 v4 v5 v6 v7 M1 Q)) ∧ (¬ r1 = 0 → ((v4 ≤ (mm_w (v7 + (1 : Int))) → ((0 ≤ v7 ∧ v7 < 6) ∧ ((0 ≤ (M1 20 (Int.toNat v7)) ∧ (M1 20 (Int.toNat v7)) < 10) ∧ ((¬ (M1 2 (Int.toNat (M1 20 (Int.toNat v7)))) = v3 → (bX8_layWays_14 n v1 v2 v3 v4 v5 v6 v7 M1 Q)) ∧ ((M1 2 (Int.toNat (M1 20 (Int.toNat v7)))) = v3 → mX8_keepWay v1 v6 v4 M1 (fun M2 => (bX8_layWays_14 n v1 v2 v3 v4 v5 (mm_w (v6 + 1)) v7 M2 Q))))))) ∧ ((mm_w (v7 + (1 : Int))) < v4 → ((0 ≤ (mm_w (v7 + 1)) ∧ (mm_w (v7 + 1)) < 6) ∧ (bX8_layWays_14 n v1 v2 v3 v4 v5 v6 (mm_w (v7 + 1)) (mm_up M1 20 (Int.toNat (mm_w (v7 + 1))) (-1)) Q))))))))) ∧ (((mm_up M 20 (Int.toNat v7) (mm_w ((M 20 (Int.toNat v7)) + (1 : Int)))) 20 (Int.toNat v7)) = ((mm_up M 20 (Int.toNat v7) (mm_w ((M 20 (Int.toNat v7)) + (1 : Int)))) 0 1) → (bX8_layWays_14 n v1 v2 v3 v4 v5 v6 (mm_w (v7 + (-1))) (mm_up M 20 (Int.toNat v7) (mm_w ((M 20 (Int.toNat v7)) + (1 : Int)))) Q))))))))))
def mX8_layWays (v1 : Int) (v2 : Int) (v3 : Int) (v4 : Int) (v5 : Int) (M : mm_M) (Q : Int → mm_M → Prop) : Prop := ((0 ≤ (0 : Int) ∧ (0 : Int) < 6) ∧ (∃ j, bX8_layWays_14 j v1 v2 v3 v4 v5 v5 0 (mm_up M 20 0 (-1)) Q))
def fX8_layWays : mm_F := fun as M Q => match as with
  | [.inr (.inr c0), .inl v1, .inl v2, .inl v3, .inl v4, .inl v5] => mm_chk (Nat.beq c0 0) (mX8_layWays v1 v2 v3 v4 v5 M (fun r M => Q (some (.inl r)) M))
  | _ => False
def bX8_leastPay_44 (K12 : Int → Int → Int → Int → mm_M → Prop) (v1 : Int) (v2 : Int) (v3 : Int) (v4 : Int) (v5 : Int) (w0 : Int) (M : mm_M) (Q : Int → mm_M → Prop) : Prop := ((v3 ≤ v5 → (K12 v1 w0 v3 (mm_w (v4 + 1)) M)) ∧ (v5 < v3 → (K12 v1 w0 v5 (mm_w (v4 + 1)) M)))
def bX8_leastPay_12 : Nat → Int → Int → Int → Int → mm_M → (Int → mm_M → Prop) → Prop
  | 0, _, _, _, _, _, _ => False
  | n + 1, v1, v2, v3, v4, M, Q => ((0 ≤ v1 ∧ v1 < 5) ∧ (((M 8 (Int.toNat v1)) ≤ v4 → Q v2 M) ∧ (v4 < (M 8 (Int.toNat v1)) → mX8_payOf v1 v4 M (fun r1 M1 => ((v3 ≤ r1 → (bX8_leastPay_44 (fun v1 v2 v3 v4 M => bX8_leastPay_12 n v1 v2 v3 v4 M Q) v1 v2 v3 v4 r1 v2 M1 Q)) ∧ (r1 < v3 → (bX8_leastPay_44 (fun v1 v2 v3 v4 M => bX8_leastPay_12 n v1 v2 v3 v4 M Q) v1 v2 v3 v4 r1 v4 M1 Q)))))))
def mX8_leastPay (v1 : Int) (M : mm_M) (Q : Int → mm_M → Prop) : Prop := mX8_payOf v1 0 M (fun r1 M1 => (∃ j, bX8_leastPay_12 j v1 0 r1 1 M1 Q))
def fX8_leastPay : mm_F := fun as M Q => match as with
  | [.inr (.inr c0), .inl v1] => mm_chk (Nat.beq c0 0) (mX8_leastPay v1 M (fun r M => Q (some (.inl r)) M))
  | _ => False
def mX8_isNode (v1 : Int) (M : mm_M) (Q : Int → mm_M → Prop) : Prop := mX8_within v1 0 (mm_w ((M 0 0) - (1 : Int))) M (fun r1 M1 => ((r1 = 0 ∨ r1 = 1) ∧ Q r1 M1))
def fX8_isNode : mm_F := fun as M Q => match as with
  | [.inr (.inr c0), .inl v1] => mm_chk (Nat.beq c0 0) (mX8_isNode v1 M (fun r M => Q (some (.inl r)) M))
  | _ => False
def bX8_player_82 (v1 : Int) (v2 : Int) (v3 : Int) (M : mm_M) (Q : Int → mm_M → Prop) : Prop := ((v3 = 0 → Q (-103) M) ∧ (¬ v3 = 0 → ((v3 ≤ 12 → ((0 ≤ (M 0 9) ∧ (M 0 9) < 5) ∧ ((0 ≤ ((mm_up M 6 (Int.toNat (M 0 9)) v1) 0 9) ∧ ((mm_up M 6 (Int.toNat (M 0 9)) v1) 0 9) < 5) ∧ ((0 ≤ ((mm_up (mm_up M 6 (Int.toNat (M 0 9)) v1) 7 (Int.toNat ((mm_up M 6 (Int.toNat (M 0 9)) v1) 0 9)) v2) 0 9) ∧ ((mm_up (mm_up M 6 (Int.toNat (M 0 9)) v1) 7 (Int.toNat ((mm_up M 6 (Int.toNat (M 0 9)) v1) 0 9)) v2) 0 9) < 5) ∧ ((0 ≤ ((mm_up (mm_up (mm_up M 6 (Int.toNat (M 0 9)) v1) 7 (Int.toNat ((mm_up M 6 (Int.toNat (M 0 9)) v1) 0 9)) v2) 8 (Int.toNat ((mm_up (mm_up M 6 (Int.toNat (M 0 9)) v1) 7 (Int.toNat ((mm_up M 6 (Int.toNat (M 0 9)) v1) 0 9)) v2) 0 9)) v3) 0 9) ∧ ((mm_up (mm_up (mm_up M 6 (Int.toNat (M 0 9)) v1) 7 (Int.toNat ((mm_up M 6 (Int.toNat (M 0 9)) v1) 0 9)) v2) 8 (Int.toNat ((mm_up (mm_up M 6 (Int.toNat (M 0 9)) v1) 7 (Int.toNat ((mm_up M 6 (Int.toNat (M 0 9)) v1) 0 9)) v2) 0 9)) v3) 0 9) < 5) ∧ mX8_leastPay (mm_w (((mm_up (mm_up (mm_up (mm_up (mm_up M 6 (Int.toNat (M 0 9)) v1) 7 (Int.toNat ((mm_up M 6 (Int.toNat (M 0 9)) v1) 0 9)) v2) 8 (Int.toNat ((mm_up (mm_up M 6 (Int.toNat (M 0 9)) v1) 7 (Int.toNat ((mm_up M 6 (Int.toNat (M 0 9)) v1) 0 9)) v2) 0 9)) v3) 9 (Int.toNat ((mm_up (mm_up (mm_up M 6 (Int.toNat (M 0 9)) v1) 7 (Int.toNat ((mm_up M 6 (Int.toNat (M 0 9)) v1) 0 9)) v2) 8 (Int.toNat ((mm_up (mm_up M 6 (Int.toNat (M 0 9)) v1) 7 (Int.toNat ((mm_up M 6 (Int.toNat (M 0 9)) v1) 0 9)) v2) 0 9)) v3) 0 9)) 0) 0 9 (mm_w (((mm_up (mm_up (mm_up (mm_up M 6 (Int.toNat (M 0 9)) v1) 7 (Int.toNat ((mm_up M 6 (Int.toNat (M 0 9)) v1) 0 9)) v2) 8 (Int.toNat ((mm_up (mm_up M 6 (Int.toNat (M 0 9)) v1) 7 (Int.toNat ((mm_up M 6 (Int.toNat (M 0 9)) v1) 0 9)) v2) 0 9)) v3) 9 (Int.toNat ((mm_up (mm_up (mm_up M 6 (Int.toNat (M 0 9)) v1) 7 (Int.toNat ((mm_up M 6 (Int.toNat (M 0 9)) v1) 0 9)) v2) 8 (Int.toNat ((mm_up (mm_up M 6 (Int.toNat (M 0 9)) v1) 7 (Int.toNat ((mm_up M 6 (Int.toNat (M 0 9)) v1) 0 9)) v2) 0 9)) v3) 0 9)) 0) 0 9) + (1 : Int)))) 0 9) - (1 : Int))) (mm_up (mm_up (mm_up (mm_up (mm_up M 6 (Int.toNat (M 0 9)) v1) 7 (Int.toNat ((mm_up M 6 (Int.toNat (M 0 9)) v1) 0 9)) v2) 8 (Int.toNat ((mm_up (mm_up M 6 (Int.toNat (M 0 9)) v1) 7 (Int.toNat ((mm_up M 6 (Int.toNat (M 0 9)) v1) 0 9)) v2) 0 9)) v3) 9 (Int.toNat ((mm_up (mm_up (mm_up M 6 (Int.toNat (M 0 9)) v1) 7 (Int.toNat ((mm_up M 6 (Int.toNat (M 0 9)) v1) 0 9)) v2) 8 (Int.toNat ((mm_up (mm_up M 6 (Int.toNat (M 0 9)) v1) 7 (Int.toNat ((mm_up M 6 (Int.toNat (M 0 9)) v1) 0 9)) v2) 0 9)) v3) 0 9)) 0) 0 9 (mm_w (((mm_up (mm_up (mm_up (mm_up M 6 (Int.toNat (M 0 9)) v1) 7 (Int.toNat ((mm_up M 6 (Int.toNat (M 0 9)) v1) 0 9)) v2) 8 (Int.toNat ((mm_up (mm_up M 6 (Int.toNat (M 0 9)) v1) 7 (Int.toNat ((mm_up M 6 (Int.toNat (M 0 9)) v1) 0 9)) v2) 0 9)) v3) 9 (Int.toNat ((mm_up (mm_up (mm_up M 6 (Int.toNat (M 0 9)) v1) 7 (Int.toNat ((mm_up M 6 (Int.toNat (M 0 9)) v1) 0 9)) v2) 8 (Int.toNat ((mm_up (mm_up M 6 (Int.toNat (M 0 9)) v1) 7 (Int.toNat ((mm_up M 6 (Int.toNat (M 0 9)) v1) 0 9)) v2) 0 9)) v3) 0 9)) 0) 0 9) + (1 : Int)))) (fun r1 M1 => ((0 ≤ (mm_w (((mm_up (mm_up (mm_up (mm_up (mm_up M 6 (Int.toNat (M 0 9)) v1) 7 (Int.toNat ((mm_up M 6 (Int.toNat (M 0 9)) v1) 0 9)) v2) 8 (Int.toNat ((mm_up (mm_up M 6 (Int.toNat (M 0 9)) v1) 7 (Int.toNat ((mm_up M 6 (Int.toNat (M 0 9)) v1) 0 9)) v2) 0 9)) v3) 9 (Int.toNat ((mm_up (mm_up (mm_up M 6 (Int.toNat (M 0 9)) v1) 7 (Int.toNat ((mm_up M 6 (Int.toNat (M 0 9)) v1) 0 9)) v2) 8 (Int.toNat ((mm_up (mm_up M 6 (Int.toNat (M 0 9)) v1) 7 (Int.toNat ((mm_up M 6 (Int.toNat (M 0 9)) v1) 0 9)) v2) 0 9)) v3) 0 9)) 0) 0 9 (mm_w (((mm_up (mm_up (mm_up (mm_up M 6 (Int.toNat (M 0 9)) v1) 7 (Int.toNat ((mm_up M 6 (Int.toNat (M 0 9)) v1) 0 9)) v2) 8 (Int.toNat ((mm_up (mm_up M 6 (Int.toNat (M 0 9)) v1) 7 (Int.toNat ((mm_up M 6 (Int.toNat (M 0 9)) v1) 0 9)) v2) 0 9)) v3) 9 (Int.toNat ((mm_up (mm_up (mm_up M 6 (Int.toNat (M 0 9)) v1) 7 (Int.toNat ((mm_up M 6 (Int.toNat (M 0 9)) v1) 0 9)) v2) 8 (Int.toNat ((mm_up (mm_up M 6 (Int.toNat (M 0 9)) v1) 7 (Int.toNat ((mm_up M 6 (Int.toNat (M 0 9)) v1) 0 9)) v2) 0 9)) v3) 0 9)) 0) 0 9) + (1 : Int)))) 0 9) - (1 : Int))) ∧ (mm_w (((mm_up (mm_up (mm_up (mm_up (mm_up M 6 (Int.toNat (M 0 9)) v1) 7 (Int.toNat ((mm_up M 6 (Int.toNat (M 0 9)) v1) 0 9)) v2) 8 (Int.toNat ((mm_up (mm_up M 6 (Int.toNat (M 0 9)) v1) 7 (Int.toNat ((mm_up M 6 (Int.toNat (M 0 9)) v1) 0 9)) v2) 0 9)) v3) 9 (Int.toNat ((mm_up (mm_up (mm_up M 6 (Int.toNat (M 0 9)) v1) 7 (Int.toNat ((mm_up M 6 (Int.toNat (M 0 9)) v1) 0 9)) v2) 8 (Int.toNat ((mm_up (mm_up M 6 (Int.toNat (M 0 9)) v1) 7 (Int.toNat ((mm_up M 6 (Int.toNat (M 0 9)) v1) 0 9)) v2) 0 9)) v3) 0 9)) 0) 0 9 (mm_w (((mm_up (mm_up (mm_up (mm_up M 6 (Int.toNat (M 0 9)) v1) 7 (Int.toNat ((mm_up M 6 (Int.toNat (M 0 9)) v1) 0 9)) v2) 8 (Int.toNat ((mm_up (mm_up M 6 (Int.toNat (M 0 9)) v1) 7 (Int.toNat ((mm_up M 6 (Int.toNat (M 0 9)) v1) 0 9)) v2) 0 9)) v3) 9 (Int.toNat ((mm_up (mm_up (mm_up M 6 (Int.toNat (M 0 9)) v1) 7 (Int.toNat ((mm_up M 6 (Int.toNat (M 0 9)) v1) 0 9)) v2) 8 (Int.toNat ((mm_up (mm_up M 6 (Int.toNat (M 0 9)) v1) 7 (Int.toNat ((mm_up M 6 (Int.toNat (M 0 9)) v1) 0 9)) v2) 0 9)) v3) 0 9)) 0) 0 9) + (1 : Int)))) 0 9) - (1 : Int))) < 5) ∧ Q (mm_w (((mm_up (mm_up M1 9 (Int.toNat (mm_w (((mm_up (mm_up (mm_up (mm_up (mm_up M 6 (Int.toNat (M 0 9)) v1) 7 (Int.toNat ((mm_up M 6 (Int.toNat (M 0 9)) v1) 0 9)) v2) 8 (Int.toNat ((mm_up (mm_up M 6 (Int.toNat (M 0 9)) v1) 7 (Int.toNat ((mm_up M 6 (Int.toNat (M 0 9)) v1) 0 9)) v2) 0 9)) v3) 9 (Int.toNat ((mm_up (mm_up (mm_up M 6 (Int.toNat (M 0 9)) v1) 7 (Int.toNat ((mm_up M 6 (Int.toNat (M 0 9)) v1) 0 9)) v2) 8 (Int.toNat ((mm_up (mm_up M 6 (Int.toNat (M 0 9)) v1) 7 (Int.toNat ((mm_up M 6 (Int.toNat (M 0 9)) v1) 0 9)) v2) 0 9)) v3) 0 9)) 0) 0 9 (mm_w (((mm_up (mm_up (mm_up (mm_up M 6 (Int.toNat (M 0 9)) v1) 7 (Int.toNat ((mm_up M 6 (Int.toNat (M 0 9)) v1) 0 9)) v2) 8 (Int.toNat ((mm_up (mm_up M 6 (Int.toNat (M 0 9)) v1) 7 (Int.toNat ((mm_up M 6 (Int.toNat (M 0 9)) v1) 0 9)) v2) 0 9)) v3) 9 (Int.toNat ((mm_up (mm_up (mm_up M 6 (Int.toNat (M 0 9)) v1) 7 (Int.toNat ((mm_up M 6 (Int.toNat (M 0 9)) v1) 0 9)) v2) 8 (Int.toNat ((mm_up (mm_up M 6 (Int.toNat (M 0 9)) v1) 7 (Int.toNat ((mm_up M 6 (Int.toNat (M 0 9)) v1) 0 9)) v2) 0 9)) v3) 0 9)) 0) 0 9) + (1 : Int)))) 0 9) - (1 : Int)))) r1) 0 16 (mm_w (((mm_up M1 9 (Int.toNat (mm_w (((mm_up (mm_up (mm_up (mm_up (mm_up M 6 (Int.toNat (M 0 9)) v1) 7 (Int.toNat ((mm_up M 6 (Int.toNat (M 0 9)) v1) 0 9)) v2) 8 (Int.toNat ((mm_up (mm_up M 6 (Int.toNat (M 0 9)) v1) 7 (Int.toNat ((mm_up M 6 (Int.toNat (M 0 9)) v1) 0 9)) v2) 0 9)) v3) 9 (Int.toNat ((mm_up (mm_up (mm_up M 6 (Int.toNat (M 0 9)) v1) 7 (Int.toNat ((mm_up M 6 (Int.toNat (M 0 9)) v1) 0 9)) v2) 8 (Int.toNat ((mm_up (mm_up M 6 (Int.toNat (M 0 9)) v1) 7 (Int.toNat ((mm_up M 6 (Int.toNat (M 0 9)) v1) 0 9)) v2) 0 9)) v3) 0 9)) 0) 0 9 (mm_w (((mm_up (mm_up (mm_up (mm_up M 6 (Int.toNat (M 0 9)) v1) 7 (Int.toNat ((mm_up M 6 (Int.toNat (M 0 9)) v1) 0 9)) v2) 8 (Int.toNat ((mm_up (mm_up M 6 (Int.toNat (M 0 9)) v1) 7 (Int.toNat ((mm_up M 6 (Int.toNat (M 0 9)) v1) 0 9)) v2) 0 9)) v3) 9 (Int.toNat ((mm_up (mm_up (mm_up M 6 (Int.toNat (M 0 9)) v1) 7 (Int.toNat ((mm_up M 6 (Int.toNat (M 0 9)) v1) 0 9)) v2) 8 (Int.toNat ((mm_up (mm_up M 6 (Int.toNat (M 0 9)) v1) 7 (Int.toNat ((mm_up M 6 (Int.toNat (M 0 9)) v1) 0 9)) v2) 0 9)) v3) 0 9)) 0) 0 9) + (1 : Int)))) 0 9) - (1 : Int)))) r1) 0 16) + (1 : Int)))) 0 9) - (1 : Int))) (mm_up (mm_up M1 9 (Int.toNat (mm_w (((mm_up (mm_up (mm_up (mm_up (mm_up M 6 (Int.toNat (M 0 9)) v1) 7 (Int.toNat ((mm_up M 6 (Int.toNat (M 0 9)) v1) 0 9)) v2) 8 (Int.toNat ((mm_up (mm_up M 6 (Int.toNat (M 0 9)) v1) 7 (Int.toNat ((mm_up M 6 (Int.toNat (M 0 9)) v1) 0 9)) v2) 0 9)) v3) 9 (Int.toNat ((mm_up (mm_up (mm_up M 6 (Int.toNat (M 0 9)) v1) 7 (Int.toNat ((mm_up M 6 (Int.toNat (M 0 9)) v1) 0 9)) v2) 8 (Int.toNat ((mm_up (mm_up M 6 (Int.toNat (M 0 9)) v1) 7 (Int.toNat ((mm_up M 6 (Int.toNat (M 0 9)) v1) 0 9)) v2) 0 9)) v3) 0 9)) 0) 0 9 (mm_w (((mm_up (mm_up (mm_up (mm_up M 6 (Int.toNat (M 0 9)) v1) 7 (Int.toNat ((mm_up M 6 (Int.toNat (M 0 9)) v1) 0 9)) v2) 8 (Int.toNat ((mm_up (mm_up M 6 (Int.toNat (M 0 9)) v1) 7 (Int.toNat ((mm_up M 6 (Int.toNat (M 0 9)) v1) 0 9)) v2) 0 9)) v3) 9 (Int.toNat ((mm_up (mm_up (mm_up M 6 (Int.toNat (M 0 9)) v1) 7 (Int.toNat ((mm_up M 6 (Int.toNat (M 0 9)) v1) 0 9)) v2) 8 (Int.toNat ((mm_up (mm_up M 6 (Int.toNat (M 0 9)) v1) 7 (Int.toNat ((mm_up M 6 (Int.toNat (M 0 9)) v1) 0 9)) v2) 0 9)) v3) 0 9)) 0) 0 9) + (1 : Int)))) 0 9) - (1 : Int)))) r1) 0 16 (mm_w (((mm_up M1 9 (Int.toNat (mm_w (((mm_up (mm_up (mm_up (mm_up (mm_up M 6 (Int.toNat (M 0 9)) v1) 7 (Int.toNat ((mm_up M 6 (Int.toNat (M 0 9)) v1) 0 9)) v2) 8 (Int.toNat ((mm_up (mm_up M 6 (Int.toNat (M 0 9)) v1) 7 (Int.toNat ((mm_up M 6 (Int.toNat (M 0 9)) v1) 0 9)) v2) 0 9)) v3) 9 (Int.toNat ((mm_up (mm_up (mm_up M 6 (Int.toNat (M 0 9)) v1) 7 (Int.toNat ((mm_up M 6 (Int.toNat (M 0 9)) v1) 0 9)) v2) 8 (Int.toNat ((mm_up (mm_up M 6 (Int.toNat (M 0 9)) v1) 7 (Int.toNat ((mm_up M 6 (Int.toNat (M 0 9)) v1) 0 9)) v2) 0 9)) v3) 0 9)) 0) 0 9 (mm_w (((mm_up (mm_up (mm_up (mm_up M 6 (Int.toNat (M 0 9)) v1) 7 (Int.toNat ((mm_up M 6 (Int.toNat (M 0 9)) v1) 0 9)) v2) 8 (Int.toNat ((mm_up (mm_up M 6 (Int.toNat (M 0 9)) v1) 7 (Int.toNat ((mm_up M 6 (Int.toNat (M 0 9)) v1) 0 9)) v2) 0 9)) v3) 9 (Int.toNat ((mm_up (mm_up (mm_up M 6 (Int.toNat (M 0 9)) v1) 7 (Int.toNat ((mm_up M 6 (Int.toNat (M 0 9)) v1) 0 9)) v2) 8 (Int.toNat ((mm_up (mm_up M 6 (Int.toNat (M 0 9)) v1) 7 (Int.toNat ((mm_up M 6 (Int.toNat (M 0 9)) v1) 0 9)) v2) 0 9)) v3) 0 9)) 0) 0 9) + (1 : Int)))) 0 9) - (1 : Int)))) r1) 0 16) + (1 : Int))))))))))) ∧ ((12 : Int) < v3 → Q (-103) M))))
def bX8_player_50 : Nat → Int → Int → Int → Int → mm_M → (Int → mm_M → Prop) → Prop
  | 0, _, _, _, _, _, _ => False
  | n + 1, v1, v2, v3, v4, M, Q => (((5 : Int) < v4 → (bX8_player_82 v1 v2 v3 M Q)) ∧ (v4 ≤ 5 → (((12 : Int) < v3 → (bX8_player_82 v1 v2 v3 M Q)) ∧ (v3 ≤ 12 → mX8_layWays (M 0 9) v1 v2 v4 v3 M (fun r1 M1 => (bX8_player_50 n v1 v2 r1 (mm_w (v4 + 1)) M1 Q))))))
def mX8_player (v1 : Int) (v2 : Int) (M : mm_M) (Q : Int → mm_M → Prop) : Prop := mX8_isNet M (fun r1 M1 => ((¬ r1 = 0 → mX8_isNode v1 M1 (fun r2 M2 => ((r2 = 0 → Q (-101) M2) ∧ (¬ r2 = 0 → mX8_isNode v2 M2 (fun r3 M3 => ((r3 = 0 → Q (-101) M3) ∧ (¬ r3 = 0 → ((¬ v1 = v2 → ((¬ (M3 0 9) = 5 → (∃ j, bX8_player_50 j v1 v2 0 1 M3 Q)) ∧ ((M3 0 9) = 5 → Q (-104) M3))) ∧ (v1 = v2 → Q (-101) M3))))))))) ∧ (r1 = 0 → Q (-103) M1)))
def fX8_player : mm_F := fun as M Q => match as with
  | [.inr (.inr c0), .inl v1, .inl v2] => mm_chk (Nat.beq c0 0) (mX8_player v1 v2 M (fun r M => Q (some (.inl r)) M))
  | _ => False
def mX8_drop  (M : mm_M) (Q : Int → mm_M → Prop) : Prop := ((¬ (M 0 9) = 0 → Q ((mm_up M 0 9 (mm_w ((M 0 9) - (1 : Int)))) 0 9) (mm_up M 0 9 (mm_w ((M 0 9) - (1 : Int))))) ∧ ((M 0 9) = 0 → Q (-103) M))
def fX8_drop : mm_F := fun as M Q => match as with
  | [.inr (.inr c0)] => mm_chk (Nat.beq c0 0) (mX8_drop M (fun r M => Q (some (.inl r)) M))
  | _ => False
def mX8_isPlayer (v1 : Int) (M : mm_M) (Q : Int → mm_M → Prop) : Prop := mX8_within v1 0 (mm_w ((M 0 9) - (1 : Int))) M (fun r1 M1 => ((r1 = 0 ∨ r1 = 1) ∧ Q r1 M1))
def fX8_isPlayer : mm_F := fun as M Q => match as with
  | [.inr (.inr c0), .inl v1] => mm_chk (Nat.beq c0 0) (mX8_isPlayer v1 M (fun r M => Q (some (.inl r)) M))
  | _ => False
def mX8_isWay (v1 : Int) (v2 : Int) (M : mm_M) (Q : Int → mm_M → Prop) : Prop := mX8_isPlayer v1 M (fun r1 M1 => ((r1 = 0 → (((0 : Int) = 0 ∨ (0 : Int) = 1) ∧ Q 0 M1)) ∧ (¬ r1 = 0 → ((0 ≤ v1 ∧ v1 < 5) ∧ mX8_within v2 0 (mm_w ((M1 8 (Int.toNat v1)) - (1 : Int))) M1 (fun r2 M2 => ((r2 = 0 → (((0 : Int) = 0 ∨ (0 : Int) = 1) ∧ Q 0 M2)) ∧ (¬ r2 = 0 → (((1 : Int) = 0 ∨ (1 : Int) = 1) ∧ Q 1 M2))))))))
def fX8_isWay : mm_F := fun as M Q => match as with
  | [.inr (.inr c0), .inl v1, .inl v2] => mm_chk (Nat.beq c0 0) (mX8_isWay v1 v2 M (fun r M => Q (some (.inl r)) M))
  | _ => False
def mX8_whoNow (v1 : Int) (v2 : Int) (M : mm_M) (Q : Int → mm_M → Prop) : Prop := ((v2 < 0 ∨ (5 : Int) < v2 → mX8_bestWay v1 M (fun r1 M1 => mX8_payOf v1 r1 M1 (fun r2 M2 => Q r2 M2))) ∧ (v2 = 0 → ((0 ≤ v1 ∧ v1 < 5) ∧ Q (M 6 (Int.toNat v1)) M)) ∧ (v2 = 1 → ((0 ≤ v1 ∧ v1 < 5) ∧ Q (M 7 (Int.toNat v1)) M)) ∧ (v2 = 2 → ((0 ≤ v1 ∧ v1 < 5) ∧ Q (M 8 (Int.toNat v1)) M)) ∧ (v2 = 3 → ((0 ≤ v1 ∧ v1 < 5) ∧ Q (M 9 (Int.toNat v1)) M)) ∧ (v2 = 4 → ((0 ≤ v1 ∧ v1 < 5) ∧ mX8_payOf v1 (M 9 (Int.toNat v1)) M (fun r3 M3 => Q r3 M3))) ∧ (v2 = 5 → mX8_bestWay v1 M (fun r4 M4 => Q r4 M4)) ∧ True)
def fX8_whoNow : mm_F := fun as M Q => match as with
  | [.inr (.inr c0), .inl v1, .inl v2] => mm_chk (Nat.beq c0 0) (mX8_whoNow v1 v2 M (fun r M => Q (some (.inl r)) M))
  | _ => False
def mX8_who (v1 : Int) (v2 : Int) (M : mm_M) (Q : Int → mm_M → Prop) : Prop := mX8_isPlayer v1 M (fun r1 M1 => ((¬ r1 = 0 → mX8_within v2 0 6 M1 (fun r2 M2 => ((r2 = 0 → Q (-102) M2) ∧ (¬ r2 = 0 → mX8_whoNow v1 v2 M2 (fun r3 M3 => Q r3 M3))))) ∧ (r1 = 0 → Q (-101) M1)))
def fX8_who : mm_F := fun as M Q => match as with
  | [.inr (.inr c0), .inl v1, .inl v2] => mm_chk (Nat.beq c0 0) (mX8_who v1 v2 M (fun r M => Q (some (.inl r)) M))
  | _ => False
def bX8_way_34 (v1 : Int) (v2 : Int) (v3 : Int) (M : mm_M) (Q : Int → mm_M → Prop) : Prop := (((0 : Int) = 0 → Q (-101) M) ∧ (¬ (0 : Int) = 0 → mX8_roadOf v1 v2 v3 M (fun r1 M1 => Q r1 M1)))
def mX8_way (v1 : Int) (v2 : Int) (v3 : Int) (M : mm_M) (Q : Int → mm_M → Prop) : Prop := mX8_isWay v1 v2 M (fun r1 M1 => ((r1 = 0 → (bX8_way_34 v1 v2 v3 M1 Q)) ∧ (¬ r1 = 0 → ((0 ≤ (mm_w ((mm_w ((12 : Int) * v1)) + v2)) ∧ (mm_w ((mm_w ((12 : Int) * v1)) + v2)) < 60) ∧ mX8_within v3 0 (mm_w ((M1 10 (Int.toNat (mm_w ((mm_w ((12 : Int) * v1)) + v2)))) - (1 : Int))) M1 (fun r2 M2 => ((r2 = 0 → (bX8_way_34 v1 v2 v3 M2 Q)) ∧ (¬ r2 = 0 → (((1 : Int) = 0 → Q (-101) M2) ∧ (¬ (1 : Int) = 0 → mX8_roadOf v1 v2 v3 M2 (fun r3 M3 => Q r3 M3))))))))))
def fX8_way : mm_F := fun as M Q => match as with
  | [.inr (.inr c0), .inl v1, .inl v2, .inl v3] => mm_chk (Nat.beq c0 0) (mX8_way v1 v2 v3 M (fun r M => Q (some (.inl r)) M))
  | _ => False
def mX8_pay (v1 : Int) (v2 : Int) (M : mm_M) (Q : Int → mm_M → Prop) : Prop := mX8_isWay v1 v2 M (fun r1 M1 => ((r1 = 0 → Q (-101) M1) ∧ (¬ r1 = 0 → mX8_payOf v1 v2 M1 (fun r2 M2 => Q r2 M2))))
def fX8_pay : mm_F := fun as M Q => match as with
  | [.inr (.inr c0), .inl v1, .inl v2] => mm_chk (Nat.beq c0 0) (mX8_pay v1 v2 M (fun r M => Q (some (.inl r)) M))
  | _ => False
def mX8_set (v1 : Int) (v2 : Int) (M : mm_M) (Q : Int → mm_M → Prop) : Prop := mX8_isWay v1 v2 M (fun r1 M1 => ((¬ r1 = 0 → ((0 ≤ v1 ∧ v1 < 5) ∧ ((0 ≤ v1 ∧ v1 < 5) ∧ Q (M1 9 (Int.toNat v1)) (mm_up M1 9 (Int.toNat v1) v2)))) ∧ (r1 = 0 → Q (-101) M1)))
def fX8_set : mm_F := fun as M Q => match as with
  | [.inr (.inr c0), .inl v1, .inl v2] => mm_chk (Nat.beq c0 0) (mX8_set v1 v2 M (fun r M => Q (some (.inl r)) M))
  | _ => False
def mX8_turnOf (v1 : Int) (M : mm_M) (Q : Int → mm_M → Prop) : Prop := mX8_restless v1 M (fun r1 M1 => ((r1 = (-1) → Q r1 M1) ∧ (¬ r1 = (-1) → mX8_bestWay r1 M1 (fun r2 M2 => ((0 ≤ r1 ∧ r1 < 5) ∧ Q r1 (mm_up M2 9 (Int.toNat r1) r2))))))
def fX8_turnOf : mm_F := fun as M Q => match as with
  | [.inr (.inr c0), .inl v1] => mm_chk (Nat.beq c0 0) (mX8_turnOf v1 M (fun r M => Q (some (.inl r)) M))
  | _ => False
def mX8_turn  (M : mm_M) (Q : Int → mm_M → Prop) : Prop := mX8_isNet M (fun r1 M1 => ((¬ r1 = 0 → mX8_turnOf (-1) M1 (fun r2 M2 => ((¬ r2 = (-1) → Q r2 (mm_up M2 0 17 (mm_w ((M2 0 17) + (1 : Int))))) ∧ (r2 = (-1) → Q r2 (mm_up M2 0 17 (mm_w ((M2 0 17) + (0 : Int)))))))) ∧ (r1 = 0 → Q (-103) M1)))
def fX8_turn : mm_F := fun as M Q => match as with
  | [.inr (.inr c0)] => mm_chk (Nat.beq c0 0) (mX8_turn M (fun r M => Q (some (.inl r)) M))
  | _ => False
def bX8_run_25 : Nat → Int → Int → mm_M → (Int → mm_M → Prop) → Prop
  | 0, _, _, _, _ => False
  | n + 1, v1, v2, M, Q => ((v1 ≤ v2 → Q v2 (mm_up M 0 17 (mm_w ((M 0 17) + v2)))) ∧ (v2 < v1 → mX8_turnOf (-1) M (fun r1 M1 => ((r1 = (-1) → Q v2 (mm_up M1 0 17 (mm_w ((M1 0 17) + v2)))) ∧ (¬ r1 = (-1) → (bX8_run_25 n v1 (mm_w (v2 + 1)) M1 Q))))))
def mX8_run (v1 : Int) (M : mm_M) (Q : Int → mm_M → Prop) : Prop := mX8_within v1 1 60 M (fun r1 M1 => ((¬ r1 = 0 → mX8_isNet M1 (fun r2 M2 => ((¬ r2 = 0 → (∃ j, bX8_run_25 j v1 0 M2 Q)) ∧ (r2 = 0 → Q (-103) M2)))) ∧ (r1 = 0 → Q (-102) M1)))
def fX8_run : mm_F := fun as M Q => match as with
  | [.inr (.inr c0), .inl v1] => mm_chk (Nat.beq c0 0) (mX8_run v1 M (fun r M => Q (some (.inl r)) M))
  | _ => False
def bX8_keep_2 : Nat → Int → mm_M → (mm_M → Prop) → Prop
  | 0, _, _, _ => False
  | n + 1, v1, M, Q => (((M 0 9) ≤ v1 → Q M) ∧ (v1 < (M 0 9) → ((0 ≤ v1 ∧ v1 < 5) ∧ ((0 ≤ v1 ∧ v1 < 5) ∧ (bX8_keep_2 n (mm_w (v1 + 1)) (mm_up M 21 (Int.toNat v1) (M 9 (Int.toNat v1))) Q)))))
def mX8_keep  (M : mm_M) (Q : mm_M → Prop) : Prop := (∃ j, bX8_keep_2 j 0 M Q)
def fX8_keep : mm_F := fun as M Q => match as with
  | [.inr (.inr c0)] => mm_chk (Nat.beq c0 0) (mX8_keep M (fun M => Q none M))
  | _ => False
def bX8_putBack_2 : Nat → Int → mm_M → (mm_M → Prop) → Prop
  | 0, _, _, _ => False
  | n + 1, v1, M, Q => (((M 0 9) ≤ v1 → Q M) ∧ (v1 < (M 0 9) → ((0 ≤ v1 ∧ v1 < 5) ∧ ((0 ≤ v1 ∧ v1 < 5) ∧ (bX8_putBack_2 n (mm_w (v1 + 1)) (mm_up M 9 (Int.toNat v1) (M 21 (Int.toNat v1))) Q)))))
def mX8_putBack  (M : mm_M) (Q : mm_M → Prop) : Prop := (∃ j, bX8_putBack_2 j 0 M Q)
def fX8_putBack : mm_F := fun as M Q => match as with
  | [.inr (.inr c0)] => mm_chk (Nat.beq c0 0) (mX8_putBack M (fun M => Q none M))
  | _ => False
def bX8_take_9 : Nat → Int → Int → Int → mm_M → (mm_M → Prop) → Prop
  | 0, _, _, _, _, _ => False
  | n + 1, v1, v2, v3, M, Q => ((v3 < 0 → Q M) ∧ ((0 : Int) ≤ v3 → ((0 ≤ v3 ∧ v3 < 5) ∧ (¬ (M 8 (Int.toNat v3)) = 0 ∧ ((0 ≤ v3 ∧ v3 < 5) ∧ ((0 ≤ v3 ∧ v3 < 5) ∧ (¬ ((mm_up M 9 (Int.toNat v3) (mm_rem v2 (M 8 (Int.toNat v3)))) 8 (Int.toNat v3)) = 0 ∧ (bX8_take_9 n v1 (mm_div v2 ((mm_up M 9 (Int.toNat v3) (mm_rem v2 (M 8 (Int.toNat v3)))) 8 (Int.toNat v3))) (mm_w (v3 + (-1))) (mm_up M 9 (Int.toNat v3) (mm_rem v2 (M 8 (Int.toNat v3)))) Q))))))))
def mX8_take (v1 : Int) (M : mm_M) (Q : mm_M → Prop) : Prop := (∃ j, bX8_take_9 j v1 v1 (mm_w ((M 0 9) - (1 : Int))) M Q)
def fX8_take : mm_F := fun as M Q => match as with
  | [.inr (.inr c0), .inl v1] => mm_chk (Nat.beq c0 0) (mX8_take v1 M (fun M => Q none M))
  | _ => False
def bX8_numberNow_4 : Nat → Int → Int → mm_M → (Int → mm_M → Prop) → Prop
  | 0, _, _, _, _ => False
  | n + 1, v1, v2, M, Q => (((M 0 9) ≤ v2 → Q v1 M) ∧ (v2 < (M 0 9) → ((0 ≤ v2 ∧ v2 < 5) ∧ ((0 ≤ v2 ∧ v2 < 5) ∧ (bX8_numberNow_4 n (mm_w ((mm_w (v1 * (M 8 (Int.toNat v2)))) + (M 9 (Int.toNat v2)))) (mm_w (v2 + 1)) M Q)))))
def mX8_numberNow  (M : mm_M) (Q : Int → mm_M → Prop) : Prop := (∃ j, bX8_numberNow_4 j 0 0 M Q)
def fX8_numberNow : mm_F := fun as M Q => match as with
  | [.inr (.inr c0)] => mm_chk (Nat.beq c0 0) (mX8_numberNow M (fun r M => Q (some (.inl r)) M))
  | _ => False
def mX8_isCounted  (M : mm_M) (Q : Int → mm_M → Prop) : Prop := (((M 0 9) ≤ 0 → (((0 : Int) = 0 ∨ (0 : Int) = 1) ∧ Q 0 M)) ∧ ((0 : Int) < (M 0 9) → mX8_setsAll M (fun r1 M1 => (((500 : Int) < r1 → (((0 : Int) = 0 ∨ (0 : Int) = 1) ∧ Q 0 M1)) ∧ (r1 ≤ 500 → (((1 : Int) = 0 ∨ (1 : Int) = 1) ∧ Q 1 M1))))))
def fX8_isCounted : mm_F := fun as M Q => match as with
  | [.inr (.inr c0)] => mm_chk (Nat.beq c0 0) (mX8_isCounted M (fun r M => Q (some (.inl r)) M))
  | _ => False
def mX8_beginRests  (M : mm_M) (Q : mm_M → Prop) : Prop := Q (mm_up (mm_up (mm_up (mm_up (mm_up (mm_up (mm_up M 0 35 0) 0 36 0) 0 37 0) 0 40 0) 0 38 0) 0 39 0) 0 41 (-1))
def fX8_beginRests : mm_F := fun as M Q => match as with
  | [.inr (.inr c0)] => mm_chk (Nat.beq c0 0) (mX8_beginRests M (fun M => Q none M))
  | _ => False
def bX8_layRests_182 (K15 : Int → Int → mm_M → Prop) (v1 : Int) (v2 : Int) (v3 : Int) (v4 : Int) (w0 : Int) (M : mm_M) (Q : mm_M → Prop) : Prop := ((((mm_up M 0 36 w0) 0 35) = 0 → (K15 v1 (mm_w (v2 + 1)) (mm_up (mm_up (mm_up M 0 36 w0) 0 37 v3) 0 35 (mm_w (((mm_up (mm_up M 0 36 w0) 0 37 v3) 0 35) + (1 : Int)))))) ∧ (¬ ((mm_up M 0 36 w0) 0 35) = 0 → ((v3 ≤ ((mm_up M 0 36 w0) 0 37) → (K15 v1 (mm_w (v2 + 1)) (mm_up (mm_up (mm_up M 0 36 w0) 0 37 ((mm_up M 0 36 w0) 0 37)) 0 35 (mm_w (((mm_up (mm_up M 0 36 w0) 0 37 ((mm_up M 0 36 w0) 0 37)) 0 35) + (1 : Int)))))) ∧ (((mm_up M 0 36 w0) 0 37) < v3 → (K15 v1 (mm_w (v2 + 1)) (mm_up (mm_up (mm_up M 0 36 w0) 0 37 v3) 0 35 (mm_w (((mm_up (mm_up M 0 36 w0) 0 37 v3) 0 35) + (1 : Int)))))))))
def bX8_layRests_146 (K15 : Int → Int → mm_M → Prop) (v1 : Int) (v2 : Int) (v3 : Int) (v4 : Int) (w0 : Int) (M : mm_M) (Q : mm_M → Prop) : Prop := mX8_restless (-1) (mm_up M 0 39 w0) (fun r1 M1 => ((¬ r1 = (-1) → (K15 v1 (mm_w (v2 + 1)) M1)) ∧ (r1 = (-1) → (((M1 0 35) = 0 → (bX8_layRests_182 K15 v1 v2 v3 v4 v3 M1 Q)) ∧ (¬ (M1 0 35) = 0 → (((M1 0 36) ≤ v3 → (bX8_layRests_182 K15 v1 v2 v3 v4 (M1 0 36) M1 Q)) ∧ (v3 < (M1 0 36) → (bX8_layRests_182 K15 v1 v2 v3 v4 v3 M1 Q))))))))
def bX8_layRests_120 (K15 : Int → Int → mm_M → Prop) (v1 : Int) (v2 : Int) (v3 : Int) (v4 : Int) (w0 : Int) (M : mm_M) (Q : mm_M → Prop) : Prop := ((v2 = 0 → (bX8_layRests_146 K15 v1 v2 v3 v4 v4 (mm_up M 0 38 w0) Q)) ∧ (¬ v2 = 0 → ((((mm_up M 0 38 w0) 0 39) ≤ v4 → (bX8_layRests_146 K15 v1 v2 v3 v4 ((mm_up M 0 38 w0) 0 39) (mm_up M 0 38 w0) Q)) ∧ (v4 < ((mm_up M 0 38 w0) 0 39) → (bX8_layRests_146 K15 v1 v2 v3 v4 v4 (mm_up M 0 38 w0) Q)))))
def bX8_layRests_69 (K15 : Int → Int → mm_M → Prop) (v1 : Int) (v2 : Int) (v3 : Int) (v4 : Int) (v5 : Int) (w0 : Int) (M : mm_M) (Q : mm_M → Prop) : Prop := ((v5 = 0 → ((¬ v3 = ((mm_up M 0 41 w0) 0 38) → ((v5 = 0 → (bX8_layRests_120 K15 v1 v2 v3 v4 ((mm_up (mm_up M 0 41 w0) 0 40 ((mm_up M 0 41 w0) 0 40)) 0 38) (mm_up (mm_up M 0 41 w0) 0 40 ((mm_up M 0 41 w0) 0 40)) Q)) ∧ (¬ v5 = 0 → (bX8_layRests_120 K15 v1 v2 v3 v4 v3 (mm_up (mm_up M 0 41 w0) 0 40 ((mm_up M 0 41 w0) 0 40)) Q)))) ∧ (v3 = ((mm_up M 0 41 w0) 0 38) → ((v5 = 0 → (bX8_layRests_120 K15 v1 v2 v3 v4 ((mm_up (mm_up M 0 41 w0) 0 40 (mm_w (((mm_up M 0 41 w0) 0 40) + (1 : Int)))) 0 38) (mm_up (mm_up M 0 41 w0) 0 40 (mm_w (((mm_up M 0 41 w0) 0 40) + (1 : Int)))) Q)) ∧ (¬ v5 = 0 → (bX8_layRests_120 K15 v1 v2 v3 v4 v3 (mm_up (mm_up M 0 41 w0) 0 40 (mm_w (((mm_up M 0 41 w0) 0 40) + (1 : Int)))) Q)))))) ∧ (¬ v5 = 0 → ((v5 = 0 → (bX8_layRests_120 K15 v1 v2 v3 v4 ((mm_up (mm_up M 0 41 w0) 0 40 1) 0 38) (mm_up (mm_up M 0 41 w0) 0 40 1) Q)) ∧ (¬ v5 = 0 → (bX8_layRests_120 K15 v1 v2 v3 v4 v3 (mm_up (mm_up M 0 41 w0) 0 40 1) Q)))))
def bX8_layRests_15 : Nat → Int → Int → mm_M → (mm_M → Prop) → Prop
  | 0, _, _, _, _ => False
  | n + 1, v1, v2, M, Q => ((v1 ≤ v2 → mX8_putBack M (fun M1 => Q M1)) ∧ (v2 < v1 → mX8_take v2 M (fun M2 => mX8_socialNow M2 (fun r3 M3 => mX8_potentialNow M3 (fun r4 M4 => ((v2 = 0 → (((1 : Int) = 0 → (bX8_layRests_69 (fun v1 v2 M => bX8_layRests_15 n v1 v2 M Q) v1 v2 r3 r4 1 (M4 0 41) M4 Q)) ∧ (¬ (1 : Int) = 0 → (bX8_layRests_69 (fun v1 v2 M => bX8_layRests_15 n v1 v2 M Q) v1 v2 r3 r4 1 v2 M4 Q)))) ∧ (¬ v2 = 0 → (((M4 0 38) ≤ r3 → (((0 : Int) = 0 → (bX8_layRests_69 (fun v1 v2 M => bX8_layRests_15 n v1 v2 M Q) v1 v2 r3 r4 0 (M4 0 41) M4 Q)) ∧ (¬ (0 : Int) = 0 → (bX8_layRests_69 (fun v1 v2 M => bX8_layRests_15 n v1 v2 M Q) v1 v2 r3 r4 0 v2 M4 Q)))) ∧ (r3 < (M4 0 38) → (((1 : Int) = 0 → (bX8_layRests_69 (fun v1 v2 M => bX8_layRests_15 n v1 v2 M Q) v1 v2 r3 r4 1 (M4 0 41) M4 Q)) ∧ (¬ (1 : Int) = 0 → (bX8_layRests_69 (fun v1 v2 M => bX8_layRests_15 n v1 v2 M Q) v1 v2 r3 r4 1 v2 M4 Q))))))))))))
def mX8_layRests  (M : mm_M) (Q : mm_M → Prop) : Prop := mX8_keep M (fun M1 => mX8_beginRests M1 (fun M2 => mX8_setsAll M2 (fun r3 M3 => (∃ j, bX8_layRests_15 j r3 0 M3 Q))))
def fX8_layRests : mm_F := fun as M Q => match as with
  | [.inr (.inr c0)] => mm_chk (Nat.beq c0 0) (mX8_layRests M (fun M => Q none M))
  | _ => False
def mX8_restsNow (v1 : Int) (M : mm_M) (Q : Int → mm_M → Prop) : Prop := mX8_layRests M (fun M1 => ((v1 < 0 ∨ (4 : Int) < v1 → Q (M1 0 40) M1) ∧ (v1 = 0 → Q (M1 0 35) M1) ∧ (v1 = 1 → Q (M1 0 36) M1) ∧ (v1 = 2 → Q (M1 0 37) M1) ∧ (v1 = 3 → Q (M1 0 38) M1) ∧ (v1 = 4 → Q (M1 0 39) M1) ∧ True))
def fX8_restsNow : mm_F := fun as M Q => match as with
  | [.inr (.inr c0), .inl v1] => mm_chk (Nat.beq c0 0) (mX8_restsNow v1 M (fun r M => Q (some (.inl r)) M))
  | _ => False
def mX8_rests (v1 : Int) (M : mm_M) (Q : Int → mm_M → Prop) : Prop := mX8_within v1 0 5 M (fun r1 M1 => ((¬ r1 = 0 → mX8_isCounted M1 (fun r2 M2 => ((r2 = 0 → Q (-103) M2) ∧ (¬ r2 = 0 → mX8_restsNow v1 M2 (fun r3 M3 => Q r3 M3))))) ∧ (r1 = 0 → Q (-102) M1)))
def fX8_rests : mm_F := fun as M Q => match as with
  | [.inr (.inr c0), .inl v1] => mm_chk (Nat.beq c0 0) (mX8_rests v1 M (fun r M => Q (some (.inl r)) M))
  | _ => False
def bX8_restAt_17 : Nat → Int → Int → Int → Int → Int → mm_M → (Int → mm_M → Prop) → Prop
  | 0, _, _, _, _, _, _, _ => False
  | n + 1, v1, v2, v3, v4, v5, M, Q => ((v4 ≤ v5 → mX8_putBack M (fun M1 => Q v3 M1)) ∧ (v5 < v4 → ((¬ v3 = (-1) → mX8_putBack M (fun M2 => Q v3 M2)) ∧ (v3 = (-1) → ((v1 < 0 → mX8_putBack M (fun M3 => Q v3 M3)) ∧ ((0 : Int) ≤ v1 → mX8_take v5 M (fun M4 => mX8_restless (-1) M4 (fun r5 M5 => ((¬ r5 = (-1) → (bX8_restAt_17 n v1 v2 v3 v4 (mm_w (v5 + 1)) M5 Q)) ∧ (r5 = (-1) → ((¬ v2 = 0 → (bX8_restAt_17 n v1 (mm_w (v2 + (-1))) (-1) v4 (mm_w (v5 + 1)) M5 Q)) ∧ (v2 = 0 → (bX8_restAt_17 n v1 (mm_w (v2 + (-1))) v5 v4 (mm_w (v5 + 1)) M5 Q)))))))))))))
def mX8_restAt (v1 : Int) (M : mm_M) (Q : Int → mm_M → Prop) : Prop := mX8_keep M (fun M1 => mX8_setsAll M1 (fun r2 M2 => (∃ j, bX8_restAt_17 j v1 v1 (-1) r2 0 M2 Q)))
def fX8_restAt : mm_F := fun as M Q => match as with
  | [.inr (.inr c0), .inl v1] => mm_chk (Nat.beq c0 0) (mX8_restAt v1 M (fun r M => Q (some (.inl r)) M))
  | _ => False
def bX8_rest_40 : Nat → Int → Int → Int → mm_M → (Int → mm_M → Prop) → Prop
  | 0, _, _, _, _, _ => False
  | n + 1, v2, v3, v4, M, Q => ((v4 ≤ v2 → ((0 ≤ v2 ∧ v2 < 5) ∧ (¬ (M 8 (Int.toNat v2)) = 0 ∧ Q (mm_rem v3 (M 8 (Int.toNat v2))) M))) ∧ (v2 < v4 → ((0 ≤ v4 ∧ v4 < 5) ∧ (¬ (M 8 (Int.toNat v4)) = 0 ∧ (bX8_rest_40 n v2 (mm_div v3 (M 8 (Int.toNat v4))) (mm_w (v4 + (-1))) M Q)))))
def mX8_rest (v1 : Int) (v2 : Int) (M : mm_M) (Q : Int → mm_M → Prop) : Prop := mX8_isCounted M (fun r1 M1 => ((¬ r1 = 0 → mX8_restAt v1 M1 (fun r2 M2 => ((r2 = (-1) → Q (-101) M2) ∧ (¬ r2 = (-1) → mX8_isPlayer v2 M2 (fun r3 M3 => ((¬ r3 = 0 → (∃ j, bX8_rest_40 j v2 r2 (mm_w ((M3 0 9) - (1 : Int))) M3 Q)) ∧ (r3 = 0 → Q (-101) M3))))))) ∧ (r1 = 0 → Q (-103) M1)))
def fX8_rest : mm_F := fun as M Q => match as with
  | [.inr (.inr c0), .inl v1, .inl v2] => mm_chk (Nat.beq c0 0) (mX8_rest v1 v2 M (fun r M => Q (some (.inl r)) M))
  | _ => False
def mX8_go (v1 : Int) (M : mm_M) (Q : Int → mm_M → Prop) : Prop := mX8_isCounted M (fun r1 M1 => ((¬ r1 = 0 → mX8_restAt v1 M1 (fun r2 M2 => ((¬ r2 = (-1) → mX8_take r2 M2 (fun M3 => mX8_socialNow M3 (fun r4 M4 => Q r4 M4))) ∧ (r2 = (-1) → Q (-101) M2)))) ∧ (r1 = 0 → Q (-103) M1)))
def fX8_go : mm_F := fun as M Q => match as with
  | [.inr (.inr c0), .inl v1] => mm_chk (Nat.beq c0 0) (mX8_go v1 M (fun r M => Q (some (.inl r)) M))
  | _ => False
def mX8_best  (M : mm_M) (Q : Int → mm_M → Prop) : Prop := mX8_isCounted M (fun r1 M1 => ((¬ r1 = 0 → mX8_layRests M1 (fun M2 => mX8_take (M2 0 41) M2 (fun M3 => Q (M3 0 38) M3))) ∧ (r1 = 0 → Q (-103) M1)))
def fX8_best : mm_F := fun as M Q => match as with
  | [.inr (.inr c0)] => mm_chk (Nat.beq c0 0) (mX8_best M (fun r M => Q (some (.inl r)) M))
  | _ => False
def bX8_common_6 : Nat → Int → Int → mm_M → (Int → mm_M → Prop) → Prop
  | 0, _, _, _, _ => False
  | n + 1, v4, v6, M, Q => (((mm_cmp v6 0) = 0 → Q v4 M) ∧ (¬ (mm_cmp v6 0) = 0 → (¬ v6 = 0 ∧ (bX8_common_6 n v6 (mm_reml v4 v6) M Q))))
def mX8_common (v0 : Int) (v2 : Int) (M : mm_M) (Q : Int → mm_M → Prop) : Prop := (∃ j, bX8_common_6 j v0 v2 M Q)
def fX8_common : mm_F := fun as M Q => match as with
  | [.inr (.inl v0), .inr (.inl v2)] => mX8_common v0 v2 M (fun r M => Q (some (.inr (.inl r))) M)
  | _ => False
def bX8_part_14 (v0 : Int) (v2 : Int) (v4 : Int) (M : mm_M) (Q : Int → mm_M → Prop) : Prop := mX8_common v0 v2 M (fun r1 M1 => ((¬ v4 = 0 → (¬ r1 = 0 ∧ Q (mm_w (mm_divl v2 r1)) M1)) ∧ (v4 = 0 → (¬ r1 = 0 ∧ Q (mm_w (mm_divl v0 r1)) M1))))
def mX8_part (v0 : Int) (v2 : Int) (v4 : Int) (M : mm_M) (Q : Int → mm_M → Prop) : Prop := ((¬ (mm_cmp v0 0) = 0 → (bX8_part_14 v0 v2 v4 M Q)) ∧ ((mm_cmp v0 0) = 0 → ((¬ (mm_cmp v2 0) = 0 → (bX8_part_14 v0 v2 v4 M Q)) ∧ ((mm_cmp v2 0) = 0 → Q 1 M))))
def fX8_part : mm_F := fun as M Q => match as with
  | [.inr (.inl v0), .inr (.inl v2), .inl v4] => mX8_part v0 v2 v4 M (fun r M => Q (some (.inl r)) M)
  | _ => False
def mX8_priceNow (v1 : Int) (M : mm_M) (Q : Int → mm_M → Prop) : Prop := mX8_layRests M (fun M1 => (((2 : Int) ≤ v1 → (¬ (2 : Int) = 0 ∧ mX8_part (M1 0 36) (M1 0 38) (mm_rem v1 (2 : Int)) M1 (fun r2 M2 => Q r2 M2))) ∧ (v1 < 2 → (¬ (2 : Int) = 0 ∧ mX8_part (M1 0 37) (M1 0 38) (mm_rem v1 (2 : Int)) M1 (fun r3 M3 => Q r3 M3)))))
def fX8_priceNow : mm_F := fun as M Q => match as with
  | [.inr (.inr c0), .inl v1] => mm_chk (Nat.beq c0 0) (mX8_priceNow v1 M (fun r M => Q (some (.inl r)) M))
  | _ => False
def mX8_price (v1 : Int) (M : mm_M) (Q : Int → mm_M → Prop) : Prop := mX8_within v1 0 3 M (fun r1 M1 => ((¬ r1 = 0 → mX8_isCounted M1 (fun r2 M2 => ((r2 = 0 → Q (-103) M2) ∧ (¬ r2 = 0 → mX8_priceNow v1 M2 (fun r3 M3 => Q r3 M3))))) ∧ (r1 = 0 → Q (-102) M1)))
def fX8_price : mm_F := fun as M Q => match as with
  | [.inr (.inr c0), .inl v1] => mm_chk (Nat.beq c0 0) (mX8_price v1 M (fun r M => Q (some (.inl r)) M))
  | _ => False
def bX8_layChains_29 : Nat → Int → Int → mm_M → (mm_M → Prop) → Prop
  | 0, _, _, _, _ => False
  | n + 1, v1, v2, M, Q => ((v1 ≤ v2 → Q M) ∧ (v2 < v1 → mX8_take v2 M (fun M1 => mX8_potentialNow M1 (fun r2 M2 => ((0 ≤ r2 ∧ r2 < 4351) ∧ ((0 ≤ v2 ∧ v2 < 500) ∧ ((0 ≤ r2 ∧ r2 < 4351) ∧ ((0 ≤ v2 ∧ v2 < 500) ∧ (bX8_layChains_29 n v1 (mm_w (v2 + 1)) (mm_up (mm_up (mm_up M2 23 (Int.toNat v2) (M2 22 (Int.toNat r2))) 22 (Int.toNat r2) v2) 24 (Int.toNat v2) (-1)) Q)))))))))
def bX8_layChains_2 : Nat → Int → mm_M → (mm_M → Prop) → Prop
  | 0, _, _, _ => False
  | n + 1, v1, M, Q => (((4351 : Int) ≤ v1 → mX8_setsAll M (fun r1 M1 => (∃ j, bX8_layChains_29 j r1 0 M1 Q))) ∧ (v1 < 4351 → ((0 ≤ v1 ∧ v1 < 4351) ∧ (bX8_layChains_2 n (mm_w (v1 + 1)) (mm_up M 22 (Int.toNat v1) (-1)) Q))))
def mX8_layChains  (M : mm_M) (Q : mm_M → Prop) : Prop := (∃ j, bX8_layChains_2 j 0 M Q)
def fX8_layChains : mm_F := fun as M Q => match as with
  | [.inr (.inr c0)] => mm_chk (Nat.beq c0 0) (mX8_layChains M (fun M => Q none M))
  | _ => False
def bX8_spread_38 (K18 : Int → Int → Int → mm_M → Prop) : Nat → Int → Int → Int → Int → Int → mm_M → (mm_M → Prop) → Prop
  | 0, _, _, _, _, _, _, _ => False
  | n + 1, v1, v2, v3, v4, v5, M, Q => ((0 ≤ v3 ∧ v3 < 5) ∧ (((M 8 (Int.toNat v3)) ≤ v5 → ((0 ≤ v3 ∧ v3 < 5) ∧ (K18 v1 (mm_w (v2 * (M 8 (Int.toNat v3)))) (mm_w (v3 + (-1))) M))) ∧ (v5 < (M 8 (Int.toNat v3)) → ((0 ≤ v3 ∧ v3 < 5) ∧ mX8_payNow v3 v5 M (fun r1 M1 => ((v4 ≤ r1 → (bX8_spread_38 K18 n v1 v2 v3 v4 (mm_w (v5 + 1)) M1 Q)) ∧ (r1 < v4 → ((0 ≤ v1 ∧ v1 < 500) ∧ ((0 ≤ (mm_w (v1 + (mm_w ((mm_w (v5 - (M 9 (Int.toNat v3)))) * v2)))) ∧ (mm_w (v1 + (mm_w ((mm_w (v5 - (M 9 (Int.toNat v3)))) * v2)))) < 500) ∧ (((M1 24 (Int.toNat v1)) < (M1 24 (Int.toNat (mm_w (v1 + (mm_w ((mm_w (v5 - (M 9 (Int.toNat v3)))) * v2)))))) → (bX8_spread_38 K18 n v1 v2 v3 v4 (mm_w (v5 + 1)) M1 Q)) ∧ ((M1 24 (Int.toNat (mm_w (v1 + (mm_w ((mm_w (v5 - (M 9 (Int.toNat v3)))) * v2)))))) ≤ (M1 24 (Int.toNat v1)) → ((0 ≤ v1 ∧ v1 < 500) ∧ ((0 ≤ (mm_w (v1 + (mm_w ((mm_w (v5 - (M 9 (Int.toNat v3)))) * v2)))) ∧ (mm_w (v1 + (mm_w ((mm_w (v5 - (M 9 (Int.toNat v3)))) * v2)))) < 500) ∧ (bX8_spread_38 K18 n v1 v2 v3 v4 (mm_w (v5 + 1)) (mm_up M1 24 (Int.toNat (mm_w (v1 + (mm_w ((mm_w (v5 - (M 9 (Int.toNat v3)))) * v2))))) (mm_w ((M1 24 (Int.toNat v1)) + (1 : Int)))) Q))))))))))))))
def bX8_spread_18 : Nat → Int → Int → Int → mm_M → (mm_M → Prop) → Prop
  | 0, _, _, _, _, _ => False
  | n + 1, v1, v2, v3, M, Q => ((v3 < 0 → Q M) ∧ ((0 : Int) ≤ v3 → ((0 ≤ v3 ∧ v3 < 5) ∧ mX8_payNow v3 (M 9 (Int.toNat v3)) M (fun r1 M1 => (∃ j, bX8_spread_38 (fun v1 v2 v3 M => bX8_spread_18 n v1 v2 v3 M Q) j v1 v2 v3 r1 0 M1 Q)))))
def mX8_spread (v1 : Int) (M : mm_M) (Q : mm_M → Prop) : Prop := mX8_take v1 M (fun M1 => mX8_layLoad M1 (fun M2 => (∃ j, bX8_spread_18 j v1 1 (mm_w ((M2 0 9) - (1 : Int))) M2 Q)))
def fX8_spread : mm_F := fun as M Q => match as with
  | [.inr (.inr c0), .inl v1] => mm_chk (Nat.beq c0 0) (mX8_spread v1 M (fun M => Q none M))
  | _ => False
def bX8_reachNow_89 (K33 : Int → Int → Int → Int → Int → Int → mm_M → Prop) (K47 : Int → Int → Int → Int → Int → Int → Int → mm_M → Prop) (v1 : Int) (v2 : Int) (v3 : Int) (v4 : Int) (v5 : Int) (v6 : Int) (v7 : Int) (w0 : Int) (w1 : Int) (M : mm_M) (Q : Int → mm_M → Prop) : Prop := ((0 ≤ v7 ∧ v7 < 500) ∧ (((M 24 (Int.toNat v7)) ≤ v5 → ((0 ≤ v7 ∧ v7 < 500) ∧ (K47 v1 v2 v3 (mm_w (w1 + w0)) v5 v6 (M 23 (Int.toNat v7)) M))) ∧ (v5 < (M 24 (Int.toNat v7)) → ((0 ≤ v7 ∧ v7 < 500) ∧ ((0 ≤ v7 ∧ v7 < 500) ∧ (K47 v1 v2 v3 (mm_w (w1 + w0)) (M 24 (Int.toNat v7)) v6 (M 23 (Int.toNat v7)) M))))))
def bX8_reachNow_47 (K33 : Int → Int → Int → Int → Int → Int → mm_M → Prop) : Nat → Int → Int → Int → Int → Int → Int → Int → mm_M → (Int → mm_M → Prop) → Prop
  | 0, _, _, _, _, _, _, _, _, _ => False
  | n + 1, v1, v2, v3, v4, v5, v6, v7, M, Q => ((v7 = (-1) → (K33 v1 v2 v3 v4 v5 (mm_w (v6 + (-1))) M)) ∧ (¬ v7 = (-1) → ((0 ≤ v7 ∧ v7 < 500) ∧ (((M 24 (Int.toNat v7)) = (-1) → ((0 ≤ v7 ∧ v7 < 500) ∧ (bX8_reachNow_47 K33 n v1 v2 v3 v4 v5 v6 (M 23 (Int.toNat v7)) M Q))) ∧ (¬ (M 24 (Int.toNat v7)) = (-1) → mX8_spread v7 M (fun M1 => mX8_restless (-1) M1 (fun r2 M2 => ((¬ r2 = (-1) → (bX8_reachNow_89 K33 (fun v1 v2 v3 v4 v5 v6 v7 M => bX8_reachNow_47 K33 n v1 v2 v3 v4 v5 v6 v7 M Q) v1 v2 (mm_w (v3 + 1)) v4 v5 v6 v7 0 v4 M2 Q)) ∧ (r2 = (-1) → (bX8_reachNow_89 K33 (fun v1 v2 v3 v4 v5 v6 v7 M => bX8_reachNow_47 K33 n v1 v2 v3 v4 v5 v6 v7 M Q) v1 v2 (mm_w (v3 + 1)) v4 v5 v6 v7 1 v4 M2 Q))))))))))
def bX8_reachNow_33 : Nat → Int → Int → Int → Int → Int → Int → mm_M → (Int → mm_M → Prop) → Prop
  | 0, _, _, _, _, _, _, _, _ => False
  | n + 1, v1, v2, v3, v4, v5, v6, M, Q => ((v6 < 0 → mX8_putBack M (fun M1 => ((¬ v1 = 0 → ((¬ v1 = 1 → Q v5 M1) ∧ (v1 = 1 → Q v4 M1))) ∧ (v1 = 0 → Q v3 M1)))) ∧ ((0 : Int) ≤ v6 → ((0 ≤ v6 ∧ v6 < 4351) ∧ (∃ j, bX8_reachNow_47 (fun v1 v2 v3 v4 v5 v6 M => bX8_reachNow_33 n v1 v2 v3 v4 v5 v6 M Q) j v1 v2 v3 v4 v5 v6 (M 22 (Int.toNat v6)) M Q))))
def mX8_reachNow (v1 : Int) (M : mm_M) (Q : Int → mm_M → Prop) : Prop := mX8_keep M (fun M1 => mX8_numberNow M1 (fun r2 M2 => mX8_layChains M2 (fun M3 => ((0 ≤ r2 ∧ r2 < 500) ∧ (∃ j, bX8_reachNow_33 j v1 r2 0 0 0 4350 (mm_up M3 24 (Int.toNat r2) 0) Q)))))
def fX8_reachNow : mm_F := fun as M Q => match as with
  | [.inr (.inr c0), .inl v1] => mm_chk (Nat.beq c0 0) (mX8_reachNow v1 M (fun r M => Q (some (.inl r)) M))
  | _ => False
def mX8_reach (v1 : Int) (M : mm_M) (Q : Int → mm_M → Prop) : Prop := mX8_within v1 0 2 M (fun r1 M1 => ((¬ r1 = 0 → mX8_isCounted M1 (fun r2 M2 => ((r2 = 0 → Q (-103) M2) ∧ (¬ r2 = 0 → mX8_reachNow v1 M2 (fun r3 M3 => Q r3 M3))))) ∧ (r1 = 0 → Q (-102) M1)))
def fX8_reach : mm_F := fun as M Q => match as with
  | [.inr (.inr c0), .inl v1] => mm_chk (Nat.beq c0 0) (mX8_reach v1 M (fun r M => Q (some (.inl r)) M))
  | _ => False
def bX8_ledBy_7 : Nat → Int → Int → mm_M → (Int → mm_M → Prop) → Prop
  | 0, _, _, _, _ => False
  | n + 1, v1, v2, M, Q => mX8_turnOf v1 M (fun r1 M1 => ((r1 = (-1) → mX8_payOf v1 v2 M1 (fun r2 M2 => Q r2 M2)) ∧ (¬ r1 = (-1) → mX8_layLoad M1 (fun M3 => (bX8_ledBy_7 n v1 v2 M3 Q)))))
def mX8_ledBy (v1 : Int) (v2 : Int) (M : mm_M) (Q : Int → mm_M → Prop) : Prop := ((0 ≤ v1 ∧ v1 < 5) ∧ (∃ j, bX8_ledBy_7 j v1 v2 (mm_up M 9 (Int.toNat v1) v2) Q))
def fX8_ledBy : mm_F := fun as M Q => match as with
  | [.inr (.inr c0), .inl v1, .inl v2] => mm_chk (Nat.beq c0 0) (mX8_ledBy v1 v2 M (fun r M => Q (some (.inl r)) M))
  | _ => False
def mX8_leadNow (v1 : Int) (v2 : Int) (M : mm_M) (Q : Int → mm_M → Prop) : Prop := mX8_keep M (fun M1 => mX8_ledBy v1 v2 M1 (fun r2 M2 => mX8_putBack M2 (fun M3 => Q r2 M3)))
def fX8_leadNow : mm_F := fun as M Q => match as with
  | [.inr (.inr c0), .inl v1, .inl v2] => mm_chk (Nat.beq c0 0) (mX8_leadNow v1 v2 M (fun r M => Q (some (.inl r)) M))
  | _ => False
def mX8_lead (v1 : Int) (v2 : Int) (M : mm_M) (Q : Int → mm_M → Prop) : Prop := mX8_isWay v1 v2 M (fun r1 M1 => ((r1 = 0 → Q (-101) M1) ∧ (¬ r1 = 0 → mX8_leadNow v1 v2 M1 (fun r2 M2 => Q r2 M2))))
def fX8_lead : mm_F := fun as M Q => match as with
  | [.inr (.inr c0), .inl v1, .inl v2] => mm_chk (Nat.beq c0 0) (mX8_lead v1 v2 M (fun r M => Q (some (.inl r)) M))
  | _ => False
def bX8_leadsBy_44 (K12 : Int → Int → Int → Int → mm_M → Prop) (v1 : Int) (v2 : Int) (v3 : Int) (v4 : Int) (v5 : Int) (w0 : Int) (M : mm_M) (Q : Int → mm_M → Prop) : Prop := ((v3 ≤ v5 → (K12 v1 w0 v3 (mm_w (v4 + 1)) M)) ∧ (v5 < v3 → (K12 v1 w0 v5 (mm_w (v4 + 1)) M)))
def bX8_leadsBy_12 : Nat → Int → Int → Int → Int → mm_M → (Int → mm_M → Prop) → Prop
  | 0, _, _, _, _, _, _ => False
  | n + 1, v1, v2, v3, v4, M, Q => ((0 ≤ v1 ∧ v1 < 5) ∧ (((M 8 (Int.toNat v1)) ≤ v4 → Q v2 M) ∧ (v4 < (M 8 (Int.toNat v1)) → mX8_leadNow v1 v4 M (fun r1 M1 => ((v3 ≤ r1 → (bX8_leadsBy_44 (fun v1 v2 v3 v4 M => bX8_leadsBy_12 n v1 v2 v3 v4 M Q) v1 v2 v3 v4 r1 v2 M1 Q)) ∧ (r1 < v3 → (bX8_leadsBy_44 (fun v1 v2 v3 v4 M => bX8_leadsBy_12 n v1 v2 v3 v4 M Q) v1 v2 v3 v4 r1 v4 M1 Q)))))))
def mX8_leadsBy (v1 : Int) (M : mm_M) (Q : Int → mm_M → Prop) : Prop := mX8_leadNow v1 0 M (fun r1 M1 => (∃ j, bX8_leadsBy_12 j v1 0 r1 1 M1 Q))
def fX8_leadsBy : mm_F := fun as M Q => match as with
  | [.inr (.inr c0), .inl v1] => mm_chk (Nat.beq c0 0) (mX8_leadsBy v1 M (fun r M => Q (some (.inl r)) M))
  | _ => False
def mX8_leads (v1 : Int) (M : mm_M) (Q : Int → mm_M → Prop) : Prop := mX8_isPlayer v1 M (fun r1 M1 => ((r1 = 0 → Q (-101) M1) ∧ (¬ r1 = 0 → mX8_leadsBy v1 M1 (fun r2 M2 => Q r2 M2))))
def fX8_leads : mm_F := fun as M Q => match as with
  | [.inr (.inr c0), .inl v1] => mm_chk (Nat.beq c0 0) (mX8_leads v1 M (fun r M => Q (some (.inl r)) M))
  | _ => False
def mX8_follow (v1 : Int) (M : mm_M) (Q : Int → mm_M → Prop) : Prop := mX8_isPlayer v1 M (fun r1 M1 => ((r1 = 0 → Q (-101) M1) ∧ (¬ r1 = 0 → mX8_leadsBy v1 M1 (fun r2 M2 => mX8_ledBy v1 r2 M2 (fun r3 M3 => Q r3 M3)))))
def fX8_follow : mm_F := fun as M Q => match as with
  | [.inr (.inr c0), .inl v1] => mm_chk (Nat.beq c0 0) (mX8_follow v1 M (fun r M => Q (some (.inl r)) M))
  | _ => False
def bX8_lane_28 (v1 : Int) (v2 : Int) (M : mm_M) (Q : Int → mm_M → Prop) : Prop := ((¬ (M 0 18) = 5 → ((0 ≤ (M 0 18) ∧ (M 0 18) < 5) ∧ ((0 ≤ ((mm_up M 12 (Int.toNat (M 0 18)) v1) 0 18) ∧ ((mm_up M 12 (Int.toNat (M 0 18)) v1) 0 18) < 5) ∧ Q (mm_w (((mm_up (mm_up (mm_up M 12 (Int.toNat (M 0 18)) v1) 13 (Int.toNat ((mm_up M 12 (Int.toNat (M 0 18)) v1) 0 18)) v2) 0 18 (mm_w (((mm_up (mm_up M 12 (Int.toNat (M 0 18)) v1) 13 (Int.toNat ((mm_up M 12 (Int.toNat (M 0 18)) v1) 0 18)) v2) 0 18) + (1 : Int)))) 0 18) - (1 : Int))) (mm_up (mm_up (mm_up M 12 (Int.toNat (M 0 18)) v1) 13 (Int.toNat ((mm_up M 12 (Int.toNat (M 0 18)) v1) 0 18)) v2) 0 18 (mm_w (((mm_up (mm_up M 12 (Int.toNat (M 0 18)) v1) 13 (Int.toNat ((mm_up M 12 (Int.toNat (M 0 18)) v1) 0 18)) v2) 0 18) + (1 : Int))))))) ∧ ((M 0 18) = 5 → Q (-104) M))
def mX8_lane (v1 : Int) (v2 : Int) (M : mm_M) (Q : Int → mm_M → Prop) : Prop := mX8_within v1 0 20 M (fun r1 M1 => ((r1 = 0 → Q (-102) M1) ∧ (¬ r1 = 0 → ((v2 = 1 → (bX8_lane_28 v1 v2 M1 Q)) ∧ (¬ v2 = 1 → ((v2 = 2 → (bX8_lane_28 v1 v2 M1 Q)) ∧ (¬ v2 = 2 → ((v2 = 4 → (bX8_lane_28 v1 v2 M1 Q)) ∧ (¬ v2 = 4 → Q (-102) M1)))))))))
def fX8_lane : mm_F := fun as M Q => match as with
  | [.inr (.inr c0), .inl v1, .inl v2] => mm_chk (Nat.beq c0 0) (mX8_lane v1 v2 M (fun r M => Q (some (.inl r)) M))
  | _ => False
def mX8_clear  (M : mm_M) (Q : Int → mm_M → Prop) : Prop := Q (M 0 18) (mm_up M 0 18 0)
def fX8_clear : mm_F := fun as M Q => match as with
  | [.inr (.inr c0)] => mm_chk (Nat.beq c0 0) (mX8_clear M (fun r M => Q (some (.inl r)) M))
  | _ => False
def mX8_stream (v1 : Int) (M : mm_M) (Q : Int → mm_M → Prop) : Prop := mX8_within v1 1 40 M (fun r1 M1 => ((¬ r1 = 0 → Q (M1 0 21) (mm_up M1 0 21 v1)) ∧ (r1 = 0 → Q (-102) M1)))
def fX8_stream : mm_F := fun as M Q => match as with
  | [.inr (.inr c0), .inl v1] => mm_chk (Nat.beq c0 0) (mX8_stream v1 M (fun r M => Q (some (.inl r)) M))
  | _ => False
def mX8_share (v1 : Int) (M : mm_M) (Q : Int → mm_M → Prop) : Prop := mX8_within v1 0 10 M (fun r1 M1 => ((¬ r1 = 0 → Q (M1 0 22) (mm_up M1 0 22 v1)) ∧ (r1 = 0 → Q (-102) M1)))
def fX8_share : mm_F := fun as M Q => match as with
  | [.inr (.inr c0), .inl v1] => mm_chk (Nat.beq c0 0) (mX8_share v1 M (fun r M => Q (some (.inl r)) M))
  | _ => False
def mX8_weight (v1 : Int) (M : mm_M) (Q : Int → mm_M → Prop) : Prop := ((0 ≤ v1 ∧ v1 < 5) ∧ (¬ (M 13 (Int.toNat v1)) = 0 ∧ Q (mm_div (4 : Int) (M 13 (Int.toNat v1))) M))
def fX8_weight : mm_F := fun as M Q => match as with
  | [.inr (.inr c0), .inl v1] => mm_chk (Nat.beq c0 0) (mX8_weight v1 M (fun r M => Q (some (.inl r)) M))
  | _ => False
def bX8_isLevel_144 (K120 : Int → Int → Int → Int → Int → Int → mm_M → Prop) (v1 : Int) (v6 : Int) (v7 : Int) (v9 : Int) (v11 : Int) (v12 : Int) (w0 : Int) (M : mm_M) (Q : Int → mm_M → Prop) : Prop := ((v11 = 0 → (K120 v1 v6 v7 v9 0 (mm_w (v12 + 1)) M)) ∧ (¬ v11 = 0 → ((0 ≤ v12 ∧ v12 < 5) ∧ (((mm_cmp v7 (mm_wl ((M 25 (Int.toNat v12)) * v9))) ≤ 0 → ((¬ (0 : Int) = w0 → (K120 v1 v6 v7 v9 0 (mm_w (v12 + 1)) M)) ∧ ((0 : Int) = w0 → (K120 v1 v6 v7 v9 1 (mm_w (v12 + 1)) M)))) ∧ ((0 : Int) < (mm_cmp v7 (mm_wl ((M 25 (Int.toNat v12)) * v9))) → ((¬ (1 : Int) = w0 → (K120 v1 v6 v7 v9 0 (mm_w (v12 + 1)) M)) ∧ ((1 : Int) = w0 → (K120 v1 v6 v7 v9 1 (mm_w (v12 + 1)) M))))))))
def bX8_isLevel_120 : Nat → Int → Int → Int → Int → Int → Int → mm_M → (Int → mm_M → Prop) → Prop
  | 0, _, _, _, _, _, _, _, _ => False
  | n + 1, v1, v6, v7, v9, v11, v12, M, Q => (((M 0 18) ≤ v12 → ((v11 = 0 ∨ v11 = 1) ∧ Q v11 M)) ∧ (v12 < (M 0 18) → ((¬ (mm_and (mm_shr v1 v12) (1 : Int)) = 1 → (bX8_isLevel_144 (fun v1 v6 v7 v9 v11 v12 M => bX8_isLevel_120 n v1 v6 v7 v9 v11 v12 M Q) v1 v6 v7 v9 v11 v12 0 M Q)) ∧ ((mm_and (mm_shr v1 v12) (1 : Int)) = 1 → (bX8_isLevel_144 (fun v1 v6 v7 v9 v11 v12 M => bX8_isLevel_120 n v1 v6 v7 v9 v11 v12 M Q) v1 v6 v7 v9 v11 v12 1 M Q)))))
def bX8_isLevel_69 (K17 : Int → Int → Int → Int → Int → Int → mm_M → Prop) (v1 : Int) (v4 : Int) (v6 : Int) (v9 : Int) (v11 : Int) (v12 : Int) (w0 : Int) (w1 : Int) (M : mm_M) (Q : Int → mm_M → Prop) : Prop := ((v12 = 0 → (K17 v1 v4 v6 (mm_wl (w1 + w0)) (mm_wl (v9 + (0 : Int))) (mm_w (v11 + 1)) M)) ∧ (¬ v12 = 0 → mX8_weight v11 M (fun r1 M1 => (K17 v1 v4 v6 (mm_wl (w1 + w0)) (mm_wl (v9 + r1)) (mm_w (v11 + 1)) M1))))
def bX8_isLevel_41 (K17 : Int → Int → Int → Int → Int → Int → mm_M → Prop) (v1 : Int) (v4 : Int) (v6 : Int) (v7 : Int) (v9 : Int) (v11 : Int) (w0 : Int) (M : mm_M) (Q : Int → mm_M → Prop) : Prop := ((w0 = 0 → (bX8_isLevel_69 K17 v1 v4 v6 v9 v11 w0 0 v7 M Q)) ∧ (¬ w0 = 0 → mX8_weight v11 M (fun r1 M1 => ((0 ≤ v11 ∧ v11 < 5) ∧ (bX8_isLevel_69 K17 v1 v4 v6 v9 v11 w0 (mm_wl (r1 * (M1 25 (Int.toNat v11)))) v7 M1 Q)))))
def bX8_isLevel_17 : Nat → Int → Int → Int → Int → Int → Int → mm_M → (Int → mm_M → Prop) → Prop
  | 0, _, _, _, _, _, _, _, _ => False
  | n + 1, v1, v4, v6, v7, v9, v11, M, Q => (((M 0 18) ≤ v11 → (∃ j, bX8_isLevel_120 j v1 v6 v7 v9 1 0 (mm_up (mm_up M 0 45 v7) 0 46 (mm_wl (v4 * v9))) Q)) ∧ (v11 < (M 0 18) → ((¬ (mm_and (mm_shr v1 v11) (1 : Int)) = 1 → (bX8_isLevel_41 (fun v1 v4 v6 v7 v9 v11 M => bX8_isLevel_17 n v1 v4 v6 v7 v9 v11 M Q) v1 v4 v6 v7 v9 v11 0 M Q)) ∧ ((mm_and (mm_shr v1 v11) (1 : Int)) = 1 → (bX8_isLevel_41 (fun v1 v4 v6 v7 v9 v11 M => bX8_isLevel_17 n v1 v4 v6 v7 v9 v11 M Q) v1 v4 v6 v7 v9 v11 1 M Q)))))
def mX8_isLevel (v1 : Int) (v2 : Int) (v4 : Int) (v6 : Int) (M : mm_M) (Q : Int → mm_M → Prop) : Prop := (∃ j, bX8_isLevel_17 j v1 v4 v6 (mm_wl ((mm_wl ((4 : Int) * v6)) * v2)) 0 0 M Q)
def fX8_isLevel : mm_F := fun as M Q => match as with
  | [.inr (.inr c0), .inl v1, .inr (.inl v2), .inr (.inl v4), .inl v6] => mm_chk (Nat.beq c0 0) (mX8_isLevel v1 v2 v4 v6 M (fun r M => Q (some (.inl r)) M))
  | _ => False
def bX8_findLevel_3 : Nat → Int → Int → Int → Int → mm_M → (Int → mm_M → Prop) → Prop
  | 0, _, _, _, _, _, _ => False
  | n + 1, v1, v3, v5, v6, M, Q => (((mm_cmp v1 0) ≤ 0 → (((mm_cmp v1 0) ≤ 0 → Q 0 M) ∧ ((0 : Int) < (mm_cmp v1 0) → Q v6 M))) ∧ ((0 : Int) < (mm_cmp v1 0) → mX8_isLevel v6 v1 v3 v5 M (fun r1 M1 => ((¬ r1 = 0 → (((mm_cmp v1 0) ≤ 0 → Q 0 M1) ∧ ((0 : Int) < (mm_cmp v1 0) → Q v6 M1))) ∧ (r1 = 0 → (bX8_findLevel_3 n v1 v3 v5 (mm_w (v6 + 1)) M1 Q))))))
def mX8_findLevel (v1 : Int) (v3 : Int) (v5 : Int) (M : mm_M) (Q : Int → mm_M → Prop) : Prop := (∃ j, bX8_findLevel_3 j v1 v3 v5 1 M Q)
def fX8_findLevel : mm_F := fun as M Q => match as with
  | [.inr (.inr c0), .inr (.inl v1), .inr (.inl v3), .inl v5] => mm_chk (Nat.beq c0 0) (mX8_findLevel v1 v3 v5 M (fun r M => Q (some (.inl r)) M))
  | _ => False
def bX8_layEven_77 (K55 : Int → Int → mm_M → Prop) (v1 : Int) (v2 : Int) (w0 : Int) (M : mm_M) (Q : mm_M → Prop) : Prop := ((w0 = 0 → ((0 ≤ v2 ∧ v2 < 5) ∧ (K55 v1 (mm_w (v2 + 1)) (mm_up M 26 (Int.toNat v2) 0)))) ∧ (¬ w0 = 0 → mX8_weight v2 M (fun r1 M1 => ((0 ≤ v2 ∧ v2 < 5) ∧ ((0 ≤ v2 ∧ v2 < 5) ∧ (K55 v1 (mm_w (v2 + 1)) (mm_up M1 26 (Int.toNat v2) (mm_wl (r1 * (mm_wl ((M1 0 45) - (mm_wl ((M1 25 (Int.toNat v2)) * (M1 0 46))))))))))))))
def bX8_layEven_55 : Nat → Int → Int → mm_M → (mm_M → Prop) → Prop
  | 0, _, _, _, _ => False
  | n + 1, v1, v2, M, Q => (((M 0 18) ≤ v2 → Q M) ∧ (v2 < (M 0 18) → ((¬ (mm_and (mm_shr v1 v2) (1 : Int)) = 1 → (bX8_layEven_77 (fun v1 v2 M => bX8_layEven_55 n v1 v2 M Q) v1 v2 0 M Q)) ∧ ((mm_and (mm_shr v1 v2) (1 : Int)) = 1 → (bX8_layEven_77 (fun v1 v2 M => bX8_layEven_55 n v1 v2 M Q) v1 v2 1 M Q)))))
def bX8_layEven_2 : Nat → Int → mm_M → (mm_M → Prop) → Prop
  | 0, _, _, _ => False
  | n + 1, v1, M, Q => (((M 0 18) ≤ v1 → mX8_findLevel (M 0 21) 1 1 M (fun r1 M1 => (∃ j, bX8_layEven_55 j r1 0 (mm_up M1 0 49 (mm_wl ((4 : Int) * (M1 0 46)))) Q))) ∧ (v1 < (M 0 18) → ((0 ≤ v1 ∧ v1 < 5) ∧ ((0 ≤ v1 ∧ v1 < 5) ∧ (bX8_layEven_2 n (mm_w (v1 + 1)) (mm_up M 25 (Int.toNat v1) (M 12 (Int.toNat v1))) Q)))))
def mX8_layEven  (M : mm_M) (Q : mm_M → Prop) : Prop := (∃ j, bX8_layEven_2 j 0 M Q)
def fX8_layEven : mm_F := fun as M Q => match as with
  | [.inr (.inr c0)] => mm_chk (Nat.beq c0 0) (mX8_layEven M (fun M => Q none M))
  | _ => False
def bX8_layWise_77 (K55 : Int → Int → mm_M → Prop) (v1 : Int) (v2 : Int) (w0 : Int) (M : mm_M) (Q : mm_M → Prop) : Prop := ((w0 = 0 → ((0 ≤ v2 ∧ v2 < 5) ∧ (K55 v1 (mm_w (v2 + 1)) (mm_up M 27 (Int.toNat v2) 0)))) ∧ (¬ w0 = 0 → mX8_weight v2 M (fun r1 M1 => ((0 ≤ v2 ∧ v2 < 5) ∧ ((0 ≤ v2 ∧ v2 < 5) ∧ (K55 v1 (mm_w (v2 + 1)) (mm_up M1 27 (Int.toNat v2) (mm_wl (r1 * (mm_wl ((M1 0 45) - (mm_wl ((M1 25 (Int.toNat v2)) * (M1 0 46))))))))))))))
def bX8_layWise_55 : Nat → Int → Int → mm_M → (mm_M → Prop) → Prop
  | 0, _, _, _, _ => False
  | n + 1, v1, v2, M, Q => (((M 0 18) ≤ v2 → Q M) ∧ (v2 < (M 0 18) → ((¬ (mm_and (mm_shr v1 v2) (1 : Int)) = 1 → (bX8_layWise_77 (fun v1 v2 M => bX8_layWise_55 n v1 v2 M Q) v1 v2 0 M Q)) ∧ ((mm_and (mm_shr v1 v2) (1 : Int)) = 1 → (bX8_layWise_77 (fun v1 v2 M => bX8_layWise_55 n v1 v2 M Q) v1 v2 1 M Q)))))
def bX8_layWise_2 : Nat → Int → mm_M → (mm_M → Prop) → Prop
  | 0, _, _, _ => False
  | n + 1, v1, M, Q => (((M 0 18) ≤ v1 → mX8_findLevel (M 0 21) 1 2 M (fun r1 M1 => (∃ j, bX8_layWise_55 j r1 0 (mm_up M1 0 51 (mm_wl ((8 : Int) * (M1 0 46)))) Q))) ∧ (v1 < (M 0 18) → ((0 ≤ v1 ∧ v1 < 5) ∧ ((0 ≤ v1 ∧ v1 < 5) ∧ (bX8_layWise_2 n (mm_w (v1 + 1)) (mm_up M 25 (Int.toNat v1) (M 12 (Int.toNat v1))) Q)))))
def mX8_layWise  (M : mm_M) (Q : mm_M → Prop) : Prop := (∃ j, bX8_layWise_2 j 0 M Q)
def fX8_layWise : mm_F := fun as M Q => match as with
  | [.inr (.inr c0)] => mm_chk (Nat.beq c0 0) (mX8_layWise M (fun M => Q none M))
  | _ => False
def mX8_wiseCost (v1 : Int) (M : mm_M) (Q : Int → mm_M → Prop) : Prop := ((0 ≤ v1 ∧ v1 < 5) ∧ ((0 ≤ v1 ∧ v1 < 5) ∧ ((0 ≤ v1 ∧ v1 < 5) ∧ Q (mm_wl ((mm_wl ((M 12 (Int.toNat v1)) * (M 0 51))) + (mm_wl ((M 13 (Int.toNat v1)) * (M 27 (Int.toNat v1)))))) M)))
def fX8_wiseCost : mm_F := fun as M Q => match as with
  | [.inr (.inr c0), .inl v1] => mm_chk (Nat.beq c0 0) (mX8_wiseCost v1 M (fun r M => Q (some (.inr (.inl r))) M))
  | _ => False
def mX8_costsMore (v1 : Int) (v2 : Int) (M : mm_M) (Q : Int → mm_M → Prop) : Prop := mX8_wiseCost v1 M (fun r1 M1 => mX8_wiseCost v2 M1 (fun r2 M2 => (((0 : Int) < (mm_cmp r1 r2) → (((1 : Int) = 0 ∨ (1 : Int) = 1) ∧ Q 1 M2)) ∧ ((mm_cmp r1 r2) ≤ 0 → ((¬ (mm_cmp r1 r2) = 0 → (((0 : Int) = 0 ∨ (0 : Int) = 1) ∧ Q 0 M2)) ∧ ((mm_cmp r1 r2) = 0 → ((v2 ≤ v1 → (((0 : Int) = 0 ∨ (0 : Int) = 1) ∧ Q 0 M2)) ∧ (v1 < v2 → (((1 : Int) = 0 ∨ (1 : Int) = 1) ∧ Q 1 M2)))))))))
def fX8_costsMore : mm_F := fun as M Q => match as with
  | [.inr (.inr c0), .inl v1, .inl v2] => mm_chk (Nat.beq c0 0) (mX8_costsMore v1 v2 M (fun r M => Q (some (.inl r)) M))
  | _ => False
def bX8_dearest_14 (K4 : Int → Int → Int → mm_M → Prop) : Nat → Int → Int → Int → Int → mm_M → (Int → mm_M → Prop) → Prop
  | 0, _, _, _, _, _, _ => False
  | n + 1, v1, v2, v3, v4, M, Q => (((M 0 18) ≤ v4 → ((¬ v3 = v1 → (K4 v1 (mm_w (v2 + (1 : Int))) v3 M)) ∧ (v3 = v1 → (K4 v1 (mm_w (v2 + (0 : Int))) v3 M)))) ∧ (v4 < (M 0 18) → ((v4 = v2 → (bX8_dearest_14 K4 n v1 v2 (mm_w (v3 + (0 : Int))) (mm_w (v4 + 1)) M Q)) ∧ (¬ v4 = v2 → mX8_costsMore v4 v2 M (fun r1 M1 => ((r1 = 0 → (bX8_dearest_14 K4 n v1 v2 (mm_w (v3 + (0 : Int))) (mm_w (v4 + 1)) M1 Q)) ∧ (¬ r1 = 0 → (bX8_dearest_14 K4 n v1 v2 (mm_w (v3 + (1 : Int))) (mm_w (v4 + 1)) M1 Q))))))))
def bX8_dearest_4 : Nat → Int → Int → Int → mm_M → (Int → mm_M → Prop) → Prop
  | 0, _, _, _, _, _ => False
  | n + 1, v1, v2, v3, M, Q => ((v3 = v1 → Q v2 M) ∧ (¬ v3 = v1 → (∃ j, bX8_dearest_14 (fun v1 v2 v3 M => bX8_dearest_4 n v1 v2 v3 M Q) j v1 v2 0 0 M Q)))
def mX8_dearest (v1 : Int) (M : mm_M) (Q : Int → mm_M → Prop) : Prop := (∃ j, bX8_dearest_4 j v1 0 (-1) M Q)
def fX8_dearest : mm_F := fun as M Q => match as with
  | [.inr (.inr c0), .inl v1] => mm_chk (Nat.beq c0 0) (mX8_dearest v1 M (fun r M => Q (some (.inl r)) M))
  | _ => False
def bX8_layLeader_35 : Nat → Int → Int → mm_M → (mm_M → Prop) → Prop
  | 0, _, _, _, _ => False
  | n + 1, v1, v3, M, Q => (((M 0 18) ≤ v3 → Q M) ∧ (v3 < (M 0 18) → mX8_dearest v3 M (fun r1 M1 => ((0 ≤ r1 ∧ r1 < 5) ∧ (((0 : Int) ≤ (mm_cmp v1 (mm_wl ((10 : Int) * (M1 27 (Int.toNat r1))))) → ((0 ≤ r1 ∧ r1 < 5) ∧ ((0 ≤ r1 ∧ r1 < 5) ∧ (bX8_layLeader_35 n (mm_wl (v1 - ((mm_up M1 29 (Int.toNat r1) (mm_wl ((10 : Int) * (M1 27 (Int.toNat r1))))) 29 (Int.toNat r1)))) (mm_w (v3 + 1)) (mm_up M1 29 (Int.toNat r1) (mm_wl ((10 : Int) * (M1 27 (Int.toNat r1))))) Q)))) ∧ ((mm_cmp v1 (mm_wl ((10 : Int) * (M1 27 (Int.toNat r1))))) < 0 → ((0 ≤ r1 ∧ r1 < 5) ∧ ((0 ≤ r1 ∧ r1 < 5) ∧ (bX8_layLeader_35 n (mm_wl (v1 - ((mm_up M1 29 (Int.toNat r1) v1) 29 (Int.toNat r1)))) (mm_w (v3 + 1)) (mm_up M1 29 (Int.toNat r1) v1) Q)))))))))
def mX8_layLeader  (M : mm_M) (Q : mm_M → Prop) : Prop := mX8_layWise M (fun M1 => (∃ j, bX8_layLeader_35 j (mm_wl ((mm_wl (((mm_up M1 0 55 (mm_wl ((10 : Int) * (M1 0 51)))) 0 22) * ((mm_up M1 0 55 (mm_wl ((10 : Int) * (M1 0 51)))) 0 21))) * ((mm_up M1 0 55 (mm_wl ((10 : Int) * (M1 0 51)))) 0 51))) 0 (mm_up M1 0 55 (mm_wl ((10 : Int) * (M1 0 51)))) Q))
def fX8_layLeader : mm_F := fun as M Q => match as with
  | [.inr (.inr c0)] => mm_chk (Nat.beq c0 0) (mX8_layLeader M (fun M => Q none M))
  | _ => False
def bX8_layLed_134 (K110 : Int → Int → mm_M → Prop) (v3 : Int) (v4 : Int) (w0 : Int) (M : mm_M) (Q : mm_M → Prop) : Prop := (¬ (M 0 55) = 0 ∧ ((w0 = 0 → ((0 ≤ v4 ∧ v4 < 5) ∧ ((0 ≤ v4 ∧ v4 < 5) ∧ (K110 v3 (mm_w (v4 + 1)) (mm_up M 28 (Int.toNat v4) (mm_wl ((M 29 (Int.toNat v4)) * (mm_divl (M 0 53) (M 0 55))))))))) ∧ (¬ w0 = 0 → mX8_weight v4 M (fun r1 M1 => ((0 ≤ v4 ∧ v4 < 5) ∧ ((0 ≤ v4 ∧ v4 < 5) ∧ (K110 v3 (mm_w (v4 + 1)) (mm_up M1 28 (Int.toNat v4) (mm_wl (r1 * (mm_wl ((M1 0 45) - (mm_wl ((M1 12 (Int.toNat v4)) * (M1 0 46)))))))))))))))
def bX8_layLed_110 : Nat → Int → Int → mm_M → (mm_M → Prop) → Prop
  | 0, _, _, _, _ => False
  | n + 1, v3, v4, M, Q => (((M 0 18) ≤ v4 → Q M) ∧ (v4 < (M 0 18) → ((¬ (mm_and (mm_shr v3 v4) (1 : Int)) = 1 → (bX8_layLed_134 (fun v3 v4 M => bX8_layLed_110 n v3 v4 M Q) v3 v4 0 M Q)) ∧ ((mm_and (mm_shr v3 v4) (1 : Int)) = 1 → (bX8_layLed_134 (fun v3 v4 M => bX8_layLed_110 n v3 v4 M Q) v3 v4 1 M Q)))))
def bX8_layLed_6 : Nat → Int → mm_M → (mm_M → Prop) → Prop
  | 0, _, _, _ => False
  | n + 1, v1, M, Q => (((M 0 18) ≤ v1 → mX8_findLevel (mm_wl ((mm_wl ((mm_w ((10 : Int) - (M 0 22))) * (M 0 21))) * (M 0 51))) (M 0 55) 1 M (fun r1 M1 => ((¬ r1 = 0 → (∃ j, bX8_layLed_110 j r1 0 (mm_up M1 0 53 (mm_wl ((4 : Int) * (M1 0 46)))) Q)) ∧ (r1 = 0 → (∃ j, bX8_layLed_110 j r1 0 (mm_up M1 0 53 (M1 0 55)) Q))))) ∧ (v1 < (M 0 18) → ((0 ≤ v1 ∧ v1 < 5) ∧ ((0 ≤ v1 ∧ v1 < 5) ∧ ((0 ≤ v1 ∧ v1 < 5) ∧ ((0 ≤ v1 ∧ v1 < 5) ∧ (bX8_layLed_6 n (mm_w (v1 + 1)) (mm_up M 25 (Int.toNat v1) (mm_wl ((mm_wl ((M 12 (Int.toNat v1)) * (M 0 55))) + (mm_wl ((M 13 (Int.toNat v1)) * (M 29 (Int.toNat v1))))))) Q)))))))
def mX8_layLed  (M : mm_M) (Q : mm_M → Prop) : Prop := mX8_layLeader M (fun M1 => (∃ j, bX8_layLed_6 j 0 M1 Q))
def fX8_layLed : mm_F := fun as M Q => match as with
  | [.inr (.inr c0)] => mm_chk (Nat.beq c0 0) (mX8_layLed M (fun M => Q none M))
  | _ => False
def mX8_layFlow (v1 : Int) (M : mm_M) (Q : mm_M → Prop) : Prop := ((¬ v1 = 0 → ¬ v1 = 1 → mX8_layLed M (fun M1 => Q M1)) ∧ (v1 = 0 → mX8_layEven M (fun M2 => Q M2)) ∧ (v1 = 1 → mX8_layWise M (fun M3 => Q M3)) ∧ True)
def fX8_layFlow : mm_F := fun as M Q => match as with
  | [.inr (.inr c0), .inl v1] => mm_chk (Nat.beq c0 0) (mX8_layFlow v1 M (fun M => Q none M))
  | _ => False
def mX8_amountOf (v1 : Int) (v2 : Int) (M : mm_M) (Q : Int → mm_M → Prop) : Prop := ((¬ v1 = 0 → ((¬ v1 = 1 → ((¬ v1 = 2 → ((0 ≤ v2 ∧ v2 < 5) ∧ Q (M 29 (Int.toNat v2)) M)) ∧ (v1 = 2 → ((0 ≤ v2 ∧ v2 < 5) ∧ Q (M 28 (Int.toNat v2)) M)))) ∧ (v1 = 1 → ((0 ≤ v2 ∧ v2 < 5) ∧ Q (M 27 (Int.toNat v2)) M)))) ∧ (v1 = 0 → ((0 ≤ v2 ∧ v2 < 5) ∧ Q (M 26 (Int.toNat v2)) M)))
def fX8_amountOf : mm_F := fun as M Q => match as with
  | [.inr (.inr c0), .inl v1, .inl v2] => mm_chk (Nat.beq c0 0) (mX8_amountOf v1 v2 M (fun r M => Q (some (.inr (.inl r))) M))
  | _ => False
def mX8_belowOf (v1 : Int) (M : mm_M) (Q : Int → mm_M → Prop) : Prop := ((¬ v1 = 0 → ((¬ v1 = 1 → ((¬ v1 = 2 → Q (M 0 55) M) ∧ (v1 = 2 → Q (M 0 53) M))) ∧ (v1 = 1 → Q (M 0 51) M))) ∧ (v1 = 0 → Q (M 0 49) M))
def fX8_belowOf : mm_F := fun as M Q => match as with
  | [.inr (.inr c0), .inl v1] => mm_chk (Nat.beq c0 0) (mX8_belowOf v1 M (fun r M => Q (some (.inr (.inl r))) M))
  | _ => False
def mX8_flowNow (v1 : Int) (v2 : Int) (v3 : Int) (M : mm_M) (Q : Int → mm_M → Prop) : Prop := mX8_layFlow v1 M (fun M1 => mX8_amountOf v1 v2 M1 (fun r2 M2 => mX8_belowOf v1 M2 (fun r3 M3 => mX8_part r2 r3 v3 M3 (fun r4 M4 => Q r4 M4))))
def fX8_flowNow : mm_F := fun as M Q => match as with
  | [.inr (.inr c0), .inl v1, .inl v2, .inl v3] => mm_chk (Nat.beq c0 0) (mX8_flowNow v1 v2 v3 M (fun r M => Q (some (.inl r)) M))
  | _ => False
def mX8_flow (v1 : Int) (v2 : Int) (v3 : Int) (M : mm_M) (Q : Int → mm_M → Prop) : Prop := mX8_within v2 0 (mm_w ((M 0 18) - (1 : Int))) M (fun r1 M1 => ((¬ r1 = 0 → mX8_within v1 0 3 M1 (fun r2 M2 => ((r2 = 0 → Q (-102) M2) ∧ (¬ r2 = 0 → mX8_within v3 0 1 M2 (fun r3 M3 => ((r3 = 0 → Q (-102) M3) ∧ (¬ r3 = 0 → mX8_flowNow v1 v2 v3 M3 (fun r4 M4 => Q r4 M4)))))))) ∧ (r1 = 0 → Q (-101) M1)))
def fX8_flow : mm_F := fun as M Q => match as with
  | [.inr (.inr c0), .inl v1, .inl v2, .inl v3] => mm_chk (Nat.beq c0 0) (mX8_flow v1 v2 v3 M (fun r M => Q (some (.inl r)) M))
  | _ => False
def mX8_levelNow (v1 : Int) (M : mm_M) (Q : Int → mm_M → Prop) : Prop := mX8_layEven M (fun M1 => mX8_part (M1 0 45) (M1 0 46) v1 M1 (fun r2 M2 => Q r2 M2))
def fX8_levelNow : mm_F := fun as M Q => match as with
  | [.inr (.inr c0), .inl v1] => mm_chk (Nat.beq c0 0) (mX8_levelNow v1 M (fun r M => Q (some (.inl r)) M))
  | _ => False
def mX8_level (v1 : Int) (M : mm_M) (Q : Int → mm_M → Prop) : Prop := mX8_within v1 0 1 M (fun r1 M1 => ((¬ r1 = 0 → (((M1 0 18) ≤ 0 → Q (-103) M1) ∧ ((0 : Int) < (M1 0 18) → mX8_levelNow v1 M1 (fun r2 M2 => Q r2 M2)))) ∧ (r1 = 0 → Q (-102) M1)))
def fX8_level : mm_F := fun as M Q => match as with
  | [.inr (.inr c0), .inl v1] => mm_chk (Nat.beq c0 0) (mX8_level v1 M (fun r M => Q (some (.inl r)) M))
  | _ => False
def bX8_totalNow_17 : Nat → Int → Int → Int → Int → mm_M → (Int → mm_M → Prop) → Prop
  | 0, _, _, _, _, _, _ => False
  | n + 1, v1, v2, v4, v6, M, Q => (((M 0 18) ≤ v6 → (¬ (mm_wl (v2 * v2)) = 0 ∧ Q (mm_w (mm_divl (mm_wl (v4 * (1000 : Int))) (mm_wl (v2 * v2)))) M)) ∧ (v6 < (M 0 18) → mX8_amountOf v1 v6 M (fun r1 M1 => ((0 ≤ v6 ∧ v6 < 5) ∧ ((0 ≤ v6 ∧ v6 < 5) ∧ (bX8_totalNow_17 n v1 v2 (mm_wl (v4 + (mm_wl (r1 * (mm_wl ((mm_wl ((M1 12 (Int.toNat v6)) * v2)) + (mm_wl ((M1 13 (Int.toNat v6)) * r1)))))))) (mm_w (v6 + 1)) M1 Q))))))
def mX8_totalNow (v1 : Int) (M : mm_M) (Q : Int → mm_M → Prop) : Prop := mX8_layFlow v1 M (fun M1 => mX8_belowOf v1 M1 (fun r2 M2 => (∃ j, bX8_totalNow_17 j v1 r2 0 0 M2 Q)))
def fX8_totalNow : mm_F := fun as M Q => match as with
  | [.inr (.inr c0), .inl v1] => mm_chk (Nat.beq c0 0) (mX8_totalNow v1 M (fun r M => Q (some (.inl r)) M))
  | _ => False
def mX8_total (v1 : Int) (M : mm_M) (Q : Int → mm_M → Prop) : Prop := mX8_within v1 0 2 M (fun r1 M1 => ((¬ r1 = 0 → (((M1 0 18) ≤ 0 → Q (-103) M1) ∧ ((0 : Int) < (M1 0 18) → mX8_totalNow v1 M1 (fun r2 M2 => Q r2 M2)))) ∧ (r1 = 0 → Q (-102) M1)))
def fX8_total : mm_F := fun as M Q => match as with
  | [.inr (.inr c0), .inl v1] => mm_chk (Nat.beq c0 0) (mX8_total v1 M (fun r M => Q (some (.inl r)) M))
  | _ => False
def mX8_worse (v1 : Int) (M : mm_M) (Q : Int → mm_M → Prop) : Prop := mX8_within v1 0 2 M (fun r1 M1 => ((¬ r1 = 0 → (((M1 0 18) ≤ 0 → Q (-103) M1) ∧ ((0 : Int) < (M1 0 18) → mX8_totalNow v1 M1 (fun r2 M2 => mX8_totalNow 1 M2 (fun r3 M3 => (¬ r3 = 0 ∧ Q (mm_w (mm_divl (mm_wl ((10000 : Int) * r2)) r3)) M3)))))) ∧ (r1 = 0 → Q (-102) M1)))
def fX8_worse : mm_F := fun as M Q => match as with
  | [.inr (.inr c0), .inl v1] => mm_chk (Nat.beq c0 0) (mX8_worse v1 M (fun r M => Q (some (.inl r)) M))
  | _ => False
def mX8_howMany (v1 : Int) (M : mm_M) (Q : Int → mm_M → Prop) : Prop := ((v1 < 0 ∨ (6 : Int) < v1 → Q (-102) M) ∧ (v1 = 0 → Q (M 0 1) M) ∧ (v1 = 1 → Q (M 0 9) M) ∧ (v1 = 2 → Q (M 0 18) M) ∧ (v1 = 3 → Q (M 0 23) M) ∧ (v1 = 4 → Q (M 0 8) M) ∧ (v1 = 5 → Q (M 0 16) M) ∧ (v1 = 6 → Q (M 0 17) M) ∧ True)
def fX8_howMany : mm_F := fun as M Q => match as with
  | [.inr (.inr c0), .inl v1] => mm_chk (Nat.beq c0 0) (mX8_howMany v1 M (fun r M => Q (some (.inl r)) M))
  | _ => False
def mX8_count (v1 : Int) (M : mm_M) (Q : Int → mm_M → Prop) : Prop := mX8_howMany v1 M (fun r1 M1 => Q r1 M1)
def fX8_count : mm_F := fun as M Q => match as with
  | [.inr (.inr c0), .inl v1] => mm_chk (Nat.beq c0 0) (mX8_count v1 M (fun r M => Q (some (.inl r)) M))
  | _ => False
def mX8_mix (v1 : Int) (M : mm_M) (Q : mm_M → Prop) : Prop := Q (mm_up M 0 56 (mm_wl ((mm_wl ((31 : Int) * (M 0 56))) + v1)))
def fX8_mix : mm_F := fun as M Q => match as with
  | [.inr (.inr c0), .inr (.inl v1)] => mm_chk (Nat.beq c0 0) (mX8_mix v1 M (fun M => Q none M))
  | _ => False
def bX8_mixPlayer_56 : Nat → Int → Int → mm_M → (mm_M → Prop) → Prop
  | 0, _, _, _, _ => False
  | n + 1, v1, v2, M, Q => ((0 ≤ v1 ∧ v1 < 5) ∧ ((0 ≤ (mm_w ((mm_w ((12 : Int) * v1)) + (M 9 (Int.toNat v1)))) ∧ (mm_w ((mm_w ((12 : Int) * v1)) + (M 9 (Int.toNat v1)))) < 60) ∧ (((M 10 (Int.toNat (mm_w ((mm_w ((12 : Int) * v1)) + (M 9 (Int.toNat v1)))))) ≤ v2 → Q M) ∧ (v2 < (M 10 (Int.toNat (mm_w ((mm_w ((12 : Int) * v1)) + (M 9 (Int.toNat v1)))))) → ((0 ≤ v1 ∧ v1 < 5) ∧ mX8_roadOf v1 (M 9 (Int.toNat v1)) v2 M (fun r1 M1 => mX8_mix r1 M1 (fun M2 => (bX8_mixPlayer_56 n v1 (mm_w (v2 + 1)) M2 Q))))))))
def bX8_mixPlayer_27 : Nat → Int → Int → mm_M → (mm_M → Prop) → Prop
  | 0, _, _, _, _ => False
  | n + 1, v1, v2, M, Q => ((0 ≤ v1 ∧ v1 < 5) ∧ (((M 8 (Int.toNat v1)) ≤ v2 → (∃ j, bX8_mixPlayer_56 j v1 0 M Q)) ∧ (v2 < (M 8 (Int.toNat v1)) → mX8_payOf v1 v2 M (fun r1 M1 => mX8_mix r1 M1 (fun M2 => (bX8_mixPlayer_27 n v1 (mm_w (v2 + 1)) M2 Q))))))
def bX8_mixPlayer_2 : Nat → Int → Int → mm_M → (mm_M → Prop) → Prop
  | 0, _, _, _, _ => False
  | n + 1, v1, v2, M, Q => (((7 : Int) ≤ v2 → (∃ j, bX8_mixPlayer_27 j v1 0 M Q)) ∧ (v2 < 7 → mX8_whoNow v1 v2 M (fun r1 M1 => mX8_mix r1 M1 (fun M2 => (bX8_mixPlayer_2 n v1 (mm_w (v2 + 1)) M2 Q)))))
def mX8_mixPlayer (v1 : Int) (M : mm_M) (Q : mm_M → Prop) : Prop := (∃ j, bX8_mixPlayer_2 j v1 0 M Q)
def fX8_mixPlayer : mm_F := fun as M Q => match as with
  | [.inr (.inr c0), .inl v1] => mm_chk (Nat.beq c0 0) (mX8_mixPlayer v1 M (fun M => Q none M))
  | _ => False
def bX8_mixNet_62 : Nat → Int → mm_M → (mm_M → Prop) → Prop
  | 0, _, _, _ => False
  | n + 1, v1, M, Q => (((M 0 9) ≤ v1 → Q M) ∧ (v1 < (M 0 9) → mX8_mixPlayer v1 M (fun M1 => (bX8_mixNet_62 n (mm_w (v1 + 1)) M1 Q))))
def bX8_mixNet_26 : Nat → Int → mm_M → (mm_M → Prop) → Prop
  | 0, _, _, _ => False
  | n + 1, v1, M, Q => (((mm_w ((8 : Int) * (M 0 1))) ≤ v1 → (∃ j, bX8_mixNet_62 j 0 M Q)) ∧ (v1 < (mm_w ((8 : Int) * (M 0 1))) → (¬ (8 : Int) = 0 ∧ (¬ (8 : Int) = 0 ∧ mX8_roadNow (mm_div v1 (8 : Int)) (mm_rem v1 (8 : Int)) M (fun r1 M1 => mX8_mix r1 M1 (fun M2 => (bX8_mixNet_26 n (mm_w (v1 + 1)) M2 Q)))))))
def bX8_mixNet_2 : Nat → Int → mm_M → (mm_M → Prop) → Prop
  | 0, _, _, _ => False
  | n + 1, v1, M, Q => (((8 : Int) ≤ v1 → (∃ j, bX8_mixNet_26 j 0 M Q)) ∧ (v1 < 8 → mX8_aboutNow v1 M (fun r1 M1 => mX8_mix r1 M1 (fun M2 => (bX8_mixNet_2 n (mm_w (v1 + 1)) M2 Q)))))
def mX8_mixNet  (M : mm_M) (Q : mm_M → Prop) : Prop := (∃ j, bX8_mixNet_2 j 0 M Q)
def fX8_mixNet : mm_F := fun as M Q => match as with
  | [.inr (.inr c0)] => mm_chk (Nat.beq c0 0) (mX8_mixNet M (fun M => Q none M))
  | _ => False
def bX8_mixSets_49 : Nat → Int → mm_M → (mm_M → Prop) → Prop
  | 0, _, _, _ => False
  | n + 1, v1, M, Q => (((3 : Int) ≤ v1 → Q M) ∧ (v1 < 3 → mX8_reachNow v1 M (fun r1 M1 => mX8_mix r1 M1 (fun M2 => (bX8_mixSets_49 n (mm_w (v1 + 1)) M2 Q)))))
def bX8_mixSets_26 : Nat → Int → mm_M → (mm_M → Prop) → Prop
  | 0, _, _, _ => False
  | n + 1, v1, M, Q => (((4 : Int) ≤ v1 → (∃ j, bX8_mixSets_49 j 0 M Q)) ∧ (v1 < 4 → mX8_priceNow v1 M (fun r1 M1 => mX8_mix r1 M1 (fun M2 => (bX8_mixSets_26 n (mm_w (v1 + 1)) M2 Q)))))
def bX8_mixSets_2 : Nat → Int → mm_M → (mm_M → Prop) → Prop
  | 0, _, _, _ => False
  | n + 1, v1, M, Q => (((6 : Int) ≤ v1 → (∃ j, bX8_mixSets_26 j 0 M Q)) ∧ (v1 < 6 → mX8_restsNow v1 M (fun r1 M1 => mX8_mix r1 M1 (fun M2 => (bX8_mixSets_2 n (mm_w (v1 + 1)) M2 Q)))))
def mX8_mixSets  (M : mm_M) (Q : mm_M → Prop) : Prop := (∃ j, bX8_mixSets_2 j 0 M Q)
def fX8_mixSets : mm_F := fun as M Q => match as with
  | [.inr (.inr c0)] => mm_chk (Nat.beq c0 0) (mX8_mixSets M (fun M => Q none M))
  | _ => False
def bX8_mixLeads_12 (K2 : Int → mm_M → Prop) : Nat → Int → Int → mm_M → (mm_M → Prop) → Prop
  | 0, _, _, _, _ => False
  | n + 1, v1, v2, M, Q => ((0 ≤ v1 ∧ v1 < 5) ∧ (((M 8 (Int.toNat v1)) ≤ v2 → (K2 (mm_w (v1 + 1)) M)) ∧ (v2 < (M 8 (Int.toNat v1)) → mX8_leadNow v1 v2 M (fun r1 M1 => mX8_mix r1 M1 (fun M2 => (bX8_mixLeads_12 K2 n v1 (mm_w (v2 + 1)) M2 Q))))))
def bX8_mixLeads_2 : Nat → Int → mm_M → (mm_M → Prop) → Prop
  | 0, _, _, _ => False
  | n + 1, v1, M, Q => (((M 0 9) ≤ v1 → Q M) ∧ (v1 < (M 0 9) → (∃ j, bX8_mixLeads_12 (fun v1 M => bX8_mixLeads_2 n v1 M Q) j v1 0 M Q)))
def mX8_mixLeads  (M : mm_M) (Q : mm_M → Prop) : Prop := (∃ j, bX8_mixLeads_2 j 0 M Q)
def fX8_mixLeads : mm_F := fun as M Q => match as with
  | [.inr (.inr c0)] => mm_chk (Nat.beq c0 0) (mX8_mixLeads M (fun M => Q none M))
  | _ => False
def bX8_mixLanes_66 : Nat → Int → mm_M → (mm_M → Prop) → Prop
  | 0, _, _, _ => False
  | n + 1, v1, M, Q => (((3 : Int) ≤ v1 → Q M) ∧ (v1 < 3 → mX8_totalNow v1 M (fun r1 M1 => mX8_mix r1 M1 (fun M2 => (bX8_mixLanes_66 n (mm_w (v1 + 1)) M2 Q)))))
def bX8_mixLanes_43 : Nat → Int → mm_M → (mm_M → Prop) → Prop
  | 0, _, _, _ => False
  | n + 1, v1, M, Q => (((2 : Int) ≤ v1 → (∃ j, bX8_mixLanes_66 j 0 M Q)) ∧ (v1 < 2 → mX8_levelNow v1 M (fun r1 M1 => mX8_mix r1 M1 (fun M2 => (bX8_mixLanes_43 n (mm_w (v1 + 1)) M2 Q)))))
def bX8_mixLanes_2 : Nat → Int → mm_M → (mm_M → Prop) → Prop
  | 0, _, _, _ => False
  | n + 1, v1, M, Q => (((mm_w ((8 : Int) * (M 0 18))) ≤ v1 → (∃ j, bX8_mixLanes_43 j 0 M Q)) ∧ (v1 < (mm_w ((8 : Int) * (M 0 18))) → (¬ (8 : Int) = 0 ∧ (¬ (2 : Int) = 0 ∧ (¬ (8 : Int) = 0 ∧ (¬ (2 : Int) = 0 ∧ mX8_flowNow (mm_div (mm_rem v1 (8 : Int)) (2 : Int)) (mm_div v1 (8 : Int)) (mm_rem v1 (2 : Int)) M (fun r1 M1 => mX8_mix r1 M1 (fun M2 => (bX8_mixLanes_2 n (mm_w (v1 + 1)) M2 Q)))))))))
def mX8_mixLanes  (M : mm_M) (Q : mm_M → Prop) : Prop := (∃ j, bX8_mixLanes_2 j 0 M Q)
def fX8_mixLanes : mm_F := fun as M Q => match as with
  | [.inr (.inr c0)] => mm_chk (Nat.beq c0 0) (mX8_mixLanes M (fun M => Q none M))
  | _ => False
def bX8_digest_73 : Nat → Int → mm_M → (Int → mm_M → Prop) → Prop
  | 0, _, _, _ => False
  | n + 1, v1, M, Q => (((7 : Int) ≤ v1 → Q (M 0 56) M) ∧ (v1 < 7 → mX8_howMany v1 M (fun r1 M1 => mX8_mix r1 M1 (fun M2 => (bX8_digest_73 n (mm_w (v1 + 1)) M2 Q)))))
def bX8_digest_46 : Nat → Int → mm_M → (Int → mm_M → Prop) → Prop
  | 0, _, _, _ => False
  | n + 1, v1, M, Q => (((M 0 23) ≤ v1 → (∃ j, bX8_digest_73 j 0 M Q)) ∧ (v1 < (M 0 23) → ((0 ≤ v1 ∧ v1 < 92) ∧ mX8_mix (M 14 (Int.toNat v1)) M (fun M1 => (bX8_digest_46 n (mm_w (v1 + 1)) M1 Q)))))
def bX8_digest_29  (M : mm_M) (Q : Int → mm_M → Prop) : Prop := mX8_mixLeads M (fun M1 => (((M1 0 18) ≤ 0 → (∃ j, bX8_digest_46 j 0 M1 Q)) ∧ ((0 : Int) < (M1 0 18) → mX8_mixLanes M1 (fun M2 => (∃ j, bX8_digest_46 j 0 M2 Q)))))
def mX8_digest  (M : mm_M) (Q : Int → mm_M → Prop) : Prop := mX8_isNet (mm_up M 0 56 1543) (fun r1 M1 => ((r1 = 0 → mX8_isCounted M1 (fun r2 M2 => ((r2 = 0 → (bX8_digest_29 M2 Q)) ∧ (¬ r2 = 0 → mX8_mixSets M2 (fun M3 => (bX8_digest_29 M3 Q)))))) ∧ (¬ r1 = 0 → mX8_mixNet M1 (fun M4 => mX8_isCounted M4 (fun r5 M5 => ((r5 = 0 → (bX8_digest_29 M5 Q)) ∧ (¬ r5 = 0 → mX8_mixSets M5 (fun M6 => (bX8_digest_29 M6 Q)))))))))
def fX8_digest : mm_F := fun as M Q => match as with
  | [.inr (.inr c0)] => mm_chk (Nat.beq c0 0) (mX8_digest M (fun r M => Q (some (.inr (.inl r))) M))
  | _ => False
