section REL
variable {AK : (Nat → Int32) → (Nat → Int32) → Prop} {tc : Nat → Nat → Int32} {tr : Nat → Int32} {nar nam : Int32} {st st2 x : Nat → Int32} {n : Nat → Nat} {a b m : Nat} {y : Int32}
theorem R_tex (R : RelN AK tc tr nar nam st n a b) (hs : ∀ k, k < 1951 → ¬ (40 ≤ k ∧ k < 244) → st2 k = st k) (h : rTex x y st2) : RelN AK (va_up tc 1 x) (va_up tr 1 y) nar nam st2 n a b := by
  obtain ⟨R0, R1, R2, R3, R4, R5, R6, R7, R8, R9, R10, R11, R12, R13⟩ := R
  exact ⟨rT_frame R0 (fun k h1 h2 => hs k (by omega) (by omega)) (hs 0 (by omega) (by omega)),
    h,
    rAct_frame R2 (fun k h1 h2 => hs k (by omega) (by omega)) (hs 1 (by omega) (by omega)),
    rT_frame R3 (fun k h1 h2 => hs k (by omega) (by omega)) (hs 2 (by omega) (by omega)),
    rT_frame R4 (fun k h1 h2 => hs k (by omega) (by omega)) (hs 3 (by omega) (by omega)),
    rT_frame R5 (fun k h1 h2 => hs k (by omega) (by omega)) (hs 4 (by omega) (by omega)),
    rT_frame R6 (fun k h1 h2 => hs k (by omega) (by omega)) (hs 5 (by omega) (by omega)),
    rT_frame R7 (fun k h1 h2 => hs k (by omega) (by omega)) (hs 6 (by omega) (by omega)),
    rT_frame R8 (fun k h1 h2 => hs k (by omega) (by omega)) (hs 7 (by omega) (by omega)),
    rT_frame R9 (fun k h1 h2 => hs k (by omega) (by omega)) (hs 8 (by omega) (by omega)),
    rT_frame R10 (fun k h1 h2 => hs k (by omega) (by omega)) (hs 9 (by omega) (by omega)),
    rT_frame R11 (fun k h1 h2 => hs k (by omega) (by omega)) (hs 10 (by omega) (by omega)),
    rPri_frame R12 (fun k h1 h2 => hs k (by omega) (by omega)),
    rNum_frame R13 (hs 11 (by omega) (by omega)) (hs 12 (by omega) (by omega))⟩
theorem R_act (R : RelN AK tc tr nar nam st n a b) (hs : ∀ k, k < 1951 → ¬ (244 ≤ k ∧ k < 1092) → k ≠ 1 → st2 k = st k) (h : rAct AK x y st2 m) : RelN AK (va_up tc 2 x) (va_up tr 2 y) nar nam st2 (fun k => if k = 1 then m else n k) a b := by
  obtain ⟨R0, R1, R2, R3, R4, R5, R6, R7, R8, R9, R10, R11, R12, R13⟩ := R
  exact ⟨rT_frame R0 (fun k h1 h2 => hs k (by omega) (by omega) (by omega)) (hs 0 (by omega) (by omega) (by omega)),
    rTex_frame R1 (fun k h1 h2 => hs k (by omega) (by omega) (by omega)),
    h,
    rT_frame R3 (fun k h1 h2 => hs k (by omega) (by omega) (by omega)) (hs 2 (by omega) (by omega) (by omega)),
    rT_frame R4 (fun k h1 h2 => hs k (by omega) (by omega) (by omega)) (hs 3 (by omega) (by omega) (by omega)),
    rT_frame R5 (fun k h1 h2 => hs k (by omega) (by omega) (by omega)) (hs 4 (by omega) (by omega) (by omega)),
    rT_frame R6 (fun k h1 h2 => hs k (by omega) (by omega) (by omega)) (hs 5 (by omega) (by omega) (by omega)),
    rT_frame R7 (fun k h1 h2 => hs k (by omega) (by omega) (by omega)) (hs 6 (by omega) (by omega) (by omega)),
    rT_frame R8 (fun k h1 h2 => hs k (by omega) (by omega) (by omega)) (hs 7 (by omega) (by omega) (by omega)),
    rT_frame R9 (fun k h1 h2 => hs k (by omega) (by omega) (by omega)) (hs 8 (by omega) (by omega) (by omega)),
    rT_frame R10 (fun k h1 h2 => hs k (by omega) (by omega) (by omega)) (hs 9 (by omega) (by omega) (by omega)),
    rT_frame R11 (fun k h1 h2 => hs k (by omega) (by omega) (by omega)) (hs 10 (by omega) (by omega) (by omega)),
    rPri_frame R12 (fun k h1 h2 => hs k (by omega) (by omega) (by omega)),
    rNum_frame R13 (hs 11 (by omega) (by omega) (by omega)) (hs 12 (by omega) (by omega) (by omega))⟩
theorem R_deb (R : RelN AK tc tr nar nam st n a b) (hs : ∀ k, k < 1951 → ¬ (1092 ≤ k ∧ k < 1372) → k ≠ 2 → st2 k = st k) (h : rT 40 7 7 1092 2 (qDeb (n 0)) x y st2 m) (hm : n 2 ≤ m) : RelN AK (va_up tc 3 x) (va_up tr 3 y) nar nam st2 (fun k => if k = 2 then m else n k) a b := by
  obtain ⟨R0, R1, R2, R3, R4, R5, R6, R7, R8, R9, R10, R11, R12, R13⟩ := R
  exact ⟨rT_frame R0 (fun k h1 h2 => hs k (by omega) (by omega) (by omega)) (hs 0 (by omega) (by omega) (by omega)),
    rTex_frame R1 (fun k h1 h2 => hs k (by omega) (by omega) (by omega)),
    rAct_frame R2 (fun k h1 h2 => hs k (by omega) (by omega) (by omega)) (hs 1 (by omega) (by omega) (by omega)),
    h,
    rT_mono (rT_frame R4 (fun k h1 h2 => hs k (by omega) (by omega) (by omega)) (hs 3 (by omega) (by omega) (by omega))) (fun f ⟨d, s, x, z1, z⟩ => ⟨d, s, x, Nat.lt_of_lt_of_le z1 hm, z⟩),
    rT_frame R5 (fun k h1 h2 => hs k (by omega) (by omega) (by omega)) (hs 4 (by omega) (by omega) (by omega)),
    rT_frame R6 (fun k h1 h2 => hs k (by omega) (by omega) (by omega)) (hs 5 (by omega) (by omega) (by omega)),
    rT_frame R7 (fun k h1 h2 => hs k (by omega) (by omega) (by omega)) (hs 6 (by omega) (by omega) (by omega)),
    rT_frame R8 (fun k h1 h2 => hs k (by omega) (by omega) (by omega)) (hs 7 (by omega) (by omega) (by omega)),
    rT_frame R9 (fun k h1 h2 => hs k (by omega) (by omega) (by omega)) (hs 8 (by omega) (by omega) (by omega)),
    rT_frame R10 (fun k h1 h2 => hs k (by omega) (by omega) (by omega)) (hs 9 (by omega) (by omega) (by omega)),
    rT_frame R11 (fun k h1 h2 => hs k (by omega) (by omega) (by omega)) (hs 10 (by omega) (by omega) (by omega)),
    rPri_frame R12 (fun k h1 h2 => hs k (by omega) (by omega) (by omega)),
    rNum_frame R13 (hs 11 (by omega) (by omega) (by omega)) (hs 12 (by omega) (by omega) (by omega))⟩
theorem R_pay (R : RelN AK tc tr nar nam st n a b) (hs : ∀ k, k < 1951 → ¬ (1372 ≤ k ∧ k < 1552) → k ≠ 3 → st2 k = st k) (h : rT 60 3 3 1372 3 (qPay (n 2)) x y st2 m) : RelN AK (va_up tc 4 x) (va_up tr 4 y) nar nam st2 (fun k => if k = 3 then m else n k) a b := by
  obtain ⟨R0, R1, R2, R3, R4, R5, R6, R7, R8, R9, R10, R11, R12, R13⟩ := R
  exact ⟨rT_frame R0 (fun k h1 h2 => hs k (by omega) (by omega) (by omega)) (hs 0 (by omega) (by omega) (by omega)),
    rTex_frame R1 (fun k h1 h2 => hs k (by omega) (by omega) (by omega)),
    rAct_frame R2 (fun k h1 h2 => hs k (by omega) (by omega) (by omega)) (hs 1 (by omega) (by omega) (by omega)),
    rT_frame R3 (fun k h1 h2 => hs k (by omega) (by omega) (by omega)) (hs 2 (by omega) (by omega) (by omega)),
    h,
    rT_frame R5 (fun k h1 h2 => hs k (by omega) (by omega) (by omega)) (hs 4 (by omega) (by omega) (by omega)),
    rT_frame R6 (fun k h1 h2 => hs k (by omega) (by omega) (by omega)) (hs 5 (by omega) (by omega) (by omega)),
    rT_frame R7 (fun k h1 h2 => hs k (by omega) (by omega) (by omega)) (hs 6 (by omega) (by omega) (by omega)),
    rT_frame R8 (fun k h1 h2 => hs k (by omega) (by omega) (by omega)) (hs 7 (by omega) (by omega) (by omega)),
    rT_frame R9 (fun k h1 h2 => hs k (by omega) (by omega) (by omega)) (hs 8 (by omega) (by omega) (by omega)),
    rT_frame R10 (fun k h1 h2 => hs k (by omega) (by omega) (by omega)) (hs 9 (by omega) (by omega) (by omega)),
    rT_frame R11 (fun k h1 h2 => hs k (by omega) (by omega) (by omega)) (hs 10 (by omega) (by omega) (by omega)),
    rPri_frame R12 (fun k h1 h2 => hs k (by omega) (by omega) (by omega)),
    rNum_frame R13 (hs 11 (by omega) (by omega) (by omega)) (hs 12 (by omega) (by omega) (by omega))⟩
theorem R_pur (R : RelN AK tc tr nar nam st n a b) (hs : ∀ k, k < 1951 → ¬ (1552 ≤ k ∧ k < 1591) → k ≠ 4 → st2 k = st k) (h : rT 3 13 13 1552 4 (qPur (n 0)) x y st2 m) : RelN AK (va_up tc 5 x) (va_up tr 5 y) nar nam st2 (fun k => if k = 4 then m else n k) a b := by
  obtain ⟨R0, R1, R2, R3, R4, R5, R6, R7, R8, R9, R10, R11, R12, R13⟩ := R
  exact ⟨rT_frame R0 (fun k h1 h2 => hs k (by omega) (by omega) (by omega)) (hs 0 (by omega) (by omega) (by omega)),
    rTex_frame R1 (fun k h1 h2 => hs k (by omega) (by omega) (by omega)),
    rAct_frame R2 (fun k h1 h2 => hs k (by omega) (by omega) (by omega)) (hs 1 (by omega) (by omega) (by omega)),
    rT_frame R3 (fun k h1 h2 => hs k (by omega) (by omega) (by omega)) (hs 2 (by omega) (by omega) (by omega)),
    rT_frame R4 (fun k h1 h2 => hs k (by omega) (by omega) (by omega)) (hs 3 (by omega) (by omega) (by omega)),
    h,
    rT_frame R6 (fun k h1 h2 => hs k (by omega) (by omega) (by omega)) (hs 5 (by omega) (by omega) (by omega)),
    rT_frame R7 (fun k h1 h2 => hs k (by omega) (by omega) (by omega)) (hs 6 (by omega) (by omega) (by omega)),
    rT_frame R8 (fun k h1 h2 => hs k (by omega) (by omega) (by omega)) (hs 7 (by omega) (by omega) (by omega)),
    rT_frame R9 (fun k h1 h2 => hs k (by omega) (by omega) (by omega)) (hs 8 (by omega) (by omega) (by omega)),
    rT_frame R10 (fun k h1 h2 => hs k (by omega) (by omega) (by omega)) (hs 9 (by omega) (by omega) (by omega)),
    rT_frame R11 (fun k h1 h2 => hs k (by omega) (by omega) (by omega)) (hs 10 (by omega) (by omega) (by omega)),
    rPri_frame R12 (fun k h1 h2 => hs k (by omega) (by omega) (by omega)),
    rNum_frame R13 (hs 11 (by omega) (by omega) (by omega)) (hs 12 (by omega) (by omega) (by omega))⟩
theorem R_gat (R : RelN AK tc tr nar nam st n a b) (hs : ∀ k, k < 1951 → ¬ (1591 ≤ k ∧ k < 1597) → k ≠ 5 → st2 k = st k) (h : rT 6 1 1 1591 5 (fun _ => True) x y st2 m) : RelN AK (va_up tc 6 x) (va_up tr 6 y) nar nam st2 (fun k => if k = 5 then m else n k) a b := by
  obtain ⟨R0, R1, R2, R3, R4, R5, R6, R7, R8, R9, R10, R11, R12, R13⟩ := R
  exact ⟨rT_frame R0 (fun k h1 h2 => hs k (by omega) (by omega) (by omega)) (hs 0 (by omega) (by omega) (by omega)),
    rTex_frame R1 (fun k h1 h2 => hs k (by omega) (by omega) (by omega)),
    rAct_frame R2 (fun k h1 h2 => hs k (by omega) (by omega) (by omega)) (hs 1 (by omega) (by omega) (by omega)),
    rT_frame R3 (fun k h1 h2 => hs k (by omega) (by omega) (by omega)) (hs 2 (by omega) (by omega) (by omega)),
    rT_frame R4 (fun k h1 h2 => hs k (by omega) (by omega) (by omega)) (hs 3 (by omega) (by omega) (by omega)),
    rT_frame R5 (fun k h1 h2 => hs k (by omega) (by omega) (by omega)) (hs 4 (by omega) (by omega) (by omega)),
    h,
    rT_frame R7 (fun k h1 h2 => hs k (by omega) (by omega) (by omega)) (hs 6 (by omega) (by omega) (by omega)),
    rT_frame R8 (fun k h1 h2 => hs k (by omega) (by omega) (by omega)) (hs 7 (by omega) (by omega) (by omega)),
    rT_frame R9 (fun k h1 h2 => hs k (by omega) (by omega) (by omega)) (hs 8 (by omega) (by omega) (by omega)),
    rT_frame R10 (fun k h1 h2 => hs k (by omega) (by omega) (by omega)) (hs 9 (by omega) (by omega) (by omega)),
    rT_frame R11 (fun k h1 h2 => hs k (by omega) (by omega) (by omega)) (hs 10 (by omega) (by omega) (by omega)),
    rPri_frame R12 (fun k h1 h2 => hs k (by omega) (by omega) (by omega)),
    rNum_frame R13 (hs 11 (by omega) (by omega) (by omega)) (hs 12 (by omega) (by omega) (by omega))⟩
theorem R_sto (R : RelN AK tc tr nar nam st n a b) (hs : ∀ k, k < 1951 → ¬ (1597 ≤ k ∧ k < 1633) → k ≠ 6 → st2 k = st k) (h : rT 12 3 3 1597 6 qSto x y st2 m) : RelN AK (va_up tc 7 x) (va_up tr 7 y) nar nam st2 (fun k => if k = 6 then m else n k) a b := by
  obtain ⟨R0, R1, R2, R3, R4, R5, R6, R7, R8, R9, R10, R11, R12, R13⟩ := R
  exact ⟨rT_frame R0 (fun k h1 h2 => hs k (by omega) (by omega) (by omega)) (hs 0 (by omega) (by omega) (by omega)),
    rTex_frame R1 (fun k h1 h2 => hs k (by omega) (by omega) (by omega)),
    rAct_frame R2 (fun k h1 h2 => hs k (by omega) (by omega) (by omega)) (hs 1 (by omega) (by omega) (by omega)),
    rT_frame R3 (fun k h1 h2 => hs k (by omega) (by omega) (by omega)) (hs 2 (by omega) (by omega) (by omega)),
    rT_frame R4 (fun k h1 h2 => hs k (by omega) (by omega) (by omega)) (hs 3 (by omega) (by omega) (by omega)),
    rT_frame R5 (fun k h1 h2 => hs k (by omega) (by omega) (by omega)) (hs 4 (by omega) (by omega) (by omega)),
    rT_frame R6 (fun k h1 h2 => hs k (by omega) (by omega) (by omega)) (hs 5 (by omega) (by omega) (by omega)),
    h,
    rT_frame R8 (fun k h1 h2 => hs k (by omega) (by omega) (by omega)) (hs 7 (by omega) (by omega) (by omega)),
    rT_frame R9 (fun k h1 h2 => hs k (by omega) (by omega) (by omega)) (hs 8 (by omega) (by omega) (by omega)),
    rT_frame R10 (fun k h1 h2 => hs k (by omega) (by omega) (by omega)) (hs 9 (by omega) (by omega) (by omega)),
    rT_frame R11 (fun k h1 h2 => hs k (by omega) (by omega) (by omega)) (hs 10 (by omega) (by omega) (by omega)),
    rPri_frame R12 (fun k h1 h2 => hs k (by omega) (by omega) (by omega)),
    rNum_frame R13 (hs 11 (by omega) (by omega) (by omega)) (hs 12 (by omega) (by omega) (by omega))⟩
theorem R_tol (R : RelN AK tc tr nar nam st n a b) (hs : ∀ k, k < 1951 → ¬ (1633 ≤ k ∧ k < 1753) → k ≠ 7 → st2 k = st k) (h : rT 40 3 3 1633 7 (qTol b) x y st2 m) : RelN AK (va_up tc 8 x) (va_up tr 8 y) nar nam st2 (fun k => if k = 7 then m else n k) a b := by
  obtain ⟨R0, R1, R2, R3, R4, R5, R6, R7, R8, R9, R10, R11, R12, R13⟩ := R
  exact ⟨rT_frame R0 (fun k h1 h2 => hs k (by omega) (by omega) (by omega)) (hs 0 (by omega) (by omega) (by omega)),
    rTex_frame R1 (fun k h1 h2 => hs k (by omega) (by omega) (by omega)),
    rAct_frame R2 (fun k h1 h2 => hs k (by omega) (by omega) (by omega)) (hs 1 (by omega) (by omega) (by omega)),
    rT_frame R3 (fun k h1 h2 => hs k (by omega) (by omega) (by omega)) (hs 2 (by omega) (by omega) (by omega)),
    rT_frame R4 (fun k h1 h2 => hs k (by omega) (by omega) (by omega)) (hs 3 (by omega) (by omega) (by omega)),
    rT_frame R5 (fun k h1 h2 => hs k (by omega) (by omega) (by omega)) (hs 4 (by omega) (by omega) (by omega)),
    rT_frame R6 (fun k h1 h2 => hs k (by omega) (by omega) (by omega)) (hs 5 (by omega) (by omega) (by omega)),
    rT_frame R7 (fun k h1 h2 => hs k (by omega) (by omega) (by omega)) (hs 6 (by omega) (by omega) (by omega)),
    h,
    rT_frame R9 (fun k h1 h2 => hs k (by omega) (by omega) (by omega)) (hs 8 (by omega) (by omega) (by omega)),
    rT_frame R10 (fun k h1 h2 => hs k (by omega) (by omega) (by omega)) (hs 9 (by omega) (by omega) (by omega)),
    rT_frame R11 (fun k h1 h2 => hs k (by omega) (by omega) (by omega)) (hs 10 (by omega) (by omega) (by omega)),
    rPri_frame R12 (fun k h1 h2 => hs k (by omega) (by omega) (by omega)),
    rNum_frame R13 (hs 11 (by omega) (by omega) (by omega)) (hs 12 (by omega) (by omega) (by omega))⟩
theorem R_let (R : RelN AK tc tr nar nam st n a b) (hs : ∀ k, k < 1951 → ¬ (1753 ≤ k ∧ k < 1903) → k ≠ 8 → st2 k = st k) (h : rT 30 5 5 1753 8 (qLet (n 0)) x y st2 m) : RelN AK (va_up tc 9 x) (va_up tr 9 y) nar nam st2 (fun k => if k = 8 then m else n k) a b := by
  obtain ⟨R0, R1, R2, R3, R4, R5, R6, R7, R8, R9, R10, R11, R12, R13⟩ := R
  exact ⟨rT_frame R0 (fun k h1 h2 => hs k (by omega) (by omega) (by omega)) (hs 0 (by omega) (by omega) (by omega)),
    rTex_frame R1 (fun k h1 h2 => hs k (by omega) (by omega) (by omega)),
    rAct_frame R2 (fun k h1 h2 => hs k (by omega) (by omega) (by omega)) (hs 1 (by omega) (by omega) (by omega)),
    rT_frame R3 (fun k h1 h2 => hs k (by omega) (by omega) (by omega)) (hs 2 (by omega) (by omega) (by omega)),
    rT_frame R4 (fun k h1 h2 => hs k (by omega) (by omega) (by omega)) (hs 3 (by omega) (by omega) (by omega)),
    rT_frame R5 (fun k h1 h2 => hs k (by omega) (by omega) (by omega)) (hs 4 (by omega) (by omega) (by omega)),
    rT_frame R6 (fun k h1 h2 => hs k (by omega) (by omega) (by omega)) (hs 5 (by omega) (by omega) (by omega)),
    rT_frame R7 (fun k h1 h2 => hs k (by omega) (by omega) (by omega)) (hs 6 (by omega) (by omega) (by omega)),
    rT_frame R8 (fun k h1 h2 => hs k (by omega) (by omega) (by omega)) (hs 7 (by omega) (by omega) (by omega)),
    h,
    rT_frame R10 (fun k h1 h2 => hs k (by omega) (by omega) (by omega)) (hs 9 (by omega) (by omega) (by omega)),
    rT_frame R11 (fun k h1 h2 => hs k (by omega) (by omega) (by omega)) (hs 10 (by omega) (by omega) (by omega)),
    rPri_frame R12 (fun k h1 h2 => hs k (by omega) (by omega) (by omega)),
    rNum_frame R13 (hs 11 (by omega) (by omega) (by omega)) (hs 12 (by omega) (by omega) (by omega))⟩
theorem R_men (R : RelN AK tc tr nar nam st n a b) (hs : ∀ k, k < 1951 → ¬ (1903 ≤ k ∧ k < 1933) → k ≠ 9 → st2 k = st k) (h : rT 10 3 3 1903 9 qMen x y st2 m) : RelN AK (va_up tc 10 x) (va_up tr 10 y) nar nam st2 (fun k => if k = 9 then m else n k) a b := by
  obtain ⟨R0, R1, R2, R3, R4, R5, R6, R7, R8, R9, R10, R11, R12, R13⟩ := R
  exact ⟨rT_frame R0 (fun k h1 h2 => hs k (by omega) (by omega) (by omega)) (hs 0 (by omega) (by omega) (by omega)),
    rTex_frame R1 (fun k h1 h2 => hs k (by omega) (by omega) (by omega)),
    rAct_frame R2 (fun k h1 h2 => hs k (by omega) (by omega) (by omega)) (hs 1 (by omega) (by omega) (by omega)),
    rT_frame R3 (fun k h1 h2 => hs k (by omega) (by omega) (by omega)) (hs 2 (by omega) (by omega) (by omega)),
    rT_frame R4 (fun k h1 h2 => hs k (by omega) (by omega) (by omega)) (hs 3 (by omega) (by omega) (by omega)),
    rT_frame R5 (fun k h1 h2 => hs k (by omega) (by omega) (by omega)) (hs 4 (by omega) (by omega) (by omega)),
    rT_frame R6 (fun k h1 h2 => hs k (by omega) (by omega) (by omega)) (hs 5 (by omega) (by omega) (by omega)),
    rT_frame R7 (fun k h1 h2 => hs k (by omega) (by omega) (by omega)) (hs 6 (by omega) (by omega) (by omega)),
    rT_frame R8 (fun k h1 h2 => hs k (by omega) (by omega) (by omega)) (hs 7 (by omega) (by omega) (by omega)),
    rT_frame R9 (fun k h1 h2 => hs k (by omega) (by omega) (by omega)) (hs 8 (by omega) (by omega) (by omega)),
    h,
    rT_frame R11 (fun k h1 h2 => hs k (by omega) (by omega) (by omega)) (hs 10 (by omega) (by omega) (by omega)),
    rPri_frame R12 (fun k h1 h2 => hs k (by omega) (by omega) (by omega)),
    rNum_frame R13 (hs 11 (by omega) (by omega) (by omega)) (hs 12 (by omega) (by omega) (by omega))⟩
theorem R_loa (R : RelN AK tc tr nar nam st n a b) (hs : ∀ k, k < 1951 → ¬ (1933 ≤ k ∧ k < 1951) → k ≠ 10 → st2 k = st k) (h : rT 6 3 3 1933 10 (qLoa (n 0)) x y st2 m) : RelN AK (va_up tc 11 x) (va_up tr 11 y) nar nam st2 (fun k => if k = 10 then m else n k) a b := by
  obtain ⟨R0, R1, R2, R3, R4, R5, R6, R7, R8, R9, R10, R11, R12, R13⟩ := R
  exact ⟨rT_frame R0 (fun k h1 h2 => hs k (by omega) (by omega) (by omega)) (hs 0 (by omega) (by omega) (by omega)),
    rTex_frame R1 (fun k h1 h2 => hs k (by omega) (by omega) (by omega)),
    rAct_frame R2 (fun k h1 h2 => hs k (by omega) (by omega) (by omega)) (hs 1 (by omega) (by omega) (by omega)),
    rT_frame R3 (fun k h1 h2 => hs k (by omega) (by omega) (by omega)) (hs 2 (by omega) (by omega) (by omega)),
    rT_frame R4 (fun k h1 h2 => hs k (by omega) (by omega) (by omega)) (hs 3 (by omega) (by omega) (by omega)),
    rT_frame R5 (fun k h1 h2 => hs k (by omega) (by omega) (by omega)) (hs 4 (by omega) (by omega) (by omega)),
    rT_frame R6 (fun k h1 h2 => hs k (by omega) (by omega) (by omega)) (hs 5 (by omega) (by omega) (by omega)),
    rT_frame R7 (fun k h1 h2 => hs k (by omega) (by omega) (by omega)) (hs 6 (by omega) (by omega) (by omega)),
    rT_frame R8 (fun k h1 h2 => hs k (by omega) (by omega) (by omega)) (hs 7 (by omega) (by omega) (by omega)),
    rT_frame R9 (fun k h1 h2 => hs k (by omega) (by omega) (by omega)) (hs 8 (by omega) (by omega) (by omega)),
    rT_frame R10 (fun k h1 h2 => hs k (by omega) (by omega) (by omega)) (hs 9 (by omega) (by omega) (by omega)),
    h,
    rPri_frame R12 (fun k h1 h2 => hs k (by omega) (by omega) (by omega)),
    rNum_frame R13 (hs 11 (by omega) (by omega) (by omega)) (hs 12 (by omega) (by omega) (by omega))⟩
theorem R_pri (R : RelN AK tc tr nar nam st n a b) (hs : ∀ k, k < 1951 → ¬ (13 ≤ k ∧ k < 16) → st2 k = st k) (h : rPri x y st2) : RelN AK (va_up tc 12 x) (va_up tr 12 y) nar nam st2 n a b := by
  obtain ⟨R0, R1, R2, R3, R4, R5, R6, R7, R8, R9, R10, R11, R12, R13⟩ := R
  exact ⟨rT_frame R0 (fun k h1 h2 => hs k (by omega) (by omega)) (hs 0 (by omega) (by omega)),
    rTex_frame R1 (fun k h1 h2 => hs k (by omega) (by omega)),
    rAct_frame R2 (fun k h1 h2 => hs k (by omega) (by omega)) (hs 1 (by omega) (by omega)),
    rT_frame R3 (fun k h1 h2 => hs k (by omega) (by omega)) (hs 2 (by omega) (by omega)),
    rT_frame R4 (fun k h1 h2 => hs k (by omega) (by omega)) (hs 3 (by omega) (by omega)),
    rT_frame R5 (fun k h1 h2 => hs k (by omega) (by omega)) (hs 4 (by omega) (by omega)),
    rT_frame R6 (fun k h1 h2 => hs k (by omega) (by omega)) (hs 5 (by omega) (by omega)),
    rT_frame R7 (fun k h1 h2 => hs k (by omega) (by omega)) (hs 6 (by omega) (by omega)),
    rT_frame R8 (fun k h1 h2 => hs k (by omega) (by omega)) (hs 7 (by omega) (by omega)),
    rT_frame R9 (fun k h1 h2 => hs k (by omega) (by omega)) (hs 8 (by omega) (by omega)),
    rT_frame R10 (fun k h1 h2 => hs k (by omega) (by omega)) (hs 9 (by omega) (by omega)),
    rT_frame R11 (fun k h1 h2 => hs k (by omega) (by omega)) (hs 10 (by omega) (by omega)),
    h,
    rNum_frame R13 (hs 11 (by omega) (by omega)) (hs 12 (by omega) (by omega))⟩
end REL
