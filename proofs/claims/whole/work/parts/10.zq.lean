/-! PURE LAWS 32: how many orders, from both ends -/
theorem sumN_mul {f : Nat → Nat} {y : Nat} : ∀ {n : Nat}, sumN f n * y = sumN (fun a => f a * y) n
  | 0 => Nat.zero_mul y
  | n + 1 => by
    show (sumN f n + f n) * y = sumN (fun a => f a * y) n + f n * y
    rw [Nat.add_mul, sumN_mul]
theorem sumN_0 {f : Nat → Nat} : ∀ {n : Nat}, (∀ i, i < n → f i = 0) → sumN f n = 0
  | 0, _ => rfl
  | n + 1, h => by
    show sumN f n + f n = 0
    rw [sumN_0 (fun i hi => h i (by omega)), h n (by omega)]
theorem ite_mul0 {c : Prop} [Decidable c] {x y : Nat} : (if c then x else 0) * y = if c then x * y else 0 := by
  by_cases h : c
  · rw [if_pos h, if_pos h]
  · rw [if_neg h, if_neg h, Nat.zero_mul]
theorem mul_ite0 {c : Prop} [Decidable c] {x y : Nat} : y * (if c then x else 0) = if c then y * x else 0 := by
  by_cases h : c
  · rw [if_pos h, if_pos h]
  · rw [if_neg h, if_neg h, Nat.mul_zero]
theorem pc_zero {s : Nat} (hs : s < 1024) (h : pc s = 0) : s = 0 := by
  by_cases e : s = 0
  · exact e
  · obtain ⟨i, i1, i2⟩ := some_bit (n := 10) (by omega) hs
    have := pc_clr hs i1 i2
    omega
section ORD
variable (N : Nat) (bef : Nat → Nat)
/-- in how many orders a set can come first -/
def Tf : Nat → Nat → Nat
  | 0, s => if s = 0 then 1 else 0
  | k + 1, s => (if s = 0 then 1 else 0) + sumN (fun a => if s.testBit a = true ∧ sub (bef a) (s - 2 ^ a) then Tf k (s - 2 ^ a) else 0) N
/-- in how many the rest can come behind it -/
def Of : Nat → Nat → Nat
  | 0, s => if s = 2 ^ N - 1 then 1 else 0
  | k + 1, s => (if s = 2 ^ N - 1 then 1 else 0) + sumN (fun a => if s.testBit a = false ∧ sub (bef a) s then Of k (s + 2 ^ a) else 0) N
end ORD
section ORE
variable {N : Nat} {bef : Nat → Nat}
theorem lt_10 {s : Nat} (hN : N ≤ 9) (hs : s < 2 ^ N) : s < 1024 := Nat.lt_of_lt_of_le hs (Nat.le_trans (Nat.pow_le_pow_right (n := 2) (by omega) hN) (by decide))
theorem add_lt {s a : Nat} (hN : N ≤ 9) (hs : s < 2 ^ N) (ha : a < N) (h : s.testBit a = false) : s + 2 ^ a < 2 ^ N := by
  have h1 : s ||| 2 ^ a < 2 ^ N := Nat.or_lt_two_pow hs (Nat.pow_lt_pow_right (by omega) ha)
  rw [((B_all (lt_10 hN hs) (show a < 10 by omega)).2.2.2 h).2.2] at h1
  exact h1
theorem Tf_st (hN : N ≤ 9) : ∀ k s, s < 2 ^ N → pc s ≤ k → Tf N bef (k + 1) s = Tf N bef k s := by
  intro k
  induction k with
  | zero =>
    intro s hs hp
    have h0 := pc_zero (lt_10 hN hs) (by omega)
    subst h0
    show (if 0 = 0 then 1 else 0) + sumN _ N = (if 0 = 0 then 1 else 0)
    rw [sumN_0 (fun i hi => if_neg (by rw [Nat.zero_testBit]; simp)), Nat.add_zero]
  | succ k ih =>
    intro s hs hp
    show (if s = 0 then 1 else 0) + sumN (fun a => if s.testBit a = true ∧ sub (bef a) (s - 2 ^ a) then Tf N bef (k + 1) (s - 2 ^ a) else 0) N = (if s = 0 then 1 else 0) + sumN (fun a => if s.testBit a = true ∧ sub (bef a) (s - 2 ^ a) then Tf N bef k (s - 2 ^ a) else 0) N
    rw [sumN_congr (fun a ha => ?_)]
    by_cases h : s.testBit a = true ∧ sub (bef a) (s - 2 ^ a)
    · rw [if_pos h, if_pos h]
      have := pc_clr (lt_10 hN hs) (show a < 10 by omega) h.1
      exact ih _ (Nat.lt_of_le_of_lt (Nat.sub_le _ _) hs) (by omega)
    · rw [if_neg h, if_neg h]
theorem Of_st (hN : N ≤ 9) : ∀ k s, s < 2 ^ N → N - pc s ≤ k → Of N bef (k + 1) s = Of N bef k s := by
  intro k
  induction k with
  | zero =>
    intro s hs hp
    have h0 := pc_full (show N ≤ 10 by omega) hs (by have := pc_N (show N ≤ 10 by omega) hs; omega)
    show (if s = 2 ^ N - 1 then 1 else 0) + sumN _ N = (if s = 2 ^ N - 1 then 1 else 0)
    rw [sumN_0 (fun i hi => if_neg (by rw [h0, all_bit]; simp [hi]))]
    omega
  | succ k ih =>
    intro s hs hp
    show (if s = 2 ^ N - 1 then 1 else 0) + sumN (fun a => if s.testBit a = false ∧ sub (bef a) s then Of N bef (k + 1) (s + 2 ^ a) else 0) N = (if s = 2 ^ N - 1 then 1 else 0) + sumN (fun a => if s.testBit a = false ∧ sub (bef a) s then Of N bef k (s + 2 ^ a) else 0) N
    rw [sumN_congr (fun a ha => ?_)]
    by_cases h : s.testBit a = false ∧ sub (bef a) s
    · rw [if_pos h, if_pos h]
      have := pc_set (lt_10 hN hs) (show a < 10 by omega) h.1
      exact ih _ (add_lt hN hs ha h.1) (by omega)
    · rw [if_neg h, if_neg h]
abbrev TT (N : Nat) (bef : Nat → Nat) (s : Nat) : Nat := Tf N bef 9 s
abbrev OO (N : Nat) (bef : Nat → Nat) (s : Nat) : Nat := Of N bef 9 s
theorem TT_eq (hN : N ≤ 9) {s : Nat} (hs : s < 2 ^ N) : TT N bef s = (if s = 0 then 1 else 0) + sumN (fun a => if s.testBit a = true ∧ sub (bef a) (s - 2 ^ a) then TT N bef (s - 2 ^ a) else 0) N := by
  have h := Tf_st (bef := bef) hN 9 s hs (by have := pc_N (show N ≤ 10 by omega) hs; omega)
  exact h.symm
theorem OO_eq (hN : N ≤ 9) {s : Nat} (hs : s < 2 ^ N) : OO N bef s = (if s = 2 ^ N - 1 then 1 else 0) + sumN (fun a => if s.testBit a = false ∧ sub (bef a) s then OO N bef (s + 2 ^ a) else 0) N := by
  have h := Of_st (bef := bef) hN 9 s hs (by omega)
  exact h.symm
theorem both_ends (hN : N ≤ 9) : TT N bef (2 ^ N - 1) = OO N bef 0 := by
  have hp : 0 < 2 ^ N := Nat.two_pow_pos N
  have hA : bsum N (fun s => TT N bef s * OO N bef s) = OO N bef 0 + sumN (fun a => bsum N (fun s => if s.testBit a = true then (if sub (bef a) (s - 2 ^ a) then TT N bef (s - 2 ^ a) * OO N bef s else 0) else 0)) N := by
    rw [bsum_congr (g := fun s => (if s = 0 then OO N bef s else 0) + sumN (fun a => if s.testBit a = true then (if sub (bef a) (s - 2 ^ a) then TT N bef (s - 2 ^ a) * OO N bef s else 0) else 0) N) (fun s hs => ?_), bsum_add, bsum_one hp, bsum_sum]
    rw [TT_eq hN hs, Nat.add_mul, ite_mul0, Nat.one_mul, sumN_mul]
    congr 1
    refine sumN_congr (fun a ha => ?_)
    rw [ite_mul0]
    by_cases h1 : s.testBit a = true <;> by_cases h2 : sub (bef a) (s - 2 ^ a)
    · rw [if_pos ⟨h1, h2⟩, if_pos h1, if_pos h2]
    · rw [if_neg (fun q => h2 q.2), if_pos h1, if_neg h2]
    · rw [if_neg (fun q => h1 q.1), if_neg h1]
    · rw [if_neg (fun q => h1 q.1), if_neg h1]
  have hB : bsum N (fun s => TT N bef s * OO N bef s) = TT N bef (2 ^ N - 1) + sumN (fun a => bsum N (fun s => if s.testBit a = true then 0 else (if sub (bef a) s then TT N bef s * OO N bef (s + 2 ^ a) else 0))) N := by
    rw [bsum_congr (g := fun s => (if s = 2 ^ N - 1 then TT N bef s else 0) + sumN (fun a => if s.testBit a = true then 0 else (if sub (bef a) s then TT N bef s * OO N bef (s + 2 ^ a) else 0)) N) (fun s hs => ?_), bsum_add, bsum_one (by omega), bsum_sum]
    rw [OO_eq hN hs, Nat.mul_add, mul_ite0, Nat.mul_one, Nat.mul_comm, sumN_mul]
    congr 1
    refine sumN_congr (fun a ha => ?_)
    rw [ite_mul0]
    by_cases h1 : s.testBit a = true
    · rw [if_neg (fun q => by rw [h1] at q; exact absurd q.1 (by decide)), if_pos h1]
    · have h1' : s.testBit a = false := by simpa using h1
      by_cases h2 : sub (bef a) s
      · rw [if_pos ⟨h1', h2⟩, if_neg h1, if_pos h2, Nat.mul_comm]
      · rw [if_neg (fun q => h2 q.2), if_neg h1, if_neg h2]
  have hS : sumN (fun a => bsum N (fun s => if s.testBit a = true then (if sub (bef a) (s - 2 ^ a) then TT N bef (s - 2 ^ a) * OO N bef s else 0) else 0)) N = sumN (fun a => bsum N (fun s => if s.testBit a = true then 0 else (if sub (bef a) s then TT N bef s * OO N bef (s + 2 ^ a) else 0))) N := by
    refine sumN_congr (fun a ha => ?_)
    rw [bsum_bit ha]
    refine bsum_congr (fun s hs => ?_)
    rw [Nat.add_sub_cancel]
  omega
theorem TT_le (hN : N ≤ 9) : ∀ k s, s < 2 ^ N → pc s ≤ k → TT N bef s ≤ 9 ^ k := by
  intro k
  induction k with
  | zero =>
    intro s hs hp
    have h0 := pc_zero (lt_10 hN hs) (by omega)
    rw [TT_eq hN hs, h0, if_pos rfl, sumN_0 (fun i hi => if_neg (by rw [Nat.zero_testBit]; simp))]
    decide
  | succ k ih =>
    intro s hs hp
    by_cases h0 : s = 0
    · subst h0
      rw [TT_eq hN hs, if_pos rfl, sumN_0 (fun i hi => if_neg (by rw [Nat.zero_testBit]; simp))]
      exact Nat.one_le_pow _ _ (by decide)
    · rw [TT_eq hN hs, if_neg h0]
      have h1 : sumN (fun a => if s.testBit a = true ∧ sub (bef a) (s - 2 ^ a) then TT N bef (s - 2 ^ a) else 0) N ≤ sumN (fun _ => 9 ^ k) N := sumN_le (fun a ha => by
        by_cases h : s.testBit a = true ∧ sub (bef a) (s - 2 ^ a)
        · rw [if_pos h]
          have := pc_clr (lt_10 hN hs) (show a < 10 by omega) h.1
          exact ih _ (Nat.lt_of_le_of_lt (Nat.sub_le _ _) hs) (by omega)
        · rw [if_neg h]; exact Nat.zero_le _)
      have h2 : ∀ m, sumN (fun _ => 9 ^ k) m = m * 9 ^ k := by
        intro m
        induction m with
        | zero => exact (Nat.zero_mul _).symm
        | succ m ih2 =>
          show sumN (fun _ => 9 ^ k) m + 9 ^ k = (m + 1) * 9 ^ k
          rw [ih2, Nat.add_mul, Nat.one_mul]
      rw [h2 N] at h1
      have h3 : N * 9 ^ k ≤ 9 * 9 ^ k := Nat.mul_le_mul_right _ hN
      rw [Nat.pow_succ, Nat.mul_comm]
      omega
theorem OO_le (hN : N ≤ 9) : ∀ k s, s < 2 ^ N → N - pc s ≤ k → OO N bef s ≤ 9 ^ k := by
  intro k
  induction k with
  | zero =>
    intro s hs hp
    have h0 := pc_full (show N ≤ 10 by omega) hs (by have := pc_N (show N ≤ 10 by omega) hs; omega)
    rw [OO_eq hN hs, if_pos h0, sumN_0 (fun i hi => if_neg (by rw [h0, all_bit]; simp [hi]))]
    decide
  | succ k ih =>
    intro s hs hp
    by_cases h0 : s = 2 ^ N - 1
    · rw [OO_eq hN hs, if_pos h0, sumN_0 (fun i hi => if_neg (by rw [h0, all_bit]; simp [hi]))]
      exact Nat.one_le_pow _ _ (by decide)
    · rw [OO_eq hN hs, if_neg h0]
      have h1 : sumN (fun a => if s.testBit a = false ∧ sub (bef a) s then OO N bef (s + 2 ^ a) else 0) N ≤ sumN (fun _ => 9 ^ k) N := sumN_le (fun a ha => by
        by_cases h : s.testBit a = false ∧ sub (bef a) s
        · rw [if_pos h]
          have := pc_set (lt_10 hN hs) (show a < 10 by omega) h.1
          exact ih _ (add_lt hN hs ha h.1) (by omega)
        · rw [if_neg h]; exact Nat.zero_le _)
      have h2 : ∀ m, sumN (fun _ => 9 ^ k) m = m * 9 ^ k := by
        intro m
        induction m with
        | zero => exact (Nat.zero_mul _).symm
        | succ m ih2 =>
          show sumN (fun _ => 9 ^ k) m + 9 ^ k = (m + 1) * 9 ^ k
          rw [ih2, Nat.add_mul, Nat.one_mul]
      rw [h2 N] at h1
      have h3 : N * 9 ^ k ≤ 9 * 9 ^ k := Nat.mul_le_mul_right _ hN
      rw [Nat.pow_succ, Nat.mul_comm]
      omega
theorem TT_b (hN : N ≤ 9) {s : Nat} (hs : s < 2 ^ N) : TT N bef s ≤ 387420489 := by
  have := TT_le (bef := bef) hN 9 s hs (by have := pc_N (show N ≤ 10 by omega) hs; omega)
  exact Nat.le_trans this (by decide)
theorem OO_b (hN : N ≤ 9) {s : Nat} (hs : s < 2 ^ N) : OO N bef s ≤ 387420489 := by
  have := OO_le (bef := bef) hN 9 s hs (by omega)
  exact Nat.le_trans this (by decide)
end ORE
