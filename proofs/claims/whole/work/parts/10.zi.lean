/-! PURE LAWS 24: sets as bits -/
def okB (s i : Nat) : Bool := decide (nI s &&& (((1 : Int32) <<< (nI i &&& 31)) ^^^ (-1 : Int32)) = nI (if s.testBit i then s - 2 ^ i else s)) && decide ((nI s >>> (nI i &&& 31)) &&& (1 : Int32) = (if s.testBit i then 1 else 0)) && (!(s.testBit i) || decide (nI s ^^^ ((1 : Int32) <<< (nI i &&& 31)) = nI (s - 2 ^ i))) && (s.testBit i || decide (nI s ||| ((1 : Int32) <<< (nI i &&& 31)) = nI (s + 2 ^ i))) && (!(s.testBit i) || (decide (2 ^ i ≤ s) && decide (s ^^^ 2 ^ i = s - 2 ^ i))) && (s.testBit i || (decide (s + 2 ^ i < 1024) && decide (s ||| 2 ^ i = s + 2 ^ i)))
theorem okB_all : ((List.range 10).all fun i => (List.range 32).all fun a => (List.range 32).all fun b => okB (32 * a + b) i) = true := by decide +kernel
theorem okB_at {s i : Nat} (hs : s < 1024) (hi : i < 10) : okB s i = true := by
  have h1 := List.all_eq_true.mp okB_all i (List.mem_range.mpr hi)
  have h2 := List.all_eq_true.mp h1 (s / 32) (List.mem_range.mpr (by omega))
  have h3 := List.all_eq_true.mp h2 (s % 32) (List.mem_range.mpr (by omega))
  rw [show 32 * (s / 32) + s % 32 = s by omega] at h3
  exact h3
theorem B_all {s i : Nat} (hs : s < 1024) (hi : i < 10) : nI s &&& (((1 : Int32) <<< (nI i &&& 31)) ^^^ (-1 : Int32)) = nI (if s.testBit i then s - 2 ^ i else s) ∧ (nI s >>> (nI i &&& 31)) &&& (1 : Int32) = (if s.testBit i then 1 else 0) ∧ (s.testBit i = true → nI s ^^^ ((1 : Int32) <<< (nI i &&& 31)) = nI (s - 2 ^ i) ∧ 2 ^ i ≤ s ∧ s ^^^ 2 ^ i = s - 2 ^ i) ∧ (s.testBit i = false → nI s ||| ((1 : Int32) <<< (nI i &&& 31)) = nI (s + 2 ^ i) ∧ s + 2 ^ i < 1024 ∧ s ||| 2 ^ i = s + 2 ^ i) := by
  have h := okB_at hs hi
  unfold okB at h
  simp only [Bool.and_eq_true, Bool.or_eq_true, Bool.not_eq_true', decide_eq_true_eq] at h
  obtain ⟨⟨⟨⟨⟨h1, h2⟩, h3⟩, h4⟩, h5⟩, h6⟩ := h
  refine ⟨h1, h2, fun e => ?_, fun e => ?_⟩
  · rw [e] at h3 h5
    exact ⟨h3.resolve_left (by decide), (h5.resolve_left (by decide)).1, (h5.resolve_left (by decide)).2⟩
  · rw [e] at h4 h6
    exact ⟨h4.resolve_left (by decide), (h6.resolve_left (by decide)).1, (h6.resolve_left (by decide)).2⟩
theorem shl1 {i : Nat} (hi : i < 11) : (1 : Int32) <<< (nI i &&& 31) = nI (2 ^ i) := by
  rcases (show i = 0 ∨ i = 1 ∨ i = 2 ∨ i = 3 ∨ i = 4 ∨ i = 5 ∨ i = 6 ∨ i = 7 ∨ i = 8 ∨ i = 9 ∨ i = 10 by omega) with rfl | rfl | rfl | rfl | rfl | rfl | rfl | rfl | rfl | rfl | rfl <;> decide
theorem pow_b {i : Nat} (hi : i ≤ 10) : 1 ≤ 2 ^ i ∧ 2 ^ i ≤ 1024 := ⟨Nat.one_le_two_pow, Nat.pow_le_pow_right (n := 2) (by omega) hi⟩
theorem clr_bit {s i j : Nat} (hs : s < 1024) (hi : i < 10) (h : s.testBit i = true) : (s - 2 ^ i).testBit j = (s.testBit j && !(decide (i = j))) := by
  rw [← ((B_all hs hi).2.2.1 h).2.2, Nat.testBit_xor, Nat.testBit_two_pow]
  by_cases e : i = j
  · subst e; rw [h]; simp
  · simp [e]
theorem set_bit {s i j : Nat} (hs : s < 1024) (hi : i < 10) (h : s.testBit i = false) : (s + 2 ^ i).testBit j = (s.testBit j || decide (i = j)) := by
  rw [← ((B_all hs hi).2.2.2 h).2.2, Nat.testBit_or, Nat.testBit_two_pow]
theorem some_bit {s n : Nat} (h0 : 0 < s) (h : s < 2 ^ n) : ∃ i, i < n ∧ s.testBit i = true := by
  by_cases he : ∃ i, i < n ∧ s.testBit i = true
  · exact he
  · exfalso
    have : s = 0 := by
      apply Nat.eq_of_testBit_eq
      intro i
      rw [Nat.zero_testBit]
      by_cases hi : i < n
      · cases hb : s.testBit i
        · rfl
        · exact absurd ⟨i, hi, hb⟩ he
      · exact Nat.testBit_lt_two_pow (Nat.lt_of_lt_of_le h (Nat.pow_le_pow_right (by omega) (by omega)))
    omega
/-- what a set sums to -/
def ssum (u : Nat → Int64) (s : Nat) : Nat → Int64
  | 0 => 0
  | i + 1 => if s.testBit i then ssum u s i + u i else ssum u s i
theorem ssum_0 (u : Nat → Int64) : ∀ n, ssum u 0 n = 0
  | 0 => rfl
  | n + 1 => by
    show (if (0 : Nat).testBit n then _ else _) = _
    rw [Nat.zero_testBit]; exact ssum_0 u n
theorem ssum_clr {u : Nat → Int64} {s i : Nat} (hs : s < 1024) (hi : i < 10) (h : s.testBit i = true) : ∀ n, ssum u s n = if i < n then ssum u (s - 2 ^ i) n + u i else ssum u (s - 2 ^ i) n
  | 0 => by rw [if_neg (by omega)]; rfl
  | n + 1 => by
    have ih := ssum_clr (u := u) hs hi h n
    have hb := clr_bit (j := n) hs hi h
    show (if s.testBit n then ssum u s n + u n else ssum u s n) = if i < n + 1 then (if (s - 2 ^ i).testBit n then ssum u (s - 2 ^ i) n + u n else ssum u (s - 2 ^ i) n) + u i else (if (s - 2 ^ i).testBit n then ssum u (s - 2 ^ i) n + u n else ssum u (s - 2 ^ i) n)
    rw [hb, ih]
    by_cases e : i = n
    · subst e
      rw [h, if_neg (Nat.lt_irrefl i), if_pos (Nat.lt_succ_self i)]
      simp
    · have e2 : (!(decide (i = n))) = true := by simp [e]
      rw [e2, Bool.and_true]
      by_cases h1 : i < n
      · rw [if_pos h1, if_pos (show i < n + 1 by omega)]
        by_cases h2 : s.testBit n = true
        · rw [if_pos h2, if_pos h2, Int64.add_assoc, Int64.add_comm (u i), ← Int64.add_assoc]
        · rw [if_neg h2, if_neg h2]
      · rw [if_neg h1, if_neg (show ¬ i < n + 1 by omega)]
