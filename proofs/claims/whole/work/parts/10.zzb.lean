/-! PURE LAWS 43: digest -/
def mixS (f : Nat → Int32) : Nat → Int64 → Int64
  | 0, s => s
  | k + 1, s => 31 * mixS f k s + (f k).toInt64
def mixG (R : Nat → Int64 → Int64) : Nat → Int64 → Int64
  | 0, s => s
  | k + 1, s => R k (mixG R k s)
theorem mixS_add (f : Nat → Int32) (a : Nat) (s : Int64) : ∀ b, mixS f (a + b) s = mixS (fun j => f (a + j)) b (mixS f a s)
  | 0 => rfl
  | b + 1 => by
    show 31 * mixS f (a + b) s + (f (a + b)).toInt64 = 31 * mixS (fun j => f (a + j)) b (mixS f a s) + (f (a + b)).toInt64
    rw [mixS_add f a s b]
theorem mixG_flat (f : Nat → Int32) (wd : Nat) (s : Int64) : ∀ n, mixG (fun i s => mixS (fun j => f (wd * i + j)) wd s) n s = mixS f (wd * n) s
  | 0 => rfl
  | n + 1 => by
    show mixS (fun j => f (wd * n + j)) wd (mixG (fun i s => mixS (fun j => f (wd * i + j)) wd s) n s) = _
    rw [mixG_flat f wd s n, Nat.mul_succ, mixS_add]
theorem mixS_congr {f g : Nat → Int32} {s : Int64} : ∀ {n}, (∀ j, j < n → f j = g j) → mixS f n s = mixS g n s
  | 0, _ => rfl
  | n + 1, h => by
    show 31 * mixS f n s + (f n).toInt64 = 31 * mixS g n s + (g n).toInt64
    rw [mixS_congr (fun j hj => h j (by omega)), h n (by omega)]
theorem mixG_congr {R T : Nat → Int64 → Int64} {s : Int64} : ∀ {n}, (∀ j s, j < n → R j s = T j s) → mixG R n s = mixG T n s
  | 0, _ => rfl
  | n + 1, h => by
    show R n (mixG R n s) = T n (mixG T n s)
    rw [mixG_congr (fun j s hj => h j s (by omega)), h n _ (by omega)]
theorem M_mixed {st : Nat → Int32} {p n : Nat} (s : Int64) (h : p + n ≤ 1951) : F_X12_mixed st s (nI p) (nI n) = some (mixS (fun j => st (p + j)) n s) := by
  have hl : ∃ t, itr (B_X12_mixed_6 (nI n) st (nI p)) FU (s, (0 : Int32)) = some t ∧ t.1 = mixS (fun j => st (p + j)) n s := by
    refine itr_fu (I := fun t => ∃ k, k ≤ n ∧ t.2 = nI k ∧ t.1 = mixS (fun j => st (p + j)) k s) (μ := fun t => n - t.2.toNatClampNeg) _ _ ⟨0, Nat.zero_le _, rfl, rfl⟩ (by dsimp only; omega) ?_
    rintro ⟨x, k'⟩ ⟨k, q1, q2, q3⟩
    dsimp only at q2 q3
    subst q2 q3
    unfold B_X12_mixed_6
    dsimp only
    by_cases h : k < n
    · left
      refine ⟨(mixS (fun j => st (p + j)) (k + 1) s, nI (k + 1)), ?_, ⟨k + 1, h, rfl, rfl⟩, ?_⟩
      · rw [if_pos (nI_lt h (by omega)), nI_add]
        exact sbind (M_at (by omega)) (by rw [lt_eq, lt_eq, nI_1]; rfl)
      · dsimp only
        rw [nI_clamp (by omega), nI_clamp (by omega)]; omega
    · right
      have e : k = n := by omega
      subst e
      exact ⟨_, by rw [if_neg (nI_nlt (Nat.le_refl _) (by omega))], rfl⟩
  obtain ⟨t, t1, t2⟩ := hl
  exact sbind t1 (congrArg some t2)
section MIX
variable {len : Nat} {cells : Nat → Int32} {rows width : Int32}
theorem C_mixRow {wd c i : Nat} {f : Nat → Int32} (s : Int64) (hc : c ≤ wd) (hw : wd < 2 ^ 31) (h : ∀ j, j < c → F_X8_get len cells rows (nI wd) (nI i) (nI j) = some (f j)) : F_X8_mixRow len cells rows (nI wd) s (nI i) (nI c) = some (mixS f c s) := by
  have hl : ∃ t, itr (B_X8_mixRow_6 (nI c) (nI wd) len cells rows (nI i)) FU (s, (0 : Int32)) = some t ∧ t.1 = mixS f c s := by
    refine itr_fu (I := fun t => ∃ k, k ≤ c ∧ t.2 = nI k ∧ t.1 = mixS f k s) (μ := fun t => c - t.2.toNatClampNeg) _ _ ⟨0, Nat.zero_le _, rfl, rfl⟩ (by dsimp only; omega) ?_
    rintro ⟨x, k'⟩ ⟨k, q1, q2, q3⟩
    dsimp only at q2 q3
    subst q2 q3
    unfold B_X8_mixRow_6
    dsimp only
    by_cases hk : k < c
    · left
      refine ⟨(mixS f (k + 1) s, nI (k + 1)), ?_, ⟨k + 1, hk, rfl, rfl⟩, ?_⟩
      · rw [if_pos (nI_lt hk (by omega)), if_pos (nI_lt (by omega) hw)]
        exact sbind (h k hk) (by rw [lt_eq, lt_eq, nI_1]; rfl)
      · dsimp only
        rw [nI_clamp (by omega), nI_clamp (by omega)]; omega
    · right
      have e : k = c := by omega
      subst e
      exact ⟨_, by rw [if_neg (nI_nlt (Nat.le_refl _) (by omega))], rfl⟩
  obtain ⟨t, t1, t2⟩ := hl
  exact sbind t1 (congrArg some t2)
theorem C_mixAll {n : Nat} {c : Int32} {R : Nat → Int64 → Int64} (s : Int64) (hr : rows = nI n) (hn : n < 2 ^ 31) (h : ∀ i s, i < n → F_X8_mixRow len cells rows width s (nI i) c = some (R i s)) : F_X8_mixAll len cells rows width s c = some (mixG R n s) := by
  have hl : ∃ t, itr (B_X8_mixAll_6 rows len cells width c) FU (s, (0 : Int32)) = some t ∧ t.1 = mixG R n s := by
    refine itr_fu (I := fun t => ∃ k, k ≤ n ∧ t.2 = nI k ∧ t.1 = mixG R k s) (μ := fun t => n - t.2.toNatClampNeg) _ _ ⟨0, Nat.zero_le _, rfl, rfl⟩ (by dsimp only; omega) ?_
    rintro ⟨x, k'⟩ ⟨k, q1, q2, q3⟩
    dsimp only at q2 q3
    subst q2 q3
    unfold B_X8_mixAll_6
    dsimp only
    by_cases hk : k < n
    · left
      refine ⟨(mixG R (k + 1) s, nI (k + 1)), ?_, ⟨k + 1, hk, rfl, rfl⟩, ?_⟩
      · rw [if_pos (by rw [hr]; exact nI_lt hk hn)]
        exact sbind (h k _ hk) (by rw [lt_eq, nI_1]; rfl)
      · dsimp only
        rw [nI_clamp (by omega), nI_clamp (by omega)]; omega
    · right
      have e : k = n := by omega
      subst e
      exact ⟨_, by rw [if_neg (by rw [hr]; exact nI_nlt (Nat.le_refl _) hn)], rfl⟩
  obtain ⟨t, t1, t2⟩ := hl
  exact sbind t1 (congrArg some t2)
theorem C_mixTexts {n : Nat} {c : Int32} {L : Nat → Int32} {R : Nat → Int64 → Int64} (s : Int64) (hr : rows = nI n) (hn : n < 2 ^ 31) (hL : ∀ i, i < n → F_X8_get len cells rows width (nI i) c = some (L i)) (h : ∀ i s, i < n → F_X8_mixRow len cells rows width s (nI i) (c + 1 + L i) = some (R i s)) : F_X8_mixTexts len cells rows width s c = some (mixG R n s) := by
  have hl : ∃ t, itr (B_X8_mixTexts_6 rows len cells width c) FU (s, (0 : Int32)) = some t ∧ t.1 = mixG R n s := by
    refine itr_fu (I := fun t => ∃ k, k ≤ n ∧ t.2 = nI k ∧ t.1 = mixG R k s) (μ := fun t => n - t.2.toNatClampNeg) _ _ ⟨0, Nat.zero_le _, rfl, rfl⟩ (by dsimp only; omega) ?_
    rintro ⟨x, k'⟩ ⟨k, q1, q2, q3⟩
    dsimp only at q2 q3
    subst q2 q3
    unfold B_X8_mixTexts_6
    dsimp only
    by_cases hk : k < n
    · left
      refine ⟨(mixG R (k + 1) s, nI (k + 1)), ?_, ⟨k + 1, hk, rfl, rfl⟩, ?_⟩
      · rw [if_pos (by rw [hr]; exact nI_lt hk hn)]
        exact sbind (hL k hk) (sbind (h k _ hk) (by rw [lt_eq, nI_1]; rfl))
      · dsimp only
        rw [nI_clamp (by omega), nI_clamp (by omega)]; omega
    · right
      have e : k = n := by omega
      subst e
      exact ⟨_, by rw [if_neg (by rw [hr]; exact nI_nlt (Nat.le_refl _) hn)], rfl⟩
  obtain ⟨t, t1, t2⟩ := hl
  exact sbind t1 (congrArg some t2)
/-- a table of rows that are mixed whole -/
theorem T_mix {lim wd off cnt n : Nat} {Q : (Nat → Int32) → Prop} {st : Nat → Int32} (R : rT lim wd wd off cnt Q cells rows st n) (s : Int64) (hlen : lim * wd ≤ len) (hw : wd < 2 ^ 31) (hlim : lim < 2 ^ 31) (hlen2 : len < 2 ^ 31) : F_X8_mixAll len cells rows (nI wd) s (nI wd) = some (mixS (fun j => st (off + j)) (wd * n) s) := by
  obtain ⟨⟨r1, r2, r3⟩, r4, -⟩ := R
  rw [← mixG_flat]
  refine C_mixAll s r2 (by omega) (fun i s hi => C_mixRow s (Nat.le_refl _) hw (fun j hj => ?_))
  have hm := Nat.mul_le_mul_right wd r1
  rw [r2, C_get hi hj (by omega) hw (by omega) hlen2, r4 i j hi hj, Nat.add_assoc]
end MIX
