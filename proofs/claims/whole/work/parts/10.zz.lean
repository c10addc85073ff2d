/-! PURE LAWS 41: plan -/
theorem q3_ {r : Nat} (h : r < 2 ^ 31) : qI (nI r) 3 = some (nI (r / 3)) := by
  unfold qI
  rw [if_neg (by decide), show (3 : Int32) = nI 3 from rfl, pk_div h (by decide) (by decide)]
theorem m3_ {r : Nat} (h : r < 2 ^ 31) : mI (nI r) 3 = some (nI (r % 3)) := by
  unfold mI
  rw [if_neg (by decide), show (3 : Int32) = nI 3 from rfl, pk_rem h (by decide) (by decide)]
theorem m1s (l : Nat) : nI (l + 1) - 1 = nI l := by
  rw [show (1 : Int32) = nI 1 from rfl, pk_sub (by omega)]; rfl
theorem m1n {l : Nat} (h : l < 2 ^ 31) : nI l - 1 < 0 ↔ l = 0 := by
  rw [Int32.lt_iff_toInt_lt, nI_m1 h, show (0 : Int32).toInt = 0 from rfl]; omega
theorem m1b (l : Nat) : nI l - 1 + 1 = nI l := Int32.sub_add_cancel _ _
theorem m1d (l : Nat) : nI l + -1 = nI l - 1 := (Int32.sub_eq_add_neg _ _).symm
theorem min3 (x y z : Int64) : (if (if z < y then z else y) < x then (if z < y then z else y) else x) = (if z < (if y < x then y else x) then z else (if y < x then y else x)) := by
  simp only [Int64.lt_iff_toInt_lt]
  by_cases h1 : z.toInt < y.toInt
  · rw [if_pos h1]
    by_cases h2 : y.toInt < x.toInt
    · rw [if_pos h2, if_pos h1, if_pos (by omega)]
    · rw [if_neg h2]
  · rw [if_neg h1]
    by_cases h2 : y.toInt < x.toInt
    · rw [if_pos h2, if_neg h1]
    · rw [if_neg h2, if_neg (by omega)]
/-- the silver of a plan's loads in one world, from the top load down -/
def swS (g : Nat → Nat → Nat → Int64) (k : Nat) : Nat → Nat → Int64 → Int64
  | 0, _, s => s
  | l + 1, r, s => swS g k l (r / 3) (s + g l (r % 3) k)
def worst (g : Nat → Nat → Nat → Int64) (N p : Nat) : Int64 :=
  if swS g 2 N p 0 < (if swS g 1 N p 0 < swS g 0 N p 0 then swS g 1 N p 0 else swS g 0 N p 0) then swS g 2 N p 0 else (if swS g 1 N p 0 < swS g 0 N p 0 then swS g 1 N p 0 else swS g 0 N p 0)
def bpl (W : Nat → Int64) : Nat → Int64 × Nat
  | 0 => (0, 0)
  | j + 1 => if j = 0 then (W 0, 0) else if (bpl W j).1 < W j then (W j, j) else bpl W j
theorem bpl_le (W : Nat → Int64) : ∀ j, (bpl W j).2 ≤ j
  | 0 => Nat.le_refl _
  | j + 1 => by
    have := bpl_le W j
    unfold bpl
    by_cases h : j = 0
    · rw [if_pos h]; exact Nat.zero_le _
    · rw [if_neg h]
      by_cases h2 : (bpl W j).1 < W j
      · rw [if_pos h2]; exact Nat.le_succ _
      · rw [if_neg h2]; omega
def wyS : Nat → Nat → Nat
  | 0, r => r
  | j + 1, r => wyS j (r / 3)
theorem wyS_le : ∀ j r, wyS j r ≤ r
  | 0, _ => Nat.le_refl _
  | j + 1, r => Nat.le_trans (wyS_le j (r / 3)) (Nat.div_le_self r 3)
theorem p3_le {N : Nat} (h : N ≤ 6) : 3 ^ N ≤ 729 := Nat.pow_le_pow_right (n := 3) (by decide) h
theorem p3_pos (N : Nat) : 1 ≤ 3 ^ N := Nat.one_le_pow N 3 (by decide)
section PLB
variable {g : Nat → Nat → Nat → Int64} {sv : Nat → Int64} {N : Nat}
def SvI (g : Nat → Nat → Nat → Int64) (sv : Nat → Int64) (N : Nat) : Prop := ∀ l w k, l < N → w < 3 → k < 3 → sv (9 * l + 3 * w + k) = g l w k
theorem C_silverOf (H : SvI g sv N) (hN : N ≤ 6) {l w k : Nat} (hl : l < N) (hw : w < 3) (hk : k < 3) (K : Int32) (eK : K = nI k) : F_X5_silverOf sv (nI l) (nI w) K = some (g l w k) := by
  unfold F_X5_silverOf
  rw [eK, show (3 : Int32) = nI 3 from rfl, pk_mul, nI_add, pk_mul, nI_add, lt_eq, show (l * 3 + w) * 3 + k = 9 * l + 3 * w + k by omega]
  refine sbind (x := g l w k) ?_ rfl
  rw [if_neg (nI_pos (by omega)), if_pos (ltR 54 54 rfl (by omega) (by decide))]
  refine sbind (gL_at (by omega) (by decide)) ?_
  rw [H l w k hl hw hk]
theorem C_worst (H : SvI g sv N) (hN : N ≤ 6) {rows : Int32} (hr : rows = nI N) {p : Nat} (hp : p < 2 ^ 31) : F_X5_worstOf rows sv (nI p) = some (worst g N p) := by
  have hl : ∃ t, itr (B_X5_worstOf_25 sv) FU ((0 : Int64), (0 : Int64), (0 : Int64), nI p, rows - 1) = some t ∧ (t.1 = swS g 0 N p 0 ∧ t.2.1 = swS g 1 N p 0 ∧ t.2.2.1 = swS g 2 N p 0) := by
    refine itr_fu (I := fun s => ∃ l r, l ≤ N ∧ r < 2 ^ 31 ∧ s.2.2.2.1 = nI r ∧ s.2.2.2.2 = nI l - 1 ∧ swS g 0 l r s.1 = swS g 0 N p 0 ∧ swS g 1 l r s.2.1 = swS g 1 N p 0 ∧ swS g 2 l r s.2.2.1 = swS g 2 N p 0) (μ := fun s => (s.2.2.2.2 + 1).toNatClampNeg) _ _ ⟨N, p, Nat.le_refl _, hp, rfl, by rw [hr], rfl, rfl, rfl⟩ (by dsimp only; rw [hr, m1b, nI_clamp (by omega)]; omega) ?_
    rintro ⟨x, y, z, rest', load'⟩ ⟨l, r, q1, q2, q3, q4, q5, q6, q7⟩
    dsimp only at q3 q4 q5 q6 q7
    subst q3 q4
    unfold B_X5_worstOf_25
    dsimp only
    cases l with
    | zero => right; exact ⟨_, by rw [if_pos ((m1n (by decide)).mpr rfl)], q5, q6, q7⟩
    | succ l =>
      left
      have hm : r % 3 < 3 := Nat.mod_lt _ (by decide)
      refine ⟨(x + g l (r % 3) 0, y + g l (r % 3) 1, z + g l (r % 3) 2, nI (r / 3), nI l - 1), ?_, ⟨l, r / 3, by omega, by omega, rfl, rfl, q5, q6, q7⟩, ?_⟩
      · rw [if_neg (fun z => absurd ((m1n (by omega)).mp z) (by omega)), m1s]
        refine sbind (m3_ q2) (sbind (q3_ q2) (sbind (C_silverOf H hN (by omega) hm (by decide) 0 rfl) ?_))
        rw [lt_eq]
        refine sbind (C_silverOf H hN (by omega) hm (by decide) 1 rfl) ?_
        rw [lt_eq]
        refine sbind (C_silverOf H hN (by omega) hm (by decide) 2 rfl) ?_
        rw [lt_eq, m1d, lt_eq]
      · dsimp only
        rw [m1b, m1b, nI_clamp (by omega), nI_clamp (by omega)]; omega
  obtain ⟨t, t1, t2, t3, t4⟩ := hl
  unfold F_X5_worstOf
  rw [lt_eq]
  refine sbind t1 ?_
  rw [t2, t3, t4, min3]
  rfl
theorem C_choose (H : SvI g sv N) (hN : N ≤ 6) {rows : Int32} (hr : rows = nI N) (v1 : Int64) (v2 : Int32) : F_X5_choose v1 v2 rows sv = some ((bpl (worst g N) (3 ^ N)).1, nI (bpl (worst g N) (3 ^ N)).2) := by
  have h3 := p3_le hN
  have h31 := p3_pos N
  have hp : ∃ t, itr (B_X5_choose_4 rows) FU ((1 : Int32), (0 : Int32)) = some t ∧ t.1 = nI (3 ^ N) := by
    refine itr_fu (I := fun s => ∃ l, l ≤ N ∧ s.1 = nI (3 ^ l) ∧ s.2 = nI l) (μ := fun s => N - s.2.toNatClampNeg) _ _ ⟨0, Nat.zero_le _, rfl, rfl⟩ (by dsimp only; omega) ?_
    rintro ⟨x', l'⟩ ⟨l, q1, q2, q3⟩
    dsimp only at q2 q3
    subst q2 q3
    unfold B_X5_choose_4
    dsimp only
    by_cases h : l < N
    · left
      refine ⟨(nI (3 ^ (l + 1)), nI (l + 1)), ?_, ⟨l + 1, h, rfl, rfl⟩, ?_⟩
      · rw [hr, if_pos (nI_lt h (by omega)), lt_eq, lt_eq, show (3 : Int32) = nI 3 from rfl, pk_mul, nI_1, Nat.pow_succ]
      · dsimp only
        rw [nI_clamp (by omega), nI_clamp (by omega)]; omega
    · right
      have e : l = N := by omega
      subst e
      exact ⟨_, by rw [hr, if_neg (nI_nlt (Nat.le_refl _) (by omega))], rfl⟩
  obtain ⟨t, t1, t2⟩ := hp
  have hl : ∃ u, itr (B_X5_choose_44 t rows sv) FU ((1 : Int32), worst g N 0, (0 : Int32)) = some u ∧ (u.2.1 = (bpl (worst g N) (3 ^ N)).1 ∧ u.2.2 = nI (bpl (worst g N) (3 ^ N)).2) := by
    refine itr_fu (I := fun s => ∃ j, 1 ≤ j ∧ j ≤ 3 ^ N ∧ s.1 = nI j ∧ s.2.1 = (bpl (worst g N) j).1 ∧ s.2.2 = nI (bpl (worst g N) j).2) (μ := fun s => 3 ^ N - s.1.toNatClampNeg) _ _ ⟨1, Nat.le_refl _, h31, rfl, rfl, rfl⟩ (by dsimp only; omega) ?_
    rintro ⟨j', b', c'⟩ ⟨j, q1, q2, q3, q4, q5⟩
    dsimp only at q3 q4 q5
    subst q3 q4 q5
    unfold B_X5_choose_44
    dsimp only
    rw [t2]
    by_cases h : j < 3 ^ N
    · left
      refine ⟨(nI (j + 1), (bpl (worst g N) (j + 1)).1, nI (bpl (worst g N) (j + 1)).2), ?_, ⟨j + 1, by omega, h, rfl, rfl, rfl⟩, ?_⟩
      · rw [if_pos (nI_lt h (by omega))]
        refine sbind (C_worst H hN hr (by omega)) ?_
        have e : bpl (worst g N) (j + 1) = if (bpl (worst g N) j).1 < worst g N j then (worst g N j, j) else bpl (worst g N) j := by
          show (if j = 0 then _ else _) = _
          rw [if_neg (by omega)]
        rw [e]
        by_cases h2 : (bpl (worst g N) j).1 < worst g N j
        · rw [if_pos h2, if_pos h2]
          exact sbind rfl (by rw [lt_eq, nI_1])
        · rw [if_neg h2, if_neg h2]
          exact sbind rfl (by rw [lt_eq, nI_1])
      · dsimp only
        rw [nI_clamp (by omega), nI_clamp (by omega)]; omega
    · right
      have e : j = 3 ^ N := by omega
      subst e
      exact ⟨_, by rw [if_neg (nI_nlt (Nat.le_refl _) (by omega))], rfl, rfl⟩
  obtain ⟨u, u1, u2, u3⟩ := hl
  refine sbind t1 (sbind (C_worst H hN hr (p := 0) (by decide)) (sbind u1 ?_))
  rw [u2, u3]
theorem C_wayOf {rows : Int32} (hr : rows = nI N) (hN : N ≤ 6) {p l : Nat} (hp : p < 2 ^ 31) (hl : l < N) : F_X5_wayOf rows (nI p) (nI l) = some (nI (wyS (N - 1 - l) p % 3)) := by
  have h : ∃ t, itr (B_X5_wayOf_16 (nI l)) FU (nI p, rows - 1) = some t ∧ t.1 = nI (wyS (N - 1 - l) p) := by
    refine itr_fu (I := fun s => ∃ k r, l ≤ k ∧ k < N ∧ r < 2 ^ 31 ∧ s.1 = nI r ∧ s.2 = nI k ∧ wyS (k - l) r = wyS (N - 1 - l) p) (μ := fun s => s.2.toNatClampNeg) _ _ ⟨N - 1, p, by omega, by omega, hp, rfl, by rw [hr, show (1 : Int32) = nI 1 from rfl, pk_sub (by omega)], rfl⟩ (by dsimp only; rw [hr, show (1 : Int32) = nI 1 from rfl, pk_sub (by omega), nI_clamp (by omega)]; omega) ?_
    rintro ⟨r', k'⟩ ⟨k, r, q1, q2, q3, q4, q5, q6⟩
    dsimp only at q4 q5
    subst q4 q5
    unfold B_X5_wayOf_16
    dsimp only
    by_cases h : l < k
    · left
      obtain ⟨d, rfl⟩ : ∃ d, k = d + 1 := ⟨k - 1, by omega⟩
      refine ⟨(nI (r / 3), nI d), ?_, ⟨d, r / 3, by omega, by omega, by omega, rfl, rfl, ?_⟩, ?_⟩
      · rw [if_pos (nI_lt h (by omega))]
        exact sbind (q3_ q3) (by rw [lt_eq, pk_m1])
      · rw [show d + 1 - l = (d - l) + 1 by omega] at q6; exact q6
      · dsimp only
        rw [nI_clamp (by omega), nI_clamp (by omega)]; omega
    · right
      have e : k = l := by omega
      subst e
      rw [Nat.sub_self] at q6
      exact ⟨_, by rw [if_neg (nI_nlt (Nat.le_refl _) (by omega))], congrArg nI q6⟩
  obtain ⟨t, t1, t2⟩ := h
  unfold F_X5_wayOf
  rw [lt_eq]
  refine sbind t1 ?_
  rw [t2]
  exact sbind (m3_ (Nat.lt_of_le_of_lt (wyS_le _ _) hp)) rfl
end PLB
