/-! PURE LAWS 40: silver -/
def silF (L : Nat → Nat → Nat) (P C : Nat → Nat) (l w k : Nat) : Int64 := if w = 2 then 0 else lN (L l w * P k / 100) - lN (C l)
section PLA
variable {tc : Nat → Nat → Int32} {tr : Nat → Int32} {nar nam : Int32} {st : Nat → Int32} {n : Nat → Nat} {a b : Nat}
def LoaF (st : Nat → Int32) (nM nL : Nat) (M W C : Nat → Nat) : Prop := ∀ l, l < nL → M l < nM ∧ 1 ≤ W l ∧ W l ≤ 1000000 ∧ C l ≤ 1000000 ∧ st (1933 + 3 * l) = nI (M l) ∧ st (1933 + 3 * l + 1) = nI (W l) ∧ st (1933 + 3 * l + 2) = nI (C l)
theorem loa_fun {nM nL : Nat} {cells : Nat → Int32} {rows : Int32} (hnM : nM ≤ 10) (R : rT 6 3 3 1933 10 (qLoa nM) cells rows st nL) : ∃ M W C, LoaF st nM nL M W C := by
  refine ⟨fun k => (st (1933 + 3 * k)).toNatClampNeg, fun k => (st (1933 + 3 * k + 1)).toNatClampNeg, fun k => (st (1933 + 3 * k + 2)).toNatClampNeg, fun k hk => ?_⟩
  obtain ⟨m, w, c, h1, h2, h3, h4, h5, h6, h7⟩ := R.2.2 k hk
  rw [rowf_at (by decide)] at h5 h6 h7
  rw [Nat.add_zero] at h5
  dsimp only
  rw [h5, h6, h7, nI_clamp (by omega), nI_clamp (by omega), nI_clamp (by omega)]
  exact ⟨h1, h2, h3, h4, rfl, rfl, rfl⟩
theorem C_loa {nM nL k j : Nat} {cells : Nat → Int32} {rows : Int32} (R : rT 6 3 3 1933 10 (qLoa nM) cells rows st nL) (hk : k < nL) (hj : j < 3) : F_X8_get 18 cells rows 3 (nI k) (nI j) = some (st (1933 + 3 * k + j)) := by
  obtain ⟨⟨r1, r2, r3⟩, rT, -⟩ := R
  rw [r2]
  exact (C_get (len := 18) (wd := 3) hk hj (by omega) (by decide) (by omega) (by decide)).trans (congrArg some (rT k j hk hj))
def PriF (st : Nat → Int32) (P : Nat → Nat) : Prop := ∀ k, k < 3 → P k ≤ 1000 ∧ st (13 + k) = nI (P k)
theorem pri_fun {cells : Nat → Int32} {rows : Int32} (R : rPri cells rows st) : ∃ P, PriF st P := by
  refine ⟨fun k => (st (13 + k)).toNatClampNeg, fun k hk => ?_⟩
  obtain ⟨h1, v, h2, h3⟩ := R.2 k hk
  dsimp only
  rw [h3, nI_clamp (by omega)]
  exact ⟨h2, rfl⟩
theorem C_pri {cells : Nat → Int32} {rows : Int32} {P : Nat → Nat} (R : rPri cells rows st) (F : PriF st P) {k : Nat} (hk : k < 3) : F_X8_get 3 cells rows 3 0 (nI k) = some (nI (P k)) := by
  obtain ⟨r1, r2⟩ := R
  rw [r1]
  refine (C_get (len := 3) (wd := 3) (r := 0) (rows := 1) (by decide) hk (by decide) (by decide) (by decide) (by decide)).trans (congrArg some ?_)
  rw [show 3 * 0 + k = k by omega, (r2 k hk).1, (F k hk).2]
theorem C_setSil {nM nL : Nat} {lc pc : Nat → Int32} {lr pr : Int32} {M W C P : Nat → Nat} (RL : rT 6 3 3 1933 10 (qLoa nM) lc lr st nL) (FL : LoaF st nM nL M W C) (RP : rPri pc pr st) (FP : PriF st P) {l w left : Nat} (hl : l < nL) (hw : w < 3) (hle : left ≤ 1000000) (sv : Nat → Int64) : ∃ s2, F_X5_setSilver lc lr pc pr sv (nI l) (nI w) (lN left) = some s2 ∧ (∀ k, k < 3 → s2 (9 * l + 3 * w + k) = if w = 2 then 0 else lN (left * P k / 100) - lN (C l)) ∧ ∀ j, ¬ (9 * l + 3 * w ≤ j ∧ j < 9 * l + 3 * w + 3) → s2 j = sv j := by
  obtain ⟨r1, r2, r3⟩ := id RL.1
  obtain ⟨f1, f2, f3, f4, f5, f6, f7⟩ := FL l hl
  have hl2 : ∃ t, itr (B_X5_setSilver_3 pc pr (lN left) lc lr (nI l) (nI w)) FU ((0 : Int32), sv) = some t ∧ ((∀ k, k < 3 → t.2 (9 * l + 3 * w + k) = if w = 2 then 0 else lN (left * P k / 100) - lN (C l)) ∧ ∀ j, ¬ (9 * l + 3 * w ≤ j ∧ j < 9 * l + 3 * w + 3) → t.2 j = sv j) := by
    refine itr_fu (I := fun s => ∃ k, k ≤ 3 ∧ s.1 = nI k ∧ (∀ i, i < k → s.2 (9 * l + 3 * w + i) = if w = 2 then 0 else lN (left * P i / 100) - lN (C l)) ∧ ∀ j, ¬ (9 * l + 3 * w ≤ j ∧ j < 9 * l + 3 * w + 3) → s.2 j = sv j) (μ := fun s => 3 - s.1.toNatClampNeg) _ _ ⟨0, by omega, rfl, fun i h => absurd h (Nat.not_lt_zero _), fun j _ => rfl⟩ (by dsimp only; omega) ?_
    rintro ⟨k', f⟩ ⟨k, hk, q1, q2, q3⟩
    dsimp only at q1 q2 q3
    subst q1
    unfold B_X5_setSilver_3
    dsimp only
    by_cases hlt : k < 3
    · left
      have hp := (FP k hlt).1
      have hmul : left * P k ≤ 1000000 * 1000 := Nat.mul_le_mul hle hp
      have g2 := C_loa (j := 2) RL hl (by decide); rw [f7] at g2
      have hv : ∃ v : Int64, (if nI w = (2 : Int32) then some (0 : Int64) else some (lN (left * P k / 100) - lN (C l))) = some v ∧ v = if w = 2 then 0 else lN (left * P k / 100) - lN (C l) := by
        by_cases e : w = 2
        · exact ⟨_, by rw [if_pos (by rw [e]; rfl)], by rw [if_pos e]⟩
        · exact ⟨_, by rw [if_neg (neR 2 2 rfl (by omega) (by decide) e)], by rw [if_neg e]⟩
      obtain ⟨v, v1, v2⟩ := hv
      refine ⟨(nI (k + 1), vp_updL f (9 * l + 3 * w + k) v), ?_, ⟨k + 1, by omega, rfl, fun i hi => ?_, fun j hj => ?_⟩, ?_⟩
      · rw [if_pos (ltR 3 3 rfl hlt (by decide))]
        refine sbind (C_pri RP FP hlt) ?_
        rw [nI_l (show P k < 2 ^ 31 by omega), lN_mul]
        refine sbind (x := lN (left * P k / 100)) (by unfold qL; rw [if_neg (by decide), show (100 : Int64) = lN 100 from rfl, pk_lDiv (by omega) (by omega) (by omega)]) (sbind g2 ?_)
        rw [nI_l (show C l < 2 ^ 31 by omega), lt_eq, show (3 : Int32) = nI 3 from rfl, pk_mul, nI_add, pk_mul, nI_add, lt_eq, show (l * 3 + w) * 3 + k = 9 * l + 3 * w + k by omega]
        refine sbind (x := vp_updL f (9 * l + 3 * w + k) v) ?_ (by rw [lt_eq, nI_1])
        rw [if_neg (nI_pos (by omega)), if_pos (ltR 54 54 rfl (by omega) (by decide))]
        exact sbind v1 (sbind (sL_at (by omega) (by decide)) rfl)
      · dsimp only
        by_cases e : i = k
        · subst e; rw [pk_uLs, v2]
        · rw [pk_uLn (by omega)]; exact q2 i (by omega)
      · dsimp only
        rw [pk_uLn (by omega)]; exact q3 j hj
      · dsimp only
        rw [nI_clamp (by omega), nI_clamp (by omega)]; omega
    · right
      have e : k = 3 := by omega
      subst e
      exact ⟨(nI 3, f), by rw [if_neg (by decide)], q2, q3⟩
  obtain ⟨t, t1, t2, t3⟩ := hl2
  exact ⟨t.2, sbind t1 rfl, t2, t3⟩
theorem luck_le {w a : Nat} (ha : 2 ≤ a) : w * (a - 1) / a ≤ w := by
  have h1 : w * (a - 1) ≤ w * a := Nat.mul_le_mul_left w (by omega)
  exact Nat.div_le_of_le_mul (by rw [Nat.mul_comm a w]; exact h1)
theorem luck_b {w a : Nat} (hw : w ≤ 1000000) (ha : a ≤ 100) : w * (a - 1) ≤ 100000000 := Nat.mul_le_mul hw (show a - 1 ≤ 100 by omega)
/-- what a way leaves -/
def lfF (V W : Nat → Nat) (a l w : Nat) : Nat := if w = 0 then V l else W l * (a - 1) / a
theorem C_value (R : RelN actK tc tr nar nam st n a b) {se : Int32} {M W C P V : Nat → Nat} (FL : LoaF st (n 0) (n 10) M W C) (FP : PriF st P) (HV : ∀ l, l < n 10 → V l ≤ W l ∧ WiC tc tr se (M l) (W l) (V l) ∧ WiM st se (M l) (W l) (V l)) (sv : Nat → Int64) (a1 : Int64) (a2 a3 a4 a5 : Int32) (a6 : Nat → Int64) (a7 : Int32) :
    ∃ o, F_X5_value (tc 2) (tr 2) (tc 6) (tr 6) (tc 11) (tr 11) (tc 0) (tr 0) nar (tc 12) (tr 12) sv a1 a2 a3 a4 a5 a6 a7 se = some o ∧ ∀ l w k, l < n 10 → w < 3 → k < 3 → o.1 (9 * l + 3 * w + k) = silF (lfF V W a) P C l w k := by
  have RL := R.2.2.2.2.2.2.2.2.2.2.2.1
  have RP := R.2.2.2.2.2.2.2.2.2.2.2.2.1
  obtain ⟨y1, y2, y3, y4, y5, y6, y7, y8⟩ := id R.2.2.2.2.2.2.2.2.2.2.2.2.2
  obtain ⟨r1, r2, r3⟩ := id RL.1
  have hl : ∃ t, itr (B_X5_value_2 (tr 11) (tc 11) (tc 2) (tr 2) (tc 6) (tr 6) (tc 0) (tr 0) se (tc 12) (tr 12) nar) FU ((0 : Int32), sv, a1, a2, a3, a4, a5, a6, a7) = some t ∧ ∀ l w k, l < n 10 → w < 3 → k < 3 → t.2.1 (9 * l + 3 * w + k) = silF (lfF V W a) P C l w k := by
    refine itr_fu (I := fun s => ∃ l, l ≤ n 10 ∧ s.1 = nI l ∧ ∀ i w k, i < l → w < 3 → k < 3 → s.2.1 (9 * i + 3 * w + k) = silF (lfF V W a) P C i w k) (μ := fun s => n 10 - s.1.toNatClampNeg) _ _ ⟨0, by omega, rfl, fun i w k h => absurd h (Nat.not_lt_zero _)⟩ (by dsimp only; omega) ?_
    rintro ⟨l', f, c1, c2, c3, c4, c5, c6, c7⟩ ⟨l, hl, q1, q2⟩
    dsimp only at q1 q2
    subst q1
    unfold B_X5_value_2
    dsimp only
    by_cases hlt : l < n 10
    · left
      obtain ⟨f1, f2, f3, f4, f5, f6, f7⟩ := FL l hlt
      obtain ⟨v1, v2, v3⟩ := HV l hlt
      obtain ⟨o, o1, o2⟩ := v2 c1 c2 c3 c4 c5 c6 c7
      have g0 := C_loa (j := 0) RL hlt (by decide); rw [Nat.add_zero, f5] at g0
      have g1 := C_loa (j := 1) RL hlt (by decide); rw [f6] at g1
      have hlu := luck_le (w := W l) y1
      have hlb := luck_b (a := a) f3 y2
      have hluck : F_X9_leftByLuck nar (nI (W l)) = some (nI (W l * (a - 1) / a)) := by
        unfold F_X9_leftByLuck
        rw [y5]
        refine sbind (x := nI (W l * (a - 1) / a)) ?_ rfl
        rw [if_pos (ltL 0 0 rfl (by omega) (by omega)), show (1 : Int32) = nI 1 from rfl, pk_sub (by omega), nI_l (show W l < 2 ^ 31 by omega), nI_l (show a - 1 < 2 ^ 31 by omega), nI_l (show a < 2 ^ 31 by omega), lN_mul]
        refine sbind (x := lN (W l * (a - 1) / a)) ?_ (by rw [lN_i])
        unfold qL
        rw [if_neg (fun z => by have := (pk_lEQ (a := a) (b := 0) (by omega) (by decide)).mp z; omega), pk_lDiv (by omega) (by omega) (by omega)]
      obtain ⟨s0, s01, s02, s03⟩ := C_setSil (w := 0) (left := V l) RL FL RP FP hlt (by decide) (by omega) f
      obtain ⟨s1, s11, s12, s13⟩ := C_setSil (w := 1) (left := W l * (a - 1) / a) RL FL RP FP hlt (by decide) (by omega) s0
      obtain ⟨s2, s21, s22, s23⟩ := C_setSil (w := 2) (left := 0) RL FL RP FP hlt (by decide) (by omega) s1
      refine ⟨(nI (l + 1), s2, o.2.1, o.2.2.1, o.2.2.2.1, o.2.2.2.2.1, o.2.2.2.2.2.1, o.2.2.2.2.2.2.1, o.2.2.2.2.2.2.2), ?_, ⟨l + 1, by omega, rfl, fun i w k hi hw hk => ?_⟩, ?_⟩
      · rw [show (if nI l < tr 11 then _ else _) = (if nI l < nI (n 10) then _ else _) from by rw [← r2], if_pos (nI_lt hlt (by omega))]
        refine sbind g0 (sbind g1 (sbind o1 ?_))
        rw [o2, nI_l (show V l < 2 ^ 31 by omega)]
        refine sbind s01 (sbind hluck ?_)
        rw [nI_l (show W l * (a - 1) / a < 2 ^ 31 by omega)]
        refine sbind s11 (sbind s21 ?_)
        rw [lt_eq, nI_1]
      · dsimp only
        unfold silF lfF
        by_cases e : i = l
        · subst e
          rcases (show w = 0 ∨ w = 1 ∨ w = 2 by omega) with rfl | rfl | rfl
          · rw [s23 _ (by omega), s13 _ (by omega), s02 k hk]; rfl
          · rw [s23 _ (by omega), s12 k hk]; rfl
          · rw [s22 k hk]; rfl
        · rw [s23 _ (by omega), s13 _ (by omega), s03 _ (by omega)]
          exact q2 i w k (by omega) hw hk
      · dsimp only
        rw [nI_clamp (by omega), nI_clamp (by omega)]; omega
    · right
      have e : l = n 10 := by omega
      subst e
      exact ⟨_, by rw [r2, if_neg (nI_nlt (Nat.le_refl _) (by omega))], q2⟩
  obtain ⟨t, t1, t2⟩ := hl
  exact ⟨_, sbind t1 rfl, t2⟩
theorem M_silver (R : RelN actK tc tr nar nam st n a b) {se : Int32} {M W C P V : Nat → Nat} (FL : LoaF st (n 0) (n 10) M W C) (FP : PriF st P) (HV : ∀ l, l < n 10 → V l ≤ W l ∧ WiC tc tr se (M l) (W l) (V l) ∧ WiM st se (M l) (W l) (V l)) (b1 : Nat → Int64) (sv : Nat → Int64) (b2 : Nat → Int32) (b3 : Int32) (b4 : Nat → Int64) (b5 : Int32) (b6 b7 : Nat → Int32) :
    ∃ o, F_X12_findSilver b1 sv st b2 b3 b4 b5 b6 b7 se = some o ∧ ∀ l w k, l < n 10 → w < 3 → k < 3 → o.2.1 (9 * l + 3 * w + k) = silF (lfF V W a) P C l w k := by
  have RL := R.2.2.2.2.2.2.2.2.2.2.2.1
  obtain ⟨y1, y2, y3, y4, y5, y6, y7, y8⟩ := id R.2.2.2.2.2.2.2.2.2.2.2.2.2
  obtain ⟨r1, r2, r3⟩ := id RL.1
  have hl : ∃ t, itr (B_X12_findSilver_2 st se) FU ((0 : Int32), b1, sv, b2, b3, b4, b5, b6, b7) = some t ∧ ∀ l w k, l < n 10 → w < 3 → k < 3 → t.2.2.1 (9 * l + 3 * w + k) = silF (lfF V W a) P C l w k := by
    refine itr_fu (I := fun s => ∃ l, l ≤ n 10 ∧ s.1 = nI l ∧ ∀ i w k, i < l → w < 3 → k < 3 → s.2.2.1 (9 * i + 3 * w + k) = silF (lfF V W a) P C i w k) (μ := fun s => n 10 - s.1.toNatClampNeg) _ _ ⟨0, by omega, rfl, fun i w k h => absurd h (Nat.not_lt_zero _)⟩ (by dsimp only; omega) ?_
    rintro ⟨l', c1, f, c2, c3, c4, c5, c6, c7⟩ ⟨l, hl, q1, q2⟩
    dsimp only at q1 q2
    subst q1
    unfold B_X12_findSilver_2
    dsimp only
    by_cases hlt : l < n 10
    · left
      obtain ⟨f1, f2, f3, f4, f5, f6, f7⟩ := FL l hlt
      obtain ⟨v1, v2, v3⟩ := HV l hlt
      have hlu := luck_le (w := W l) y1
      have hlb := luck_b (a := a) f3 y2
      have hin : ∃ u, itr (B_X12_findSilver_24 st (nI (1933 + 3 * l)) se (nI l, c1, f, c2, c3, c4, c5, c6, c7)) FU ((0 : Int32), c1, f, c2, c3, c4, c5, c6, c7) = some u ∧ ((∀ w k, w < 3 → k < 3 → u.2.2.1 (9 * l + 3 * w + k) = silF (lfF V W a) P C l w k) ∧ ∀ j, j < 9 * l → u.2.2.1 j = f j) := by
        refine itr_fu (I := fun s => ∃ w, w ≤ 3 ∧ s.1 = nI w ∧ (∀ i k, i < w → k < 3 → s.2.2.1 (9 * l + 3 * i + k) = silF (lfF V W a) P C l i k) ∧ ∀ j, j < 9 * l → s.2.2.1 j = f j) (μ := fun s => 3 - s.1.toNatClampNeg) _ _ ⟨0, by omega, rfl, fun i k h => absurd h (Nat.not_lt_zero _), fun j _ => rfl⟩ (by dsimp only; omega) ?_
        rintro ⟨w', d1, g, d2, d3, d4, d5, d6, d7⟩ ⟨w, hw, p1, p2, p3⟩
        dsimp only at p1 p2 p3
        subst p1
        unfold B_X12_findSilver_24
        dsimp only
        by_cases hlw : w < 3
        · left
          -- what is left
          have hj : ∃ (e1 : Nat → Int64) (e2 : Nat → Int32) (e3 : Int32) (e4 : Nat → Int64) (e5 : Int32) (e6 e7 : Nat → Int32), (if nI w = 0 then (Option.bind (gI st 1951 (nI (1933 + 3 * l))) fun t_12 => Option.bind (gI st 1951 (nI (1933 + 3 * l) + (1 : Int32))) fun t_13 => Option.bind (F_X12_wideOf d1 st d2 d3 d4 d5 d6 d7 t_12 t_13 se) fun c_14 => some (c_14.1.toInt64, c_14.2.1, c_14.2.2.1, c_14.2.2.2.1, c_14.2.2.2.2.1, c_14.2.2.2.2.2.1, c_14.2.2.2.2.2.2.1, c_14.2.2.2.2.2.2.2)) else (Option.bind (gI st 1951 (nI (1933 + 3 * l) + (1 : Int32))) fun t_8 => Option.bind (gI st 1951 (11 : Int32)) fun t_9 => Option.bind (gI st 1951 (11 : Int32)) fun t_10 => Option.bind (qL (t_8.toInt64 * ((t_9 - (1 : Int32)).toInt64)) t_10.toInt64) fun t_11 => some (t_11, d1, d2, d3, d4, d5, d6, d7))) = some (lN (lfF V W a l w), e1, e2, e3, e4, e5, e6, e7) := by
            unfold lfF
            by_cases e : w = 0
            · obtain ⟨o, o1, o2⟩ := v3 d1 d2 d3 d4 d5 d6 d7
              refine ⟨o.2.1, o.2.2.1, o.2.2.2.1, o.2.2.2.2.1, o.2.2.2.2.2.1, o.2.2.2.2.2.2.1, o.2.2.2.2.2.2.2, ?_⟩
              rw [if_pos (by rw [e]; rfl), if_pos e]
              refine sbind (M_at (by omega)) ?_
              rw [show (1 : Int32) = nI 1 from rfl, nI_add]
              refine sbind (M_at (by omega)) ?_
              rw [f5, f6]
              refine sbind o1 ?_
              rw [o2, nI_l (show V l < 2 ^ 31 by omega)]
            · refine ⟨d1, d2, d3, d4, d5, d6, d7, ?_⟩
              have hn : gI st 1951 11 = some (nI a) := by rw [← y6]; exact M_at (k := 11) (by decide)
              rw [if_neg (neR 0 0 rfl (by omega) (by decide) e), if_neg e, show (1 : Int32) = nI 1 from rfl, nI_add]
              refine sbind (M_at (by omega)) (sbind hn (sbind hn ?_))
              rw [f6, pk_sub (by omega), nI_l (show W l < 2 ^ 31 by omega), nI_l (show a - 1 < 2 ^ 31 by omega), nI_l (show a < 2 ^ 31 by omega), lN_mul]
              refine sbind (x := lN (W l * (a - 1) / a)) ?_ rfl
              unfold qL
              rw [if_neg (fun z => by have := (pk_lEQ (a := a) (b := 0) (by omega) (by decide)).mp z; omega), pk_lDiv (by omega) (by omega) (by omega)]
          obtain ⟨e1, e2, e3, e4, e5, e6, e7, hj⟩ := hj
          have hlf : lfF V W a l w ≤ 1000000 := by unfold lfF; split <;> omega
          have hk3 : ∃ u, itr (B_X12_findSilver_92 (nI w, d1, g, d2, d3, d4, d5, d6, d7) st (lN (lfF V W a l w), e1, e2, e3, e4, e5, e6, e7) (nI (1933 + 3 * l)) (nI l, c1, f, c2, c3, c4, c5, c6, c7)) FU ((0 : Int32), g) = some u ∧ ((∀ k, k < 3 → u.2 (9 * l + 3 * w + k) = silF (lfF V W a) P C l w k) ∧ ∀ j, j < 9 * l + 3 * w → u.2 j = g j) := by
            refine itr_fu (I := fun s => ∃ k, k ≤ 3 ∧ s.1 = nI k ∧ (∀ i, i < k → s.2 (9 * l + 3 * w + i) = silF (lfF V W a) P C l w i) ∧ ∀ j, j < 9 * l + 3 * w → s.2 j = g j) (μ := fun s => 3 - s.1.toNatClampNeg) _ _ ⟨0, by omega, rfl, fun i h => absurd h (Nat.not_lt_zero _), fun j _ => rfl⟩ (by dsimp only; omega) ?_
            rintro ⟨k', h⟩ ⟨k, hk, z1, z2, z3⟩
            dsimp only at z1 z2 z3
            subst z1
            unfold B_X12_findSilver_92
            dsimp only
            by_cases hlk : k < 3
            · left
              obtain ⟨hp, hp2⟩ := FP k hlk
              have hmul : lfF V W a l w * P k ≤ 1000000 * 1000 := Nat.mul_le_mul hlf hp
              refine ⟨(nI (k + 1), vp_updL h (9 * l + 3 * w + k) (silF (lfF V W a) P C l w k)), ?_, ⟨k + 1, by omega, rfl, fun i hi => ?_, fun j hj => ?_⟩, ?_⟩
              · rw [if_pos (ltR 3 3 rfl hlk (by decide))]
                refine sbind (x := silF (lfF V W a) P C l w k) ?_ ?_
                · unfold silF
                  by_cases e : w = 2
                  · rw [if_pos (by rw [e]; rfl), if_pos e]
                  · rw [if_neg (neR 2 2 rfl (by omega) (by decide) e), if_neg e, show (13 : Int32) = nI 13 from rfl, nI_add]
                    refine sbind (M_at (by omega)) ?_
                    rw [hp2, nI_l (show P k < 2 ^ 31 by omega), lN_mul]
                    refine sbind (x := lN (lfF V W a l w * P k / 100)) (by unfold qL; rw [if_neg (by decide), show (100 : Int64) = lN 100 from rfl, pk_lDiv (by omega) (by omega) (by omega)]) ?_
                    rw [show (2 : Int32) = nI 2 from rfl, nI_add]
                    refine sbind (M_at (by omega)) ?_
                    rw [f7, nI_l (show C l < 2 ^ 31 by omega)]
                · rw [show (9 : Int32) = nI 9 from rfl, show (3 : Int32) = nI 3 from rfl, pk_mul, pk_mul, nI_add, nI_add]
                  refine sbind (sL_at (by omega) (by decide)) ?_
                  rw [lt_eq, nI_1]
              · dsimp only
                by_cases e : i = k
                · subst e; rw [pk_uLs]
                · rw [pk_uLn (by omega)]; exact z2 i (by omega)
              · dsimp only
                rw [pk_uLn (by omega)]; exact z3 j hj
              · dsimp only
                rw [nI_clamp (by omega), nI_clamp (by omega)]; omega
            · right
              have e : k = 3 := by omega
              subst e
              exact ⟨(nI 3, h), by rw [if_neg (by decide)], z2, z3⟩
          obtain ⟨u, u1, u2, u3⟩ := hk3
          refine ⟨(nI (w + 1), e1, u.2, e2, e3, e4, e5, e6, e7), ?_, ⟨w + 1, by omega, rfl, fun i k hi hk => ?_, fun j hj => ?_⟩, ?_⟩
          · rw [if_pos (ltR 3 3 rfl hlw (by decide))]
            exact sbind hj (sbind u1 (by rw [lt_eq, nI_1]))
          · dsimp only
            by_cases e : i = w
            · subst e; exact u2 k hk
            · rw [u3 _ (by omega)]; exact p2 i k (by omega) hk
          · dsimp only
            rw [u3 _ (by omega)]; exact p3 j hj
          · dsimp only
            rw [nI_clamp (by omega), nI_clamp (by omega)]; omega
        · right
          have e : w = 3 := by omega
          subst e
          exact ⟨_, by rw [if_neg (by decide)], fun i k hi hk => p2 i k hi hk, p3⟩
      obtain ⟨u, u1, u2, u3⟩ := hin
      refine ⟨(nI (l + 1), u.2.1, u.2.2.1, u.2.2.2.1, u.2.2.2.2.1, u.2.2.2.2.2.1, u.2.2.2.2.2.2.1, u.2.2.2.2.2.2.2.1, u.2.2.2.2.2.2.2.2), sbind (M_at (k := 10) (by decide)) ?_, ⟨l + 1, by omega, rfl, fun i w k hi hw hk => ?_⟩, ?_⟩
      · rw [r3, if_pos (nI_lt hlt (by omega)), show (1933 : Int32) = nI 1933 from rfl, show (3 : Int32) = nI 3 from rfl, pk_mul, nI_add, lt_eq]
        exact sbind u1 (by rw [lt_eq, nI_1])
      · dsimp only
        by_cases e : i = l
        · subst e; exact u2 w k hw hk
        · rw [u3 _ (by omega)]; exact q2 i w k (by omega) hw hk
      · dsimp only
        rw [nI_clamp (by omega), nI_clamp (by omega)]; omega
    · right
      have e : l = n 10 := by omega
      subst e
      refine ⟨_, sbind (M_at (k := 10) (by decide)) (by rw [r3, if_neg (nI_nlt (Nat.le_refl _) (by omega))]), q2⟩
  obtain ⟨t, t1, t2⟩ := hl
  exact ⟨_, sbind t1 rfl, t2⟩
end PLA
