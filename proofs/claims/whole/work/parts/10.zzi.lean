/-! PURE LAWS 50: men, the class's side -/
section MEO
variable {st : Nat → Int32} {N : Nat} {cells : Nat → Int32} {rows : Int32}
theorem C_get_out {len wd r c rows : Nat} {cells : Nat → Int32} (hr : rows ≤ r) (h1 : r < 2 ^ 31) (hw : wd < 2 ^ 31) : F_X8_get len cells (nI rows) (nI wd) (nI r) (nI c) = some 0 := by
  unfold F_X8_get F_X8_placeOf
  refine sbind (x := -1) ?_ (sbind (x := 0) (by rw [if_pos (by decide)]) rfl)
  rw [if_neg (nI_pos h1), if_neg (nI_nlt hr h1)]
  exact sbind rfl (by rw [if_pos rfl]; rfl)
theorem C_menV (R : rT 10 3 3 1903 9 qMen cells rows st N) {i k : Nat} (hi : i < 10) (hk : k < 3) (K : Int32) (eK : K = nI k) : F_X8_get 30 cells rows 3 (nI i) K = some (menV st N i k) := by
  obtain ⟨⟨r1, r2, r3⟩, r4, -⟩ := R
  unfold menV
  rw [r2, eK]
  by_cases h : i < N
  · rw [if_pos h]
    refine (C_get (len := 30) (wd := 3) h hk (by omega) (by decide) (by omega) (by decide)).trans (congrArg some ?_)
    exact r4 i k h hk
  · rw [if_neg h]
    exact C_get_out (wd := 3) (by omega) (by omega) (by decide)
theorem menV_2 (R : rT 10 3 3 1903 9 qMen cells rows st N) (i : Nat) : ∃ a, a ≤ 99 ∧ menV st N i 2 = nI a := by
  unfold menV
  by_cases h : i < N
  · rw [if_pos h]
    have h2 := (R.2.2 i h).2.2
    rw [rowf_at (by decide)] at h2
    obtain ⟨a, a1, a2, a3⟩ := inR_nat (b := 99) h2
    exact ⟨a, a1, a3⟩
  · rw [if_neg h]; exact ⟨0, by decide, rfl⟩
theorem C_agree (R : rT 10 3 3 1903 9 qMen cells rows st N) {i j k : Nat} (hi : i < 10) (hj : j < 10) (hk : k < 3) (K : Int32) (eK : K = nI k) : F_X3_agree cells rows (nI i) (nI j) K = some (if agr (menV st N i k) (menV st N j k) = true then 1 else 0) := by
  unfold F_X3_agree
  refine sbind (C_menV R hi hk K eK) (sbind (C_menV R hj hk K eK) (sbind (agr_if _ _) ?_))
  split
  · exact sbind bZ_1 rfl
  · exact sbind bZ_0 rfl
theorem C_oneM (R : rT 10 3 3 1903 9 qMen cells rows st N) {i j : Nat} (hi : i < 10) (hj : j < 10) : F_X3_isOneMan cells rows (nI i) (nI j) = some (if oneM st N i j = true then 1 else 0) := by
  obtain ⟨a, a1, a2⟩ := menV_2 R i
  obtain ⟨b, b1, b2⟩ := menV_2 R j
  unfold F_X3_isOneMan
  refine sbind (C_menV R hi (k := 2) (by decide) 2 rfl) (sbind (C_menV R hj (k := 2) (by decide) 2 rfl) ?_)
  rw [lt_eq]
  refine sbind (C_agree R hi hj (k := 0) (by decide) 0 rfl) (sbind (x := if oneM st N i j = true then 1 else 0) ?_ ?_)
  · unfold oneM
    by_cases h0 : agr (menV st N i 0) (menV st N j 0) = true
    · rw [if_pos h0, if_neg (by decide), h0, Bool.true_and]
      refine sbind (C_agree R hi hj (k := 1) (by decide) 1 rfl) ?_
      by_cases h1 : agr (menV st N i 1) (menV st N j 1) = true
      · rw [if_pos h1, if_neg (by decide), h1, Bool.true_and, a2, b2, nI_clamp (by omega), nI_clamp (by omega)]
        by_cases h2 : near a b = true
        · rw [if_neg (fun z => (near_C a1 b1).mp z h2), if_pos h2]
        · rw [if_pos ((near_C a1 b1).mpr h2), if_neg h2]
      · rw [if_neg h1, if_pos rfl, Bool.eq_false_iff.mpr h1]; rfl
    · rw [if_neg h0, if_pos rfl, Bool.eq_false_iff.mpr h0]; rfl
  · split
    · exact sbind bZ_1 rfl
    · exact sbind bZ_0 rfl
def alN (st : Nat → Int32) (N i : Nat) : Nat → Nat
  | 0 => 0
  | n + 1 => alN st N i n ||| (if oneM st N i n = true then 2 ^ n else 0)
theorem alN_lt (i : Nat) : ∀ n, n ≤ 10 → alN st N i n < 1024
  | 0, _ => show (0 : Nat) < 1024 from by decide
  | n + 1, h => by
    refine Nat.or_lt_two_pow (n := 10) (alN_lt i n (by omega)) ?_
    split
    · exact Nat.pow_lt_pow_right (by decide) (by omega)
    · decide
theorem alN_bit (i : Nat) : ∀ n j, (alN st N i n).testBit j = (decide (j < n) && oneM st N i j)
  | 0, j => by
    rw [decide_eq_false (Nat.not_lt_zero j)]
    exact Nat.zero_testBit j
  | n + 1, j => by
    show (alN st N i n ||| (if oneM st N i n = true then 2 ^ n else 0)).testBit j = _
    rw [Nat.testBit_or, alN_bit i n j]
    by_cases e : n = j
    · subst e
      rw [decide_eq_false (Nat.lt_irrefl n), decide_eq_true (Nat.lt_succ_self n), Bool.false_and, Bool.false_or, Bool.true_and]
      by_cases h : oneM st N i n = true
      · rw [if_pos h, Nat.testBit_two_pow, decide_eq_true rfl, h]
      · rw [if_neg h, Nat.zero_testBit, Bool.eq_false_iff.mpr h]
    · have e2 : (if oneM st N i n = true then 2 ^ n else 0).testBit j = false := by
        split
        · rw [Nat.testBit_two_pow, decide_eq_false e]
        · exact Nat.zero_testBit j
      rw [e2, Bool.or_false]
      congr 1
      exact decide_eq_decide.mpr (by omega)
theorem C_compare (R : rT 10 3 3 1903 9 qMen cells rows st N) (al : Nat → Int32) : ∃ f, F_X3_compare al cells rows = some f ∧ AlkR (oneM st N) N f := by
  obtain ⟨⟨r1, r2, r3⟩, -, -⟩ := id R
  have hl : ∃ t, itr (B_X3_compare_2 rows cells) FU ((0 : Int32), al) = some t ∧ ∀ i, i < 10 → t.2 i = nI (alN st N i N) := by
    refine itr_fu (I := fun s => ∃ i, i ≤ 10 ∧ s.1 = nI i ∧ ∀ k, k < i → s.2 k = nI (alN st N k N)) (μ := fun s => 10 - s.1.toNatClampNeg) _ _ ⟨0, by decide, rfl, fun k h => absurd h (Nat.not_lt_zero _)⟩ (by dsimp only; omega) ?_
    rintro ⟨i', f⟩ ⟨i, q1, q2, q3⟩
    dsimp only at q2 q3
    subst q2
    unfold B_X3_compare_2
    dsimp only
    by_cases h : i < 10
    · left
      have hin : ∃ u, itr (B_X3_compare_20 rows (nI i, f) cells) FU ((0 : Int32), upd f i 0) = some u ∧ (u.2 i = nI (alN st N i N) ∧ ∀ k, k < i → u.2 k = f k) := by
        refine itr_fu (I := fun s => ∃ j, j ≤ N ∧ s.1 = nI j ∧ s.2 i = nI (alN st N i j) ∧ ∀ k, k < i → s.2 k = f k) (μ := fun s => N - s.1.toNatClampNeg) _ _ ⟨0, Nat.zero_le _, rfl, by dsimp only; rw [pk_us]; rfl, fun k hk => by dsimp only; rw [pk_un (by omega)]⟩ (by dsimp only; omega) ?_
        rintro ⟨j', g⟩ ⟨j, p1, p2, p3, p4⟩
        dsimp only at p2 p3 p4
        subst p2
        unfold B_X3_compare_20
        dsimp only
        by_cases hj : j < N
        · left
          refine ⟨(nI (j + 1), upd g i (nI (alN st N i (j + 1)))), ?_, ⟨j + 1, hj, rfl, by dsimp only; rw [pk_us], fun k hk => by dsimp only; rw [pk_un (by omega)]; exact p4 k hk⟩, ?_⟩
          · rw [r2, if_pos (nI_lt hj (by omega)), ← r2]
            refine sbind (gI_at h (by decide)) (sbind (C_oneM R h (by omega)) (sbind (x := nI (if oneM st N i j = true then 2 ^ j else 0)) ?_ ?_))
            · by_cases ho : oneM st N i j = true
              · rw [if_pos ho, if_neg (by decide), if_pos ho, shl1 (by omega)]
              · rw [if_neg ho, if_pos rfl, if_neg ho]; rfl
            · rw [p3, nI_or]
              exact sbind (sI_at h (by decide)) (by rw [lt_eq, nI_1]; rfl)
          · dsimp only
            rw [nI_clamp (by omega), nI_clamp (by omega)]; omega
        · right
          have e : j = N := by omega
          subst e
          exact ⟨_, by rw [r2, if_neg (nI_nlt (Nat.le_refl _) (by omega))], p3, p4⟩
      obtain ⟨u, u1, u2, u3⟩ := hin
      refine ⟨(nI (i + 1), u.2), ?_, ⟨i + 1, h, rfl, fun k hk => ?_⟩, ?_⟩
      · rw [if_pos (ltR 10 10 rfl h (by decide))]
        exact sbind (sI_at h (by decide)) (sbind u1 (by rw [lt_eq, nI_1]))
      · dsimp only
        by_cases e : k = i
        · subst e; exact u2
        · rw [u3 k (by omega)]; exact q3 k (by omega)
      · dsimp only
        rw [nI_clamp (by omega), nI_clamp (by omega)]; omega
    · right
      have e : i = 10 := by omega
      subst e
      exact ⟨_, by rw [if_neg (by decide)], q3⟩
  obtain ⟨t, t1, t2⟩ := hl
  exact ⟨t.2, sbind t1 rfl, fun i => alN st N i N, fun i hi => ⟨t2 i (by omega), alN_lt i N r1, alN_bit i N⟩⟩
theorem C_tellApart (R : rT 10 3 3 1903 9 qMen cells rows st N) (al ls ms : Nat → Int32) {b : Nat} {x : Nat → Nat} (hb : b ≤ N) (hF : FstM N (enm (oneM st N) N N (fun k => k)) b x) : ∃ v, F_X3_tellApart al cells rows ls ms = some v ∧ v.1 = nI b ∧ ∀ k, k < N → v.2.2.1 k = nI (x k) := by
  obtain ⟨⟨r1, r2, r3⟩, -, -⟩ := id R
  obtain ⟨f, f1, f2⟩ := C_compare R al
  have hl : ∃ t, itr (B_X3_tellApart_6 f rows) FU ((0 : Int32), ls, ms) = some t ∧ ∃ z, t = .inr z ∧ z.1 = nI b ∧ ∀ k, k < N → z.2.2.1 k = nI (x k) := by
    refine itr_fu (I := fun s => ∃ o, o ≤ b ∧ s.1 = nI o) (μ := fun s => 11 - s.1.toNatClampNeg) _ _ ⟨0, Nat.zero_le _, rfl⟩ (by dsimp only; omega) ?_
    rintro ⟨o', ls', ms'⟩ ⟨o, q1, q2⟩
    dsimp only at q2
    subst q2
    unfold B_X3_tellApart_6
    dsimp only
    have hM : MemR 0 (fun k => k) (filI ms' 10 0) := ⟨fun _ => 0, fun s hs => ⟨by unfold filI; rw [if_pos hs]; rfl, show (0 : Nat) < 1024 from by decide, fun k => by rw [Nat.zero_testBit, decide_eq_false (Nat.not_lt_zero k)]; rfl⟩⟩
    obtain ⟨v, v1, v2, v3⟩ := C_settle f2 r2 r1 N 12 (by omega) 0 o (fun k => k) ls' (filI ms' 10 0) (by omega) (fun k hk => absurd hk (Nat.not_lt_zero _)) hM (fun k hk => absurd hk (Nat.not_lt_zero _)) (by omega)
    have hn : ¬ (10 : Int32) < nI o := nltL 10 10 rfl (by omega) (by omega)
    rw [if_neg hn, J_fillI (by decide)]
    by_cases h : o < b
    · left
      obtain ⟨x1, x2, x3⟩ := v3 (hF.2 o h)
      refine ⟨(nI (o + 1), v.2.1, v.2.2), ?_, ⟨o + 1, h, rfl⟩, ?_⟩
      · refine sbind rfl (sbind v1 ?_)
        rw [x1, if_pos rfl, lt_eq, nI_1]
      · dsimp only
        rw [nI_clamp (by omega), nI_clamp (by omega)]; omega
    · right
      have e : o = b := by omega
      subst e
      obtain ⟨x1, x2⟩ := v2 x hF.1
      refine ⟨.inr (nI o, f, v.2.1, v.2.2), ?_, _, rfl, rfl, x2⟩
      refine sbind rfl (sbind v1 ?_)
      rw [x1, if_neg (by decide)]
  obtain ⟨t, t1, z, rfl, z1, z2⟩ := hl
  refine ⟨z, sbind f1 (sbind t1 rfl), z1, z2⟩
end MEO
