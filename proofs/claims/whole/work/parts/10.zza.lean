/-! PURE LAWS 42: plan, the model's side and the call -/
section PLC
variable {g : Nat → Nat → Nat → Int64} {sv : Nat → Int64} {N : Nat} {st : Nat → Int32}
  {c3 : (Nat → Int64) × (Nat → Int64) × (Nat → Int32) × Int32 × (Nat → Int64) × Int32 × (Nat → Int32) × (Nat → Int32)}
theorem M_world (H : SvI g c3.2.1 N) (hN : N ≤ 6) {s11 : Int64 × Int32} {k : Nat} (hk : k < 3) (h11 : s11.2 = nI k) {p : Nat} (hp : p < 2 ^ 31) : ∃ t, itr (B_X12_plan_103 c3 s11) FU ((0 : Int64), nI p, nI N - 1) = some t ∧ t.1 = swS g k N p 0 := by
  refine itr_fu (I := fun s => ∃ l r, l ≤ N ∧ r < 2 ^ 31 ∧ s.2.1 = nI r ∧ s.2.2 = nI l - 1 ∧ swS g k l r s.1 = swS g k N p 0) (μ := fun s => (s.2.2 + 1).toNatClampNeg) _ _ ⟨N, p, Nat.le_refl _, hp, rfl, rfl, rfl⟩ (by dsimp only; rw [m1b, nI_clamp (by omega)]; omega) ?_
  rintro ⟨x, rest', load'⟩ ⟨l, r, q1, q2, q3, q4, q5⟩
  dsimp only at q3 q4 q5
  subst q3 q4
  unfold B_X12_plan_103
  dsimp only
  cases l with
  | zero => right; exact ⟨_, by rw [if_pos ((m1n (by decide)).mpr rfl)], q5⟩
  | succ l =>
    left
    have hm : r % 3 < 3 := Nat.mod_lt _ (by decide)
    refine ⟨(x + g l (r % 3) k, nI (r / 3), nI l - 1), ?_, ⟨l, r / 3, by omega, by omega, rfl, rfl, q5⟩, ?_⟩
    · rw [if_neg (fun z => absurd ((m1n (by omega)).mp z) (by omega)), m1s, h11]
      refine sbind (m3_ q2) ?_
      rw [show (9 : Int32) = nI 9 from rfl, show (3 : Int32) = nI 3 from rfl, pk_mul, pk_mul, nI_add, nI_add]
      refine sbind (gL_at (by omega) (by decide)) ?_
      rw [H l (r % 3) k (by omega) hm hk, lt_eq]
      refine sbind (q3_ q2) ?_
      rw [m1d, lt_eq]
    · dsimp only
      rw [m1b, m1b, nI_clamp (by omega), nI_clamp (by omega)]; omega
theorem M_worst (H : SvI g c3.2.1 N) (hN : N ≤ 6) (h10 : st 10 = nI N) {s9 : Int32 × Int64 × Int32} {p : Nat} (hp : p < 2 ^ 31) (h9 : s9.2.2 = nI p) : ∃ t, itr (B_X12_plan_79 st c3 s9) FU ((0 : Int64), (0 : Int32)) = some t ∧ t.1 = worst g N p := by
  have st10 : gI st 1951 10 = some (nI N) := by rw [← h10]; exact M_at (k := 10) (by decide)
  let mv : Nat → Int64 := fun k => match k with
    | 0 => 0
    | 1 => swS g 0 N p 0
    | 2 => if swS g 1 N p 0 < swS g 0 N p 0 then swS g 1 N p 0 else swS g 0 N p 0
    | _ => worst g N p
  have hl := itr_fu (f := B_X12_plan_79 st c3 s9) (I := fun s => ∃ k, k ≤ 3 ∧ s.2 = nI k ∧ s.1 = mv k) (μ := fun s => 3 - s.2.toNatClampNeg) (fun t => t.1 = worst g N p) ((0 : Int64), (0 : Int32)) ⟨0, by decide, rfl, rfl⟩ (by dsimp only; omega) (by
    rintro ⟨m', k'⟩ ⟨k, q1, q2, q3⟩
    dsimp only at q2 q3
    subst q2 q3
    unfold B_X12_plan_79
    dsimp only
    by_cases h : k < 3
    · left
      refine ⟨(mv (k + 1), nI (k + 1)), ?_, ⟨k + 1, h, rfl, rfl⟩, ?_⟩
      · rw [if_pos (ltR 3 3 rfl h (by decide))]
        refine sbind st10 ?_
        rw [lt_eq]
        obtain ⟨t, t1, t2⟩ := M_world (s11 := (mv k, nI k)) H hN h rfl hp
        rw [h9]
        refine sbind t1 (sbind (x := mv (k + 1)) ?_ (by rw [lt_eq, nI_1]))
        rw [t2]
        rcases (show k = 0 ∨ k = 1 ∨ k = 2 by omega) with rfl | rfl | rfl
        · exact if_pos rfl
        · rw [if_neg (by decide)]
          show (if swS g 1 N p 0 < swS g 0 N p 0 then _ else _) = some (if swS g 1 N p 0 < swS g 0 N p 0 then swS g 1 N p 0 else swS g 0 N p 0)
          split <;> rfl
        · rw [if_neg (by decide)]
          show (if swS g 2 N p 0 < (if swS g 1 N p 0 < swS g 0 N p 0 then swS g 1 N p 0 else swS g 0 N p 0) then some (swS g 2 N p 0) else some (if swS g 1 N p 0 < swS g 0 N p 0 then swS g 1 N p 0 else swS g 0 N p 0)) = some (worst g N p)
          unfold worst
          by_cases e : swS g 2 N p 0 < (if swS g 1 N p 0 < swS g 0 N p 0 then swS g 1 N p 0 else swS g 0 N p 0)
          · rw [if_pos e, if_pos e]
          · rw [if_neg e, if_neg e]
      · dsimp only
        rw [nI_clamp (by omega), nI_clamp (by omega)]; omega
    · right
      have e : k = 3 := by omega
      subst e
      exact ⟨_, by rw [if_neg (by decide)], rfl⟩)
  exact hl
theorem M_plans (hN : N ≤ 6) (h10 : st 10 = nI N) : ∃ t, itr (B_X12_plan_36 st) FU ((1 : Int32), (0 : Int32)) = some t ∧ t.1 = nI (3 ^ N) := by
  have st10 : gI st 1951 10 = some (nI N) := by rw [← h10]; exact M_at (k := 10) (by decide)
  refine itr_fu (I := fun s => ∃ l, l ≤ N ∧ s.1 = nI (3 ^ l) ∧ s.2 = nI l) (μ := fun s => N - s.2.toNatClampNeg) _ _ ⟨0, Nat.zero_le _, rfl, rfl⟩ (by dsimp only; omega) ?_
  rintro ⟨x', l'⟩ ⟨l, q1, q2, q3⟩
  dsimp only at q2 q3
  subst q2 q3
  unfold B_X12_plan_36
  dsimp only
  by_cases h : l < N
  · left
    refine ⟨(nI (3 ^ (l + 1)), nI (l + 1)), sbind st10 ?_, ⟨l + 1, h, rfl, rfl⟩, ?_⟩
    · rw [if_pos (nI_lt h (by omega)), lt_eq, lt_eq, show (3 : Int32) = nI 3 from rfl, pk_mul, nI_1, Nat.pow_succ]
    · dsimp only
      rw [nI_clamp (by omega), nI_clamp (by omega)]; omega
  · right
    have e : l = N := by omega
    subst e
    exact ⟨_, sbind st10 (by rw [if_neg (nI_nlt (Nat.le_refl _) (by omega))]), rfl⟩
theorem M_choose (H : SvI g c3.2.1 N) (hN : N ≤ 6) (h10 : st 10 = nI N) {x5 : Int32 × Int32} (h5 : x5.1 = nI (3 ^ N)) : ∃ u, itr (B_X12_plan_67 x5 st c3) FU ((0 : Int32), (0 : Int64), (0 : Int32)) = some u ∧ (u.2.1 = (bpl (worst g N) (3 ^ N)).1 ∧ u.1 = nI (bpl (worst g N) (3 ^ N)).2) := by
  have h3 := p3_le hN
  refine itr_fu (I := fun s => ∃ j, j ≤ 3 ^ N ∧ s.2.2 = nI j ∧ s.2.1 = (bpl (worst g N) j).1 ∧ s.1 = nI (bpl (worst g N) j).2) (μ := fun s => 3 ^ N - s.2.2.toNatClampNeg) _ _ ⟨0, Nat.zero_le _, rfl, rfl, rfl⟩ (by dsimp only; omega) ?_
  rintro ⟨c', b', j'⟩ ⟨j, q2, q3, q4, q5⟩
  dsimp only at q3 q4 q5
  subst q3 q4 q5
  unfold B_X12_plan_67
  dsimp only
  rw [h5]
  by_cases h : j < 3 ^ N
  · left
    refine ⟨(nI (bpl (worst g N) (j + 1)).2, (bpl (worst g N) (j + 1)).1, nI (j + 1)), ?_, ⟨j + 1, h, rfl, rfl, rfl⟩, ?_⟩
    · rw [if_pos (nI_lt h (by omega))]
      obtain ⟨t, t1, t2⟩ := M_worst (s9 := (nI (bpl (worst g N) j).2, (bpl (worst g N) j).1, nI j)) H hN h10 (p := j) (by omega) rfl
      refine sbind t1 ?_
      rw [t2]
      have e : bpl (worst g N) (j + 1) = if j = 0 then (worst g N 0, 0) else if (bpl (worst g N) j).1 < worst g N j then (worst g N j, j) else bpl (worst g N) j := rfl
      rw [e]
      by_cases h0 : j = 0
      · subst h0
        rw [if_pos rfl, if_pos (show nI 0 = 0 from rfl)]
        exact sbind rfl (by rw [lt_eq, nI_1])
      · rw [if_neg h0, if_neg (neR 0 0 rfl (by omega) (by decide) h0)]
        by_cases h2 : (bpl (worst g N) j).1 < worst g N j
        · rw [if_pos h2, if_pos h2]
          exact sbind rfl (by rw [lt_eq, nI_1])
        · rw [if_neg h2, if_neg h2]
          exact sbind rfl (by rw [lt_eq, nI_1])
    · dsimp only
      rw [nI_clamp (by omega), nI_clamp (by omega)]; omega
  · right
    have e : j = 3 ^ N := by omega
    subst e
    exact ⟨_, by rw [if_neg (nI_nlt (Nat.le_refl _) (by omega))], rfl, rfl⟩
theorem M_wayOf (hN : N ≤ 6) {p l : Nat} (hp : p < 2 ^ 31) (hl : l < N) : ∃ t, itr (B_X12_plan_215 (nI l)) FU (nI p, nI N - 1) = some t ∧ t.1 = nI (wyS (N - 1 - l) p) := by
  refine itr_fu (I := fun s => ∃ k r, l ≤ k ∧ k < N ∧ r < 2 ^ 31 ∧ s.1 = nI r ∧ s.2 = nI k ∧ wyS (k - l) r = wyS (N - 1 - l) p) (μ := fun s => s.2.toNatClampNeg) _ _ ⟨N - 1, p, by omega, by omega, hp, rfl, by rw [show (1 : Int32) = nI 1 from rfl, pk_sub (by omega)], rfl⟩ (by dsimp only; rw [show (1 : Int32) = nI 1 from rfl, pk_sub (by omega), nI_clamp (by omega)]; omega) ?_
  rintro ⟨r', k'⟩ ⟨k, r, q1, q2, q3, q4, q5, q6⟩
  dsimp only at q4 q5
  subst q4 q5
  unfold B_X12_plan_215
  dsimp only
  by_cases h : l < k
  · left
    obtain ⟨d, rfl⟩ : ∃ d, k = d + 1 := ⟨k - 1, by omega⟩
    have hm1 : ¬ nI l = (-1 : Int32) := fun e => by
      have := nI_toInt (n := l) (by omega)
      rw [e, show ((-1 : Int32)).toInt = -1 from rfl] at this; omega
    refine ⟨(nI (r / 3), nI d), ?_, ⟨d, r / 3, by omega, by omega, by omega, rfl, rfl, ?_⟩, ?_⟩
    · rw [if_pos (nI_lt h (by omega)), if_neg hm1]
      exact sbind (q3_ q3) (by rw [lt_eq, pk_m1])
    · rw [show d + 1 - l = (d - l) + 1 by omega] at q6; exact q6
    · dsimp only
      rw [nI_clamp (by omega), nI_clamp (by omega)]; omega
  · right
    have e : k = l := by omega
    subst e
    rw [Nat.sub_self] at q6
    exact ⟨_, by rw [if_neg (nI_nlt (Nat.le_refl _) (by omega))], congrArg nI q6⟩
theorem M_way1 (x : Int32 × Int32) : itr (B_X12_plan_215 (-1)) FU x = some (x.1, x.2) := by
  show itr (B_X12_plan_215 (-1)) (999999999999 + 1) x = _
  refine itr_out ?_
  unfold B_X12_plan_215
  split
  · rw [if_pos rfl]
  · rfl
end PLC
section PLD
variable {tc : Nat → Nat → Int32} {tr : Nat → Int32} {nar nam : Int32} {st : Nat → Int32}
theorem P_plan (h : Rel actK tc tr nar nam st) (a1 : Int64) (a2 a3 a4 a5 : Int32) (a6 : Nat → Int64) (a7 : Int32) (be : Int64) (bp : Int32) (cs : Nat → Int64) (b1 : Nat → Int64) (sv : Nat → Int64) (b2 : Nat → Int32) (b3 : Int32) (b4 : Nat → Int64) (b5 : Int32) (b6 b7 : Nat → Int32) (p0 p1 : Int32) :
    Two (F_X11_plan a1 a2 a3 a4 a5 a6 a7 (tc 2) (tr 2) (tc 6) (tr 6) (tc 11) (tr 11) (tc 0) (tr 0) nar (tc 12) (tr 12) be bp cs p0 p1) (F_X12_plan b1 sv st b2 b3 b4 b5 b6 b7 p0 p1) (fun o1 o2 => o1.1 = o2.1) := by
  obtain ⟨n, a, b, R⟩ := h
  have hM10 : n 0 ≤ 10 := R.1.1.1
  have RL := R.2.2.2.2.2.2.2.2.2.2.2.1
  obtain ⟨r1, r2, r3⟩ := id RL.1
  have hN : n 10 ≤ 6 := r1
  unfold F_X11_plan F_X12_plan
  refine two_guard (c := inR p0 0 99) C_season_t C_season_f M_season_t M_season_f (fun _ => two_end rfl) (fun hs => ?_)
  obtain ⟨M, W, C, FL⟩ := loa_fun hM10 RL
  obtain ⟨P, FP⟩ := pri_fun R.2.2.2.2.2.2.2.2.2.2.2.2.1
  have hV : ∃ V : Nat → Nat, ∀ l, l < n 10 → V l ≤ W l ∧ WiC tc tr p0 (M l) (W l) (V l) ∧ WiM st p0 (M l) (W l) (V l) := by
    have h : ∀ l, ∃ v : Nat, l < n 10 → v ≤ W l ∧ WiC tc tr p0 (M l) (W l) v ∧ WiM st p0 (M l) (W l) v := fun l => by
      by_cases hl : l < n 10
      · obtain ⟨f1, f2, f3, -⟩ := FL l hl
        obtain ⟨v, hv⟩ := WIDE1 R f1 f3 p0
        exact ⟨v, fun _ => hv⟩
      · exact ⟨0, fun z => absurd z hl⟩
    exact ⟨fun l => Classical.choose (h l), fun l => Classical.choose_spec (h l)⟩
  obtain ⟨V, HV⟩ := hV
  obtain ⟨o1, e1, e2⟩ := C_value R FL FP HV cs a1 a2 a3 a4 a5 a6 a7
  obtain ⟨o2, f1, f2⟩ := M_silver R FL FP HV b1 sv b2 b3 b4 b5 b6 b7
  have H1 : SvI (silF (lfF V W a) P C) o1.1 (n 10) := fun l w k hl hw hk => e2 l w k hl hw hk
  have H2 : SvI (silF (lfF V W a) P C) o2.2.1 (n 10) := fun l w k hl hw hk => f2 l w k hl hw hk
  generalize silF (lfF V W a) P C = g at H1 H2
  obtain ⟨x5, x51, x52⟩ := M_plans (st := st) hN r3
  obtain ⟨u, u1, u2, u3⟩ := M_choose (c3 := o2) H2 hN r3 (x5 := x5) x52
  have st10 : gI st 1951 10 = some (nI (n 10)) := by rw [← r3]; exact M_at (k := 10) (by decide)
  have hb := bpl_le (worst g (n 10)) (3 ^ n 10)
  have h3 := p3_le hN
  by_cases hm : p1 = -1
  · refine two_l (C_out_t (a := -1) (b := (n 10 : Int) - 1) rfl (by rw [r2]; exact nI_m1 (by omega)) ⟨by rw [hm]; decide, by rw [hm, show ((-1 : Int32)).toInt = -1 from rfl]; omega⟩) ?_
    rw [if_pos rfl, if_pos hm]
    refine two_l e1 (two_l (C_choose H1 hN r2 be bp) (two_l (x := (bpl (worst g (n 10)) (3 ^ n 10)).1) (by rw [if_pos hm]) ?_))
    unfold J_X12_plan_1_26
    refine two_r f1 (two_r x51 (two_r u1 (two_r st10 ?_)))
    rw [lt_eq, hm]
    refine two_r (M_way1 _) (two_r (x := u.2.1) (by rw [if_pos rfl]) (two_end u2.symm))
  · by_cases hi : inR p1 0 (((n 10 : Nat) : Int) - 1)
    · refine two_l (C_out_t (a := -1) (b := (n 10 : Int) - 1) rfl (by rw [r2]; exact nI_m1 (by omega)) ⟨by have := hi.1; omega, hi.2⟩) ?_
      rw [if_pos rfl, if_neg hm]
      refine two_r (M_is_t (c := 10) (by decide) r3 (by omega) hi) ?_
      rw [if_neg (by decide)]
      obtain ⟨l, k1, k2, rfl⟩ := inR_row hi
      refine two_l e1 (two_l (C_choose H1 hN r2 be bp) (two_l (x := (nI (wyS (n 10 - 1 - l) (bpl (worst g (n 10)) (3 ^ n 10)).2 % 3)).toInt64) (by
        rw [if_neg hm]
        exact sbind (C_wayOf r2 hN (by omega) k1) rfl) ?_))
      unfold J_X12_plan_1_26
      refine two_r f1 (two_r x51 (two_r u1 (two_r st10 ?_)))
      rw [lt_eq, u3]
      obtain ⟨t, t1, t2⟩ := M_wayOf (N := n 10) hN (p := (bpl (worst g (n 10)) (3 ^ n 10)).2) (l := l) (by omega) k1
      refine two_r t1 (two_r (x := (nI (wyS (n 10 - 1 - l) (bpl (worst g (n 10)) (3 ^ n 10)).2 % 3)).toInt64) ?_ (two_end rfl))
      rw [if_neg hm, t2]
      exact sbind (m3_ (Nat.lt_of_le_of_lt (wyS_le _ _) (by omega))) rfl
    · have hn : ¬ inR p1 (-1) (((n 10 : Nat) : Int) - 1) := fun z => hi ⟨by
        have h1 := z.1
        have h2 : p1.toInt ≠ -1 := fun e => hm (by rw [← Int32.toInt_inj, e]; rfl)
        omega, z.2⟩
      refine two_l (C_out_f (a := -1) (b := (n 10 : Int) - 1) rfl (by rw [r2]; exact nI_m1 (by omega)) hn) ?_
      rw [if_neg (by decide), if_neg hm]
      refine two_r (M_is_f (c := 10) (by decide) r3 (by omega) hi) ?_
      rw [if_pos rfl]
      exact two_end rfl
end PLD
