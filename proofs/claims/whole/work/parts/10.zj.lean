/-! PURE LAWS 25: balances, pairs -/
section NET
variable {tc : Nat → Nat → Int32} {tr : Nat → Int32} {nar nam : Int32} {st : Nat → Int32} {n : Nat → Nat} {a b : Nat}
/-- the balance of a merchant by the first d debts -/
def balF (st : Nat → Int32) (ow : Nat → Nat) (m : Nat) : Nat → Int64
  | 0 => 0
  | d + 1 => balF st ow m d + (if st (1092 + 7 * d) = nI m then lN (ow d) else if st (1092 + 7 * d + 1) = nI m then -(lN (ow d)) else 0)
/-- what one owes another by the first d debts: k = 10 owes + lender -/
def prsF (st : Nat → Int32) (ow : Nat → Nat) (k : Nat) : Nat → Nat
  | 0 => 0
  | d + 1 => prsF st ow k d + (if nI 10 * st (1092 + 7 * d + 1) + st (1092 + 7 * d) = nI k then ow d else 0)
theorem prs_le {ow : Nat → Nat} {k N : Nat} (h : ∀ d, d < N → ow d ≤ 1000000000000) : ∀ d, d ≤ N → prsF st ow k d ≤ 1000000000000 * d
  | 0, _ => Nat.le_refl _
  | d + 1, hd => by
    have h1 := prs_le (k := k) h d (by omega)
    have h2 := h d (by omega)
    show prsF st ow k d + (if nI 10 * st (1092 + 7 * d + 1) + st (1092 + 7 * d) = nI k then ow d else 0) ≤ _
    split <;> omega
theorem C_book {f : Nat → Int64} {m : Nat} {x : Int64} (hm : m < 10) : F_X4_book f (nI m) x = some (vp_updL f m (f m + x)) := by
  unfold F_X4_book
  refine sbind (x := vp_updL f m (f m + x)) ?_ rfl
  rw [if_neg (nI_pos (by omega)), if_pos (ltR 10 10 rfl hm (by decide))]
  exact sbind (gL_at hm (by decide)) (sbind (sL_at hm (by decide)) rfl)
theorem C_pairOf {x y : Nat} (hx : x < 10) (hy : y < 10) : F_X4_pairOf (nI x) (nI y) = some (nI (10 * x + y)) := by
  unfold F_X4_pairOf
  refine sbind (x := (1 : Int32)) (by rw [if_neg (nI_pos (by omega)), if_pos (ltR 10 10 rfl hx (by decide)), if_neg (nI_pos (by omega)), if_pos (ltR 10 10 rfl hy (by decide))]) ?_
  refine sbind (x := nI (10 * x + y)) ?_ rfl
  rw [if_neg (by decide), show (10 : Int32) = nI 10 from rfl, pk_mul, nI_add, Nat.mul_comm x]
theorem WEIGH (R : RelN actK tc tr nar nam st n a b) {se : Nat} {ow : Nat → Nat} (hO : ∀ d, d < n 2 → ow d ≤ 1000000000000 ∧ OwC tc tr d se (ow d) ∧ OwM st d se (ow d)) (bal prs : Nat → Int64) (a1 : Int64) (a2 a3 a4 a5 : Int32) (a6 : Nat → Int64) (a7 : Int32) (paid : Nat → Int64) :
    ∃ o, F_X4_weigh bal (tc 2) (tr 2) (tc 3) (tr 3) (tc 0) (tr 0) (tc 4) (tr 4) a1 a2 a3 a4 a5 a6 a7 paid prs (nI se) = some o ∧ (∀ m, m < 10 → o.1 m = balF st ow m (n 2)) ∧ (∀ k, k < 100 → o.2.2.2.2.2.2.2.2.2 k = lN (prsF st ow k (n 2))) := by
  have R3 := R.2.2.2.1
  obtain ⟨r1, r2, r3⟩ := id R3.1
  have hM10 : n 0 ≤ 10 := R.1.1.1
  unfold F_X4_weigh
  have hl : ∃ t, itr (B_X4_weigh_18 (tr 3) (tc 2) (tr 2) (tc 3) (tc 0) (tr 0) (tc 4) (tr 4) (nI se)) FU ((0 : Int32), filL bal 10 0, a1, a2, a3, a4, a5, a6, a7, paid, filL prs 100 0) = some t ∧ (∀ m, m < 10 → t.2.1 m = balF st ow m (n 2)) ∧ (∀ k, k < 100 → t.2.2.2.2.2.2.2.2.2.2 k = lN (prsF st ow k (n 2))) := by
    refine itr_fu (I := fun s => ∃ d, d ≤ n 2 ∧ s.1 = nI d ∧ (∀ m, m < 10 → s.2.1 m = balF st ow m d) ∧ (∀ k, k < 100 → s.2.2.2.2.2.2.2.2.2.2 k = lN (prsF st ow k d))) (μ := fun s => n 2 - s.1.toNatClampNeg) _ _ ⟨0, by omega, rfl, fun m hm => by show filL bal 10 0 m = _; unfold filL; rw [if_pos hm]; rfl, fun k hk => by show filL prs 100 0 k = _; unfold filL; rw [if_pos hk]; rfl⟩ (by dsimp only; omega) ?_
    rintro ⟨i1, bl, c1, c2, c3, c4, c5, c6, c7, pd, pr⟩ ⟨d, hd, q1, q2, q3⟩
    dsimp only at q1 q2 q3
    subst q1
    unfold B_X4_weigh_18
    dsimp only
    rw [r2]
    by_cases hlt : d < n 2
    · left
      rw [if_pos (nI_lt hlt (by omega)), ← r2]
      obtain ⟨o1, o2, o3⟩ := hO d hlt
      obtain ⟨oc, e1, e2⟩ := o2 c1 c2 c3 c4 c5 c6 c7 pd
      obtain ⟨x, y, s, l, u, z1, z2, z3, z4, z5, -⟩ := deb_at R3 hlt
      have g0 := C_deb (j := 0) R3 hlt (by decide)
      rw [Nat.add_zero, z4] at g0
      have g1 := C_deb (j := 1) R3 hlt (by decide)
      rw [z5] at g1
      have hpl := prs_le (st := st) (ow := ow) (k := 10 * y + x) (N := n 2) (fun d hd => (hO d hd).1) d (by omega)
      refine ⟨(nI (d + 1), vp_updL (vp_updL bl x (bl x + lN (ow d))) y ((vp_updL bl x (bl x + lN (ow d))) y + -(lN (ow d))), oc.2.1, oc.2.2.1, oc.2.2.2.1, oc.2.2.2.2.1, oc.2.2.2.2.2.1, oc.2.2.2.2.2.2.1, oc.2.2.2.2.2.2.2.1, oc.2.2.2.2.2.2.2.2, vp_updL pr (10 * y + x) (pr (10 * y + x) + lN (ow d))), ?_, ⟨d + 1, by omega, rfl, fun m hm => ?_, fun k hk => ?_⟩, ?_⟩
      · refine sbind e1 (sbind g0 (sbind g1 ?_))
        rw [e2]
        refine sbind (C_book (by omega)) (sbind (C_book (by omega)) (sbind (C_pairOf (by omega) (by omega)) (sbind (x := vp_updL pr (10 * y + x) (pr (10 * y + x) + lN (ow d))) ?_ (by rw [lt_eq, nI_1]))))
        rw [if_neg (nI_pos (by omega)), if_pos (ltR 100 100 rfl (by omega) (by decide))]
        exact sbind (gL_at (by omega) (by decide)) (sbind (sL_at (by omega) (by decide)) rfl)
      · show _ = balF st ow m d + (if st (1092 + 7 * d) = nI m then lN (ow d) else if st (1092 + 7 * d + 1) = nI m then -(lN (ow d)) else 0)
        rw [z4, z5, ← q2 m hm]
        dsimp only
        by_cases h1 : m = x
        · subst h1
          rw [pk_uLn z3, pk_uLs, if_pos rfl]
        · rw [if_neg (ne_nI (by omega) (by omega) (Ne.symm h1))]
          by_cases h2 : m = y
          · subst h2
            rw [pk_uLs, pk_uLn (Ne.symm z3), if_pos rfl]
          · rw [pk_uLn h2, pk_uLn h1, if_neg (ne_nI (by omega) (by omega) (Ne.symm h2)), Int64.add_zero]
      · show _ = lN (prsF st ow k d + (if nI 10 * st (1092 + 7 * d + 1) + st (1092 + 7 * d) = nI k then ow d else 0))
        rw [z4, z5, pk_mul, nI_add]
        dsimp only
        by_cases h1 : k = 10 * y + x
        · subst h1
          rw [pk_uLs, if_pos rfl, q3 _ hk, lN_add]
        · rw [pk_uLn h1, if_neg (ne_nI (by omega) (by omega) (Ne.symm h1)), q3 k hk]; rfl
      · dsimp only
        rw [nI_clamp (by omega), nI_clamp (by omega)]; omega
    · right
      have e : d = n 2 := by omega
      subst e
      exact ⟨_, by rw [if_neg (nI_nlt (Nat.le_refl _) (by omega))], q2, q3⟩
  obtain ⟨t, h1, h2, h3⟩ := hl
  exact ⟨_, sbind (J_fillL (by decide)) (sbind (J_fillL (by decide)) (sbind h1 rfl)), h2, h3⟩
theorem MBAL (R : RelN actK tc tr nar nam st n a b) {se m : Nat} (hm : m < 10) {ow : Nat → Nat} (hO : ∀ d, d < n 2 → ow d ≤ 1000000000000 ∧ OwC tc tr d se (ow d) ∧ OwM st d se (ow d)) (b1 : Nat → Int64) (b2 : Nat → Int32) (b3 : Int32) (b4 : Nat → Int64) (b5 : Int32) (b6 b7 : Nat → Int32) :
    ∃ o, F_X12_balanceOf b1 st b2 b3 b4 b5 b6 b7 (nI m) (nI se) = some o ∧ o.1 = balF st ow m (n 2) := by
  have R3 := R.2.2.2.1
  obtain ⟨r1, r2, r3⟩ := id R3.1
  unfold F_X12_balanceOf
  have hl : ∃ t, itr (B_X12_balanceOf_5 st (nI m) (nI se)) FU ((0 : Int64), (0 : Int32), b1, b2, b3, b4, b5, b6, b7) = some t ∧ t.1 = balF st ow m (n 2) := by
    refine itr_fu (I := fun s => ∃ d, d ≤ n 2 ∧ s.2.1 = nI d ∧ s.1 = balF st ow m d) (μ := fun s => n 2 - s.2.1.toNatClampNeg) _ _ ⟨0, by omega, rfl, rfl⟩ (by dsimp only; omega) ?_
    rintro ⟨sm, i1, c1, c2, c3, c4, c5, c6, c7⟩ ⟨d, hd, q1, q2⟩
    dsimp only at q1 q2
    subst q1; subst q2
    unfold B_X12_balanceOf_5
    dsimp only
    by_cases hlt : d < n 2
    · left
      obtain ⟨o1, o2, o3⟩ := hO d hlt
      obtain ⟨oc, e1, e2⟩ := o3 c1 c2 c3 c4 c5 c6 c7
      have g0 := M_debtOf (st := st) (d := d) (j := 0) (by omega)
      rw [Nat.add_zero] at g0
      have g1 := M_debtOf (st := st) (d := d) (j := 1) (by omega)
      have hv : balF st ow m (d + 1) = balF st ow m d + (if st (1092 + 7 * d) = nI m then lN (ow d) else if st (1092 + 7 * d + 1) = nI m then -(lN (ow d)) else 0) := rfl
      have hmu : n 2 - (nI (d + 1)).toNatClampNeg < n 2 - (nI d).toNatClampNeg := by
        rw [nI_clamp (by omega), nI_clamp (by omega)]; omega
      by_cases h1 : st (1092 + 7 * d) = nI m
      · rw [if_pos h1] at hv
        refine ⟨(balF st ow m (d + 1), nI (d + 1), oc.2.1, oc.2.2.1, oc.2.2.2.1, oc.2.2.2.2.1, oc.2.2.2.2.2.1, oc.2.2.2.2.2.2.1, oc.2.2.2.2.2.2.2), sbind (M_at (k := 2) (by decide)) ?_, ⟨d + 1, by omega, rfl, rfl⟩, hmu⟩
        rw [r3, if_pos (nI_lt hlt (by omega))]
        refine sbind g0 (sbind (by rw [if_pos h1]; exact sbind e1 rfl) ?_)
        dsimp only
        rw [e2, lt_eq, lt_eq, ← hv, nI_1]
      · rw [if_neg h1] at hv
        by_cases h2 : st (1092 + 7 * d + 1) = nI m
        · rw [if_pos h2] at hv
          refine ⟨(balF st ow m (d + 1), nI (d + 1), oc.2.1, oc.2.2.1, oc.2.2.2.1, oc.2.2.2.2.1, oc.2.2.2.2.2.1, oc.2.2.2.2.2.2.1, oc.2.2.2.2.2.2.2), sbind (M_at (k := 2) (by decide)) ?_, ⟨d + 1, by omega, rfl, rfl⟩, hmu⟩
          rw [r3, if_pos (nI_lt hlt (by omega))]
          refine sbind g0 (sbind (by rw [if_neg h1]; exact sbind g1 (by rw [if_pos h2]; exact sbind e1 rfl)) ?_)
          dsimp only
          rw [e2, lt_eq, lt_eq, ← hv, nI_1]
        · rw [if_neg h2] at hv
          refine ⟨(balF st ow m (d + 1), nI (d + 1), c1, c2, c3, c4, c5, c6, c7), sbind (M_at (k := 2) (by decide)) ?_, ⟨d + 1, by omega, rfl, rfl⟩, hmu⟩
          rw [r3, if_pos (nI_lt hlt (by omega))]
          refine sbind g0 (sbind (x := ((0 : Int64), c1, c2, c3, c4, c5, c6, c7)) (by rw [if_neg h1]; exact sbind g1 (by rw [if_neg h2])) ?_)
          dsimp only
          rw [lt_eq, lt_eq, ← hv, nI_1]
    · right
      have e : d = n 2 := by omega
      subst e
      refine ⟨(balF st ow m (n 2), nI (n 2), c1, c2, c3, c4, c5, c6, c7), sbind (M_at (k := 2) (by decide)) ?_, rfl⟩
      rw [r3, if_neg (nI_nlt (Nat.le_refl _) (by omega))]
  obtain ⟨t, h1, h2⟩ := hl
  exact ⟨_, sbind h1 rfl, h2⟩
theorem P_balance (h : Rel actK tc tr nar nam st) (a1 : Int64) (a2 a3 a4 a5 : Int32) (a6 : Nat → Int64) (a7 : Int32) (paid bal prs : Nat → Int64) (b1 : Nat → Int64) (b2 : Nat → Int32) (b3 : Int32) (b4 : Nat → Int64) (b5 : Int32) (b6 b7 : Nat → Int32) (p0 p1 : Int32) :
    Two (F_X11_balance a1 a2 a3 a4 a5 a6 a7 paid bal prs (tc 2) (tr 2) (tc 3) (tr 3) (tc 0) (tr 0) (tc 4) (tr 4) p0 p1) (F_X12_balance b1 st b2 b3 b4 b5 b6 b7 p0 p1) (fun o1 o2 => o1.1 = o2.1) := by
  obtain ⟨n, a, b, R⟩ := h
  obtain ⟨⟨m1, m2, m3⟩, -, -⟩ := id R.1
  unfold F_X11_balance F_X12_balance
  by_cases h0 : inR p0 0 (((n 0 : Nat) : Int) - 1)
  · refine two_l (by rw [m2]; exact C_noM_t (by omega) h0) (two_r (M_is_t (c := 0) (by decide) m3 (by omega) h0) ?_)
    rw [if_pos rfl, if_neg (by decide)]
    by_cases h1 : inR p1 0 99
    · refine two_l (C_season_t h1) ?_
      rw [if_pos rfl]
      obtain ⟨m, k1, k2, rfl⟩ := inR_row h0
      obtain ⟨s, s1, s2, rfl⟩ := inR_nat (b := 99) h1
      obtain ⟨ow, hO⟩ := OWES R s1
      obtain ⟨o, e1, e2, -⟩ := WEIGH R hO bal prs a1 a2 a3 a4 a5 a6 a7 paid
      obtain ⟨q, f1, f2⟩ := MBAL R (m := m) (by omega) hO b1 b2 b3 b4 b5 b6 b7
      refine two_l e1 (two_l (x := balF st ow m (n 2)) ?_ (two_r (sbind (M_season_t h1) (by rw [if_neg (by decide)]; exact sbind f1 rfl)) (two_end f2.symm)))
      unfold F_X4_of
      refine sbind (x := balF st ow m (n 2)) ?_ rfl
      rw [if_neg (nI_pos (by omega)), if_pos (ltR 10 10 rfl (by omega) (by decide))]
      exact sbind (gL_at (by omega) (by decide)) (by rw [e2 m (by omega)])
    · exact two_l (C_season_f h1) (by
        rw [if_neg (by decide)]
        exact two_r (sbind (M_season_f h1) (by rw [if_pos rfl])) (two_end rfl))
  · refine two_l (by rw [m2]; exact C_noM_f (by omega) h0) (two_r (M_is_f (c := 0) (by decide) m3 (by omega) h0) ?_)
    rw [if_neg (by decide), if_pos rfl]
    exact two_r rfl (two_end rfl)
end NET
