/-! PURE LAWS 36: orders, the model's; orders alike -/
section YRU
variable {tc : Nat → Nat → Int32} {tr : Nat → Int32} {nar nam : Int32} {st : Nat → Int32}
theorem M_to {N : Nat} {bef : Nat → Nat} {x7 : Int32 × (Nat → Int32)} (hN : N ≤ 9) (hc : ∀ b, b < 9 → bef b < 2 ^ N) (hg : ∀ b, b < 9 → x7.2 b = nI (bef b)) (to : Nat → Int64) : ∃ t, itr (B_X12_findOrders_109 (nI (2 ^ N - 1)) (nI N) x7) FU ((0 : Int32), to) = some t ∧ ∀ s, s < 2 ^ N → t.2 s = lN (TT N bef s) := by
  obtain ⟨hp1, hp2⟩ := pow9 hN
  refine itr_fu (I := fun s => ∃ k, k ≤ 2 ^ N ∧ s.1 = nI k ∧ ∀ j, j < k → s.2 j = lN (TT N bef j)) (μ := fun s => 2 ^ N - s.1.toNatClampNeg) _ _ ⟨0, by omega, rfl, fun j hj => absurd hj (Nat.not_lt_zero _)⟩ (by dsimp only; omega) ?_
  rintro ⟨k', f⟩ ⟨s, hs, q1, q2⟩
  dsimp only at q1 q2
  subst q1
  unfold B_X12_findOrders_109
  dsimp only
  by_cases hlt : s < 2 ^ N
  · left
    have h10 := lt_10 hN hlt
    rw [if_neg (nI_nlt (by omega) (by omega))]
    have hin : ∃ u, itr (B_X12_findOrders_135 (nI N) (nI s, f) x7) FU ((0 : Int32), vp_updL f s (lN (if s = 0 then 1 else 0))) = some u ∧ ∀ j, j < s + 1 → u.2 j = lN (TT N bef j) := by
      refine itr_fu (I := fun x => ∃ i, i ≤ N ∧ x.1 = nI i ∧ (∀ j, j < s → x.2 j = lN (TT N bef j)) ∧ x.2 s = lN ((if s = 0 then 1 else 0) + sumN (fun a => if s.testBit a = true ∧ sub (bef a) (s - 2 ^ a) then TT N bef (s - 2 ^ a) else 0) i)) (μ := fun x => N - x.1.toNatClampNeg) _ _ ⟨0, by omega, rfl, fun j hj => by dsimp only; rw [pk_uLn (by omega)]; exact q2 j hj, pk_uLs⟩ (by dsimp only; omega) ?_
      rintro ⟨i', f2⟩ ⟨i, hi, p1, p2, p3⟩
      dsimp only at p1 p2 p3
      subst p1
      unfold B_X12_findOrders_135
      dsimp only
      by_cases hli : i < N
      · left
        have hb := B_all h10 (show i < 10 by omega)
        have hmu : N - (nI (i + 1)).toNatClampNeg < N - (nI i).toNatClampNeg := by rw [nI_clamp (by omega), nI_clamp (by omega)]; omega
        have hsum : sumN (fun a => if s.testBit a = true ∧ sub (bef a) (s - 2 ^ a) then TT N bef (s - 2 ^ a) else 0) (i + 1) = sumN (fun a => if s.testBit a = true ∧ sub (bef a) (s - 2 ^ a) then TT N bef (s - 2 ^ a) else 0) i + (if s.testBit i = true ∧ sub (bef i) (s - 2 ^ i) then TT N bef (s - 2 ^ i) else 0) := rfl
        have hskip : ¬ (s.testBit i = true ∧ sub (bef i) (s - 2 ^ i)) → ∃ j : Nat, j ≤ N ∧ (nI (i + 1), f2).1 = nI j ∧ (∀ l, l < s → (nI (i + 1), f2).2 l = lN (TT N bef l)) ∧ (nI (i + 1), f2).2 s = lN ((if s = 0 then 1 else 0) + sumN (fun a => if s.testBit a = true ∧ sub (bef a) (s - 2 ^ a) then TT N bef (s - 2 ^ a) else 0) j) := fun hno => ⟨i + 1, by omega, rfl, p2, by
          show f2 s = _
          rw [hsum, if_neg hno, Nat.add_zero]; exact p3⟩
        rw [if_pos (nI_lt hli (by omega)), hb.2.1]
        cases hbit : s.testBit i
        · refine ⟨(nI (i + 1), f2), sbind (x := f2) (by rw [if_neg (show ¬ (false = true) by decide), if_neg (by decide)]) (by rw [lt_eq, nI_1]), hskip (by rw [hbit]; exact fun q => absurd q.1 (by decide)), hmu⟩
        · obtain ⟨b1, b2, b3⟩ := hb.2.2.1 hbit
          have hpi : 1 ≤ 2 ^ i := Nat.one_le_two_pow
          have hout : (s - 2 ^ i).testBit i = false := by
            cases hc : (s - 2 ^ i).testBit i
            · rfl
            · exact absurd rfl (clr_out h10 (show i < 10 by omega) hbit hc).2
          have hmay := M_may (N := N) hN hc hg (a := i) (s := s - 2 ^ i) (by omega) (by omega)
          rw [hout] at hmay
          by_cases hsb : sub (bef i) (s - 2 ^ i)
          · rw [if_pos (And.intro rfl hsb)] at hmay
            have hsum2 := hsum
            rw [if_pos (show s.testBit i = true ∧ sub (bef i) (s - 2 ^ i) from ⟨hbit, hsb⟩)] at hsum2
            refine ⟨(nI (i + 1), vp_updL f2 s (lN ((if s = 0 then 1 else 0) + sumN (fun a => if s.testBit a = true ∧ sub (bef a) (s - 2 ^ a) then TT N bef (s - 2 ^ a) else 0) (i + 1)))), sbind (x := vp_updL f2 s (lN ((if s = 0 then 1 else 0) + sumN (fun a => if s.testBit a = true ∧ sub (bef a) (s - 2 ^ a) then TT N bef (s - 2 ^ a) else 0) (i + 1)))) ?_ (by rw [lt_eq, nI_1]), ⟨i + 1, by omega, rfl, fun j hj => ?_, pk_uLs⟩, hmu⟩
            · rw [if_pos (show true = true from rfl), if_pos rfl, b1]
              refine sbind hmay ?_
              rw [if_neg (by decide)]
              refine sbind (gL_at (by omega) (by decide)) (sbind (gL_at (by omega) (by decide)) (sbind (sL_at (by omega) (by decide)) ?_))
              rw [p3, p2 _ (by omega), lN_add, hsum2, Nat.add_assoc]
            · dsimp only
              rw [pk_uLn (by omega)]; exact p2 j hj
          · rw [if_neg (show ¬ (false = false ∧ sub (bef i) (s - 2 ^ i)) from fun q => hsb q.2)] at hmay
            refine ⟨(nI (i + 1), f2), sbind (x := f2) ?_ (by rw [lt_eq, nI_1]), hskip (fun q => hsb q.2), hmu⟩
            rw [if_pos (show true = true from rfl), if_pos rfl, b1]
            refine sbind hmay ?_
            rw [if_pos rfl]
      · right
        have e : i = N := by omega
        subst e
        refine ⟨(nI i, f2), by rw [if_neg (nI_nlt (Nat.le_refl _) (by omega))], fun j hj => ?_⟩
        dsimp only
        by_cases e : j = s
        · subst e; rw [p3, ← TT_eq hN hlt]
        · exact p2 j (by omega)
    obtain ⟨u, u1, u2⟩ := hin
    refine ⟨(nI (s + 1), u.2), sbind (x := lN (if s = 0 then 1 else 0)) ?_ (sbind (sL_at (by omega) (by decide)) (sbind u1 (by rw [lt_eq, nI_1]))), ⟨s + 1, by omega, rfl, u2⟩, ?_⟩
    · by_cases e : s = 0
      · rw [if_pos e, if_pos (by rw [e]; rfl)]; rfl
      · rw [if_neg e, if_neg (neR 0 0 rfl (by omega) (by decide) e)]; rfl
    · dsimp only
      rw [nI_clamp (by omega), nI_clamp (by omega)]; omega
  · right
    have e : s = 2 ^ N := by omega
    subst e
    exact ⟨(nI (2 ^ N), f), by rw [if_pos (nI_lt (by omega) (by omega))], q2⟩
theorem M_on {N : Nat} {bef : Nat → Nat} {x7 : Int32 × (Nat → Int32)} (hN : N ≤ 9) (hc : ∀ b, b < 9 → bef b < 2 ^ N) (hg : ∀ b, b < 9 → x7.2 b = nI (bef b)) (on : Nat → Int64) : ∃ t, itr (B_X12_findOrders_205 (nI (2 ^ N - 1)) (nI N) x7) FU (nI (2 ^ N - 1), on) = some t ∧ ∀ s, s < 2 ^ N → t.2 s = lN (OO N bef s) := by
  obtain ⟨hp1, hp2⟩ := pow9 hN
  -- the state by how many are still to do
  refine itr_fu (I := fun s => ∃ k, k ≤ 2 ^ N ∧ s.1 = nI k - 1 ∧ ∀ j, k ≤ j → j < 2 ^ N → s.2 j = lN (OO N bef j)) (μ := fun s => (s.1 + 1).toNatClampNeg) _ _ ⟨2 ^ N, Nat.le_refl _, by rw [show (1 : Int32) = nI 1 from rfl, pk_sub hp1], fun j h1 h2 => absurd h1 (by omega)⟩ (by dsimp only; rw [nI_1, nI_clamp (by omega)]; omega) ?_
  rintro ⟨k', f⟩ ⟨k, hk, q1, q2⟩
  dsimp only at q1 q2
  subst q1
  unfold B_X12_findOrders_205
  dsimp only
  by_cases hk0 : 0 < k
  · left
    obtain ⟨s, rfl⟩ : ∃ s, k = s + 1 := ⟨k - 1, by omega⟩
    have hlt : s < 2 ^ N := by omega
    have h10 := lt_10 hN hlt
    rw [nI_pred, if_neg (nI_pos (by omega))]
    have hin : ∃ u, itr (B_X12_findOrders_231 (nI N) (nI s, f) x7) FU ((0 : Int32), vp_updL f s (lN (if s = 2 ^ N - 1 then 1 else 0))) = some u ∧ ∀ j, s ≤ j → j < 2 ^ N → u.2 j = lN (OO N bef j) := by
      refine itr_fu (I := fun x => ∃ i, i ≤ N ∧ x.1 = nI i ∧ (∀ j, s < j → j < 2 ^ N → x.2 j = lN (OO N bef j)) ∧ x.2 s = lN ((if s = 2 ^ N - 1 then 1 else 0) + sumN (fun a => if s.testBit a = false ∧ sub (bef a) s then OO N bef (s + 2 ^ a) else 0) i)) (μ := fun x => N - x.1.toNatClampNeg) _ _ ⟨0, by omega, rfl, fun j hj hj2 => by dsimp only; rw [pk_uLn (by omega)]; exact q2 j (by omega) hj2, pk_uLs⟩ (by dsimp only; omega) ?_
      rintro ⟨i', f2⟩ ⟨i, hi, p1, p2, p3⟩
      dsimp only at p1 p2 p3
      subst p1
      unfold B_X12_findOrders_231
      dsimp only
      by_cases hli : i < N
      · left
        have hb := B_all h10 (show i < 10 by omega)
        have hmu : N - (nI (i + 1)).toNatClampNeg < N - (nI i).toNatClampNeg := by rw [nI_clamp (by omega), nI_clamp (by omega)]; omega
        have hsum : sumN (fun a => if s.testBit a = false ∧ sub (bef a) s then OO N bef (s + 2 ^ a) else 0) (i + 1) = sumN (fun a => if s.testBit a = false ∧ sub (bef a) s then OO N bef (s + 2 ^ a) else 0) i + (if s.testBit i = false ∧ sub (bef i) s then OO N bef (s + 2 ^ i) else 0) := rfl
        have hmay := M_may (N := N) hN hc hg (a := i) (s := s) (by omega) h10
        rw [if_pos (nI_lt hli (by omega))]
        refine ⟨(nI (i + 1), vp_updL f2 s (lN ((if s = 2 ^ N - 1 then 1 else 0) + sumN (fun a => if s.testBit a = false ∧ sub (bef a) s then OO N bef (s + 2 ^ a) else 0) (i + 1)))), ?_, ⟨i + 1, by omega, rfl, fun j hj hj2 => by dsimp only; rw [pk_uLn (by omega)]; exact p2 j hj hj2, pk_uLs⟩, hmu⟩
        refine sbind (gL_at (by omega) (by decide)) (sbind hmay (sbind (x := lN (if s.testBit i = false ∧ sub (bef i) s then OO N bef (s + 2 ^ i) else 0)) ?_ ?_))
        · by_cases h : s.testBit i = false ∧ sub (bef i) s
          · obtain ⟨b1, b2, b3⟩ := hb.2.2.2 h.1
            have hpi : 1 ≤ 2 ^ i := Nat.one_le_two_pow
            have hadd := add_lt hN hlt hli h.1
            rw [if_pos h, if_neg (by decide), if_pos h, b1]
            exact sbind (gL_at (by omega) (by decide)) (by rw [p2 _ (by omega) hadd])
          · rw [if_neg h, if_pos rfl, if_neg h]; rfl
        · rw [p3, lN_add, Nat.add_assoc, ← hsum]
          refine sbind (sL_at (by omega) (by decide)) ?_
          rw [lt_eq, nI_1]
      · right
        have e : i = N := by omega
        subst e
        refine ⟨(nI i, f2), by rw [if_neg (nI_nlt (Nat.le_refl _) (by omega))], fun j hj hj2 => ?_⟩
        dsimp only
        by_cases e : j = s
        · subst e; rw [p3, ← OO_eq hN hlt]
        · exact p2 j (by omega) hj2
    obtain ⟨u, u1, u2⟩ := hin
    refine ⟨(nI s - 1, u.2), sbind (x := lN (if s = 2 ^ N - 1 then 1 else 0)) ?_ (sbind (sL_at (by omega) (by decide)) (sbind u1 ?_)), ⟨s, by omega, rfl, u2⟩, ?_⟩
    · by_cases e : s = 2 ^ N - 1
      · rw [if_pos e, if_pos (by rw [← e])]; rfl
      · rw [if_neg e, if_neg (ne_nI (by omega) (by omega) e)]; rfl
    · rw [lt_eq, Int32.sub_eq_add_neg]
    · dsimp only
      rw [nI_1, nI_clamp (by omega), Int32.sub_add_cancel, nI_clamp (by omega)]; omega
  · right
    have e : k = 0 := by omega
    subst e
    exact ⟨(nI 0 - 1, f), by rw [if_pos (by decide)], fun s hs => q2 s (by omega) hs⟩
theorem M_find {N nT k : Nat} {cells : Nat → Int32} {rows : Int32} (R : rT 40 3 3 1633 7 (qTol N) cells rows st nT) (hN : N ≤ 9) (h12 : st 12 = nI N) (before : Nat → Int32) (on to : Nat → Int64) : ∃ o, F_X12_findOrders before on st to (nI k) = some o ∧ o.1 = lN (OO N (fun b => befF st k b nT) 0) ∧ (∀ b, b < 9 → o.2.1 b = nI (befF st k b nT)) ∧ (∀ s, s < 2 ^ N → o.2.2.1 s = lN (OO N (fun b => befF st k b nT) s)) ∧ (∀ s, s < 2 ^ N → o.2.2.2 s = lN (TT N (fun b => befF st k b nT) s)) := by
  obtain ⟨hp1, hp2⟩ := pow9 hN
  obtain ⟨t0, t, e0, e1, e2⟩ := M_before (k := k) R hN before
  have hc := fun a ha => bef_lt (k := k) R hN nT (Nat.le_refl _) a ha
  obtain ⟨u, u1, u2⟩ := M_to (bef := fun b => befF st k b nT) hN hc e2 to
  obtain ⟨v, v1, v2⟩ := M_on (bef := fun b => befF st k b nT) hN hc e2 on
  refine ⟨(v.2 0, t.2, v.2, u.2), ?_, v2 0 (by omega), e2, v2, u2⟩
  unfold F_X12_findOrders
  refine sbind (M_at (k := 12) (by decide)) ?_
  rw [h12]
  refine sbind e0 (sbind e1 ?_)
  rw [shl1 (by omega), show (1 : Int32) = nI 1 from rfl, pk_sub hp1, lt_eq]
  exact sbind u1 (sbind v1 (sbind (gL_at (k := 0) (by decide) (by decide)) rfl))
theorem M_known_t {p : Int32} (h : inR p 0 99) : F_X12_isKnown p = some 1 := sbind (M_in_t rfl rfl h) (sbind bZ_1 rfl)
theorem M_known_f {p : Int32} (h : ¬ inR p 0 99) : F_X12_isKnown p = some 0 := sbind (M_in_f rfl rfl h) (sbind bZ_0 rfl)
theorem P_orders (h : Rel actK tc tr nar nam st) (ah found before : Nat → Int32) (on to : Nat → Int64) (p0 : Int32) : Two (F_X11_orders nam (tc 8) (tr 8) ah found p0) (F_X12_orders before on st to p0) (fun o1 o2 => o1.1 = o2.1) := by
  obtain ⟨n, a, b, R⟩ := h
  obtain ⟨y1, y2, y3, y4, y5, y6, y7, y8⟩ := id R.2.2.2.2.2.2.2.2.2.2.2.2.2
  have RT := R.2.2.2.2.2.2.2.2.1
  unfold F_X11_orders F_X12_orders
  by_cases h0 : inR p0 0 99
  · refine two_l (C_out_t rfl rfl h0) (two_r (M_known_t h0) ?_)
    rw [if_pos rfl, if_neg (by decide)]
    obtain ⟨k, k1, k2, rfl⟩ := inR_nat (b := 99) h0
    obtain ⟨g, g1, g2⟩ := C_know (k := k) RT y4 ah
    have hc := fun a ha => bef_lt (k := k) RT y4 (n 7) (Nat.le_refl _) a ha
    have hcl := clo_cl (A := fun b => befF st k b (n 7)) y4 hc
    obtain ⟨o, o1, o2⟩ := C_count (N := b) (cl := clo' (fun b => befF st k b (n 7)) 9) y4 (fun c hc9 => clo_lt hc 9 (Nat.le_refl _) c hc9) g2 found
    obtain ⟨q, q1, q2, -⟩ := M_find (k := k) RT y4 y8 before on to
    have hp := pow9 y4
    refine two_l g1 (two_l (by rw [y7]; exact o1) (two_r (sbind q1 rfl) (two_end ?_)))
    dsimp only
    rw [o2, q2, lN_i, TT_cl hcl y4 b (2 ^ b - 1) (by omega) (pc_N (show b ≤ 10 by omega) (by omega)), both_ends y4]
  · refine two_l (C_out_f rfl rfl h0) (two_r (M_known_f h0) ?_)
    rw [if_neg (by decide), if_pos rfl]
    exact two_r rfl (two_end rfl)
end YRU
