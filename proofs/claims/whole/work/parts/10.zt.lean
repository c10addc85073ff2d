/-! PURE LAWS 35: orders -/
section YRT
variable {tc : Nat → Nat → Int32} {tr : Nat → Int32} {nar nam : Int32} {st : Nat → Int32}
theorem C_warsh {N : Nat} {A : Nat → Nat} (hN : N ≤ 9) (hA : ∀ a, a < 9 → A a < 2 ^ N) {f : Nat → Int32} (hf : ∀ b, b < 9 → f b = nI (A b)) : ∃ t, itr (B_X10_know_97) FU ((0 : Int32), f) = some t ∧ ∀ b, b < 9 → t.2 b = nI (clo' A 9 b) := by
  refine itr_fu (I := fun s => ∃ t, t ≤ 9 ∧ s.1 = nI t ∧ ∀ b, b < 9 → s.2 b = nI (clo' A t b)) (μ := fun s => 9 - s.1.toNatClampNeg) _ _ ⟨0, by omega, rfl, hf⟩ (by dsimp only; omega) ?_
  rintro ⟨t', g⟩ ⟨t, ht, q1, q2⟩
  dsimp only at q1 q2
  subst q1
  unfold B_X10_know_97
  dsimp only
  by_cases hlt : t < 9
  · left
    rw [if_pos (ltR 9 9 rfl hlt (by decide))]
    have hin : ∃ u, itr (B_X10_know_108 (nI t, g)) FU ((0 : Int32), g) = some u ∧ ∀ b, b < 9 → u.2 b = nI (clo' A (t + 1) b) := by
      refine itr_fu (I := fun s => ∃ a, a ≤ 9 ∧ s.1 = nI a ∧ ∀ b, b < 9 → s.2 b = nI (if b < a then clo' A (t + 1) b else clo' A t b)) (μ := fun s => 9 - s.1.toNatClampNeg) _ _ ⟨0, by omega, rfl, fun b hb => by rw [if_neg (by omega)]; exact q2 b hb⟩ (by dsimp only; omega) ?_
      rintro ⟨a', f2⟩ ⟨a, ha, p1, p2⟩
      dsimp only at p1 p2
      subst p1
      unfold B_X10_know_108
      dsimp only
      by_cases hla : a < 9
      · left
        have hga : gI f2 9 (nI a) = some (nI (clo' A t a)) := by rw [gI_at hla (by decide), p2 a hla, if_neg (by omega)]
        have hgt : gI f2 9 (nI t) = some (nI (clo' A t t)) := by
          rw [gI_at hlt (by decide), p2 t hlt]
          by_cases e : t < a
          · rw [if_pos e]
            show some (nI (phs (clo' A t) t t)) = _
            rw [phs_t]
          · rw [if_neg e]
        have hb := (B_all (s := clo' A t a) (i := t) (lt_10 hN (clo_lt hA t (by omega) a hla)) (by omega)).2.1
        have hv : clo' A (t + 1) a = if (clo' A t a).testBit t = true then clo' A t a ||| clo' A t t else clo' A t a := rfl
        have hmu : 9 - (nI (a + 1)).toNatClampNeg < 9 - (nI a).toNatClampNeg := by rw [nI_clamp (by omega), nI_clamp (by omega)]; omega
        rw [if_pos (ltR 9 9 rfl hla (by decide))]
        cases hbit : (clo' A t a).testBit t
        · rw [hbit] at hb hv
          refine ⟨(nI (a + 1), f2), sbind hga (sbind (x := f2) (by rw [hb, if_neg (by decide)]) (by rw [lt_eq, nI_1])), ⟨a + 1, by omega, rfl, fun b hb2 => ?_⟩, hmu⟩
          dsimp only
          rw [p2 b hb2]
          by_cases e : b = a
          · subst e
            rw [if_neg (by omega), if_pos (by omega), hv, if_neg (by decide)]
          · by_cases e2 : b < a
            · rw [if_pos e2, if_pos (by omega)]
            · rw [if_neg e2, if_neg (by omega)]
        · rw [hbit] at hb hv
          refine ⟨(nI (a + 1), upd f2 a (nI (clo' A (t + 1) a))), sbind hga (sbind (x := upd f2 a (nI (clo' A (t + 1) a))) ?_ (by rw [lt_eq, nI_1])), ⟨a + 1, by omega, rfl, fun b hb2 => ?_⟩, hmu⟩
          · rw [hb, if_pos (by decide)]
            refine sbind hga (sbind hgt ?_)
            rw [nI_or, hv, if_pos rfl]
            exact sbind (sI_at hla (by decide)) rfl
          · dsimp only
            by_cases e : b = a
            · subst e
              rw [pk_us, if_pos (by omega)]
            · rw [pk_un e, p2 b hb2]
              by_cases e2 : b < a
              · rw [if_pos e2, if_pos (by omega)]
              · rw [if_neg e2, if_neg (by omega)]
      · right
        have e : a = 9 := by omega
        subst e
        exact ⟨(nI 9, f2), by rw [if_neg (by decide)], fun b hb => by show f2 b = _; rw [p2 b hb, if_pos hb]⟩
    obtain ⟨u, u1, u2⟩ := hin
    refine ⟨(nI (t + 1), u.2), sbind u1 (by rw [lt_eq, nI_1]), ⟨t + 1, by omega, rfl, u2⟩, ?_⟩
    dsimp only
    rw [nI_clamp (by omega), nI_clamp (by omega)]; omega
  · right
    have e : t = 9 := by omega
    subst e
    exact ⟨(nI 9, g), by rw [if_neg (by decide)], q2⟩
theorem C_know {N nT k : Nat} {cells : Nat → Int32} {rows : Int32} (R : rT 40 3 3 1633 7 (qTol N) cells rows st nT) (hN : N ≤ 9) (ah : Nat → Int32) : ∃ g, F_X10_know ah cells rows (nI k) = some g ∧ ∀ b, b < 9 → g b = nI (clo' (fun b => befF st k b nT) 9 b) := by
  obtain ⟨r1, r2, r3⟩ := id R.1
  have h1 : ∃ t, itr (B_X10_know_10 rows cells (nI k)) FU ((0 : Int32), filI ah 9 0) = some t ∧ ∀ b, b < 9 → t.2 b = nI (befF st k b nT) := by
    refine itr_fu (I := fun s => ∃ i, i ≤ nT ∧ s.1 = nI i ∧ ∀ b, b < 9 → s.2 b = nI (befF st k b i)) (μ := fun s => nT - s.1.toNatClampNeg) _ _ ⟨0, by omega, rfl, fun b hb => by show filI ah 9 0 b = _; unfold filI; rw [if_pos hb]; rfl⟩ (by dsimp only; omega) ?_
    rintro ⟨i', f⟩ ⟨i, hi, q1, q2⟩
    dsimp only at q1 q2
    subst q1
    unfold B_X10_know_10
    dsimp only
    by_cases hlt : i < nT
    · left
      obtain ⟨a, b, q, h1, h2, h3, h4, h5, h6, h7⟩ := bef_next (k := k) R hlt hN
      have c1 := C_tol (j := 1) R hlt (by decide); rw [h4] at c1
      have c2 := C_tol (j := 2) R hlt (by decide); rw [h5] at c2
      have c0 := C_tol (j := 0) R hlt (by decide); rw [Nat.add_zero, h3] at c0
      have hmu : nT - (nI (i + 1)).toNatClampNeg < nT - (nI i).toNatClampNeg := by rw [nI_clamp (by omega), nI_clamp (by omega)]; omega
      rw [show (if nI i < rows then _ else _) = (if nI i < nI nT then _ else _) from by rw [← r2], if_pos (nI_lt hlt (by omega))]
      by_cases e : nI k < nI q
      · refine ⟨(nI (i + 1), f), sbind c1 (sbind c2 (sbind (x := f) (by rw [if_pos e]) (by rw [lt_eq, nI_1]))), ⟨i + 1, by omega, rfl, fun c hc => ?_⟩, hmu⟩
        dsimp only
        rw [h7 c hc, if_neg (fun z => z.2 e)]; exact q2 c hc
      · refine ⟨(nI (i + 1), upd f b (nI (befF st k b i ||| 2 ^ a))), sbind c1 (sbind c2 (sbind (x := upd f b (nI (befF st k b i ||| 2 ^ a))) ?_ (by rw [lt_eq, nI_1]))), ⟨i + 1, by omega, rfl, fun c hc => ?_⟩, hmu⟩
        · rw [if_neg e, if_neg (nI_pos (by omega)), if_pos (ltR 9 9 rfl (by omega) (by decide))]
          refine sbind (gI_at (by omega) (by decide)) (sbind c0 ?_)
          rw [shl1 (by omega), q2 b (by omega), nI_or]
          exact sbind (sI_at (by omega) (by decide)) rfl
        · dsimp only
          rw [h7 c hc]
          by_cases e2 : c = b
          · subst e2; rw [pk_us, if_pos ⟨rfl, e⟩]
          · rw [pk_un e2, if_neg (fun z => e2 z.1)]; exact q2 c hc
    · right
      have e : i = nT := by omega
      subst e
      exact ⟨(nI i, f), by rw [r2, if_neg (nI_nlt (Nat.le_refl _) (by omega))], q2⟩
  obtain ⟨t, t1, t2⟩ := h1
  obtain ⟨u, u1, u2⟩ := C_warsh hN (fun a ha => bef_lt (k := k) R hN nT (Nat.le_refl _) a ha) t2
  exact ⟨u.2, sbind (J_fillI (by decide)) (sbind t1 (sbind u1 rfl)), u2⟩
theorem C_next {N : Nat} {cl : Nat → Nat} {g : Nat → Int32} (hN : N ≤ 9) (hc : ∀ b, b < 9 → cl b < 2 ^ N) (hg : ∀ b, b < 9 → g b = nI (cl b)) {a s : Nat} (ha : a < 9) : F_X10_isNext g (nI a) (nI s) = some (if sub (cl a) s then 1 else 0) := by
  unfold F_X10_isNext
  have h1 : gI g 9 (nI a) = some (nI (cl a)) := by rw [gI_at ha (by decide), hg a ha]
  have h2 := p9 hN (hc a ha)
  rw [if_neg (nI_pos (by omega)), if_pos (ltR 9 9 rfl ha (by decide))]
  by_cases h : sub (cl a) s
  · rw [if_pos h]
    refine sbind (x := (1 : Int32)) (sbind h1 (by rw [if_pos ((nI_sub (by omega)).mpr h)])) (sbind bZ_1 rfl)
  · rw [if_neg h]
    refine sbind (x := (0 : Int32)) (sbind h1 (by rw [if_neg (fun q => h ((nI_sub (by omega)).mp q))])) (sbind bZ_0 rfl)
theorem M_may {N : Nat} {bef : Nat → Nat} {g : Nat → Int32} (hN : N ≤ 9) (hc : ∀ b, b < 9 → bef b < 2 ^ N) (hg : ∀ b, b < 9 → g b = nI (bef b)) {a s : Nat} (ha : a < 9) (hs : s < 1024) : F_X12_mayCome g (nI s) (nI a) = some (if s.testBit a = false ∧ sub (bef a) s then 1 else 0) := by
  unfold F_X12_mayCome
  have h1 : gI g 9 (nI a) = some (nI (bef a)) := by rw [gI_at ha (by decide), hg a ha]
  have h2 := p9 hN (hc a ha)
  rw [(B_all hs (show a < 10 by omega)).2.1]
  cases hb : s.testBit a
  · by_cases h : sub (bef a) s
    · rw [if_pos (And.intro rfl h)]
      refine sbind (x := (1 : Int32)) ?_ (sbind bZ_1 rfl)
      rw [if_neg (show ¬ (false = true) by decide), if_pos rfl]
      exact sbind h1 (by rw [if_pos ((nI_sub (by omega)).mpr h)])
    · rw [if_neg (show ¬ (false = false ∧ sub (bef a) s) from fun q => h q.2)]
      refine sbind (x := (0 : Int32)) ?_ (sbind bZ_0 rfl)
      rw [if_neg (show ¬ (false = true) by decide), if_pos rfl]
      exact sbind h1 (by rw [if_neg (fun q => h ((nI_sub (by omega)).mp q))])
  · rw [if_neg (show ¬ (true = false ∧ sub (bef a) s) from fun q => absurd q.1 (by decide))]
    exact sbind (x := (0 : Int32)) (by rw [if_pos rfl, if_neg (by decide)]) (sbind bZ_0 rfl)
theorem pow9 {N : Nat} (hN : N ≤ 9) : 1 ≤ 2 ^ N ∧ 2 ^ N ≤ 512 := ⟨Nat.one_le_two_pow, Nat.le_trans (Nat.pow_le_pow_right (n := 2) (by omega) hN) (by decide)⟩
theorem C_count {N : Nat} {cl : Nat → Nat} {g : Nat → Int32} (hN : N ≤ 9) (hc : ∀ b, b < 9 → cl b < 2 ^ N) (hg : ∀ b, b < 9 → g b = nI (cl b)) (found : Nat → Int32) : ∃ o, F_X10_countOrders g found (nI N) = some o ∧ o.1 = nI (TT N cl (2 ^ N - 1)) := by
  obtain ⟨hp1, hp2⟩ := pow9 hN
  have hl : ∃ t, itr (B_X10_countOrders_20 (nI (2 ^ N)) (nI N) g) FU ((0 : Int32), found) = some t ∧ ∀ s, s < 2 ^ N → t.2 s = nI (TT N cl s) := by
    refine itr_fu (I := fun s => ∃ k, k ≤ 2 ^ N ∧ s.1 = nI k ∧ ∀ j, j < k → s.2 j = nI (TT N cl j)) (μ := fun s => 2 ^ N - s.1.toNatClampNeg) _ _ ⟨0, by omega, rfl, fun j hj => absurd hj (Nat.not_lt_zero _)⟩ (by dsimp only; omega) ?_
    rintro ⟨k', f⟩ ⟨s, hs, q1, q2⟩
    dsimp only at q1 q2
    subst q1
    unfold B_X10_countOrders_20
    dsimp only
    by_cases hlt : s < 2 ^ N
    · left
      have h10 := lt_10 hN hlt
      rw [if_pos (nI_lt hlt (by omega))]
      have hin : ∃ u, itr (B_X10_countOrders_38 (nI N) (nI s, f) g) FU (nI (if s = 0 then 1 else 0), (0 : Int32)) = some u ∧ u.1 = nI (TT N cl s) := by
        refine itr_fu (I := fun x => ∃ i, i ≤ N ∧ x.2 = nI i ∧ x.1 = nI ((if s = 0 then 1 else 0) + sumN (fun a => if s.testBit a = true ∧ sub (cl a) (s - 2 ^ a) then TT N cl (s - 2 ^ a) else 0) i)) (μ := fun x => N - x.2.toNatClampNeg) _ _ ⟨0, by omega, rfl, rfl⟩ (by dsimp only; omega) ?_
        rintro ⟨x, i'⟩ ⟨i, hi, p1, p2⟩
        dsimp only at p1 p2
        subst p1
        unfold B_X10_countOrders_38
        dsimp only
        by_cases hli : i < N
        · left
          have hb := B_all h10 (show i < 10 by omega)
          have hmu : N - (nI (i + 1)).toNatClampNeg < N - (nI i).toNatClampNeg := by rw [nI_clamp (by omega), nI_clamp (by omega)]; omega
          have hsum : sumN (fun a => if s.testBit a = true ∧ sub (cl a) (s - 2 ^ a) then TT N cl (s - 2 ^ a) else 0) (i + 1) = sumN (fun a => if s.testBit a = true ∧ sub (cl a) (s - 2 ^ a) then TT N cl (s - 2 ^ a) else 0) i + (if s.testBit i = true ∧ sub (cl i) (s - 2 ^ i) then TT N cl (s - 2 ^ i) else 0) := rfl
          refine ⟨(nI ((if s = 0 then 1 else 0) + sumN (fun a => if s.testBit a = true ∧ sub (cl a) (s - 2 ^ a) then TT N cl (s - 2 ^ a) else 0) (i + 1)), nI (i + 1)), ?_, ⟨i + 1, by omega, rfl, rfl⟩, hmu⟩
          rw [if_pos (nI_lt hli (by omega)), hb.1, lt_eq, hsum]
          refine sbind (x := nI ((if s = 0 then 1 else 0) + (sumN (fun a => if s.testBit a = true ∧ sub (cl a) (s - 2 ^ a) then TT N cl (s - 2 ^ a) else 0) i + (if s.testBit i = true ∧ sub (cl i) (s - 2 ^ i) then TT N cl (s - 2 ^ i) else 0)))) ?_ (by rw [lt_eq, nI_1])
          cases hbit : s.testBit i
          · rw [if_neg (show ¬ (false = true) by decide), if_pos rfl, p2, if_neg (show ¬ ((false = true) ∧ sub (cl i) (s - 2 ^ i)) from fun q => absurd q.1 (by decide)), Nat.add_zero]
          · obtain ⟨b1, b2, b3⟩ := hb.2.2.1 hbit
            have hpi : 1 ≤ 2 ^ i := Nat.one_le_two_pow
            rw [if_pos (show true = true from rfl), if_neg (ne_nI (by omega) (by omega) (by omega)), if_neg (nI_pos (by omega)), if_pos (ltR 512 512 rfl (by omega) (by decide))]
            refine sbind (C_next (N := N) hN hc hg (by omega)) ?_
            by_cases hsb : sub (cl i) (s - 2 ^ i)
            · rw [if_pos hsb, if_neg (by decide), if_pos (And.intro rfl hsb)]
              refine sbind (gI_at (by omega) (by decide)) ?_
              rw [q2 _ (by omega), p2, nI_add, lt_eq, Nat.add_assoc]
            · rw [if_neg hsb, if_pos rfl, if_neg (show ¬ (true = true ∧ sub (cl i) (s - 2 ^ i)) from fun q => hsb q.2), p2, Nat.add_zero]
        · right
          have e : i = N := by omega
          subst e
          refine ⟨(x, nI i), by rw [if_neg (nI_nlt (Nat.le_refl _) (by omega))], ?_⟩
          dsimp only
          rw [p2, ← TT_eq hN hlt]
      obtain ⟨u, u1, u2⟩ := hin
      refine ⟨(nI (s + 1), upd f s (nI (TT N cl s))), sbind (x := nI (if s = 0 then 1 else 0)) ?_ (sbind u1 ?_), ⟨s + 1, by omega, rfl, fun j hj => ?_⟩, ?_⟩
      · by_cases e : s = 0
        · rw [if_pos e, if_pos (by rw [e]; rfl)]; rfl
        · rw [if_neg e, if_neg (neR 0 0 rfl (by omega) (by decide) e)]; rfl
      · rw [u2]
        refine sbind (sI_at (by omega) (by decide)) ?_
        rw [lt_eq, nI_1]
      · dsimp only
        by_cases e : j = s
        · subst e; rw [pk_us]
        · rw [pk_un e]; exact q2 j (by omega)
      · dsimp only
        rw [nI_clamp (by omega), nI_clamp (by omega)]; omega
    · right
      have e : s = 2 ^ N := by omega
      subst e
      exact ⟨(nI (2 ^ N), f), by rw [if_neg (nI_nlt (Nat.le_refl _) (by omega))], q2⟩
  obtain ⟨t, t1, t2⟩ := hl
  refine ⟨(nI (TT N cl (2 ^ N - 1)), t.2), ?_, rfl⟩
  unfold F_X10_countOrders
  have hx : (if (512 : Int32) < (1 : Int32) <<< (nI N &&& 31) then (512 : Int32) else (1 : Int32) <<< (nI N &&& 31)) = nI (2 ^ N) := by
    rw [shl1 (by omega), if_neg (nltL 512 512 rfl hp2 (by decide))]
  rw [hx, lt_eq]
  refine sbind t1 (sbind (x := nI (TT N cl (2 ^ N - 1))) ?_ rfl)
  rw [if_pos (ltL 0 0 rfl (by omega) (by omega)), if_neg (nltL 512 512 rfl hp2 (by decide)), show (1 : Int32) = nI 1 from rfl, pk_sub hp1]
  exact sbind (gI_at (by omega) (by decide)) (by rw [t2 _ (by omega)])
end YRT
