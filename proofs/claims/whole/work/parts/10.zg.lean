/-! PURE LAWS 22: the wide way -/
section WID
variable {tc : Nat → Nat → Int32} {tr : Nat → Int32} {nar nam : Int32} {st : Nat → Int32} {n : Nat → Nat} {a b : Nat}
theorem WIDE (R : RelN actK tc tr nar nam st n a b) {m w : Nat} (hm : m < n 0) (hw : w ≤ 1000000) (se : Int32) (a1 : Int64) (a2 a3 a4 a5 : Int32) (a6 : Nat → Int64) (a7 : Int32) (b1 : Nat → Int64) (b2 : Nat → Int32) (b3 : Int32) (b4 : Nat → Int64) (b5 : Int32) (b6 b7 : Nat → Int32) :
    Two (F_X9_leftByGates (tc 2) (tr 2) (tc 6) (tr 6) (tc 0) (tr 0) a1 a2 a3 a4 a5 a6 a7 (nI m) (nI w) se) (F_X12_wideOf b1 st b2 b3 b4 b5 b6 b7 (nI m) (nI w) se) (fun o1 o2 => ∃ v : Nat, v ≤ w ∧ o1.1 = nI v ∧ o2.1 = nI v) := by
  have R0 := R.1
  obtain ⟨⟨g1, g2, g3⟩, gT, -⟩ := id R.2.2.2.2.2.2.1
  have hM10 : n 0 ≤ 10 := R0.1.1
  unfold F_X9_leftByGates F_X12_wideOf
  refine two_l (C_mer (j := 1) R0 hm (by decide)) ?_
  rw [nI_l (show w < 2 ^ 31 by omega)]
  refine two_bind (P := fun t1 t2 => ∃ v : Nat, v ≤ w ∧ t1.1 = lN v ∧ t2.1 = nI v) ?_ ?_
  · refine itr_two_fu
      (I := fun s1 s2 => ∃ i L, i ≤ n 5 ∧ L ≤ w ∧ s1.1 = lN L ∧ s1.2.1 = nI i ∧ s2.1 = nI L ∧ s2.2.1 = nI i)
      (μ := fun s1 => n 5 - s1.2.1.toNatClampNeg) _ _ _ ⟨0, w, by omega, Nat.le_refl _, rfl, rfl, rfl, rfl⟩ (by dsimp only; omega) ?_
    rintro ⟨l1, i1, c1, c2, c3, c4, c5, c6, c7⟩ ⟨l2, i2, d1, d2, d3, d4, d5, d6, d7⟩ ⟨i, L, hi, hL, q1, q2, q3, q4⟩
    dsimp only at q1 q2 q3 q4
    subst q1; subst q2; subst q3; subst q4
    unfold B_X9_leftByGates_21 B_X12_wideOf_6
    dsimp only
    refine two_r (M_at (k := 5) (by decide)) ?_
    rw [g3, g2]
    by_cases hlt : i < n 5
    · refine two_ifl (nI_lt hlt (by omega)) (two_ifr (nI_lt hlt (by omega)) ?_)
      have hland : F_X8_get 6 (tc 6) (nI (n 5)) 1 (nI i) 0 = some (st (1591 + i)) := by
        refine (C_get (len := 6) (wd := 1) (c := 0) hlt (by decide) (by omega) (by decide) (by omega) (by decide)).trans (congrArg some ?_)
        have := gT i 0 hlt (by decide)
        rw [show 1591 + 1 * i + 0 = 1591 + i by omega] at this
        exact this
      rw [show (1591 : Int32) = nI 1591 from rfl, nI_add]
      refine two_l hland (two_r (M_at (by omega)) (two_r (M_town (by omega)) ?_))
      refine two_bind (P := fun j1 j2 => j1 = j2) (two_if (fun _ => two_end rfl) (fun _ => two_end rfl)) ?_
      rintro j _ rfl
      refine two_bind (P := fun (o1 : _) (o2 : _) => ∃ v : Nat, v ≤ 1000 ∧ v ≤ mostN 0 ∧ o1.1 = lN v ∧ o2.1 = nI v) ?_ ?_
      · rw [nI_l (show L < 2 ^ 31 by omega)]
        exact P_told R.2.2.1 (so := 0) (by decide) c1 c2 c3 c4 c5 c6 c7 d1 d2 d3 d4 d5 d6 d7 se (nI i) j (st (1591 + i)) (lN L)
      · rintro o1 o2 ⟨v, v1, v2, v3, v4⟩
        have hv : v ≤ 100 := v2
        have hLv : L * v ≤ 1000000 * 100 := Nat.mul_le_mul (by omega) hv
        have hq : qL (lN L * lN v) 100 = some (lN (L * v / 100)) := by
          rw [lN_mul]; unfold qL
          rw [if_neg (by decide), show (100 : Int64) = lN 100 from rfl, pk_lDiv (by omega) (by omega) (by omega)]
        have hle : L * v / 100 ≤ L := by
          have : L * v ≤ L * 100 := Nat.mul_le_mul_left L hv
          omega
        refine two_l (by rw [v3]; exact hq) (two_lt (two_r (by rw [v4, nI_l (show L < 2 ^ 31 by omega), nI_l (show v < 2 ^ 31 by omega)]; exact hq) (two_rt ?_)))
        rw [lN_i, lN_sub hle, pk_sub hle]
        refine two_lt (two_rt (two_end (Or.inl ⟨_, _, rfl, rfl, ⟨i + 1, L - L * v / 100, by omega, by omega, rfl, nI_1 i, rfl, nI_1 i⟩, ?_⟩)))
        dsimp only
        rw [nI_1, nI_clamp (by omega), nI_clamp (by omega)]; omega
    · exact two_ifl' (nI_nlt (by omega) (by omega)) (two_ifr' (nI_nlt (by omega) (by omega)) (two_end (Or.inr ⟨_, _, rfl, rfl, L, hL, rfl, rfl⟩)))
  · rintro x y ⟨v, v1, v2, v3⟩
    exact two_end ⟨v, v1, by dsimp only; rw [v2, lN_i], v3⟩
def WiC (tc : Nat → Nat → Int32) (tr : Nat → Int32) (se : Int32) (m w v : Nat) : Prop := ∀ (a1 : Int64) (a2 a3 a4 a5 : Int32) (a6 : Nat → Int64) (a7 : Int32), ∃ o1, F_X9_leftByGates (tc 2) (tr 2) (tc 6) (tr 6) (tc 0) (tr 0) a1 a2 a3 a4 a5 a6 a7 (nI m) (nI w) se = some o1 ∧ o1.1 = nI v
def WiM (st : Nat → Int32) (se : Int32) (m w v : Nat) : Prop := ∀ (b1 : Nat → Int64) (b2 : Nat → Int32) (b3 : Int32) (b4 : Nat → Int64) (b5 : Int32) (b6 b7 : Nat → Int32), ∃ o2, F_X12_wideOf b1 st b2 b3 b4 b5 b6 b7 (nI m) (nI w) se = some o2 ∧ o2.1 = nI v
theorem WIDE1 (R : RelN actK tc tr nar nam st n a b) {m w : Nat} (hm : m < n 0) (hw : w ≤ 1000000) (se : Int32) : ∃ v : Nat, v ≤ w ∧ WiC tc tr se m w v ∧ WiM st se m w v := by
  obtain ⟨o1, o2, e1, e2, v, v1, v2, v3⟩ := WIDE R hm hw se 0 0 0 0 0 (fun _ => 0) 0 (fun _ => 0) (fun _ => 0) 0 (fun _ => 0) 0 (fun _ => 0) (fun _ => 0)
  refine ⟨v, v1, fun a1 a2 a3 a4 a5 a6 a7 => ?_, fun b1 b2 b3 b4 b5 b6 b7 => ?_⟩
  · obtain ⟨p1, p2, f1, f2, w, w1, w2, w3⟩ := WIDE R hm hw se a1 a2 a3 a4 a5 a6 a7 (fun _ => 0) (fun _ => 0) 0 (fun _ => 0) 0 (fun _ => 0) (fun _ => 0)
    have e : p2 = o2 := Option.some.inj (f2.symm.trans e2)
    subst e
    exact ⟨p1, f1, by rw [w2, ← w3, v3]⟩
  · obtain ⟨p1, p2, f1, f2, w, w1, w2, w3⟩ := WIDE R hm hw se 0 0 0 0 0 (fun _ => 0) 0 b1 b2 b3 b4 b5 b6 b7
    have e : p1 = o1 := Option.some.inj (f1.symm.trans e1)
    subst e
    exact ⟨p2, f2, by rw [w3, ← w2, v2]⟩
theorem P_wide (h : Rel actK tc tr nar nam st) (a1 : Int64) (a2 a3 a4 a5 : Int32) (a6 : Nat → Int64) (a7 : Int32) (b1 : Nat → Int64) (b2 : Nat → Int32) (b3 : Int32) (b4 : Nat → Int64) (b5 : Int32) (b6 b7 : Nat → Int32) (p0 p1 p2 : Int32) :
    Two (F_X11_wide a1 a2 a3 a4 a5 a6 a7 (tc 2) (tr 2) (tc 6) (tr 6) (tc 0) (tr 0) p0 p1 p2) (F_X12_wide b1 st b2 b3 b4 b5 b6 b7 p0 p1 p2) (fun o1 o2 => o1.1 = o2.1) := by
  obtain ⟨n, a, b, R⟩ := h
  obtain ⟨⟨m1, m2, m3⟩, -, -⟩ := id R.1
  unfold F_X11_wide F_X12_wide
  by_cases h0 : inR p0 0 (((n 0 : Nat) : Int) - 1)
  · by_cases h1 : inR p1 1 1000000
    · refine two_l (by rw [m2]; exact C_noL_t (by omega) h0 h1) (two_r (M_is_t (c := 0) (by decide) m3 (by omega) h0) ?_)
      rw [if_pos rfl, if_neg (by decide)]
      by_cases h2 : inR p2 0 99
      · obtain ⟨m, k1, k2, rfl⟩ := inR_row h0
        obtain ⟨w, w0, w1, w2, rfl⟩ := inR_natA (a := 1) (b := 1000000) h1
        obtain ⟨o1, o2, e1, e2, v, v1, v2, v3⟩ := WIDE R k1 w1 p2 a1 a2 a3 a4 a5 a6 a7 b1 b2 b3 b4 b5 b6 b7
        exact two_l (sbind (C_season_t h2) (by rw [if_pos rfl]; exact sbind e1 rfl)) (two_r (sbind (M_weight_t h1) (by rw [if_neg (by decide)]; exact sbind (M_season_t h2) (by rw [if_neg (by decide)]; exact sbind e2 rfl))) (two_end (by dsimp only; rw [v2, v3])))
      · exact two_l (sbind (C_season_f h2) (by rw [if_neg (by decide)])) (two_r (sbind (M_weight_t h1) (by rw [if_neg (by decide)]; exact sbind (M_season_f h2) (by rw [if_pos rfl]))) (two_end rfl))
    · refine two_l (by rw [m2]; exact C_noL_f (by omega) (fun z => h1 z.2)) (two_r (M_is_t (c := 0) (by decide) m3 (by omega) h0) ?_)
      rw [if_neg (by decide), if_neg (by decide)]
      exact two_l rfl (two_r (sbind (M_weight_f h1) (by rw [if_pos rfl])) (two_end rfl))
  · refine two_l (by rw [m2]; exact C_noL_f (by omega) (fun z => h0 z.1)) (two_r (M_is_f (c := 0) (by decide) m3 (by omega) h0) ?_)
    rw [if_neg (by decide), if_pos rfl]
    exact two_l rfl (two_r rfl (two_end rfl))
theorem P_better (h : Rel actK tc tr nar nam st) (a1 : Int64) (a2 a3 a4 a5 : Int32) (a6 : Nat → Int64) (a7 : Int32) (b1 : Nat → Int64) (b2 : Nat → Int32) (b3 : Int32) (b4 : Nat → Int64) (b5 : Int32) (b6 b7 : Nat → Int32) (p0 p1 p2 : Int32) :
    Two (F_X11_better a1 a2 a3 a4 a5 a6 a7 (tc 2) (tr 2) (tc 6) (tr 6) (tc 0) (tr 0) nar p0 p1 p2) (F_X12_better b1 st b2 b3 b4 b5 b6 b7 p0 p1 p2) (fun o1 o2 => o1.1 = o2.1) := by
  obtain ⟨n, a, b, R⟩ := h
  obtain ⟨⟨m1, m2, m3⟩, -, -⟩ := id R.1
  obtain ⟨y1, y2, y3, y4, y5, y6, y7, y8⟩ := id R.2.2.2.2.2.2.2.2.2.2.2.2.2
  refine two_load m2 m3 (by omega) (two_end rfl) (fun h0 h1 => ?_)
  refine two_guard (c := inR p2 0 99) C_season_t C_season_f M_season_t M_season_f (fun _ => two_end rfl) (fun h2 => ?_)
  obtain ⟨m, k1, k2, rfl⟩ := inR_row h0
  obtain ⟨w, w0, w1, w2, rfl⟩ := inR_natA (a := 1) (b := 1000000) h1
  have hn : gI st 1951 11 = some (nI a) := by rw [← y6]; exact M_at (k := 11) (by decide)
  refine two_r hn ?_
  refine two_bind (WIDE R k1 w1 p2 a1 a2 a3 a4 a5 a6 a7 b1 b2 b3 b4 b5 b6 b7) ?_
  rintro o1 o2 ⟨v, v1, v2, v3⟩
  refine two_r hn ?_
  rw [v2, v3, y5]
  exact two_bind (P := fun j1 j2 => j1 = j2) (two_if (fun _ => two_end rfl) (fun _ => two_end rfl)) (fun x y e => two_end e)
end WID
