/-! PURE LAWS 20: OWED as one number; owed -/
section OWE
variable {tc : Nat → Nat → Int32} {tr : Nat → Int32} {nar nam : Int32} {st : Nat → Int32} {n : Nat → Nat} {a b : Nat}
theorem deb_at {nM nD d : Nat} {cells : Nat → Int32} {rows : Int32} (R : rT 40 7 7 1092 2 (qDeb nM) cells rows st nD) (hd : d < nD) : ∃ x y s l u : Nat, x < nM ∧ y < nM ∧ x ≠ y ∧ st (1092 + 7 * d) = nI x ∧ st (1092 + 7 * d + 1) = nI y ∧ 1 ≤ s ∧ s ≤ 1000000 ∧ st (1092 + 7 * d + 2) = nI s ∧ l ≤ u ∧ u ≤ 99 ∧ st (1092 + 7 * d + 3) = nI l ∧ st (1092 + 7 * d + 4) = nI u ∧ (st (1092 + 7 * d + 5) = -1 ∨ ∃ o : Nat, 1 ≤ o ∧ o ≤ 1000000 ∧ st (1092 + 7 * d + 5) = nI o) ∧ (st (1092 + 7 * d + 6) = -1 ∨ ∃ o : Nat, o ≤ 99 ∧ st (1092 + 7 * d + 6) = nI o) := by
  have h := R.2.2 d hd
  unfold qDeb at h
  rw [rowf_at (by decide), rowf_at (by decide), rowf_at (by decide), rowf_at (by decide), rowf_at (by decide), rowf_at (by decide), rowf_at (by decide)] at h
  exact h
theorem LEFT (R : RelN actK tc tr nar nam st n a b) {d se : Nat} (hd : d < n 2) (hse : se ≤ 99) (a1 : Int64) (a2 a3 a4 a5 : Int32) (a6 : Nat → Int64) (a7 : Int32) (paid : Nat → Int64) (b1 : Nat → Int64) (b2 : Nat → Int32) (b3 : Int32) (b4 : Nat → Int64) (b5 : Int32) (b6 b7 : Nat → Int32) :
    Two (F_X2_left (tc 2) (tr 2) (tc 3) (tr 3) (tc 0) (tr 0) (tc 4) (tr 4) a1 a2 a3 a4 a5 a6 a7 paid (nI d) (nI se)) (F_X12_owedOf b1 st b2 b3 b4 b5 b6 b7 (nI d) (nI se)) (fun o1 o2 => ∃ v : Nat, v ≤ 1000000000000 ∧ o1.1 = lN v ∧ o2.1 = lN v) := by
  have R0 := R.1
  have R3 := R.2.2.2.1
  have RP := R.2.2.2.2.1
  have RA := R.2.2.1
  have hD40 : n 2 ≤ 40 := R3.1.1
  have hM10 : n 0 ≤ 10 := R0.1.1
  obtain ⟨x, y, s, l, u, z1, z2, z3, z4, z5, z6, z7, z8, z9, z10, z11, z12, z13, z14⟩ := deb_at R3 hd
  have hC : ∀ j, j < 7 → F_X8_get 280 (tc 3) (tr 3) 7 (nI d) (nI j) = some (st (1092 + 7 * d + j)) := fun j hj => C_deb R3 hd hj
  have hM : ∀ j, j < 7 → F_X12_debtOf st (nI d) (nI j) = some (st (1092 + 7 * d + j)) := fun j hj => M_debtOf (by omega)
  have hC0 := hC 0 (by decide)
  rw [Nat.add_zero, z4] at hC0
  have hC1 := hC 1 (by decide); rw [z5] at hC1
  have hC2 := hC 2 (by decide); rw [z8] at hC2
  have hC3 := hC 3 (by decide); rw [z11] at hC3
  have hC4 := hC 4 (by decide); rw [z12] at hC4
  have hM1 := hM 1 (by decide); rw [z5] at hM1
  have hM2 := hM 2 (by decide); rw [z8] at hM2
  have hM3 := hM 3 (by decide); rw [z11] at hM3
  obtain ⟨paid2, hp1, hp2⟩ := C_gather (d := d) RP (by omega) paid
  -- the sum lent
  have hV : ∃ V : Nat, V ≤ 1000000 ∧ F_X2_sumLent (tc 3) (tr 3) (nI d) (nI se) = some (lN V) ∧ ∃ j : Int32, (if st (1092 + 7 * d + 5) = (-1 : Int32) then some (0 : Int32) else Option.bind (F_X12_debtOf st (nI d) 6) fun c_3 => if c_3 = (-1 : Int32) then some (1 : Int32) else Option.bind (F_X12_debtOf st (nI d) 6) fun c_4 => if nI se < c_4 then some (1 : Int32) else some (0 : Int32)) = some j ∧ (if j = 0 then Option.bind (F_X12_debtOf st (nI d) 2) fun c_6 => some c_6.toInt64 else Option.bind (F_X12_debtOf st (nI d) 5) fun c_7 => some c_7.toInt64) = some (lN V) := by
    have hc5 := hC 5 (by decide)
    have hc6 := hC 6 (by decide)
    have hm5 := hM 5 (by decide)
    have hm6 := hM 6 (by decide)
    have hin : ∃ j : Int32, (if st (1092 + 7 * d + 5) = (-1 : Int32) then some (0 : Int32) else if st (1092 + 7 * d + 6) = (-1 : Int32) then some (1 : Int32) else if nI se < st (1092 + 7 * d + 6) then some (1 : Int32) else some (0 : Int32)) = some j ∧ (st (1092 + 7 * d + 5) = -1 → j = 0) := by
      by_cases e1 : st (1092 + 7 * d + 5) = -1
      · exact ⟨0, by rw [if_pos e1], fun _ => rfl⟩
      · rw [if_neg e1]
        by_cases e2 : st (1092 + 7 * d + 6) = -1
        · exact ⟨1, by rw [if_pos e2], fun q => absurd q e1⟩
        · rw [if_neg e2]
          by_cases e3 : nI se < st (1092 + 7 * d + 6)
          · exact ⟨1, by rw [if_pos e3], fun q => absurd q e1⟩
          · exact ⟨0, by rw [if_neg e3], fun q => absurd q e1⟩
    obtain ⟨j, hj, hj0⟩ := hin
    have hmj : (if st (1092 + 7 * d + 5) = (-1 : Int32) then some (0 : Int32) else Option.bind (F_X12_debtOf st (nI d) 6) fun c_3 => if c_3 = (-1 : Int32) then some (1 : Int32) else Option.bind (F_X12_debtOf st (nI d) 6) fun c_4 => if nI se < c_4 then some (1 : Int32) else some (0 : Int32)) = some j := by
      rw [← hj]
      by_cases e1 : st (1092 + 7 * d + 5) = -1
      · rw [if_pos e1, if_pos e1]
      · rw [if_neg e1, if_neg e1]
        refine sbind hm6 ?_
        by_cases e2 : st (1092 + 7 * d + 6) = -1
        · rw [if_pos e2, if_pos e2]
        · rw [if_neg e2, if_neg e2]
          exact sbind hm6 rfl
    by_cases ej : j = 0
    · refine ⟨s, z7, ?_, j, hmj, by rw [if_pos ej]; exact sbind hM2 (by rw [nI_l (by omega)])⟩
      unfold F_X2_sumLent
      exact sbind hc5 (sbind hc6 (sbind hj (sbind (x := lN s) (by rw [if_pos ej]; exact sbind hC2 (by rw [nI_l (by omega)])) rfl)))
    · rcases z13 with e5 | ⟨o, o1, o2, e5⟩
      · exact absurd (hj0 e5) ej
      · refine ⟨o, o2, ?_, j, hmj, by rw [if_neg ej]; exact sbind hm5 (by rw [e5, nI_l (by omega)])⟩
        unfold F_X2_sumLent
        refine sbind hc5 (sbind hc6 (sbind hj (sbind (x := lN o) (by rw [if_neg ej, e5, nI_l (by omega)]) rfl)))
  obtain ⟨V, hV1, hV2, j, hV3, hV4⟩ := hV
  unfold F_X2_left F_X12_owedOf
  refine two_l hC3 (two_r (hM 5 (by decide)) (two_r hV3 (two_r hV4 (two_r hM1 (two_r hM3 ?_)))))
  by_cases hsl : se < l
  · rw [if_pos (nI_lt hsl (by omega))]
    -- the model's loop ends at once
    refine two_r (x := (lN V, nI l, b1, b2, b3, b4, b5, b6, b7)) (Ev_out (b := 1) ?_ (Nat.le_refl _) FU (by unfold FU; omega)) (two_r hM3 ?_)
    · unfold B_X12_owedOf_77
      dsimp only
      rw [if_pos (nI_lt hsl (by omega))]
    · refine two_r (x := (0 : Int64)) (by rw [if_pos (nI_lt hsl (by omega))]) (two_end ⟨0, by omega, rfl, rfl⟩)
  · rw [if_neg (nI_nlt (by omega) (by omega))]
    have hmax : (if (0 : Int32) < nI l then nI l else (0 : Int32)) = nI l := by
      by_cases e : 0 < l
      · rw [if_pos (ltL 0 0 rfl e (by omega))]
      · rw [show l = 0 by omega]; rfl
    refine two_l hC0 (two_l hC1 (two_l (C_kin R0 z1 z2) (two_l hC1 (two_l (C_mer (j := 1) R0 z2 (by decide)) (two_l hC4 (two_l hp1 (two_l hV2 ?_)))))))
    rw [hmax, lt_eq]
    obtain ⟨tC, tM, g1, g2, v, g3, g4, g5⟩ := LFT (n := n) (d := d) (due := u) (own := x) (ow2 := y) (se := se) (paid := paid2) RA RP (by omega) hse z10 z12 z4 (by omega) (by omega) hp2 (se + 1 - l) l V (by omega) (by omega) a1 a2 a3 a4 a5 a6 a7 b1 b2 b3 b4 b5 b6 b7
    refine two_l (g1 FU (by unfold FU; omega)) (two_r (g2 FU (by unfold FU; omega)) (two_r hM3 ?_))
    refine two_r (x := tM.1) (by rw [if_neg (nI_nlt (by omega) (by omega))]) (two_end ⟨v, g3, g4, g5⟩)
/-- one number for both, whatever the scratch -/
def OwC (tc : Nat → Nat → Int32) (tr : Nat → Int32) (d se v : Nat) : Prop := ∀ (a1 : Int64) (a2 a3 a4 a5 : Int32) (a6 : Nat → Int64) (a7 : Int32) (paid : Nat → Int64), ∃ o1, F_X2_left (tc 2) (tr 2) (tc 3) (tr 3) (tc 0) (tr 0) (tc 4) (tr 4) a1 a2 a3 a4 a5 a6 a7 paid (nI d) (nI se) = some o1 ∧ o1.1 = lN v
def OwM (st : Nat → Int32) (d se v : Nat) : Prop := ∀ (b1 : Nat → Int64) (b2 : Nat → Int32) (b3 : Int32) (b4 : Nat → Int64) (b5 : Int32) (b6 b7 : Nat → Int32), ∃ o2, F_X12_owedOf b1 st b2 b3 b4 b5 b6 b7 (nI d) (nI se) = some o2 ∧ o2.1 = lN v
theorem OWE1 (R : RelN actK tc tr nar nam st n a b) {d se : Nat} (hd : d < n 2) (hse : se ≤ 99) : ∃ v : Nat, v ≤ 1000000000000 ∧ OwC tc tr d se v ∧ OwM st d se v := by
  obtain ⟨o1, o2, e1, e2, v, v1, v2, v3⟩ := LEFT R hd hse 0 0 0 0 0 (fun _ => 0) 0 (fun _ => 0) (fun _ => 0) (fun _ => 0) 0 (fun _ => 0) 0 (fun _ => 0) (fun _ => 0)
  refine ⟨v, v1, fun a1 a2 a3 a4 a5 a6 a7 paid => ?_, fun b1 b2 b3 b4 b5 b6 b7 => ?_⟩
  · obtain ⟨p1, p2, f1, f2, w, w1, w2, w3⟩ := LEFT R hd hse a1 a2 a3 a4 a5 a6 a7 paid (fun _ => 0) (fun _ => 0) 0 (fun _ => 0) 0 (fun _ => 0) (fun _ => 0)
    have e : p2 = o2 := Option.some.inj (f2.symm.trans e2)
    subst e
    exact ⟨p1, f1, by rw [w2, ← w3, v3]⟩
  · obtain ⟨p1, p2, f1, f2, w, w1, w2, w3⟩ := LEFT R hd hse 0 0 0 0 0 (fun _ => 0) 0 (fun _ => 0) b1 b2 b3 b4 b5 b6 b7
    have e : p1 = o1 := Option.some.inj (f1.symm.trans e1)
    subst e
    exact ⟨p2, f2, by rw [w3, ← w2, v2]⟩
theorem OWES (R : RelN actK tc tr nar nam st n a b) {se : Nat} (hse : se ≤ 99) : ∃ ow : Nat → Nat, ∀ d, d < n 2 → ow d ≤ 1000000000000 ∧ OwC tc tr d se (ow d) ∧ OwM st d se (ow d) := by
  have h : ∀ d, ∃ v : Nat, d < n 2 → v ≤ 1000000000000 ∧ OwC tc tr d se v ∧ OwM st d se v := fun d => by
    by_cases hd : d < n 2
    · obtain ⟨v, hv⟩ := OWE1 R hd hse
      exact ⟨v, fun _ => hv⟩
    · exact ⟨0, fun z => absurd z hd⟩
  exact ⟨fun d => Classical.choose (h d), fun d => Classical.choose_spec (h d)⟩
theorem P_owed (h : Rel actK tc tr nar nam st) (a1 : Int64) (a2 a3 a4 a5 : Int32) (a6 : Nat → Int64) (a7 : Int32) (paid : Nat → Int64) (b1 : Nat → Int64) (b2 : Nat → Int32) (b3 : Int32) (b4 : Nat → Int64) (b5 : Int32) (b6 b7 : Nat → Int32) (p0 p1 : Int32) :
    Two (F_X11_owed a1 a2 a3 a4 a5 a6 a7 paid (tc 2) (tr 2) (tc 3) (tr 3) (tc 0) (tr 0) (tc 4) (tr 4) p0 p1) (F_X12_owed b1 st b2 b3 b4 b5 b6 b7 p0 p1) (fun o1 o2 => o1.1 = o2.1) := by
  obtain ⟨n, a, b, R⟩ := h
  obtain ⟨⟨d1, d2, d3⟩, -, -⟩ := id R.2.2.2.1
  unfold F_X11_owed F_X12_owed
  by_cases h0 : inR p0 0 (((n 2 : Nat) : Int) - 1)
  · refine two_l (by rw [d2]; exact C_noD_t (by omega) h0) (two_r (M_is_t (c := 2) (by decide) d3 (by omega) h0) ?_)
    rw [if_pos rfl, if_neg (by decide)]
    by_cases h1 : inR p1 0 99
    · obtain ⟨d, k1, k2, rfl⟩ := inR_row h0
      obtain ⟨s, s1, s2, rfl⟩ := inR_nat (b := 99) h1
      obtain ⟨o1, o2, e1, e2, v, v1, v2, v3⟩ := LEFT R k1 s1 a1 a2 a3 a4 a5 a6 a7 paid b1 b2 b3 b4 b5 b6 b7
      exact two_l (sbind (C_season_t h1) (by rw [if_pos rfl]; exact sbind e1 rfl)) (two_r (sbind (M_season_t h1) (by rw [if_neg (by decide)]; exact sbind e2 rfl)) (two_end (by dsimp only; rw [v2, v3])))
    · exact two_l (sbind (C_season_f h1) (by rw [if_neg (by decide)])) (two_r (sbind (M_season_f h1) (by rw [if_pos rfl])) (two_end rfl))
  · refine two_l (by rw [d2]; exact C_noD_f (by omega) h0) (two_r (M_is_f (c := 2) (by decide) d3 (by omega) h0) ?_)
    rw [if_neg (by decide), if_pos rfl]
    exact two_l rfl (two_r rfl (two_end rfl))
end OWE
