/-! PURE LAWS 19: OWED, alike on both sides, whatever stands in the scratch rows -/
section OWE
variable {tc : Nat → Nat → Int32} {tr : Nat → Int32} {nar nam : Int32} {st : Nat → Int32}
abbrev CZ := Int64 × Int32 × Int64 × Int32 × Int32 × Int32 × Int32 × (Nat → Int64) × Int32
abbrev MZ := Int64 × Int32 × (Nat → Int64) × (Nat → Int32) × Int32 × (Nat → Int64) × Int32 × (Nat → Int32) × (Nat → Int32)
theorem lmin {a b : Nat} (ha : a < 2 ^ 63) (hb : b < 2 ^ 63) : (if lN a < lN b then lN a else lN b) = lN (min a b) := by
  by_cases h : a < b
  · rw [if_pos ((pk_lLT ha hb).mpr h), Nat.min_eq_left (by omega)]
  · rw [if_neg (lN_nlt (by omega) ha), Nat.min_eq_right (by omega)]
theorem lN_inj0 {a : Nat} (ha : a < 2 ^ 63) : (0 : Int64) < lN a ↔ 0 < a := pk_lLT (a := 0) (by decide) ha
theorem grow_le {W r : Nat} (hr : r ≤ 1000) (hW : W ≤ 1000000000000) : W * r ≤ 1000000000000000 := by
  have := Nat.mul_le_mul hW hr
  omega
theorem LFT {n : Nat → Nat} {d due own ow2 se : Nat} {paid : Nat → Int64} {cells : Nat → Int32} {rows : Int32} (RA : rAct actK (tc 2) (tr 2) st (n 1)) (RP : rT 60 3 3 1372 3 (qPay (n 2)) cells rows st (n 3)) (hd : d < 40) (hse : se ≤ 99) (hdue : due ≤ 99) (h4 : st (1092 + 7 * d + 4) = nI due) (h0 : st (1092 + 7 * d) = nI own) (ho : own < 10) (ho2 : ow2 < 10) (hp : ∀ s, s < 100 → paid s = lN (psum st d s (n 3))) :
    ∀ m s V, s + m = se + 1 → V ≤ 1000000000000 → ∀ (a1 : Int64) (a2 a3 a4 a5 : Int32) (a6 : Nat → Int64) (a7 : Int32) (b1 : Nat → Int64) (b2 : Nat → Int32) (b3 : Int32) (b4 : Nat → Int64) (b5 : Int32) (b6 b7 : Nat → Int32),
      ∃ (tC : CZ) (tM : MZ), Ev (B_X2_left_93 (nI se) paid (nI due) (tc 2) (tr 2) (kinV st own ow2) (st (20 + 2 * ow2 + 1))) (lN V, nI s, a1, a2, a3, a4, a5, a6, a7) tC (m + 1) ∧ Ev (B_X12_owedOf_77 (nI se) st (nI d) (nI ow2)) (lN V, nI s, b1, b2, b3, b4, b5, b6, b7) tM (m + 1) ∧ ∃ v : Nat, v ≤ 1000000000000 ∧ tC.1 = lN v ∧ tM.1 = lN v := by
  have hdeb : ∀ j, j < 7 → F_X12_debtOf st (nI d) (nI j) = some (st (1092 + 7 * d + j)) := fun j hj => M_debtOf (by omega)
  have hd0 := hdeb 0 (by omega)
  rw [Nat.add_zero, h0] at hd0
  have hd4 := hdeb 4 (by omega)
  rw [h4] at hd4
  have hps : ∀ s, psum st d s (n 3) ≤ 60000000 := fun s => by
    have := psum_le (d := d) (s := s) RP (n 3) (Nat.le_refl _)
    have := RP.1.1
    omega
  -- the model's season
  have hM : ∀ s V, s ≤ se → V ≤ 1000000000000 → ∀ (b1 : Nat → Int64) (b2 : Nat → Int32) (b3 : Int32) (b4 : Nat → Int64) (b5 : Int32) (b6 b7 : Nat → Int32) (a1 : Int64) (a2 a3 a4 a5 : Int32) (a6 : Nat → Int64) (a7 : Int32),
      ∃ (c1 : Nat → Int64) (c2 : Nat → Int32) (c3 : Int32) (c4 : Nat → Int64) (c5 : Int32) (c6 c7 : Nat → Int32) (r : Nat) (o1 : _), r ≤ 1000 ∧ F_X1_said a1 a2 a3 (tc 2) (tr 2) a4 a5 a6 a7 1 (nI s) 0 (kinV st own ow2) (st (20 + 2 * ow2 + 1)) (lN (V - psum st d s (n 3))) = some o1 ∧ o1.1 = lN r ∧
        B_X12_owedOf_77 (nI se) st (nI d) (nI ow2) (lN V, nI s, b1, b2, b3, b4, b5, b6, b7) = some (.inl (lN (if due < s then min 1000000000000 ((V - psum st d s (n 3)) + (V - psum st d s (n 3)) * r / 1000) else V - psum st d s (n 3)), nI (s + 1), c1, c2, c3, c4, c5, c6, c7)) := by
    intro s V hs hV b1 b2 b3 b4 b5 b6 b7 a1 a2 a3 a4 a5 a6 a7
    obtain ⟨o1, o2, e1, e2, r, r1, r2, r3, r4⟩ := P_told RA (so := 1) (by decide) a1 a2 a3 a4 a5 a6 a7 b1 b2 b3 b4 b5 b6 b7 (nI s) 0 (kinV st own ow2) (st (20 + 2 * ow2 + 1)) (lN (V - psum st d s (n 3)))
    have hloop := M_payloop (d := d) (s := s) (V := V) RP (by omega) (by omega) (by omega) (z := (lN V, nI s, b1, b2, b3, b4, b5, b6, b7)) rfl
    have hgr := grow_le (W := V - psum st d s (n 3)) r1 (by omega)
    by_cases hdu : due < s
    · refine ⟨o2.2.1, o2.2.2.1, o2.2.2.2.1, o2.2.2.2.2.1, o2.2.2.2.2.2.1, o2.2.2.2.2.2.2.1, o2.2.2.2.2.2.2.2, r, o1, r1, e1, r3, ?_⟩
      rw [if_pos hdu]
      unfold B_X12_owedOf_77
      dsimp only
      rw [if_neg (nI_nlt hs (by omega))]
      refine sbind hloop (sbind hd4 ?_)
      refine sbind (x := (lN (min 1000000000000 ((V - psum st d s (n 3)) + (V - psum st d s (n 3)) * r / 1000)), o2.2.1, o2.2.2.1, o2.2.2.2.1, o2.2.2.2.2.1, o2.2.2.2.2.2.1, o2.2.2.2.2.2.2.1, o2.2.2.2.2.2.2.2)) ?_ (by rw [lt_eq, nI_1])
      rw [if_pos (nI_lt hdu (by omega))]
      refine sbind hd0 (sbind (M_kin ho ho2) (sbind (M_town ho2) (sbind e2 ?_)))
      rw [r4, nI_l (by omega), lN_mul]
      refine sbind (x := lN ((V - psum st d s (n 3)) * r / 1000)) (by unfold qL; rw [if_neg (by decide), show (1000 : Int64) = lN 1000 from rfl, pk_lDiv (by omega) (by omega) (by omega)]) ?_
      rw [lN_add, lt_eq]
      refine sbind (x := lN (min 1000000000000 ((V - psum st d s (n 3)) + (V - psum st d s (n 3)) * r / 1000))) ?_ rfl
      rw [show (1000000000000 : Int64) = lN 1000000000000 from rfl, ← apply_ite some, lmin (by decide) (by omega)]
    · refine ⟨b1, b2, b3, b4, b5, b6, b7, r, o1, r1, e1, r3, ?_⟩
      rw [if_neg hdu]
      unfold B_X12_owedOf_77
      dsimp only
      rw [if_neg (nI_nlt hs (by omega))]
      refine sbind hloop (sbind hd4 ?_)
      refine sbind (x := (lN (V - psum st d s (n 3)), b1, b2, b3, b4, b5, b6, b7)) ?_ (by rw [lt_eq, nI_1])
      rw [if_neg (nI_nlt (by omega) (by omega))]
  -- nothing left: the model goes on with 0
  have hM0 : ∀ m s, s + m = se + 1 → ∀ (b1 : Nat → Int64) (b2 : Nat → Int32) (b3 : Int32) (b4 : Nat → Int64) (b5 : Int32) (b6 b7 : Nat → Int32), ∃ tM : MZ, Ev (B_X12_owedOf_77 (nI se) st (nI d) (nI ow2)) (lN 0, nI s, b1, b2, b3, b4, b5, b6, b7) tM (m + 1) ∧ tM.1 = lN 0 := by
    intro m
    induction m with
    | zero =>
      intro s hs b1 b2 b3 b4 b5 b6 b7
      refine ⟨_, Ev_out (t := (lN 0, nI s, b1, b2, b3, b4, b5, b6, b7)) ?_ (by omega), rfl⟩
      unfold B_X12_owedOf_77
      dsimp only
      rw [if_pos (nI_lt (by omega) (by omega))]
    | succ m ih =>
      intro s hs b1 b2 b3 b4 b5 b6 b7
      obtain ⟨c1, c2, c3, c4, c5, c6, c7, r, o1, -, -, -, e⟩ := hM s 0 (by omega) (by omega) b1 b2 b3 b4 b5 b6 b7 0 0 0 0 0 (fun _ => 0) 0
      obtain ⟨tM, h1, h2⟩ := ih (s + 1) (by omega) c1 c2 c3 c4 c5 c6 c7
      refine ⟨tM, Ev_in e ?_ (Nat.le_refl _), h2⟩
      have : (if due < s then min 1000000000000 ((0 - psum st d s (n 3)) + (0 - psum st d s (n 3)) * r / 1000) else 0 - psum st d s (n 3)) = 0 := by
        rw [Nat.zero_sub, Nat.zero_mul]
        split <;> omega
      rw [this]; exact h1
  intro m
  induction m with
  | zero =>
    intro s V hs hV a1 a2 a3 a4 a5 a6 a7 b1 b2 b3 b4 b5 b6 b7
    refine ⟨_, _, Ev_out (t := (lN V, nI s, a1, a2, a3, a4, a5, a6, a7)) ?_ (by omega), Ev_out (t := (lN V, nI s, b1, b2, b3, b4, b5, b6, b7)) ?_ (by omega), V, hV, rfl, rfl⟩
    · unfold B_X2_left_93
      dsimp only
      rw [if_pos (nI_lt (by omega) (by omega))]
    · unfold B_X12_owedOf_77
      dsimp only
      rw [if_pos (nI_lt (by omega) (by omega))]
  | succ m ih =>
    intro s V hs hV a1 a2 a3 a4 a5 a6 a7 b1 b2 b3 b4 b5 b6 b7
    by_cases hV0 : V = 0
    · subst hV0
      obtain ⟨tM, h1, h2⟩ := hM0 (m + 1) s hs b1 b2 b3 b4 b5 b6 b7
      refine ⟨_, tM, Ev_out (t := (lN 0, nI s, a1, a2, a3, a4, a5, a6, a7)) ?_ (by omega), h1, 0, by omega, rfl, h2⟩
      unfold B_X2_left_93
      dsimp only
      rw [if_neg (nI_nlt (by omega) (by omega)), if_pos (ltR 100 100 rfl (by omega) (by decide)), if_neg (by decide)]
    · obtain ⟨c1, c2, c3, c4, c5, c6, c7, r, o1, r1, r2, r3, e⟩ := hM s V (by omega) hV b1 b2 b3 b4 b5 b6 b7 a1 a2 a3 a4 a5 a6 a7
      have hgr := grow_le (W := V - psum st d s (n 3)) r1 (by omega)
      have hsub : lN V - (if lN (psum st d s (n 3)) < lN V then lN (psum st d s (n 3)) else lN V) = lN (V - psum st d s (n 3)) := by
        have := hps s
        rw [lmin (by omega) (by omega), lN_sub (by omega)]
        congr 1; omega
      obtain ⟨V', hV'⟩ : ∃ V', V' = (if due < s then min 1000000000000 ((V - psum st d s (n 3)) + (V - psum st d s (n 3)) * r / 1000) else V - psum st d s (n 3)) := ⟨_, rfl⟩
      rw [← hV'] at e
      have hV'2 : V' ≤ 1000000000000 := by rw [hV']; split <;> omega
      have hstep : ∃ (d1 : Int64) (d2 d3 d4 d5 : Int32) (d6 : Nat → Int64) (d7 : Int32), B_X2_left_93 (nI se) paid (nI due) (tc 2) (tr 2) (kinV st own ow2) (st (20 + 2 * ow2 + 1)) (lN V, nI s, a1, a2, a3, a4, a5, a6, a7) = some (.inl (lN V', nI (s + 1), d1, d2, d3, d4, d5, d6, d7)) := by
        by_cases hdu : due < s
        · by_cases hW : 0 < V - psum st d s (n 3)
          · refine ⟨o1.2.1, o1.2.2.1, o1.2.2.2.1, o1.2.2.2.2.1, o1.2.2.2.2.2.1, o1.2.2.2.2.2.2.1, o1.2.2.2.2.2.2.2, ?_⟩
            rw [if_pos hdu] at hV'
            unfold B_X2_left_93
            dsimp only
            rw [if_neg (nI_nlt (by omega) (by omega)), if_pos (ltR 100 100 rfl (by omega) (by decide)), if_pos ((lN_inj0 (by omega)).mpr (by omega))]
            refine sbind (gL_at (by omega) (by decide)) ?_
            rw [hp s (by omega), lt_eq, hsub]
            refine sbind (x := (lN V', o1.2.1, o1.2.2.1, o1.2.2.2.1, o1.2.2.2.2.1, o1.2.2.2.2.2.1, o1.2.2.2.2.2.2.1, o1.2.2.2.2.2.2.2)) ?_ (by rw [lt_eq, nI_1])
            rw [if_pos (nI_lt hdu (by omega)), if_pos ((lN_inj0 (by omega)).mpr hW)]
            refine sbind r2 ?_
            rw [r3, lN_mul]
            refine sbind (x := lN ((V - psum st d s (n 3)) * r / 1000)) (by unfold qL; rw [if_neg (by decide), show (1000 : Int64) = lN 1000 from rfl, pk_lDiv (by omega) (by omega) (by omega)]) ?_
            rw [lN_add, lt_eq, show (1000000000000 : Int64) = lN 1000000000000 from rfl, lmin (by omega) (by decide), hV', Nat.min_comm]
          · refine ⟨a1, a2, a3, a4, a5, a6, a7, ?_⟩
            have hW0 : V - psum st d s (n 3) = 0 := by omega
            rw [if_pos hdu, hW0, Nat.zero_mul] at hV'
            have hV'0 : V' = 0 := by omega
            unfold B_X2_left_93
            dsimp only
            rw [if_neg (nI_nlt (by omega) (by omega)), if_pos (ltR 100 100 rfl (by omega) (by decide)), if_pos ((lN_inj0 (by omega)).mpr (by omega))]
            refine sbind (gL_at (by omega) (by decide)) ?_
            rw [hp s (by omega), lt_eq, hsub, hW0]
            refine sbind (x := (lN 0, a1, a2, a3, a4, a5, a6, a7)) ?_ (by rw [lt_eq, nI_1, hV'0])
            rw [if_pos (nI_lt hdu (by omega)), if_neg (by decide)]
        · refine ⟨a1, a2, a3, a4, a5, a6, a7, ?_⟩
          rw [if_neg hdu] at hV'
          unfold B_X2_left_93
          dsimp only
          rw [if_neg (nI_nlt (by omega) (by omega)), if_pos (ltR 100 100 rfl (by omega) (by decide)), if_pos ((lN_inj0 (by omega)).mpr (by omega))]
          refine sbind (gL_at (by omega) (by decide)) ?_
          rw [hp s (by omega), lt_eq, hsub, ← hV']
          refine sbind (x := (lN V', a1, a2, a3, a4, a5, a6, a7)) ?_ (by rw [lt_eq, nI_1])
          rw [if_neg (nI_nlt (by omega) (by omega))]
      obtain ⟨d1, d2, d3, d4, d5, d6, d7, hs2⟩ := hstep
      obtain ⟨tC, tM, g1, g2, g3⟩ := ih (s + 1) V' (by omega) hV'2 d1 d2 d3 d4 d5 d6 d7 c1 c2 c3 c4 c5 c6 c7
      exact ⟨tC, tM, Ev_in hs2 g1 (Nat.le_refl _), Ev_in e g2 (Nat.le_refl _), g3⟩
end OWE
