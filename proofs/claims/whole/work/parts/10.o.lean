theorem mod_half {X Y : Nat} (h0 : 0 < Y) (h : Y ≤ X) : 2 * (X % Y) ≤ X := by
  have h1 := Nat.mod_lt X h0
  have h2 := Nat.div_add_mod X Y
  have h3 : 1 ≤ X / Y := (Nat.one_le_div_iff h0).mpr h
  have h4 : Y * 1 ≤ Y * (X / Y) := Nat.mul_le_mul_left Y h3
  omega
theorem P_gcd {X Y : Nat} (hX : X < 2 ^ 62) (hY : Y < 2 ^ 62) (hp : 0 < X ∨ 0 < Y) : Two (F_X11_greatestDivisor (lN X) (lN Y)) (F_X12_divisor (lN X) (lN Y)) (fun o1 o2 => o1 = o2 ∧ ∃ g : Nat, 0 < g ∧ g < 2 ^ 62 ∧ o1 = lN g) := by
  unfold F_X11_greatestDivisor F_X12_divisor
  refine two_bind (P := fun t1 t2 => t1.1 = t2.1 ∧ ∃ g : Nat, 0 < g ∧ g < 2 ^ 62 ∧ t1.1 = lN g) ?_ (fun x y h => two_end h)
  refine itr_two_fu
    (I := fun s1 s2 => ∃ X Y c k : Nat, s1.1 = lN X ∧ s1.2.1 = lN Y ∧ s1.2.2 = nI c ∧ s2.1 = lN X ∧ s2.2 = lN Y ∧ X < 2 ^ 62 ∧ Y < 2 ^ 62 ∧ (0 < X ∨ 0 < Y) ∧ ((Y ≤ X ∧ X * Y < 2 ^ k ∧ c + k < 1000) ∨ c = 0))
    (μ := fun s1 => 1000 - s1.2.2.toNatClampNeg) _ _ _ ⟨X, Y, 0, 0, rfl, rfl, rfl, rfl, rfl, hX, hY, hp, Or.inr rfl⟩ (by dsimp only; omega) ?_
  rintro ⟨x, y, i⟩ ⟨x', y'⟩ ⟨X, Y, c, k, h1, h2, h3, h4, h5, hX, hY, hp, hc⟩
  dsimp only at h1 h2 h3 h4 h5
  subst h1; subst h2; subst h3; subst h4; subst h5
  unfold B_X11_greatestDivisor_9 B_X12_divisor_6
  have hc1 : c < 1000 := by rcases hc with h | h <;> omega
  refine two_ifl (nI_lt (b := 1000) hc1 (by decide)) ?_
  have hz : (lN Y = 0) ↔ Y = 0 := by
    have := pk_lEQ (a := Y) (b := 0) (by omega) (by decide)
    exact this
  by_cases hY0 : Y = 0
  · refine two_ifl (hz.mpr hY0) (two_ifr (hz.mpr hY0) (two_end (Or.inr ⟨_, _, rfl, rfl, rfl, X, by omega, hX, rfl⟩)))
  · have hne : ¬ lN Y = 0 := fun e => hY0 (hz.mp e)
    have hm : mL (lN X) (lN Y) = some (lN (X % Y)) := by
      unfold mL
      rw [if_neg hne, pk_lRem (by omega) (by omega) (by omega)]
    refine two_ifl' hne (two_ifr' hne (two_l hm (two_lt (two_r hm ?_))))
    have hmod := Nat.mod_lt X (show 0 < Y by omega)
    refine two_end (Or.inl ⟨_, _, rfl, rfl, ?_, ?_⟩)
    · rcases hc with ⟨g1, g2, g3⟩ | g1
      · have hk : 1 ≤ k := by
          rcases Nat.eq_zero_or_pos k with e | e
          · subst e
            have : 0 < X * Y := Nat.mul_pos (by omega) (by omega)
            omega
          · exact e
        refine ⟨Y, X % Y, c + 1, k - 1, rfl, rfl, nI_1 c, rfl, rfl, hY, by omega, Or.inl (by omega), Or.inl ⟨by omega, ?_, by omega⟩⟩
        have h2 := mod_half (show 0 < Y by omega) g1
        have h3 : Y * (2 * (X % Y)) ≤ Y * X := Nat.mul_le_mul_left Y h2
        have h4 : 2 ^ k = 2 * 2 ^ (k - 1) := by
          rw [show k = (k - 1) + 1 by omega, Nat.pow_succ, Nat.add_sub_cancel]; omega
        rw [Nat.mul_comm Y X] at h3
        have h5 : Y * (2 * (X % Y)) = 2 * (Y * (X % Y)) := Nat.mul_left_comm _ _ _
        omega
      · subst g1
        refine ⟨Y, X % Y, 0 + 1, 124, rfl, rfl, nI_1 0, rfl, rfl, hY, by omega, Or.inl (by omega), Or.inl ⟨by omega, ?_, by omega⟩⟩
        have h1 : Y * (X % Y) ≤ Y * Y := Nat.mul_le_mul_left Y (by omega)
        have h2 : Y * Y < 2 ^ 62 * 2 ^ 62 := Nat.mul_lt_mul'' hY hY
        rw [← Nat.pow_add] at h2
        omega
    · dsimp only
      rw [nI_1, nI_clamp (by omega), nI_clamp (by omega)]; omega
/-- both set the same fraction -/
theorem P_fraction {X Y : Nat} (hX : X < 2 ^ 62) (hY : Y < 2 ^ 62) (hp : 0 < X ∨ 0 < Y) (a b a2 b2 : Int64) : ∃ u v : Int64, F_X11_setFraction a b (lN X) (lN Y) = some (u, v) ∧ F_X12_tellsFraction a2 b2 (lN X) (lN Y) = some (1, u, v) := by
  obtain ⟨o1, o2, h1, h2, h3, g, g1, g2, h4⟩ := P_gcd hX hY hp
  subst h3; subst h4
  have hne : ¬ lN g = 0 := fun e => by
    have := (pk_lEQ (a := g) (b := 0) (by omega) (by decide)).mp e
    omega
  have hq : ∀ z, qL z (lN g) = some (z / lN g) := fun z => by unfold qL; rw [if_neg hne]
  have hlt : (0 : Int64) < lN g := (pk_lLT (a := 0) (b := g) (by decide) (by omega)).mpr g1
  refine ⟨lN X / lN g, lN Y / lN g, ?_, ?_⟩
  · unfold F_X11_setFraction
    refine sbind h1 ?_
    rw [if_pos hlt]
    exact sbind (sbind (hq _) (sbind (hq _) rfl)) rfl
  · unfold F_X12_tellsFraction
    exact sbind h2 (sbind (hq _) (sbind (hq _) rfl))
