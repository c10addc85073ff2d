section OPS
variable {AK : (Nat → Int32) → (Nat → Int32) → Prop} {tc : Nat → Nat → Int32} {tr : Nat → Int32} {nar nam : Int32} {st : Nat → Int32}
theorem P_force (h : Rel AK tc tr nar nam st) (p0 p1 : Int32) : Two (F_X11_force (tc 2) (tr 2) p0 p1) (F_X12_force st p0 p1) (fun o1 o2 => o1 = o2) := by
  obtain ⟨n, a, b, R⟩ := h
  unfold F_X11_force F_X12_force
  by_cases h0 : inR p0 0 2
  · refine two_l (C_out_t rfl rfl h0) (two_r (M_in_t rfl rfl h0) ?_)
    rw [if_pos rfl, if_neg (by decide)]
    by_cases h1 : inR p1 0 99
    · obtain ⟨o1, o2, e1, e2, e3, -⟩ := P_inForce R.2.2.1 p0 p1
      subst e3
      refine two_l (x := o1) (sbind (C_season_t h1) (by rw [if_pos rfl]; exact sbind e1 rfl)) (two_r (x := o1) (sbind (M_season_t h1) (by rw [if_neg (by decide)]; exact sbind e2 rfl)) (two_end rfl))
    · refine two_l (x := (-2 : Int32)) (sbind (C_season_f h1) (by rw [if_neg (by decide)])) (two_r (x := (-2 : Int32)) (sbind (M_season_f h1) (by rw [if_pos rfl])) (two_end rfl))
  · refine two_l (C_out_f rfl rfl h0) (two_r (M_in_f rfl rfl h0) ?_)
    rw [if_neg (by decide), if_pos rfl]
    exact two_l rfl (two_r rfl (two_end rfl))
theorem P_breaks (h : Rel AK tc tr nar nam st) (p0 p1 : Int32) : Two (F_X11_breaks (tc 3) (tr 3) p0 p1) (F_X12_breaks st p0 p1) (fun o1 o2 => o1.1 = o2.1 ∧ Rel AK (va_up tc 3 o1.2) tr nar nam o2.2) := by
  have hsame : Rel AK (va_up tc 3 (tc 3)) tr nar nam st := by rw [vu_id]; exact h
  obtain ⟨n, a, b, R⟩ := h
  obtain ⟨⟨d1, d2, d3⟩, dT, dQ⟩ := id R.2.2.2.1
  refine two_guard (c := inR p0 0 (((n 2 : Nat) : Int) - 1)) (fun z => by rw [d2]; exact C_noD_t (by omega) z) (fun z => by rw [d2]; exact C_noD_f (by omega) z) (M_is_t (c := 2) (by decide) d3 (by omega)) (M_is_f (c := 2) (by decide) d3 (by omega)) (fun _ => two_end ⟨rfl, hsame⟩) (fun hp0 => ?_)
  refine two_guard (c := inR p1 0 99) C_season_t C_season_f M_season_t M_season_f (fun _ => two_end ⟨rfl, hsame⟩) (fun hp1 => ?_)
  obtain ⟨k, k1, k2, rfl⟩ := inR_row hp0
  obtain ⟨o, o1, o2, rfl⟩ := inR_nat (b := 99) hp1
  have hg : ∀ j, j < 7 → F_X8_get 280 (tc 3) (tr 3) 7 (nI k) (nI j) = some (st (1092 + 7 * k + j)) := fun j hj => by
    rw [d2]
    exact (C_get (len := 280) (wd := 7) k1 hj (by omega) (by decide) (by omega) (by decide)).trans (congrArg some (dT k j k1 hj))
  refine two_l (hg 5 (by decide)) (two_r (M_debtOf (j := 5) (by omega)) ?_)
  refine two_if (fun he => two_end ⟨rfl, hsame⟩) (fun he => ?_)
  refine two_l (hg 6 (by decide)) (two_r (M_debtOf (j := 6) (by omega)) ?_)
  refine two_if (fun he2 => ?_) (fun he2 => two_end ⟨rfl, hsame⟩)
  refine two_l (x := upd (tc 3) (7 * k + 6) (nI o)) (by rw [d2]; exact C_set (len := 280) (wd := 7) (c := 6) k1 (by decide) (by omega) (by decide) (by omega) (by decide)) ?_
  rw [show (1092 : Int32) = nI 1092 from rfl, show (7 : Int32) = nI 7 from rfl, pk_mul, nI_add]
  refine two_r (M_setj (j := 6) (by omega)) ?_
  refine two_end ⟨rfl, ?_⟩
  have hR := R_deb (n := n) (m := n 2) (x := upd (tc 3) (7 * k + 6) (nI o)) (y := tr 3) (st2 := upd st (1092 + 7 * k + 6) (nI o)) R (fun j h1 h2 h3 => pk_un (by omega)) (rT_set R.2.2.2.1 (by decide) (by decide) (by omega) (fun _ hq => by
    obtain ⟨a, b, s, l, d, z1, z2, z3, z4, z5, z6, z7, z8, z9, z10, z11, z12, z13, z14⟩ := hq
    exact ⟨a, b, s, l, d, z1, z2, z3, z4, z5, z6, z7, z8, z9, z10, z11, z12, z13, Or.inr ⟨o, o1, pk_us⟩⟩)) (Nat.le_refl _)
  rw [vu_id] at hR
  exact ⟨_, _, _, hR⟩
/-- the part of a fraction -/
theorem P_part (ab be : Int64) (p0 : Int32) : Two (F_X11_part ab be p0) (F_X12_part ab be p0) (fun o1 o2 => o1 = o2) := by
  unfold F_X11_part F_X12_part
  by_cases h0 : inR p0 0 1
  · refine two_l (C_out_t rfl rfl h0) ?_
    obtain ⟨k, k1, k2, rfl⟩ := inR_nat (b := 1) h0
    rcases (show k = 0 ∨ k = 1 by omega) with rfl | rfl
    · exact ⟨_, _, rfl, rfl, rfl⟩
    · exact ⟨_, _, rfl, rfl, rfl⟩
  · refine two_l (C_out_f rfl rfl h0) ?_
    have h1 : ¬ p0 = 0 := fun e => h0 (by rw [e]; exact ⟨by decide, by decide⟩)
    have h2 : ¬ p0 = 1 := fun e => h0 (by rw [e]; exact ⟨by decide, by decide⟩)
    exact ⟨-1, -1, rfl, by rw [if_neg h1, if_neg h2]; rfl, rfl⟩
end OPS
