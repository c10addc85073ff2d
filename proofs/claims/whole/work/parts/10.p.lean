section OPS
variable {AK : (Nat → Int32) → (Nat → Int32) → Prop} {tc : Nat → Nat → Int32} {tr : Nat → Int32} {nar nam : Int32} {st : Nat → Int32}
theorem P_mean (h : Rel AK tc tr nar nam st) (ab be : Int64) (p0 : Int32) : Two (F_X11_mean ab be nar p0) (F_X12_mean ab be st p0) (fun o1 o2 => o1 = o2) := by
  obtain ⟨n, a, b, R⟩ := h
  obtain ⟨u1, u2, u3, u4, u5, u6, u7, u8⟩ := id R.2.2.2.2.2.2.2.2.2.2.2.2.2
  unfold F_X11_mean F_X12_mean
  by_cases h0 : inR p0 1 1000000
  · refine two_l (C_out_t rfl rfl h0) (two_r (M_weight_t h0) ?_)
    obtain ⟨w, w0, w1, w2, rfl⟩ := inR_natA (a := 1) (b := 1000000) h0
    have hg : gI st 1951 11 = some (nI a) := by rw [← u6]; exact M_at (k := 11) (by decide)
    have e1 : (nI a - 1).toInt64 = lN (a - 1) := by
      rw [show (1 : Int32) = nI 1 from rfl, pk_sub (by omega), nI_l (by omega)]
    have e2 : (nI w).toInt64 = lN w := nI_l w2
    have e3 : (nI a).toInt64 = lN a := nI_l (by omega)
    have hb : w * (a - 1) ≤ 1000000 * 100 := Nat.mul_le_mul w1 (by omega)
    obtain ⟨u, v, f1, f2⟩ := P_fraction (X := w * (a - 1)) (Y := a) (by omega) (by omega) (Or.inr (by omega)) ab be ab be
    refine two_ifl rfl ?_
    rw [u5, e1, e2, e3, lN_mul]
    refine two_l f1 (two_r (x := ((1 : Int32), u, v)) ?_ (two_end rfl))
    rw [if_neg (by decide)]
    refine sbind hg (sbind hg ?_)
    rw [e1, e3, lN_mul]
    exact sbind f2 rfl
  · refine two_l (C_out_f rfl rfl h0) (two_r (M_weight_f h0) ?_)
    rw [if_neg (by decide), if_pos rfl]
    exact two_r rfl (two_end rfl)
end OPS
