/-! PURE LAWS 44: digest, the call -/
section DIG
variable {tc : Nat → Nat → Int32} {tr : Nat → Int32} {nar nam : Int32} {st : Nat → Int32} {n : Nat → Nat} {a b : Nat}
def ActL (st cells : Nat → Int32) (nA : Nat) (L : Nat → Nat) : Prop := ∀ i, i < nA → L i ≤ 50 ∧ st (244 + 53 * i + 2) = nI (L i) ∧ ∀ j, j < 3 + L i → cells (104 * i + j) = st (244 + 53 * i + j)
theorem act_fun {cells : Nat → Int32} {rows : Int32} {nA : Nat} (R : rAct actK cells rows st nA) : ∃ L, ActL st cells nA L := by
  refine ⟨fun i => (st (244 + 53 * i + 2)).toNatClampNeg, fun i hi => ?_⟩
  obtain ⟨q0, q1, q2, ⟨k, k1, k2, k3, k4⟩, q5⟩ := R.2 i hi
  rw [rowf_at (by decide), rowf_at (by decide)] at q0 q1
  rw [rowf_at (by decide)] at k2 k3
  dsimp only
  rw [k2, nI_clamp (by omega)]
  refine ⟨k1, rfl, fun j hj => ?_⟩
  rcases (show j = 0 ∨ j = 1 ∨ j = 2 ∨ ∃ d, j = 3 + d ∧ d < k by
    by_cases h3 : j < 3
    · omega
    · exact Or.inr (Or.inr (Or.inr ⟨j - 3, by omega, by omega⟩))) with rfl | rfl | rfl | ⟨d, rfl, hd⟩
  · rw [← q0, Nat.zero_add]
  · rw [← q1, Nat.zero_add]
  · rw [k2, ← k3, Nat.zero_add]
  · have := k4 d hd
    rw [rowf_at (by omega), rowf_at (by omega), Nat.zero_add] at this
    exact this
def TexL (st : Nat → Int32) (K : Nat → Nat) : Prop := ∀ t, t < 4 → K t ≤ 50 ∧ st (40 + 51 * t) = nI (K t)
theorem tex_fun {cells : Nat → Int32} {rows : Int32} (R : rTex cells rows st) : ∃ K, TexL st K := by
  refine ⟨fun t => (st (40 + 51 * t)).toNatClampNeg, fun t ht => ?_⟩
  obtain ⟨k, k1, k2⟩ := R.2.2 t ht
  dsimp only
  rw [k2, nI_clamp (by omega)]
  exact ⟨k1, rfl⟩
/-- what the tables give, one after another -/
def dA (st : Nat → Int32) (L : Nat → Nat) (nA : Nat) (s : Int64) : Int64 := mixG (fun i s => mixS (fun j => st (244 + 53 * i + j)) (3 + L i) s) nA s
def dP (st : Nat → Int32) (nM nP : Nat) (s : Int64) : Int64 := mixG (fun i s => mixS (fun j => st (1552 + 13 * i + j)) (3 + nM) s) nP s
def dT (st : Nat → Int32) (K : Nat → Nat) (s : Int64) : Int64 := mixG (fun t s => mixS (fun j => st (40 + 51 * t + j)) (1 + K t) s) 4 s
def dX (st : Nat → Int32) (off c : Nat) (s : Int64) : Int64 := mixS (fun j => st (off + j)) c s
def dPeople (st : Nat → Int32) (n : Nat → Nat) (L : Nat → Nat) (s : Int64) : Int64 := dP st (n 0) (n 4) (dX st 1372 (3 * n 3) (dX st 1092 (7 * n 2) (dA st L (n 1) (dX st 20 (2 * n 0) s))))
def dTrade (st : Nat → Int32) (n : Nat → Nat) (K : Nat → Nat) (s : Int64) : Int64 := dT st K (dX st 13 3 (dX st 1933 (3 * n 10) (dX st 1903 (3 * n 9) (dX st 1753 (5 * n 8) (dX st 1633 (3 * n 7) (dX st 12 1 (dX st 1597 (3 * n 6) (dX st 11 1 (dX st 1591 (1 * n 5) s)))))))))
theorem C_people (R : RelN actK tc tr nar nam st n a b) {L : Nat → Nat} (hL : ActL st (tc 2) (n 1) L) (s : Int64) : F_X0_mixPeople (tc 2) (tr 2) (tc 3) (tr 3) (tc 0) (tr 0) (tc 4) (tr 4) (tc 5) (tr 5) s = some (dPeople st n L s) := by
  obtain ⟨R0, R1, R2, R3, R4, R5, R6, R7, R8, R9, R10, R11, R12, R13⟩ := R
  obtain ⟨⟨m1, m2, m3⟩, -, -⟩ := id R0
  obtain ⟨⟨c1, c2, c3⟩, -⟩ := id R2
  obtain ⟨⟨p1, p2, p3⟩, p4, -⟩ := id R5
  refine sbind (T_mix (len := 20) R0 s (by decide) (by decide) (by decide) (by decide)) (sbind (x := dA st L (n 1) (dX st 20 (2 * n 0) s)) ?_ (sbind (T_mix (len := 280) R3 _ (by decide) (by decide) (by decide) (by decide)) (sbind (T_mix (len := 180) R4 _ (by decide) (by decide) (by decide) (by decide)) (sbind (x := dPeople st n L s) ?_ rfl))))
  · refine C_mixTexts (L := fun i => nI (L i)) _ c2 (by omega) (fun i hi => ?_) (fun i s hi => ?_)
    · obtain ⟨h1, h2, h3⟩ := hL i hi
      rw [c2]
      refine (C_get (len := 1664) (wd := 104) (c := 2) hi (by decide) (by omega) (by decide) (by omega) (by decide)).trans (congrArg some ?_)
      rw [h3 2 (by omega), h2]
    · obtain ⟨h1, h2, h3⟩ := hL i hi
      rw [show (2 : Int32) + 1 = nI 3 from rfl, nI_add]
      refine C_mixRow (wd := 104) s (by omega) (by decide) (fun j hj => ?_)
      rw [c2]
      refine (C_get (len := 1664) (wd := 104) (c := j) hi (by omega) (by omega) (by decide) (by omega) (by decide)).trans (congrArg some ?_)
      exact h3 j hj
  · refine C_mixAll _ p2 (by omega) (fun i s hi => ?_)
    rw [m2, show (3 : Int32) = nI 3 from rfl, nI_add]
    refine C_mixRow (wd := 13) s (by omega) (by decide) (fun j hj => ?_)
    rw [p2]
    refine (C_get (len := 39) (wd := 13) (c := j) hi (by omega) (by omega) (by decide) (by omega) (by decide)).trans (congrArg some ?_)
    exact p4 i j hi (by omega)
theorem C_trade (R : RelN actK tc tr nar nam st n a b) {K : Nat → Nat} (hK : TexL st K) (s : Int64) : F_X0_mixTrade (tc 6) (tr 6) (tc 9) (tr 9) (tc 11) (tr 11) (tc 10) (tr 10) nam nar (tc 12) (tr 12) (tc 7) (tr 7) (tc 1) (tr 1) (tc 8) (tr 8) s = some (dTrade st n K s) := by
  obtain ⟨R0, R1, R2, R3, R4, R5, R6, R7, R8, R9, R10, R11, R12, R13⟩ := R
  obtain ⟨y1, y2, y3, y4, y5, y6, y7, y8⟩ := id R13
  obtain ⟨t1, t2, t3⟩ := id R1
  obtain ⟨q1, q2⟩ := id R12
  refine sbind (T_mix (len := 6) R6 s (by decide) (by decide) (by decide) (by decide)) ?_
  rw [lt_eq, y5, ← y6, y7, ← y8]
  refine sbind (T_mix (len := 36) R7 _ (by decide) (by decide) (by decide) (by decide)) ?_
  rw [lt_eq]
  refine sbind (T_mix (len := 120) R8 _ (by decide) (by decide) (by decide) (by decide)) (sbind (T_mix (len := 150) R9 _ (by decide) (by decide) (by decide) (by decide)) (sbind (T_mix (len := 30) R10 _ (by decide) (by decide) (by decide) (by decide)) (sbind (T_mix (len := 18) R11 _ (by decide) (by decide) (by decide) (by decide)) ?_)))
  refine sbind (C_mixAll (n := 1) (R := fun _ s => mixS (fun j => st (13 + j)) 3 s) _ q1 (by decide) (fun i s hi => ?_)) (sbind (x := dTrade st n K s) ?_ rfl)
  · refine C_mixRow (wd := 3) s (by decide) (by decide) (fun j hj => ?_)
    rw [q1]
    refine (C_get (len := 3) (wd := 3) (c := j) (rows := 1) hi hj (by decide) (by decide) (by decide) (by decide)).trans (congrArg some ?_)
    rw [show i = 0 by omega, show 3 * 0 + j = j by omega]
    exact (q2 j hj).1
  · refine C_mixTexts (n := 4) (L := fun t => nI (K t)) _ t1 (by decide) (fun i hi => ?_) (fun i s hi => ?_)
    · rw [t1]
      refine (C_get (len := 204) (wd := 51) (c := 0) hi (by decide) (by decide) (by decide) (by decide) (by decide)).trans (congrArg some ?_)
      rw [t2 i 0 hi (by decide), Nat.add_zero, (hK i hi).2]
    · have := (hK i hi).1
      rw [show (0 : Int32) + 1 = nI 1 from rfl, nI_add]
      refine C_mixRow (wd := 51) s (by omega) (by decide) (fun j hj => ?_)
      rw [t1]
      refine (C_get (len := 204) (wd := 51) (c := j) hi (by omega) (by decide) (by decide) (by decide) (by decide)).trans (congrArg some ?_)
      exact t2 i j hi (by omega)
theorem M_acts {L : Nat → Nat} {nA : Nat} (h1 : st 1 = nI nA) (hA : nA ≤ 16) (hL : ∀ i, i < nA → L i ≤ 50 ∧ st (244 + 53 * i + 2) = nI (L i)) (s : Int64) : ∃ t, itr (B_X12_digest_29 st) FU (s, (0 : Int32)) = some t ∧ t.1 = dA st L nA s := by
  have hc : gI st 1951 1 = some (nI nA) := by rw [← h1]; exact M_at (k := 1) (by decide)
  refine itr_fu (I := fun t => ∃ k, k ≤ nA ∧ t.2 = nI k ∧ t.1 = dA st L k s) (μ := fun t => nA - t.2.toNatClampNeg) _ _ ⟨0, Nat.zero_le _, rfl, rfl⟩ (by dsimp only; omega) ?_
  rintro ⟨x, k'⟩ ⟨k, q1, q2, q3⟩
  dsimp only at q2 q3
  subst q2 q3
  unfold B_X12_digest_29
  dsimp only
  by_cases hk : k < nA
  · left
    obtain ⟨l1, l2⟩ := hL k hk
    refine ⟨(dA st L (k + 1) s, nI (k + 1)), sbind hc ?_, ⟨k + 1, hk, rfl, rfl⟩, ?_⟩
    · rw [if_pos (nI_lt hk (by omega)), show (244 : Int32) = nI 244 from rfl, show (53 : Int32) = nI 53 from rfl, show (2 : Int32) = nI 2 from rfl, show (3 : Int32) = nI 3 from rfl, pk_mul, nI_add, nI_add]
      refine sbind (M_at (by omega)) ?_
      rw [l2, nI_add]
      exact sbind (M_mixed _ (by omega)) (by rw [lt_eq, nI_1]; rfl)
    · dsimp only
      rw [nI_clamp (by omega), nI_clamp (by omega)]; omega
  · right
    have e : k = nA := by omega
    subst e
    exact ⟨_, sbind hc (by rw [if_neg (nI_nlt (Nat.le_refl _) (by omega))]), rfl⟩
theorem M_purses {nM nP : Nat} (h0 : st 0 = nI nM) (hM : nM ≤ 10) (h4 : st 4 = nI nP) (hP : nP ≤ 3) (s : Int64) : ∃ t, itr (B_X12_digest_111 st) FU (s, (0 : Int32)) = some t ∧ t.1 = dP st nM nP s := by
  have hc : gI st 1951 4 = some (nI nP) := by rw [← h4]; exact M_at (k := 4) (by decide)
  have hc0 : gI st 1951 0 = some (nI nM) := by rw [← h0]; exact M_at (k := 0) (by decide)
  refine itr_fu (I := fun t => ∃ k, k ≤ nP ∧ t.2 = nI k ∧ t.1 = dP st nM k s) (μ := fun t => nP - t.2.toNatClampNeg) _ _ ⟨0, Nat.zero_le _, rfl, rfl⟩ (by dsimp only; omega) ?_
  rintro ⟨x, k'⟩ ⟨k, q1, q2, q3⟩
  dsimp only at q2 q3
  subst q2 q3
  unfold B_X12_digest_111
  dsimp only
  by_cases hk : k < nP
  · left
    refine ⟨(dP st nM (k + 1) s, nI (k + 1)), sbind hc ?_, ⟨k + 1, hk, rfl, rfl⟩, ?_⟩
    · rw [if_pos (nI_lt hk (by omega))]
      refine sbind hc0 ?_
      rw [show (1552 : Int32) = nI 1552 from rfl, show (13 : Int32) = nI 13 from rfl, show (3 : Int32) = nI 3 from rfl, pk_mul, nI_add, nI_add]
      exact sbind (M_mixed _ (by omega)) (by rw [lt_eq, nI_1]; rfl)
    · dsimp only
      rw [nI_clamp (by omega), nI_clamp (by omega)]; omega
  · right
    have e : k = nP := by omega
    subst e
    exact ⟨_, sbind hc (by rw [if_neg (nI_nlt (Nat.le_refl _) (by omega))]), rfl⟩
theorem M_texts {K : Nat → Nat} (hK : TexL st K) (s : Int64) : ∃ t, itr (B_X12_digest_273 st) FU (s, (0 : Int32)) = some t ∧ t.1 = dT st K s := by
  refine itr_fu (I := fun t => ∃ k, k ≤ 4 ∧ t.2 = nI k ∧ t.1 = mixG (fun t s => mixS (fun j => st (40 + 51 * t + j)) (1 + K t) s) k s) (μ := fun t => 4 - t.2.toNatClampNeg) _ _ ⟨0, Nat.zero_le _, rfl, rfl⟩ (by dsimp only; omega) ?_
  rintro ⟨x, k'⟩ ⟨k, q1, q2, q3⟩
  dsimp only at q2 q3
  subst q2 q3
  unfold B_X12_digest_273
  dsimp only
  by_cases hk : k < 4
  · left
    obtain ⟨l1, l2⟩ := hK k hk
    refine ⟨(mixG (fun t s => mixS (fun j => st (40 + 51 * t + j)) (1 + K t) s) (k + 1) s, nI (k + 1)), ?_, ⟨k + 1, hk, rfl, rfl⟩, ?_⟩
    · rw [if_pos (ltR 4 4 rfl hk (by decide)), show (40 : Int32) = nI 40 from rfl, show (51 : Int32) = nI 51 from rfl, show (1 : Int32) = nI 1 from rfl, pk_mul, nI_add]
      refine sbind (M_at (by omega)) ?_
      rw [l2, nI_add]
      exact sbind (M_mixed _ (by omega)) (by rw [lt_eq, nI_add]; rfl)
    · dsimp only
      rw [nI_clamp (by omega), nI_clamp (by omega)]; omega
  · right
    have e : k = 4 := by omega
    subst e
    exact ⟨_, by rw [if_neg (by decide)], rfl⟩
theorem C_counts (R : RelN actK tc tr nar nam st n a b) : ∃ t, itr (B_X11_digest_6 (tr 2) (tr 3) (tr 6) (tr 9) (tr 11) (tr 10) (tr 0) (tr 4) (tr 5) (tr 7) (tr 8)) FU ((379 : Int64), (0 : Int32)) = some t ∧ t.1 = dX st 0 11 379 := by
  obtain ⟨R0, R1, R2, R3, R4, R5, R6, R7, R8, R9, R10, R11, R12, R13⟩ := R
  have hh : ∀ k, k < 11 → F_X0_howMany (tr 2) (tr 3) (tr 6) (tr 9) (tr 11) (tr 10) (tr 0) (tr 4) (tr 5) (tr 7) (tr 8) (nI k) = some (st (0 + k)) := by
    intro k hk
    have e0 : st 0 = tr 0 := R0.1.2.2.trans R0.1.2.1.symm
    have e1 : st 1 = tr 2 := R2.1.2.2.trans R2.1.2.1.symm
    have e2 : st 2 = tr 3 := R3.1.2.2.trans R3.1.2.1.symm
    have e3 : st 3 = tr 4 := R4.1.2.2.trans R4.1.2.1.symm
    have e4 : st 4 = tr 5 := R5.1.2.2.trans R5.1.2.1.symm
    have e5 : st 5 = tr 6 := R6.1.2.2.trans R6.1.2.1.symm
    have e6 : st 6 = tr 7 := R7.1.2.2.trans R7.1.2.1.symm
    have e7 : st 7 = tr 8 := R8.1.2.2.trans R8.1.2.1.symm
    have e8 : st 8 = tr 9 := R9.1.2.2.trans R9.1.2.1.symm
    have e9 : st 9 = tr 10 := R10.1.2.2.trans R10.1.2.1.symm
    have e10 : st 10 = tr 11 := R11.1.2.2.trans R11.1.2.1.symm
    rcases (show k = 0 ∨ k = 1 ∨ k = 2 ∨ k = 3 ∨ k = 4 ∨ k = 5 ∨ k = 6 ∨ k = 7 ∨ k = 8 ∨ k = 9 ∨ k = 10 by omega) with rfl | rfl | rfl | rfl | rfl | rfl | rfl | rfl | rfl | rfl | rfl
    · rw [Nat.zero_add, e0]; rfl
    · rw [Nat.zero_add, e1]; rfl
    · rw [Nat.zero_add, e2]; rfl
    · rw [Nat.zero_add, e3]; rfl
    · rw [Nat.zero_add, e4]; rfl
    · rw [Nat.zero_add, e5]; rfl
    · rw [Nat.zero_add, e6]; rfl
    · rw [Nat.zero_add, e7]; rfl
    · rw [Nat.zero_add, e8]; rfl
    · rw [Nat.zero_add, e9]; rfl
    · rw [Nat.zero_add, e10]; rfl
  refine itr_fu (I := fun t => ∃ k, k ≤ 11 ∧ t.2 = nI k ∧ t.1 = dX st 0 k 379) (μ := fun t => 11 - t.2.toNatClampNeg) _ _ ⟨0, Nat.zero_le _, rfl, rfl⟩ (by dsimp only; omega) ?_
  rintro ⟨x, k'⟩ ⟨k, q1, q2, q3⟩
  dsimp only at q2 q3
  subst q2 q3
  unfold B_X11_digest_6
  dsimp only
  by_cases hk : k < 11
  · left
    refine ⟨(dX st 0 (k + 1) 379, nI (k + 1)), ?_, ⟨k + 1, hk, rfl, rfl⟩, ?_⟩
    · rw [if_pos (ltR 11 11 rfl hk (by decide))]
      exact sbind (hh k hk) (by rw [lt_eq, lt_eq, nI_1]; rfl)
    · dsimp only
      rw [nI_clamp (by omega), nI_clamp (by omega)]; omega
  · right
    have e : k = 11 := by omega
    subst e
    exact ⟨_, by rw [if_neg (by decide)], rfl⟩
theorem P_digest (h : Rel actK tc tr nar nam st) (ab be : Int64) (a1 : Int64) (a2 a3 a4 a5 : Int32) (a6 : Nat → Int64) (a7 : Int32) (paid bal prs : Nat → Int64) (b1 : Nat → Int64) (b2 : Nat → Int32) (b3 : Int32) (b4 : Nat → Int64) (b5 : Int32) (b6 b7 : Nat → Int32) :
    Two (F_X11_digest ab be a1 a2 a3 a4 a5 a6 a7 paid bal prs (tc 2) (tr 2) (tc 3) (tr 3) (tc 6) (tr 6) (tc 9) (tr 9) (tc 11) (tr 11) (tc 10) (tr 10) (tc 0) (tr 0) nam nar (tc 4) (tr 4) (tc 12) (tr 12) (tc 5) (tr 5) (tc 7) (tr 7) (tc 1) (tr 1) (tc 8) (tr 8)) (F_X12_digest ab be b1 st b2 b3 b4 b5 b6 b7) (fun o1 o2 => o1.1 = o2.1) := by
  obtain ⟨n, a, b, R⟩ := h
  have hM10 : n 0 ≤ 10 := R.1.1.1
  obtain ⟨L, hL⟩ := act_fun R.2.2.1
  obtain ⟨K, hK⟩ := tex_fun R.2.1
  obtain ⟨ow, hO⟩ := OWES R (se := 99) (by decide)
  obtain ⟨o, e1, e2, -⟩ := WEIGH R hO bal prs a1 a2 a3 a4 a5 a6 a7 paid
  obtain ⟨t0, t01, t02⟩ := C_counts R
  have hp := C_people R hL (dX st 0 11 379)
  have ht := C_trade R hK (dPeople st n L (dX st 0 11 379))
  obtain ⟨R0, R1, R2, R3, R4, R5, R6, R7, R8, R9, R10, R11, R12, R13⟩ := id R
  have at_ : ∀ k, k < 1951 → gI st 1951 (nI k) = some (st k) := fun k hk => M_at hk
  unfold F_X11_digest F_X12_digest
  refine two_l t01 ?_
  rw [t02]
  refine two_l hp (two_l ht (two_l e1 ?_))
  -- the model, from table to table
  refine two_r (M_mixed (p := 0) (n := 11) _ (by decide)) (two_r (at_ 0 (by decide)) ?_)
  rw [R0.1.2.2, show (2 : Int32) = nI 2 from rfl, pk_mul]
  refine two_r (M_mixed (p := 20) _ (by have := R0.1.1; omega)) ?_
  obtain ⟨x1, x11, x12⟩ := M_acts (L := L) R2.1.2.2 R2.1.1 (fun i hi => ⟨(hL i hi).1, (hL i hi).2.1⟩) (dX st 20 (2 * n 0) (dX st 0 11 379))
  refine two_r x11 (two_r (at_ 2 (by decide)) ?_)
  rw [R3.1.2.2, x12, show (7 : Int32) = nI 7 from rfl, pk_mul]
  refine two_r (M_mixed (p := 1092) _ (by have := R3.1.1; omega)) (two_r (at_ 3 (by decide)) ?_)
  rw [R4.1.2.2, show (3 : Int32) = nI 3 from rfl, pk_mul]
  refine two_r (M_mixed (p := 1372) _ (by have := R4.1.1; omega)) ?_
  obtain ⟨x2, x21, x22⟩ := M_purses (st := st) R0.1.2.2 R0.1.1 R5.1.2.2 R5.1.1 (dX st 1372 (3 * n 3) (dX st 1092 (7 * n 2) (dA st L (n 1) (dX st 20 (2 * n 0) (dX st 0 11 379)))))
  refine two_r x21 (two_r (at_ 5 (by decide)) ?_)
  rw [R6.1.2.2, x22]
  refine two_r (M_mixed (p := 1591) _ (by have := R6.1.1; omega)) (two_r (M_mixed (p := 11) (n := 1) _ (by decide)) (two_r (at_ 6 (by decide)) ?_))
  rw [R7.1.2.2, pk_mul]
  refine two_r (M_mixed (p := 1597) _ (by have := R7.1.1; omega)) (two_r (M_mixed (p := 12) (n := 1) _ (by decide)) (two_r (at_ 7 (by decide)) ?_))
  rw [R8.1.2.2, pk_mul]
  refine two_r (M_mixed (p := 1633) _ (by have := R8.1.1; omega)) (two_r (at_ 8 (by decide)) ?_)
  rw [R9.1.2.2, show (5 : Int32) = nI 5 from rfl, pk_mul]
  refine two_r (M_mixed (p := 1753) _ (by have := R9.1.1; omega)) (two_r (at_ 9 (by decide)) ?_)
  rw [R10.1.2.2, pk_mul]
  refine two_r (M_mixed (p := 1903) _ (by have := R10.1.1; omega)) (two_r (at_ 10 (by decide)) ?_)
  rw [R11.1.2.2, pk_mul]
  refine two_r (M_mixed (p := 1933) _ (by have := R11.1.1; omega)) (two_r (M_mixed (p := 13) (n := 3) _ (by decide)) ?_)
  rw [← Nat.one_mul (n 5)]
  have hd : ∃ s : Int64, s = dTrade st n K (dPeople st n L (dX st 0 11 379)) := ⟨_, rfl⟩
  obtain ⟨x3, x31, x32⟩ := M_texts hK (dX st 13 3 (dX st 1933 (3 * n 10) (dX st 1903 (3 * n 9) (dX st 1753 (5 * n 8) (dX st 1633 (3 * n 7) (dX st 12 1 (dX st 1597 (3 * n 6) (dX st 11 1 (dX st 1591 (1 * n 5) (dPeople st n L (dX st 0 11 379)))))))))))
  refine two_r x31 ?_
  rw [x32]
  obtain ⟨s, hs⟩ := hd
  rw [show dT st K _ = s from hs.symm, ← hs]
  -- balances
  have hC : ∃ t, itr (B_X11_digest_63 (tr 0) o) FU (s, (0 : Int32)) = some t ∧ t.1 = mixG (fun m s => 31 * s + balF st ow m (n 2)) (n 0) s := by
    refine itr_fu (I := fun t => ∃ k, k ≤ n 0 ∧ t.2 = nI k ∧ t.1 = mixG (fun m s => 31 * s + balF st ow m (n 2)) k s) (μ := fun t => n 0 - t.2.toNatClampNeg) _ _ ⟨0, Nat.zero_le _, rfl, rfl⟩ (by dsimp only; omega) ?_
    rintro ⟨x, k'⟩ ⟨k, q1, q2, q3⟩
    dsimp only at q2 q3
    subst q2 q3
    unfold B_X11_digest_63
    dsimp only
    rw [R0.1.2.1]
    by_cases hk : k < n 0
    · left
      refine ⟨(mixG (fun m s => 31 * s + balF st ow m (n 2)) (k + 1) s, nI (k + 1)), ?_, ⟨k + 1, hk, rfl, rfl⟩, ?_⟩
      · rw [if_pos (nI_lt hk (by omega))]
        refine sbind (x := balF st ow k (n 2)) ?_ (by rw [lt_eq, lt_eq, nI_1]; rfl)
        unfold F_X4_of
        refine sbind (x := balF st ow k (n 2)) ?_ rfl
        rw [if_neg (nI_pos (by omega)), if_pos (ltR 10 10 rfl (by omega) (by decide))]
        exact sbind (gL_at (by omega) (by decide)) (by rw [e2 k (by omega)])
      · dsimp only
        rw [nI_clamp (by omega), nI_clamp (by omega)]; omega
    · right
      have e : k = n 0 := by omega
      subst e
      exact ⟨_, by rw [if_neg (nI_nlt (Nat.le_refl _) (by omega))], rfl⟩
  have hM : ∃ t, itr (B_X12_digest_313 st) FU (s, (0 : Int32), b1, b2, b3, b4, b5, b6, b7) = some t ∧ t.1 = mixG (fun m s => 31 * s + balF st ow m (n 2)) (n 0) s := by
    refine itr_fu (I := fun t => ∃ k, k ≤ n 0 ∧ t.2.1 = nI k ∧ t.1 = mixG (fun m s => 31 * s + balF st ow m (n 2)) k s) (μ := fun t => n 0 - t.2.1.toNatClampNeg) _ _ ⟨0, Nat.zero_le _, rfl, rfl⟩ (by dsimp only; omega) ?_
    rintro ⟨x, k', c1, c2, c3, c4, c5, c6, c7⟩ ⟨k, q1, q2, q3⟩
    dsimp only at q2 q3
    subst q2 q3
    unfold B_X12_digest_313
    dsimp only
    by_cases hk : k < n 0
    · left
      obtain ⟨q, f1, f2⟩ := MBAL R (m := k) (by omega) hO c1 c2 c3 c4 c5 c6 c7
      refine ⟨(mixG (fun m s => 31 * s + balF st ow m (n 2)) (k + 1) s, nI (k + 1), q.2.1, q.2.2.1, q.2.2.2.1, q.2.2.2.2.1, q.2.2.2.2.2.1, q.2.2.2.2.2.2.1, q.2.2.2.2.2.2.2), sbind (at_ 0 (by decide)) ?_, ⟨k + 1, hk, rfl, rfl⟩, ?_⟩
      · rw [R0.1.2.2, if_pos (nI_lt hk (by omega))]
        refine sbind f1 ?_
        rw [f2, lt_eq, lt_eq, nI_1]
        rfl
      · dsimp only
        rw [nI_clamp (by omega), nI_clamp (by omega)]; omega
    · right
      have e : k = n 0 := by omega
      subst e
      exact ⟨_, sbind (at_ 0 (by decide)) (by rw [R0.1.2.2, if_neg (nI_nlt (Nat.le_refl _) (by omega))]), rfl⟩
  obtain ⟨t, t1, t2⟩ := hC
  obtain ⟨u, u1, u2⟩ := hM
  refine two_l t1 (two_r u1 ?_)
  rw [lt_eq, t2, u2]
  exact two_end rfl
end DIG
