/-! PURE LAWS 21: leave, parted -/
section PUR
variable {tc : Nat → Nat → Int32} {tr : Nat → Int32} {nar nam : Int32} {st : Nat → Int32}
theorem pur_at {nM nP p : Nat} {cells : Nat → Int32} {rows : Int32} (R : rT 3 13 13 1552 4 (qPur nM) cells rows st nP) (hp : p < nP) : ∃ (m e u : Nat) (sh : Nat → Nat), m < nM ∧ e ≤ 99 ∧ 1 ≤ u ∧ u ≤ 10000 ∧ st (1552 + 13 * p) = nI m ∧ st (1552 + 13 * p + 1) = nI e ∧ st (1552 + 13 * p + 2) = nI u ∧ (∀ j, j < 10 → st (1552 + 13 * p + (3 + j)) = nI (sh j)) ∧ (∀ j, nM ≤ j → sh j = 0) ∧ sh10 sh ≤ 30 := by
  obtain ⟨m, e, u, sh, h1, h2, h3, h4, h5, h6, h7, h8, h9, h10⟩ := R.2.2 p hp
  rw [rowf_at (by decide)] at h5 h6 h7
  exact ⟨m, e, u, sh, h1, h2, h3, h4, h5, h6, h7, fun j hj => by rw [← h8 j hj, rowf_at (by omega)], h9, h10⟩
theorem C_pur {nM nP p j : Nat} {cells : Nat → Int32} {rows : Int32} (R : rT 3 13 13 1552 4 (qPur nM) cells rows st nP) (hp : p < nP) (hj : j < 13) : F_X8_get 39 cells rows 13 (nI p) (nI j) = some (st (1552 + 13 * p + j)) := by
  obtain ⟨⟨r1, r2, r3⟩, rT, -⟩ := R
  rw [r2]
  exact (C_get (len := 39) (wd := 13) hp hj (by omega) (by decide) (by omega) (by decide)).trans (congrArg some (rT p j hp hj))
theorem sh_one {sh : Nat → Nat} {k : Nat} (hk : k < 10) (h : sh10 sh ≤ 30) : sh k ≤ 30 := by
  have h1 : sumN sh (k + 1) ≤ sumN sh 10 := sumN_mono sh (by omega)
  have h2 : sumN sh (k + 1) = sumN sh k + sh k := rfl
  rw [sumN_10] at h1
  omega
theorem sh10_mono {f g : Nat → Nat} (h : ∀ j, f j ≤ g j) : sh10 f ≤ sh10 g := by
  unfold sh10
  have h0 := h 0; have h1 := h 1; have h2 := h 2; have h3 := h 3; have h4 := h 4; have h5 := h 5; have h6 := h 6; have h7 := h 7; have h8 := h 8; have h9 := h 9
  omega
theorem two_leave {α β : Type} {p : Int32} {e : Nat} (he : e ≤ 99) {g1 g2 : Option Int32} (h1 : g1 = some (nI e)) (h2 : g2 = some (nI e)) {A1 B1 : Option α} {A2 B2 : Option β} {P : α → β → Prop} (bad : Two B1 B2 P) (ok : inR p 0 ((e : Int) - 1) → Two A1 A2 P) :
    Two (Option.bind (F_X11_isOutOfSeasons p) fun v => if v = 0 then (Option.bind g1 fun c => if p < c then A1 else B1) else B1) (Option.bind g2 fun c => Option.bind (F_X12_in p.toInt64 (0 : Int64) ((c - (1 : Int32)).toInt64)) fun v => if v = 0 then B2 else A2) P := by
  refine two_r h2 ?_
  have hr : (nI e - 1).toInt64.toInt = (e : Int) - 1 := by rw [Int32.toInt_toInt64, nI_m1 (by omega)]
  by_cases hi : inR p 0 ((e : Int) - 1)
  · refine two_r (M_in_t rfl hr hi) (two_ifr' (by decide) ?_)
    refine two_l (C_season_t ⟨hi.1, by have := hi.2; omega⟩) (two_ifl rfl (two_l h1 ?_))
    obtain ⟨k, k1, k2, rfl⟩ := inR_row hi
    exact two_ifl (nI_lt k1 (by omega)) (ok hi)
  · refine two_r (M_in_f rfl hr hi) (two_ifr rfl ?_)
    by_cases hs : inR p 0 99
    · refine two_l (C_season_t hs) (two_ifl rfl (two_l h1 ?_))
      obtain ⟨k, k1, k2, rfl⟩ := inR_nat (b := 99) hs
      refine two_ifl' (nI_nlt ?_ (by omega)) bad
      by_cases hk : k < e
      · exact absurd (nI_inR k2 (by omega) (by omega)) hi
      · omega
    · exact two_l (C_season_f hs) (two_ifl' (by decide) bad)
theorem P_leave (h : Rel actK tc tr nar nam st) (a1 : Int64) (a2 a3 a4 a5 : Int32) (a6 : Nat → Int64) (a7 : Int32) (b1 : Nat → Int64) (b2 : Nat → Int32) (b3 : Int32) (b4 : Nat → Int64) (b5 : Int32) (b6 b7 : Nat → Int32) (p0 p1 p2 : Int32) :
    Two (F_X11_leave a1 a2 a3 a4 a5 a6 a7 (tc 2) (tr 2) (tc 0) (tr 0) (tc 5) (tr 5) p0 p1 p2) (F_X12_leave b1 st b2 b3 b4 b5 b6 b7 p0 p1 p2) (fun o1 o2 => o1.1 = o2.1 ∧ Rel actK (va_up tc 5 o1.2.2.2.2.2.2.2.2) tr nar nam o2.2.2.1) := by
  have hsame : Rel actK (va_up tc 5 (tc 5)) tr nar nam st := by rw [vu_id]; exact h
  obtain ⟨n, a, b, R⟩ := h
  have R0 := R.1
  have R5 := R.2.2.2.2.2.1
  obtain ⟨⟨q1, q2, q3⟩, -, -⟩ := id R5
  obtain ⟨⟨m1, m2, m3⟩, -, -⟩ := id R0
  refine two_guard (c := inR p0 0 (((n 4 : Nat) : Int) - 1)) (fun z => by rw [q2]; exact C_noP_t (by omega) z) (fun z => by rw [q2]; exact C_noP_f (by omega) z) (M_is_t (c := 4) (by decide) q3 (by omega)) (M_is_f (c := 4) (by decide) q3 (by omega)) (fun _ => two_end ⟨rfl, hsame⟩) (fun hp0 => ?_)
  refine two_guard (c := inR p1 0 (((n 0 : Nat) : Int) - 1)) (fun z => by rw [m2]; exact C_noM_t (by omega) z) (fun z => by rw [m2]; exact C_noM_f (by omega) z) (M_is_t (c := 0) (by decide) m3 (by omega)) (M_is_f (c := 0) (by decide) m3 (by omega)) (fun _ => two_end ⟨rfl, hsame⟩) (fun hp1 => ?_)
  obtain ⟨kp, kp1, kp2, rfl⟩ := inR_row hp0
  obtain ⟨km, km1, km2, rfl⟩ := inR_row hp1
  obtain ⟨mm, e, u, sh, z1, z2, z3, z4, z5, z6, z7, z8, z9, z10⟩ := pur_at R5 kp1
  have hM : ∀ j, j < 13 → F_X12_purseOf st (nI kp) (nI j) = some (st (1552 + 13 * kp + j)) := fun j hj => M_purseOf (by omega)
  have hC0 := C_pur (j := 0) R5 kp1 (by decide)
  rw [Nat.add_zero, z5] at hC0
  have hC1 := C_pur (j := 1) R5 kp1 (by decide); rw [z6] at hC1
  have hC2 := C_pur (j := 2) R5 kp1 (by decide); rw [z7] at hC2
  have hC3 := C_pur (j := 3 + km) R5 kp1 (by omega); rw [z8 km (by omega)] at hC3
  have hM0 := hM 0 (by decide); rw [Nat.add_zero, z5] at hM0
  have hM1 := hM 1 (by decide); rw [z6] at hM1
  have hM2 := hM 2 (by decide); rw [z7] at hM2
  have hM3 := hM (3 + km) (by omega); rw [z8 km (by omega)] at hM3
  have hs30 := sh_one (k := km) (by omega) z10
  refine two_leave z2 hC1 hM1 (two_end ⟨rfl, hsame⟩) (fun hp2 => ?_)
  rw [show (3 : Int32) = nI 3 from rfl, nI_add]
  refine two_l hC3 (two_r hM3 ?_)
  refine two_if (fun _ => two_end ⟨rfl, hsame⟩) (fun hne => ?_)
  have hmul : u * sh km ≤ 300000 := Nat.mul_le_mul z4 hs30
  refine two_r hM2 ?_
  rw [pk_mul]
  refine two_rt (two_r hM0 (two_r (M_kin (by omega) (by omega)) (two_r (M_town (by omega)) ?_)))
  rw [nI_l (by omega)]
  -- what SHARE tells
  obtain ⟨o1, o2, f1, f2, r, r1, r2, r3, r4⟩ := P_told R.2.2.1 (so := 2) (by decide) a1 a2 a3 a4 a5 a6 a7 b1 b2 b3 b4 b5 b6 b7 p2 0 (kinV st km mm) (st (20 + 2 * km + 1)) (lN (u * sh km))
  have hr : r ≤ 200 := r2
  have hmul2 : u * sh km * r ≤ 60000000 := Nat.mul_le_mul hmul hr
  refine two_r f2 ?_
  rw [r4, pk_mul, show (1552 : Int32) = nI 1552 from rfl, show (13 : Int32) = nI 13 from rfl, pk_mul, nI_add, nI_add, nI_add, show 1552 + 13 * kp + 3 + km = 1552 + 13 * kp + (3 + km) by omega]
  refine two_r (M_set (by omega)) ?_
  refine two_r (x := nI (u * sh km * r / 100)) (by unfold qI; rw [if_neg (by decide), show (100 : Int32) = nI 100 from rfl, pk_div (by omega) (by omega) (by omega)]) ?_
  have htk : F_X2_takenBy (tc 2) (tr 2) (tc 0) (tr 0) (tc 5) (tr 5) a1 a2 a3 a4 a5 a6 a7 (nI kp) (nI km) p2 = some (nI (u * sh km * r / 100), o1.2.1, o1.2.2.1, o1.2.2.2.1, o1.2.2.2.2.1, o1.2.2.2.2.2.1, o1.2.2.2.2.2.2.1, o1.2.2.2.2.2.2.2) := by
    unfold F_X2_takenBy
    rw [show (3 : Int32) = nI 3 from rfl, nI_add]
    refine sbind hC3 (sbind hC2 ?_)
    rw [nI_l (by omega), nI_l (by omega), lN_mul, lt_eq, Nat.mul_comm]
    refine sbind hC0 (sbind (C_kin R0 km1 z1) (sbind (C_mer (j := 1) R0 km1 (by decide)) (sbind f1 ?_)))
    rw [r3, lN_mul]
    refine sbind (x := lN (u * sh km * r / 100)) (by unfold qL; rw [if_neg (by decide), show (100 : Int64) = lN 100 from rfl, pk_lDiv (by omega) (by omega) (by omega)]) ?_
    rw [lN_i]
  refine two_l htk (two_l (x := upd (tc 5) (13 * kp + (3 + km)) 0) (by rw [q2]; exact C_set (len := 39) (wd := 13) kp1 (by omega) (by omega) (by decide) (by omega) (by decide)) ?_)
  refine two_end ⟨rfl, ?_⟩
  have hR := R_pur (n := n) (m := n 4) (x := upd (tc 5) (13 * kp + (3 + km)) 0) (y := tr 5) (st2 := upd st (1552 + 13 * kp + (3 + km)) 0) R (fun j h1 h2 h3 => pk_un (by omega)) (rT_set R5 (by decide) (by omega) (by omega) (fun _ hq => by
    obtain ⟨mm, e, p, sh, z1, z2, z3, z4, z5, z6, z7, z8, z9, z10⟩ := hq
    refine ⟨mm, e, p, fun j => if j = km then 0 else sh j, z1, z2, z3, z4, by rw [pk_un (by omega)]; exact z5, by rw [pk_un (by omega)]; exact z6, by rw [pk_un (by omega)]; exact z7, fun j hj => ?_, fun j hj => (if_neg (by omega)).trans (z9 j hj), ?_⟩
    · by_cases ej : j = km
      · subst ej; rw [pk_us]; exact congrArg nI (if_pos rfl).symm
      · rw [pk_un (by omega)]; exact (z8 j hj).trans (congrArg nI (if_neg ej).symm)
    · exact Nat.le_trans (sh10_mono (g := sh) (fun j => by split <;> omega)) z10))
  rw [vu_id] at hR
  exact ⟨_, _, _, hR⟩
/-- what each gets -/
def getsN (sh : Nat → Nat) (rest all k : Nat) : Nat := if 0 < all then rest * sh k / all else 0
theorem gets_sum {sh : Nat → Nat} {rest all : Nat} : ∀ i, all * sumN (getsN sh rest all) i ≤ rest * sumN sh i
  | 0 => by simp [sumN]
  | i + 1 => by
    have := gets_sum (sh := sh) (rest := rest) (all := all) i
    show all * (sumN (getsN sh rest all) i + getsN sh rest all i) ≤ rest * (sumN sh i + sh i)
    rw [Nat.mul_add, Nat.mul_add]
    have h2 : all * getsN sh rest all i ≤ rest * sh i := by
      unfold getsN
      split
      · exact Nat.mul_div_le _ _
      · omega
    omega
theorem P_parted (h : Rel actK tc tr nar nam st) (p0 p1 p2 : Int32) : Two (F_X11_parted (tr 0) (tc 5) (tr 5) p0 p1 p2) (F_X12_parted st p0 p1 p2) (fun o1 o2 => o1 = o2) := by
  obtain ⟨n, a, b, R⟩ := h
  have R0 := R.1
  have R5 := R.2.2.2.2.2.1
  obtain ⟨⟨q1, q2, q3⟩, -, -⟩ := id R5
  obtain ⟨⟨m1, m2, m3⟩, -, -⟩ := id R0
  refine two_guard (c := inR p0 0 (((n 4 : Nat) : Int) - 1)) (fun z => by rw [q2]; exact C_noP_t (by omega) z) (fun z => by rw [q2]; exact C_noP_f (by omega) z) (M_is_t (c := 4) (by decide) q3 (by omega)) (M_is_f (c := 4) (by decide) q3 (by omega)) (fun _ => two_end rfl) (fun hp0 => ?_)
  refine two_guard (c := inR p1 0 100000000) (C_out_t rfl rfl) (C_out_f rfl rfl) (M_in_t rfl rfl) (M_in_f rfl rfl) (fun _ => two_end rfl) (fun hp1 => ?_)
  refine two_guard (c := inR p2 0 (((n 0 : Nat) : Int) - 1)) (fun z => by rw [m2]; exact C_noM_t (by omega) z) (fun z => by rw [m2]; exact C_noM_f (by omega) z) (M_is_t (c := 0) (by decide) m3 (by omega)) (M_is_f (c := 0) (by decide) m3 (by omega)) (fun _ => two_end rfl) (fun hp2 => ?_)
  obtain ⟨kp, kp1, kp2, rfl⟩ := inR_row hp0
  obtain ⟨x, x1, x2, rfl⟩ := inR_nat (b := 100000000) hp1
  obtain ⟨km, km1, km2, rfl⟩ := inR_row hp2
  obtain ⟨mm, e, u, sh, z1, z2, z3, z4, z5, z6, z7, z8, z9, z10⟩ := pur_at R5 kp1
  obtain ⟨all, hall⟩ : ∃ all, all = sumN sh 10 := ⟨_, rfl⟩
  have hall30 : all ≤ 30 := by rw [hall, sumN_10]; exact z10
  obtain ⟨rest, hrest⟩ : ∃ rest, rest = x - x / 3 := ⟨_, rfl⟩
  have hx3 : x / 3 ≤ x := Nat.div_le_self _ _
  have hrx : rest + x / 3 = x := by omega
  have hsum : sumN sh (n 0) = all := by
    have := sumN_zero z9 (10 - n 0)
    rw [show n 0 + (10 - n 0) = 10 by omega] at this
    rw [hall]; exact this.symm
  obtain ⟨G, hG⟩ : ∃ G, G = getsN sh rest all := ⟨_, rfl⟩
  have hGle : ∀ k, k < 10 → G k ≤ 3000000000 := fun k hk => by
    have h1 : rest * sh k ≤ 100000000 * 30 := Nat.mul_le_mul (by omega) (sh_one hk z10)
    rw [hG]; unfold getsN
    split
    · exact Nat.le_trans (Nat.div_le_self _ _) h1
    · omega
  have hGs : sumN G 10 ≤ rest := by
    have h1 := gets_sum (sh := sh) (rest := rest) (all := all) 10
    rw [← hG, ← hall] at h1
    by_cases h0 : all = 0
    · have : ∀ i, sumN G i = 0 := by
        intro i
        induction i with
        | zero => rfl
        | succ i ih =>
          show sumN G i + G i = 0
          rw [ih, hG]; unfold getsN; rw [if_neg (by omega)]
      rw [this]; omega
    · rw [Nat.mul_comm rest all] at h1
      exact Nat.le_of_mul_le_mul_left h1 (by omega)
  have hGsn : sumN G (n 0) = sumN G 10 := by
    have hz : ∀ j, n 0 ≤ j → G j = 0 := fun j hj => by
      rw [hG]; unfold getsN; rw [z9 j hj, Nat.mul_zero, Nat.zero_div]; split <;> rfl
    have := sumN_zero hz (10 - n 0)
    rw [show n 0 + (10 - n 0) = 10 by omega] at this
    exact this.symm
  have hGk : ∀ k, k < 10 → G k ≤ rest := fun k hk => by
    have h1 : sumN G (k + 1) ≤ sumN G 10 := sumN_mono G (by omega)
    have h2 : sumN G (k + 1) = sumN G k + G k := rfl
    omega
  have hdiv : ∀ k, k < 10 → 0 < all → qL ((nI rest).toInt64 * (nI (sh k)).toInt64) (nI all).toInt64 = some (lN (G k)) := fun k hk h0 => by
    have h1 : rest * sh k ≤ 100000000 * 30 := Nat.mul_le_mul (by omega) (sh_one hk z10)
    have := sh_one hk z10
    rw [nI_l (by omega), nI_l (by omega), nI_l (by omega), lN_mul]
    unfold qL
    rw [if_neg (fun z => by have := (pk_lEQ (a := all) (b := 0) (by omega) (by decide)).mp z; omega), pk_lDiv (by omega) (by omega) (by omega), hG]
    unfold getsN
    rw [if_pos h0]
  have hCs : ∀ k, k < n 0 → F_X2_byShares (tc 5) (tr 5) (nI kp) (nI k) (nI rest) (nI all) = some (nI (G k)) := fun k hk => by
    unfold F_X2_byShares
    rw [show (3 : Int32) = nI 3 from rfl, nI_add]
    have := C_pur (j := 3 + k) R5 kp1 (by omega)
    rw [z8 k (by omega)] at this
    refine sbind this (sbind (x := nI (G k)) ?_ rfl)
    by_cases h0 : 0 < all
    · rw [if_pos (ltL 0 0 rfl h0 (by omega))]
      exact sbind (hdiv k (by omega) h0) (by rw [lN_i])
    · rw [if_neg (nltL 0 0 rfl (by omega) (by decide)), hG]
      unfold getsN; rw [if_neg h0]; rfl
  have hq3 : qI (nI x) 3 = some (nI (x / 3)) := by
    unfold qI
    rw [if_neg (by decide), show (3 : Int32) = nI 3 from rfl, pk_div (by omega) (by omega) (by omega)]
  have hsub : nI x - nI (x / 3) = nI rest := by rw [pk_sub hx3, hrest]
  -- the class
  have hC : F_X2_partOf (tr 0) (tc 5) (tr 5) (nI kp) (nI x) (nI km) = some (if km = mm then nI (x / 3 + G km + (rest - sumN G 10)) else nI (G km)) := by
    unfold F_X2_partOf
    refine sbind hq3 ?_
    rw [hsub, lt_eq]
    refine sbind (x := nI all) (by rw [← hsum, q2, m2]; exact C_shares kp1 q1 m1 (fun j hj => by
      have := C_pur (j := 3 + j) R5 kp1 (by omega)
      have h2 := R5.2.1 kp (3 + j) kp1 (by omega)
      rw [h2, z8 j (by omega)])) ?_
    refine sbind (hCs km (by omega)) ?_
    have hC0 := C_pur (j := 0) R5 kp1 (by decide)
    rw [Nat.add_zero, z5] at hC0
    refine sbind hC0 ?_
    by_cases hk : km = mm
    · rw [if_pos hk, if_pos (by rw [hk])]
      refine sbind (itr_cnt' (fun i => (nI (rest - sumN G i), nI i)) _ (nI (rest - sumN G (n 0)), nI (n 0)) (n 0) rfl (fun i hi => ?_) ?_ (by omega)) ?_
      · unfold B_X2_partOf_56
        dsimp only
        have h1 : sumN G (i + 1) ≤ sumN G 10 := sumN_mono G (by omega)
        have h2 : sumN G (i + 1) = sumN G i + G i := rfl
        rw [m2, if_pos (nI_lt hi (by omega))]
        refine sbind (hCs i hi) ?_
        rw [lt_eq, lt_eq, nI_1, pk_sub (by omega), h2, show rest - sumN G i - G i = rest - (sumN G i + G i) by omega]
      · unfold B_X2_partOf_56
        dsimp only
        rw [m2, if_neg (nI_nlt (Nat.le_refl _) (by omega))]
      · rw [hGsn]
        dsimp only
        rw [nI_add, nI_add]
    · rw [if_neg hk, if_neg (ne_nI (by omega) (by omega) hk)]
  -- the model
  have hMl : itr (B_X12_parted_60 (nI all) st (nI kp) (nI x) (nI (x / 3)) (nI km)) FU ((0 : Int32), (0 : Int32), (0 : Int32)) = some (nI (G km), nI (sumN G 10), if 0 < all then nI 10 else 0) := by
    by_cases h0 : 0 < all
    · rw [if_pos h0]
      refine itr_cnt' (fun i => (nI (if km < i then G km else 0), nI (sumN G i), nI i)) _ _ 10 rfl (fun i hi => ?_) ?_ (by omega)
      · unfold B_X12_parted_60
        dsimp only
        rw [if_pos (ltR 10 10 rfl hi (by decide)), if_pos (ltL 0 0 rfl h0 (by omega)), hsub, show (3 : Int32) = nI 3 from rfl, nI_add]
        have := M_purseOf (st := st) (p := kp) (j := 3 + i) (by omega)
        rw [z8 i hi] at this
        refine sbind this (sbind (hdiv i hi h0) ?_)
        rw [lN_i, lt_eq, nI_add]
        refine sbind (x := nI (if km < i + 1 then G km else 0)) ?_ (by rw [lt_eq, nI_1]; rfl)
        by_cases e : i = km
        · rw [if_pos (by rw [e]), if_pos (show km < i + 1 by omega), e]
        · rw [if_neg (ne_nI (by omega) (by omega) e)]
          by_cases e2 : km < i
          · rw [if_pos e2, if_pos (show km < i + 1 by omega)]
          · rw [if_neg e2, if_neg (show ¬ km < i + 1 by omega)]
      · unfold B_X12_parted_60
        dsimp only
        rw [if_neg (nltR 10 10 rfl (by omega) (by decide)), if_pos (show km < 10 by omega)]
    · have hz : ∀ i, G i = 0 := fun i => by rw [hG]; unfold getsN; rw [if_neg h0]
      have hzs : sumN G 10 = 0 := by show sumN G 9 + G 9 = 0; simp only [sumN, hz]
      rw [if_neg h0, hz, hzs]
      refine Ev_out (b := 1) ?_ (Nat.le_refl _) FU (by unfold FU; omega)
      unfold B_X12_parted_60
      dsimp only
      rw [if_pos (by decide), if_neg (nltL 0 0 rfl (by omega) (by decide))]
      rfl
  refine two_l hC ?_
  refine two_r hq3 (two_r (M_shares (by omega) z8) ?_)
  rw [← hall, hsub]
  refine two_rt (two_r hMl ?_)
  dsimp only
  rw [pk_sub hGs]
  have hM0 := M_purseOf (st := st) (p := kp) (j := 0) (by omega)
  rw [Nat.add_zero, z5] at hM0
  refine two_rt (two_r hM0 ?_)
  by_cases hk : km = mm
  · rw [if_pos hk]
    refine two_r (x := nI (x / 3 + G km + (rest - sumN G 10))) (by rw [if_pos (by rw [hk]), nI_add, nI_add, Nat.add_comm (G km)]) (two_end rfl)
  · rw [if_neg hk]
    exact two_r (x := nI (G km)) (by rw [if_neg (ne_nI (by omega) (by omega) hk)]) (two_end rfl)
end PUR
