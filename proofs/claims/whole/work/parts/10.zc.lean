/-! PURE LAWS 18: what is owed -/
section OWE
variable {tc : Nat → Nat → Int32} {tr : Nat → Int32} {nar nam : Int32} {st : Nat → Int32}
def kinV (st : Nat → Int32) (a b : Nat) : Int32 := if st (20 + 2 * a) = st (20 + 2 * b) then 1 else 0
theorem M_town {m : Nat} (h : m < 10) : F_X12_town st (nI m) = some (st (20 + 2 * m + 1)) := by
  unfold F_X12_town
  rw [show (20 : Int32) = nI 20 from rfl, show (2 : Int32) = nI 2 from rfl, show (1 : Int32) = nI 1 from rfl, pk_mul, nI_add, nI_add]
  exact sbind (M_at (by omega)) rfl
theorem M_house {m : Nat} (h : m < 10) : F_X12_house st (nI m) = some (st (20 + 2 * m)) := by
  unfold F_X12_house
  rw [show (20 : Int32) = nI 20 from rfl, show (2 : Int32) = nI 2 from rfl, pk_mul, nI_add]
  exact sbind (M_at (by omega)) rfl
theorem M_kin {a b : Nat} (h : a < 10) (h2 : b < 10) : F_X12_kin st (nI a) (nI b) = some (kinV st a b) := by
  unfold F_X12_kin
  refine sbind (M_house h) (sbind (M_house h2) ?_)
  unfold kinV
  split <;> rfl
theorem C_mer {nM m j : Nat} {cells : Nat → Int32} {rows : Int32} {Q : (Nat → Int32) → Prop} (R : rT 10 2 2 20 0 Q cells rows st nM) (hm : m < nM) (hj : j < 2) : F_X8_get 20 cells rows 2 (nI m) (nI j) = some (st (20 + 2 * m + j)) := by
  obtain ⟨⟨r1, r2, r3⟩, rT, -⟩ := R
  rw [r2]
  exact (C_get (len := 20) (wd := 2) hm hj (by omega) (by decide) (by omega) (by decide)).trans (congrArg some (rT m j hm hj))
theorem C_kin {nM a b : Nat} {cells : Nat → Int32} {rows : Int32} {Q : (Nat → Int32) → Prop} (R : rT 10 2 2 20 0 Q cells rows st nM) (ha : a < nM) (hb : b < nM) : F_X0_kin cells rows (nI a) (nI b) = some (kinV st a b) := by
  unfold F_X0_kin
  refine sbind (C_mer (j := 0) R ha (by decide)) (sbind (C_mer (j := 0) R hb (by decide)) ?_)
  rw [Nat.add_zero, Nat.add_zero]
  unfold kinV
  split <;> rfl
theorem C_deb {nD nM d j : Nat} {cells : Nat → Int32} {rows : Int32} (R : rT 40 7 7 1092 2 (qDeb nM) cells rows st nD) (hd : d < nD) (hj : j < 7) : F_X8_get 280 cells rows 7 (nI d) (nI j) = some (st (1092 + 7 * d + j)) := by
  obtain ⟨⟨r1, r2, r3⟩, rT, -⟩ := R
  rw [r2]
  exact (C_get (len := 280) (wd := 7) hd hj (by omega) (by decide) (by omega) (by decide)).trans (congrArg some (rT d j hd hj))
theorem C_payg {nD nP d j : Nat} {cells : Nat → Int32} {rows : Int32} (R : rT 60 3 3 1372 3 (qPay nD) cells rows st nP) (hd : d < nP) (hj : j < 3) : F_X8_get 180 cells rows 3 (nI d) (nI j) = some (st (1372 + 3 * d + j)) := by
  obtain ⟨⟨r1, r2, r3⟩, rT, -⟩ := R
  rw [r2]
  exact (C_get (len := 180) (wd := 3) hd hj (by omega) (by decide) (by omega) (by decide)).trans (congrArg some (rT d j hd hj))
/-- what was paid of debt d in season s by the first i payments -/
def psum (st : Nat → Int32) (d s : Nat) : Nat → Nat
  | 0 => 0
  | i + 1 => psum st d s i + (if st (1372 + 3 * i) = nI d ∧ st (1372 + 3 * i + 1) = nI s then (st (1372 + 3 * i + 2)).toNatClampNeg else 0)
theorem pay_at {nD nP i : Nat} {cells : Nat → Int32} {rows : Int32} (R : rT 60 3 3 1372 3 (qPay nD) cells rows st nP) (hi : i < nP) : ∃ d s x : Nat, d < nD ∧ s ≤ 99 ∧ 1 ≤ x ∧ x ≤ 1000000 ∧ st (1372 + 3 * i) = nI d ∧ st (1372 + 3 * i + 1) = nI s ∧ st (1372 + 3 * i + 2) = nI x := by
  obtain ⟨d, s, x, h1, h2, h3, h4, h5, h6, h7⟩ := R.2.2 i hi
  rw [rowf_at (by decide)] at h5 h6 h7
  exact ⟨d, s, x, h1, h2, h3, h4, h5, h6, h7⟩
theorem psum_le {nD nP d s : Nat} {cells : Nat → Int32} {rows : Int32} (R : rT 60 3 3 1372 3 (qPay nD) cells rows st nP) : ∀ i, i ≤ nP → psum st d s i ≤ 1000000 * i := by
  intro i
  induction i with
  | zero => intro _; exact Nat.le_refl _
  | succ i ih =>
    intro hi
    obtain ⟨d', s', x, h1, h2, h3, h4, h5, h6, h7⟩ := pay_at R (i := i) (by omega)
    have := ih (by omega)
    show psum st d s i + (if st (1372 + 3 * i) = nI d ∧ st (1372 + 3 * i + 1) = nI s then (st (1372 + 3 * i + 2)).toNatClampNeg else 0) ≤ _
    rw [h7, nI_clamp (by omega)]
    split <;> omega
theorem C_gather {nD nP d : Nat} {cells : Nat → Int32} {rows : Int32} (R : rT 60 3 3 1372 3 (qPay nD) cells rows st nP) (hd : d < 2 ^ 31) (paid : Nat → Int64) : ∃ paid2, F_X2_gather cells rows paid (nI d) = some paid2 ∧ ∀ s, s < 100 → paid2 s = lN (psum st d s nP) := by
  obtain ⟨⟨r1, r2, r3⟩, -, -⟩ := id R
  unfold F_X2_gather
  have hl : ∃ t, itr (B_X2_gather_10 rows cells (nI d)) FU ((0 : Int32), filL paid 100 0) = some t ∧ ∀ s, s < 100 → t.2 s = lN (psum st d s nP) := by
    refine itr_fu (I := fun s => ∃ i, i ≤ nP ∧ s.1 = nI i ∧ ∀ z, z < 100 → s.2 z = lN (psum st d z i)) (μ := fun s => nP - s.1.toNatClampNeg) _ _ ⟨0, by omega, rfl, fun z hz => by show filL paid 100 0 z = _; unfold filL; rw [if_pos hz]; rfl⟩ (by dsimp only; omega) ?_
    rintro ⟨i1, pd⟩ ⟨i, hi, h1, h2⟩
    dsimp only at h1 h2
    subst h1
    unfold B_X2_gather_10
    dsimp only
    rw [r2]
    by_cases hlt : i < nP
    · left
      rw [if_pos (nI_lt hlt (by omega)), ← r2]
      obtain ⟨d', s', x, g1, g2, g3, g4, g5, g6, g7⟩ := pay_at R (i := i) hlt
      have hps : ∀ z, z < 100 → psum st d z (i + 1) = psum st d z i + (if nI d' = nI d ∧ z = s' then x else 0) := fun z hz => by
        show psum st d z i + (if st (1372 + 3 * i) = nI d ∧ st (1372 + 3 * i + 1) = nI z then (st (1372 + 3 * i + 2)).toNatClampNeg else 0) = _
        rw [g5, g6, g7, nI_clamp (by omega)]
        by_cases e : nI d' = nI d ∧ z = s'
        · rw [if_pos e, if_pos ⟨e.1, by rw [e.2]⟩]
        · rw [if_neg e, if_neg (fun q => e ⟨q.1, ((nI_eq (by omega) (by omega)).mp q.2).symm⟩)]
      have e1 := C_payg (j := 1) R hlt (by decide)
      have e0 := C_payg (j := 0) R hlt (by decide)
      have e2 := C_payg (j := 2) R hlt (by decide)
      rw [g6] at e1; rw [Nat.add_zero, g5] at e0; rw [g7] at e2
      by_cases hd' : nI d' = nI d
      · refine ⟨(nI (i + 1), vp_updL pd s' (pd s' + (nI x).toInt64)), sbind e1 (sbind e0 (sbind (x := vp_updL pd s' (pd s' + (nI x).toInt64)) ?_ (by rw [lt_eq, nI_1]))), ⟨i + 1, by omega, rfl, fun z hz => ?_⟩, ?_⟩
        · rw [if_pos hd', if_neg (nI_pos (by omega)), if_pos (ltR 100 100 rfl (by omega) (by decide))]
          exact sbind (gL_at (by omega) (by decide)) (sbind e2 (sbind (sL_at (by omega) (by decide)) rfl))
        · dsimp only
          rw [hps z hz]
          by_cases ez : z = s'
          · subst ez
            rw [pk_uLs, if_pos ⟨hd', rfl⟩, h2 z hz, nI_l (by omega), lN_add]
          · rw [pk_uLn ez, if_neg (fun q => ez q.2), h2 z hz]; rfl
        · dsimp only
          rw [nI_clamp (by omega), nI_clamp (by omega)]; omega
      · refine ⟨(nI (i + 1), pd), sbind e1 (sbind e0 (sbind (x := pd) (by rw [if_neg hd']) (by rw [lt_eq, nI_1]))), ⟨i + 1, by omega, rfl, fun z hz => ?_⟩, ?_⟩
        · dsimp only
          rw [hps z hz, if_neg (fun q => hd' q.1), h2 z hz]; rfl
        · dsimp only
          rw [nI_clamp (by omega), nI_clamp (by omega)]; omega
    · right
      have e : i = nP := by omega
      subst e
      refine ⟨(nI i, pd), by rw [if_neg (nI_nlt (Nat.le_refl _) (by omega))], h2⟩
  obtain ⟨t, ht1, ht2⟩ := hl
  exact ⟨t.2, sbind (J_fillL (by decide)) (sbind ht1 rfl), ht2⟩
theorem lN_nlt {a b : Nat} (h : b ≤ a) (ha : a < 2 ^ 63) : ¬ lN a < lN b := fun z => by rw [pk_lLT ha (by omega)] at z; omega
theorem M_payloop {nD nP d s V : Nat} {cells : Nat → Int32} {rows : Int32} (R : rT 60 3 3 1372 3 (qPay nD) cells rows st nP) (hd : d < 2 ^ 31) (hs : s < 100) (hV : V < 2 ^ 62) {z : Int64 × Int32 × (Nat → Int64) × (Nat → Int32) × Int32 × (Nat → Int64) × Int32 × (Nat → Int32) × (Nat → Int32)} (hz : z.2.1 = nI s) : itr (B_X12_owedOf_86 st (nI d) z) FU (lN V, (0 : Int32)) = some (lN (V - psum st d s nP), nI nP) := by
  obtain ⟨⟨r1, r2, r3⟩, -, -⟩ := id R
  refine itr_cnt' (fun i => (lN (V - psum st d s i), nI i)) _ _ nP rfl (fun i hi => ?_) ?_ (by omega)
  · obtain ⟨d', s', x, g1, g2, g3, g4, g5, g6, g7⟩ := pay_at R (i := i) hi
    have hps : psum st d s (i + 1) = psum st d s i + (if nI d' = nI d ∧ nI s' = nI s then x else 0) := by
      show psum st d s i + (if st (1372 + 3 * i) = nI d ∧ st (1372 + 3 * i + 1) = nI s then (st (1372 + 3 * i + 2)).toNatClampNeg else 0) = _
      rw [g5, g6, g7, nI_clamp (by omega)]
    unfold B_X12_owedOf_86
    dsimp only
    refine sbind (M_at (k := 3) (by decide)) ?_
    rw [r3, if_pos (nI_lt hi (by omega)), show (1372 : Int32) = nI 1372 from rfl, show (3 : Int32) = nI 3 from rfl, show (1 : Int32) = nI 1 from rfl, show (2 : Int32) = nI 2 from rfl, pk_mul, nI_add, lt_eq, nI_add, nI_add]
    refine sbind (M_at (by omega)) (sbind (x := lN (V - psum st d s (i + 1))) ?_ (by rw [lt_eq, nI_add]))
    rw [g5, hz]
    by_cases e1 : nI d' = nI d
    · rw [if_pos e1]
      refine sbind (M_at (by omega)) ?_
      rw [g6]
      by_cases e2 : nI s' = nI s
      · rw [if_pos e2]
        refine sbind (M_at (by omega)) (sbind (x := lN (V - psum st d s (i + 1))) ?_ rfl)
        rw [if_pos (And.intro e1 e2)] at hps
        rw [g7, nI_l (by omega), hps]
        by_cases e3 : V - psum st d s i < x
        · rw [if_pos ((pk_lLT (by omega) (by omega)).mpr e3), show V - (psum st d s i + x) = 0 by omega]; rfl
        · rw [if_neg (lN_nlt (by omega) (by omega))]
          refine sbind (M_at (by omega)) ?_
          rw [g7, nI_l (by omega), lN_sub (by omega), show V - psum st d s i - x = V - (psum st d s i + x) by omega]
      · rw [if_neg e2, hps, if_neg (fun q => e2 q.2)]; rfl
    · rw [if_neg e1, hps, if_neg (fun q => e1 q.1)]; rfl
  · unfold B_X12_owedOf_86
    dsimp only
    refine sbind (M_at (k := 3) (by decide)) ?_
    rw [r3, if_neg (nI_nlt (Nat.le_refl _) (by omega))]
end OWE
