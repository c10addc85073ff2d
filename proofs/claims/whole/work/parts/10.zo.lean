/-! PURE LAWS 30: ring -/
section RNG
variable {tc : Nat → Nat → Int32} {tr : Nat → Int32} {nar nam : Int32} {st : Nat → Int32} {n : Nat → Nat} {a b : Nat}
theorem C_ow2 {prs : Nat → Int64} {P : Nat → Nat} (h : ∀ k, k < 100 → prs k = lN (P k)) (hb : ∀ k, k < 100 → P k < 2 ^ 62) : OwC2 (fun x y => 0 < P (10 * x + y)) prs := by
  intro x y hx hy
  have hk := h (10 * x + y) (by omega)
  have hkb := hb (10 * x + y) (by omega)
  have hz : ∃ z : Int32, (if (0 : Int64) < lN (P (10 * x + y)) then some (1 : Int32) else some (0 : Int32)) = some z ∧ is01 z (0 < P (10 * x + y)) := by
    by_cases e : 0 < P (10 * x + y)
    · exact ⟨1, by rw [if_pos ((lN_inj0 (by omega)).mpr e)], Or.inl ⟨rfl, e⟩⟩
    · exact ⟨0, by rw [if_neg (fun q => e ((lN_inj0 (by omega)).mp q))], Or.inr ⟨rfl, e⟩⟩
  obtain ⟨z, z1, z2⟩ := hz
  refine ⟨z, ?_, z2⟩
  unfold F_X4_isOwing
  refine sbind (C_pairOf hx hy) (sbind (x := z) ?_ (sbind (x := z) ?_ rfl))
  · rw [if_neg (nI_pos (by omega)), if_pos (ltR 100 100 rfl (by omega) (by decide))]
    refine sbind (gL_at (by omega) (by decide)) ?_
    rw [hk]; exact z1
  · unfold bZ; rw [if_pos (is01_b z2)]
theorem M_zero100 (owes : Nat → Int32) : ∃ t, itr (B_X12_findOwes_2) FU ((0 : Int32), owes) = some t ∧ ∀ k, k < 100 → t.2 k = 0 := by
  refine itr_fu (I := fun s => ∃ i, i ≤ 100 ∧ s.1 = nI i ∧ ∀ k, k < i → s.2 k = 0) (μ := fun s => 100 - s.1.toNatClampNeg) _ _ ⟨0, by omega, rfl, fun k hk => absurd hk (Nat.not_lt_zero _)⟩ (by dsimp only; omega) ?_
  rintro ⟨i', f⟩ ⟨i, hi, q1, q2⟩
  dsimp only at q1 q2
  subst q1
  unfold B_X12_findOwes_2
  dsimp only
  by_cases hlt : i < 100
  · left
    rw [if_pos (ltR 100 100 rfl hlt (by decide))]
    refine ⟨(nI (i + 1), upd f i 0), sbind (sZ_at (Or.inl rfl) hlt (by decide)) (by rw [lt_eq, nI_1]), ⟨i + 1, by omega, rfl, fun k hk => ?_⟩, ?_⟩
    · dsimp only
      by_cases e : k = i
      · subst e; rw [pk_us]
      · rw [pk_un e]; exact q2 k (by omega)
    · dsimp only
      rw [nI_clamp (by omega), nI_clamp (by omega)]; omega
  · right
    have e : i = 100 := by omega
    subst e
    exact ⟨(nI 100, f), by rw [if_neg (by decide)], q2⟩
theorem M_findOwes (R : RelN actK tc tr nar nam st n a b) {se : Nat} {ow : Nat → Nat} (hO : ∀ d, d < n 2 → ow d ≤ 1000000000000 ∧ OwC tc tr d se (ow d) ∧ OwM st d se (ow d)) (owes : Nat → Int32) (b1 : Nat → Int64) (b2 : Nat → Int32) (b3 : Int32) (b4 : Nat → Int64) (b5 : Int32) (b6 b7 : Nat → Int32) :
    ∃ o, F_X12_findOwes b1 owes st b2 b3 b4 b5 b6 b7 (nI se) = some o ∧ OwI (fun x y => 0 < prsF st ow (10 * x + y) (n 2)) o.2.1 := by
  have R3 := R.2.2.2.1
  obtain ⟨r1, r2, r3⟩ := id R3.1
  have hM10 : n 0 ≤ 10 := R.1.1.1
  obtain ⟨t0, h0, h00⟩ := M_zero100 owes
  unfold F_X12_findOwes
  have hl : ∃ t, itr (B_X12_findOwes_23 st (nI se)) FU ((0 : Int32), b1, t0.2, b2, b3, b4, b5, b6, b7) = some t ∧ (∀ k, k < 100 → is01 (t.2.2.1 k) (0 < prsF st ow k (n 2))) := by
    refine itr_fu (I := fun s => ∃ d, d ≤ n 2 ∧ s.1 = nI d ∧ ∀ k, k < 100 → is01 (s.2.2.1 k) (0 < prsF st ow k d)) (μ := fun s => n 2 - s.1.toNatClampNeg) _ _ ⟨0, by omega, rfl, fun k hk => Or.inr ⟨h00 k hk, Nat.lt_irrefl 0⟩⟩ (by dsimp only; omega) ?_
    rintro ⟨i1, c1, f, c2, c3, c4, c5, c6, c7⟩ ⟨d, hd, q1, q2⟩
    dsimp only at q1 q2
    subst q1
    unfold B_X12_findOwes_23
    dsimp only
    by_cases hlt : d < n 2
    · left
      obtain ⟨o1, o2, o3⟩ := hO d hlt
      obtain ⟨oc, e1, e2⟩ := o3 c1 c2 c3 c4 c5 c6 c7
      obtain ⟨x, y, s, l, u, z1, z2, z3, z4, z5, -⟩ := deb_at R3 hlt
      have g0 := M_debtOf (st := st) (d := d) (j := 0) (by omega)
      rw [Nat.add_zero, z4] at g0
      have g1 := M_debtOf (st := st) (d := d) (j := 1) (by omega)
      rw [z5] at g1
      have hps : ∀ k, k < 100 → prsF st ow k (d + 1) = prsF st ow k d + (if k = 10 * y + x then ow d else 0) := fun k hk => by
        show prsF st ow k d + (if nI 10 * st (1092 + 7 * d + 1) + st (1092 + 7 * d) = nI k then ow d else 0) = _
        rw [z4, z5, pk_mul, nI_add]
        by_cases e : k = 10 * y + x
        · rw [if_pos (by rw [e]), if_pos e]
        · rw [if_neg (ne_nI (by omega) (by omega) (Ne.symm e)), if_neg e]
      have hmu : n 2 - (nI (d + 1)).toNatClampNeg < n 2 - (nI d).toNatClampNeg := by
        rw [nI_clamp (by omega), nI_clamp (by omega)]; omega
      have hgo := q2 (10 * y + x) (by omega)
      have hgi : gI f 100 (nI (10 * y + x)) = some (f (10 * y + x)) := gI_at (by omega) (by decide)
      have hnew : ∃ (v : Int32) (d1 : Nat → Int64) (d2 : Nat → Int32) (d3 : Int32) (d4 : Nat → Int64) (d5 : Int32) (d6 d7 : Nat → Int32), (if f (10 * y + x) = 0 then (Option.bind (F_X12_owedOf c1 st c2 c3 c4 c5 c6 c7 (nI d) (nI se)) fun c_13 => if (0 : Int64) < c_13.1 then some ((1 : Int32), c_13.2.1, c_13.2.2.1, c_13.2.2.2.1, c_13.2.2.2.2.1, c_13.2.2.2.2.2.1, c_13.2.2.2.2.2.2.1, c_13.2.2.2.2.2.2.2) else some ((0 : Int32), c_13.2.1, c_13.2.2.1, c_13.2.2.2.1, c_13.2.2.2.2.1, c_13.2.2.2.2.2.1, c_13.2.2.2.2.2.2.1, c_13.2.2.2.2.2.2.2)) else some ((1 : Int32), c1, c2, c3, c4, c5, c6, c7)) = some (v, d1, d2, d3, d4, d5, d6, d7) ∧ is01 v (0 < prsF st ow (10 * y + x) (d + 1)) := by
        rw [hps _ (by omega), if_pos rfl]
        rcases hgo with ⟨w1, w2⟩ | ⟨w1, w2⟩
        · exact ⟨1, c1, c2, c3, c4, c5, c6, c7, by rw [w1]; rfl, Or.inl ⟨rfl, by omega⟩⟩
        · rw [w1, if_pos rfl]
          by_cases e : 0 < ow d
          · exact ⟨1, _, _, _, _, _, _, _, sbind e1 (by rw [e2, if_pos ((lN_inj0 (by omega)).mpr e)]), Or.inl ⟨rfl, by omega⟩⟩
          · exact ⟨0, _, _, _, _, _, _, _, sbind e1 (by rw [e2, if_neg (fun q => e ((lN_inj0 (by omega)).mp q))]), Or.inr ⟨rfl, by omega⟩⟩
      obtain ⟨v, d1, d2, d3, d4, d5, d6, d7, v1, v2⟩ := hnew
      refine ⟨(nI (d + 1), d1, upd f (10 * y + x) v, d2, d3, d4, d5, d6, d7), sbind (M_at (k := 2) (by decide)) ?_, ⟨d + 1, by omega, rfl, fun k hk => ?_⟩, hmu⟩
      · rw [r3, if_pos (nI_lt hlt (by omega))]
        refine sbind g1 (sbind g0 ?_)
        rw [show (10 : Int32) = nI 10 from rfl, pk_mul, nI_add, lt_eq]
        refine sbind hgi (sbind v1 (sbind (sZ_at (is01_b v2) (by omega) (by decide)) ?_))
        rw [lt_eq, nI_1]
      · dsimp only
        by_cases e : k = 10 * y + x
        · subst e; rw [pk_us]; exact v2
        · rw [pk_un e, hps k hk, if_neg e]; exact q2 k hk
    · right
      have e : d = n 2 := by omega
      subst e
      refine ⟨(nI (n 2), c1, f, c2, c3, c4, c5, c6, c7), sbind (M_at (k := 2) (by decide)) ?_, q2⟩
      rw [r3, if_neg (nI_nlt (Nat.le_refl _) (by omega))]
  obtain ⟨t, t1, t2⟩ := hl
  exact ⟨_, sbind h0 (sbind t1 rfl), fun x y hx hy => t2 (10 * x + y) (by omega)⟩
theorem RingP_F {O : Nat → Nat → Prop} {m : Nat} {x : Int32} {g : Nat → Int32} (hm : m ≤ 10) (hO : ∀ x y, O x y → x < m) (h : RingP O m x g) : (x = 0 ∧ ∀ f n, f < 10 → 2 ≤ n → n ≤ 10 → ¬ Wk O f n f) ∨ (∃ (n f : Nat) (r : Nat → Nat), RingF O n f ∧ RowI O f n r n ∧ x = nI n ∧ ∀ i, i < n → g i = nI (r i)) := by
  have hout : ∀ f n, m ≤ f → 2 ≤ n → ¬ Wk O f n f := fun f n hf hn hw => by
    rw [show n = n - 1 + 1 by omega] at hw
    obtain ⟨b, -, -, -, h4⟩ := Wk_inv (by omega) hw
    have := hO f b h4
    omega
  rcases h with ⟨h0, h1⟩ | ⟨n, f, r, f1, h0, h1, h2, h3, h4, h5⟩
  · refine Or.inl ⟨h0, fun f n f1 n1 n2 => ?_⟩
    by_cases e : f < m
    · exact h1 f n e n1 n2
    · exact hout f n (by omega) n1
  · refine Or.inr ⟨n, f, r, ⟨h1.1, h1.2.1, by omega, h1.2.2.1, fun f' j f2 j1 j2 => ?_, h3⟩, h4, h0, h5⟩
    by_cases e : f' < m
    · exact h2 f' j e j1 j2
    · exact hout f' j (by omega) j1
theorem P_ring (h : Rel actK tc tr nar nam st) (a1 : Int64) (a2 a3 a4 a5 : Int32) (a6 : Nat → Int64) (a7 : Int32) (paid bal prs : Nat → Int64) (rin stp : Nat → Int32) (can : Nat → Int32) (b1 : Nat → Int64) (owes row : Nat → Int32) (b2 : Nat → Int32) (b3 : Int32) (b4 : Nat → Int64) (b5 : Int32) (b6 b7 : Nat → Int32) (p0 p1 : Int32) :
    Two (F_X11_ring a1 a2 a3 a4 a5 a6 a7 paid bal prs rin stp (tc 2) (tr 2) (tc 3) (tr 3) (tc 0) (tr 0) (tc 4) (tr 4) p0 p1) (F_X12_ring can b1 owes row st b2 b3 b4 b5 b6 b7 p0 p1) (fun o1 o2 => o1.1 = o2.1) := by
  obtain ⟨n, a, b, R⟩ := h
  have hM10 : n 0 ≤ 10 := R.1.1.1
  have hD40 : n 2 ≤ 40 := R.2.2.2.1.1.1
  refine two_guard (c := inR p0 0 99) C_season_t C_season_f M_season_t M_season_f (fun _ => two_end rfl) (fun h1 => ?_)
  refine two_if (fun _ => two_end rfl) (fun hp1 => ?_)
  obtain ⟨s, s1, s2, rfl⟩ := inR_nat (b := 99) h1
  obtain ⟨ow, hO⟩ := OWES R s1
  obtain ⟨o, e1, -, e2⟩ := WEIGH R hO bal prs a1 a2 a3 a4 a5 a6 a7 paid
  have hb : ∀ k, k < 100 → prsF st ow k (n 2) < 2 ^ 62 := fun k hk => by
    have := prs_le (st := st) (ow := ow) (k := k) (N := n 2) (fun d hd => (hO d hd).1) (n 2) (Nat.le_refl _)
    omega
  have hC : OwC2 (fun x y => x < 10 ∧ y < 10 ∧ 0 < prsF st ow (10 * x + y) (n 2)) o.2.2.2.2.2.2.2.2.2 := fun x y hx hy => by
    obtain ⟨z, z1, z2⟩ := C_ow2 e2 hb x y hx hy
    exact ⟨z, z1, is01_c z2 ⟨fun q => ⟨hx, hy, q⟩, fun q => q.2.2⟩⟩
  obtain ⟨p, f1, f2⟩ := M_findOwes R hO owes b1 b2 b3 b4 b5 b6 b7
  have f3 : OwI (fun x y => x < 10 ∧ y < 10 ∧ 0 < prsF st ow (10 * x + y) (n 2)) p.2.1 := fun x y hx hy => is01_c (f2 x y hx hy) ⟨fun q => ⟨hx, hy, q⟩, fun q => q.2.2⟩
  obtain ⟨c3, g1, g2⟩ := C_lay hC rin stp hM10
  obtain ⟨q, k1, k2⟩ := M_ringN f3 can row
  have hlt : ∀ x y, (x < 10 ∧ y < 10 ∧ 0 < prsF st ow (10 * x + y) (n 2)) → x < n 0 := by
    have key : ∀ d, d ≤ n 2 → ∀ x y, x < 10 → y < 10 → 0 < prsF st ow (10 * x + y) d → x < n 0 := by
      intro d
      induction d with
      | zero => intro _ x y _ _ h; exact absurd h (Nat.lt_irrefl 0)
      | succ d ih =>
        intro hd x y hx hy h
        obtain ⟨x', y', s, l, u, z1, z2, z3, z4, z5, -⟩ := deb_at R.2.2.2.1 (show d < n 2 by omega)
        have h2 : 0 < prsF st ow (10 * x + y) d + (if nI 10 * st (1092 + 7 * d + 1) + st (1092 + 7 * d) = nI (10 * x + y) then ow d else 0) := h
        rw [z4, z5, pk_mul, nI_add] at h2
        by_cases e : nI (10 * y' + x') = nI (10 * x + y)
        · have := (nI_eq (by omega) (by omega)).mp e
          omega
        · rw [if_neg e] at h2
          exact ih (by omega) x y hx hy h2
    exact fun x y h => key (n 2) (Nat.le_refl _) x y h.1 h.2.1 h.2.2
  have g3 := RingP_F hM10 (fun x y h => hlt x y h) g2
  -- the two rings are one
  have hone : c3.1 = q.1 ∧ ∀ i : Nat, i < 10 → nI i < c3.1 → c3.2.1 i = q.2.2 i := by
    rcases g3 with ⟨h0, h1⟩ | ⟨N, f, r, h1, h2, h3, h4⟩
    · rcases k2 with ⟨l0, l1⟩ | ⟨N', f', r', l1, l2, l3, l4⟩
      · refine ⟨by rw [h0, l0], fun i hi hlt => ?_⟩
        rw [h0] at hlt
        exact absurd hlt (nI_pos (by omega))
      · exact absurd l1.2.2.2.1 (h1 f' N' l1.2.2.1 l1.1 l1.2.1)
    · rcases k2 with ⟨l0, l1⟩ | ⟨N', f', r', l1, l2, l3, l4⟩
      · exact absurd h1.2.2.2.1 (l1 f N h1.2.2.1 h1.1 h1.2.1)
      · obtain ⟨u1, u2⟩ := RingF_uniq h1 l1
        subst u1; subst u2
        refine ⟨by rw [h3, l3], fun i hi hlt => ?_⟩
        rw [h3] at hlt
        have hiN : i < N := by
          by_cases e : i < N
          · exact e
          · exact absurd hlt (nI_nlt (by omega) (by omega))
        rw [h4 i hiN, l4 i hiN, Row_uniq h2 l2 i hiN]
  obtain ⟨hn1, hn2⟩ := hone
  have hlen : ∃ N : Nat, N ≤ 10 ∧ c3.1 = nI N := by
    rcases g3 with ⟨h0, -⟩ | ⟨N, f, r, h1, -, h3, -⟩
    · exact ⟨0, by omega, h0⟩
    · exact ⟨N, h1.2.1, h3⟩
  obtain ⟨N, hN, hN2⟩ := hlen
  refine two_l e1 (two_l (by rw [show tr 0 = nI (n 0) from R.1.1.2.1]; exact g1) (two_r f1 (two_r k1 ?_)))
  by_cases hm1 : p1 = -1
  · refine two_ifl hm1 (two_r (x := q.1) (by rw [if_pos hm1]) (two_end ?_))
    exact hn1
  · refine two_ifl' hm1 ?_
    by_cases hlt1 : p1 < c3.1
    · have hp0 : inR p1 0 (((10 : Nat) : Int) - 1) := by
        rw [hN2, Int32.lt_iff_toInt_lt, nI_toInt (by omega)] at hlt1
        rw [Int32.lt_iff_toInt_lt, show ((-1 : Int32)).toInt = -1 from rfl] at hp1
        have : p1.toInt ≠ -1 := fun e => hm1 (Int32.toInt_inj.mp e)
        unfold inR; omega
      obtain ⟨i, i1, i2, rfl⟩ := inR_row hp0
      refine two_l (x := c3.2.1 i) ?_ (two_r (x := q.2.2 i) ?_ (two_end (hn2 i i1 hlt1)))
      · rw [if_pos hlt1]
        unfold F_X4_inRing
        refine sbind (sbind (x := c3.2.1 i) ?_ rfl) rfl
        rw [if_neg (nI_pos (by omega)), if_pos (ltR 10 10 rfl i1 (by decide))]
        exact sbind (gI_at i1 (by decide)) rfl
      · rw [if_neg hm1, if_pos (by rw [← hn1]; exact hlt1)]
        exact sbind (gI_at i1 (by decide)) rfl
    · refine two_l (x := (-1 : Int32)) (by rw [if_neg hlt1]) (two_r (x := (-1 : Int32)) (by rw [if_neg hm1, if_neg (by rw [← hn1]; exact hlt1)]) (two_end rfl))
end RNG
