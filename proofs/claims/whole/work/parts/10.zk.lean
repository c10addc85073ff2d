/-! PURE LAWS 26: the fewest payments -/
section FEW
variable {tc : Nat → Nat → Int32} {tr : Nat → Int32} {nar nam : Int32} {st : Nat → Int32} {n : Nat → Nat} {a b : Nat}
/-- those that are not 0, in a row -/
def cz (bal : Nat → Int64) : Nat → Nat
  | 0 => 0
  | i + 1 => if bal i = 0 then cz bal i else cz bal i + 1
def ez (bal : Nat → Int64) : Nat → (Nat → Int64)
  | 0 => fun _ => 0
  | i + 1 => if bal i = 0 then ez bal i else vp_updL (ez bal i) (cz bal i) (bal i)
theorem cz_le (bal : Nat → Int64) : ∀ i, cz bal i ≤ i
  | 0 => Nat.le_refl _
  | i + 1 => by
    have := cz_le bal i
    show (if bal i = 0 then cz bal i else cz bal i + 1) ≤ _
    split <;> omega
theorem cz_rest {bal : Nat → Int64} {m L : Nat} (h : ∀ i, m ≤ i → i < L → bal i = 0) : ∀ k, m + k ≤ L → cz bal (m + k) = cz bal m ∧ ez bal (m + k) = ez bal m
  | 0, _ => ⟨rfl, rfl⟩
  | k + 1, hk => by
    obtain ⟨h1, h2⟩ := cz_rest h k (by omega)
    have h0 := h (m + k) (by omega) (by omega)
    show (if bal (m + k) = 0 then cz bal (m + k) else cz bal (m + k) + 1) = _ ∧ (if bal (m + k) = 0 then ez bal (m + k) else vp_updL (ez bal (m + k)) (cz bal (m + k)) (bal (m + k))) = _
    rw [if_pos h0, if_pos h0]
    exact ⟨h1, h2⟩
theorem C_uneven {bl un bal : Nat → Int64} (h : ∀ m, m < 10 → bl m = bal m) : ∃ u2, F_X4_gatherUneven bl un = some (nI (cz bal 10), u2) ∧ ∀ k, k < cz bal 10 → u2 k = ez bal 10 k := by
  unfold F_X4_gatherUneven
  have hl : ∃ t, itr (B_X4_gatherUneven_4 bl) FU ((0 : Int32), (0 : Int32), un) = some t ∧ (t.1 = nI (cz bal 10) ∧ ∀ k, k < cz bal 10 → t.2.2 k = ez bal 10 k) := by
    refine itr_fu (I := fun s => ∃ i, i ≤ 10 ∧ s.1 = nI (cz bal i) ∧ s.2.1 = nI i ∧ ∀ k, k < cz bal i → s.2.2 k = ez bal i k) (μ := fun s => 10 - s.2.1.toNatClampNeg) _ _ ⟨0, by omega, rfl, rfl, fun k hk => absurd hk (Nat.not_lt_zero _)⟩ (by dsimp only; omega) ?_
    rintro ⟨c, i1, f⟩ ⟨i, hi, q1, q2, q3⟩
    dsimp only at q1 q2 q3
    subst q1; subst q2
    unfold B_X4_gatherUneven_4
    dsimp only
    by_cases hlt : i < 10
    · left
      have hmu : 10 - (nI (i + 1)).toNatClampNeg < 10 - (nI i).toNatClampNeg := by
        rw [nI_clamp (by omega), nI_clamp (by omega)]; omega
      have hcz := cz_le bal i
      have hc : cz bal (i + 1) = if bal i = 0 then cz bal i else cz bal i + 1 := rfl
      have he : ez bal (i + 1) = if bal i = 0 then ez bal i else vp_updL (ez bal i) (cz bal i) (bal i) := rfl
      rw [if_pos (ltR 10 10 rfl hlt (by decide))]
      by_cases h0 : bal i = 0
      · rw [if_pos h0] at hc he
        refine ⟨(nI (cz bal (i + 1)), nI (i + 1), f), sbind (gL_at (by omega) (by decide)) (sbind (x := (nI (cz bal (i + 1)), f)) ?_ (by rw [lt_eq, nI_1])), ⟨i + 1, by omega, rfl, rfl, fun k hk => ?_⟩, hmu⟩
        · rw [h i hlt, if_pos h0, hc]
        · rw [he]; exact q3 k (by rw [hc] at hk; exact hk)
      · rw [if_neg h0] at hc he
        refine ⟨(nI (cz bal (i + 1)), nI (i + 1), vp_updL f (cz bal i) (bal i)), sbind (gL_at (by omega) (by decide)) (sbind (x := (nI (cz bal (i + 1)), vp_updL f (cz bal i) (bal i))) ?_ (by rw [lt_eq, nI_1])), ⟨i + 1, by omega, rfl, rfl, fun k hk => ?_⟩, hmu⟩
        · rw [h i hlt, if_neg h0, if_pos (ltR 10 10 rfl (by omega) (by decide))]
          refine sbind (gL_at (by omega) (by decide)) (sbind (sL_at (by omega) (by decide)) ?_)
          rw [lt_eq, nI_1, hc, h i hlt]
        · rw [he]
          dsimp only
          by_cases e : k = cz bal i
          · subst e; rw [pk_uLs, pk_uLs]
          · rw [pk_uLn e, pk_uLn e]; exact q3 k (by rw [hc] at hk; omega)
    · right
      have e : i = 10 := by omega
      subst e
      exact ⟨(nI (cz bal 10), nI 10, f), by rw [if_neg (by decide)], rfl, q3⟩
  obtain ⟨t, h1, h2, h3⟩ := hl
  exact ⟨t.2.2, sbind h1 (by rw [h2]), h3⟩
abbrev MW := Int32 × Int32 × (Nat → Int64) × (Nat → Int64) × (Nat → Int32) × Int32 × (Nat → Int64) × Int32 × (Nat → Int32) × (Nat → Int32)
theorem M_nets (R : RelN actK tc tr nar nam st n a b) {se : Nat} {ow : Nat → Nat} (hO : ∀ d, d < n 2 → ow d ≤ 1000000000000 ∧ OwC tc tr d se (ow d) ∧ OwM st d se (ow d)) (net : Nat → Int64) (b1 : Nat → Int64) (b2 : Nat → Int32) (b3 : Int32) (b4 : Nat → Int64) (b5 : Int32) (b6 b7 : Nat → Int32) :
    ∃ t : MW, itr (B_X12_fewest_14 st (nI se)) FU ((0 : Int32), (0 : Int32), b1, net, b2, b3, b4, b5, b6, b7) = some t ∧ t.1 = nI (cz (fun m => balF st ow m (n 2)) (n 0)) ∧ ∀ k, k < cz (fun m => balF st ow m (n 2)) (n 0) → t.2.2.2.1 k = ez (fun m => balF st ow m (n 2)) (n 0) k := by
  obtain ⟨r1, r2, r3⟩ := id R.1.1
  obtain ⟨bal, hbal⟩ : ∃ bal : Nat → Int64, bal = fun m => balF st ow m (n 2) := ⟨_, rfl⟩
  rw [← hbal]
  refine itr_fu (I := fun s => ∃ i, i ≤ n 0 ∧ s.1 = nI (cz bal i) ∧ s.2.1 = nI i ∧ ∀ k, k < cz bal i → s.2.2.2.1 k = ez bal i k) (μ := fun s => n 0 - s.2.1.toNatClampNeg) _ _ ⟨0, by omega, rfl, rfl, fun k hk => absurd hk (Nat.not_lt_zero _)⟩ (by dsimp only; omega) ?_
  rintro ⟨c, i1, c1, f, c2, c3, c4, c5, c6, c7⟩ ⟨i, hi, q1, q2, q3⟩
  dsimp only at q1 q2 q3
  subst q1; subst q2
  unfold B_X12_fewest_14
  dsimp only
  by_cases hlt : i < n 0
  · left
    have hmu : n 0 - (nI (i + 1)).toNatClampNeg < n 0 - (nI i).toNatClampNeg := by
      rw [nI_clamp (by omega), nI_clamp (by omega)]; omega
    have hcz := cz_le bal i
    have hc : cz bal (i + 1) = if bal i = 0 then cz bal i else cz bal i + 1 := rfl
    have he : ez bal (i + 1) = if bal i = 0 then ez bal i else vp_updL (ez bal i) (cz bal i) (bal i) := rfl
    obtain ⟨o, f1, f2⟩ := MBAL R (m := i) (by omega) hO c1 c2 c3 c4 c5 c6 c7
    have f3 : o.1 = bal i := by rw [f2, hbal]
    refine ⟨(nI (cz bal (i + 1)), nI (i + 1), o.2.1, vp_updL f (cz bal i) (bal i), o.2.2.1, o.2.2.2.1, o.2.2.2.2.1, o.2.2.2.2.2.1, o.2.2.2.2.2.2.1, o.2.2.2.2.2.2.2), sbind (M_at (k := 0) (by decide)) ?_, ⟨i + 1, by omega, rfl, rfl, fun k hk => ?_⟩, hmu⟩
    · rw [r3, if_pos (nI_lt hlt (by omega))]
      refine sbind f1 (sbind (sL_at (by omega) (by decide)) ?_)
      rw [f3]
      by_cases h0 : bal i = 0
      · rw [if_pos h0] at hc
        refine sbind (x := (0 : Int32)) (by rw [if_pos h0]) ?_
        rw [lt_eq, lt_eq, nI_1, hc, Int32.add_zero]
      · rw [if_neg h0] at hc
        refine sbind (x := (1 : Int32)) (by rw [if_neg h0]) ?_
        rw [lt_eq, lt_eq, nI_1, nI_1, hc]
    · rw [he]
      dsimp only
      by_cases h0 : bal i = 0
      · rw [if_pos h0] at hc ⊢
        rw [hc] at hk
        rw [pk_uLn (by omega)]; exact q3 k hk
      · rw [if_neg h0] at hc ⊢
        by_cases e : k = cz bal i
        · subst e; rw [pk_uLs, pk_uLs]
        · rw [pk_uLn e, pk_uLn e]; exact q3 k (by rw [hc] at hk; omega)
  · right
    have e : i = n 0 := by omega
    subst e
    refine ⟨(nI (cz bal (n 0)), nI (n 0), c1, f, c2, c3, c4, c5, c6, c7), sbind (M_at (k := 0) (by decide)) ?_, rfl, q3⟩
    rw [r3, if_neg (nI_nlt (Nat.le_refl _) (by omega))]
/-- one set, both sides -/
theorem SET1 {N s : Nat} (hN : N ≤ 10) (h0 : 0 < s) (hs : s < 2 ^ N) {u un net : Nat → Int64} (hun : ∀ k, k < N → un k = u k) (hnet : ∀ k, k < N → net k = u k) {sets most : Nat → Int32} {sums tog : Nat → Int64} (h1 : ∀ j, j < s → sets j = most j) (h2 : ∀ j, j < s → sums j = ssum u j N) {x3 : MW} (hx1 : x3.1 = nI N) (hx2 : x3.2.2.2.1 = net) :
    ∃ (sets2 most2 : Nat → Int32) (sums2 tog2 : Nat → Int64), F_X4_weighSet sets sums un (nI s) (nI N) = some (sets2, sums2) ∧ B_X12_fewest_63 x3 (nI s, most, tog) = some (.inl (nI (s + 1), most2, tog2)) ∧ (∀ j, j < s + 1 → sets2 j = most2 j) ∧ (∀ j, j < s + 1 → sums2 j = ssum u j N) ∧ most2 0 = most 0 ∧ sets2 0 = sets 0 ∧ sums2 0 = sums 0 := by
  have hpb := pow_b hN
  have hs10 : s < 1024 := by omega
  -- the two inner loops
  have hin : Two (itr (B_X4_weighSet_28 (nI N) (nI s) un sets) FU ((0 : Int32), (0 : Int32), sums)) (itr (B_X12_fewest_87 x3 (nI s, most, tog)) FU ((0 : Int32), upd most s 0, vp_updL tog s 0)) (fun t1 t2 => (t1.1 = t2.2.1 s ∧ (∀ j, j ≠ s → t1.2.2 j = sums j ∧ t2.2.1 j = most j) ∧ t1.2.2 s = ssum u s N ∧ t2.2.2 s = ssum u s N)) := by
    refine itr_two_fu
      (I := fun s1 s2 => ∃ i, i ≤ N ∧ s1.2.1 = nI i ∧ s2.1 = nI i ∧ s1.1 = s2.2.1 s ∧ (∀ j, j ≠ s → s1.2.2 j = sums j ∧ s2.2.1 j = most j) ∧ s2.2.2 s = ssum u s i ∧ ((∀ j, j < i → s.testBit j = false) ∨ s1.2.2 s = ssum u s N))
      (μ := fun s1 => N - s1.2.1.toNatClampNeg) _ _ _ ⟨0, by omega, rfl, rfl, pk_us.symm, fun j hj => ⟨rfl, pk_un hj⟩, pk_uLs, Or.inl (fun j hj => absurd hj (Nat.not_lt_zero _))⟩ (by dsimp only; omega) ?_
    rintro ⟨m1, i1, sm⟩ ⟨i2, ms, tg⟩ ⟨i, hi, q1, q2, q3, q4, q5, q6⟩
    dsimp only at q1 q2 q3 q4 q5 q6
    subst q1; subst q2; subst q3
    unfold B_X4_weighSet_28 B_X12_fewest_87
    dsimp only
    rw [hx1, hx2]
    by_cases hlt : i < N
    · obtain ⟨c1, c2, c3, c4⟩ := B_all hs10 (show i < 10 by omega)
      refine two_ifl (nI_lt hlt (by omega)) (two_ifl (ltR 10 10 rfl (by omega) (by decide)) (two_ifr (nI_lt hlt (by omega)) ?_))
      rw [c1, c2]
      have hmu : N - (nI (i + 1)).toNatClampNeg < N - (nI i).toNatClampNeg := by
        rw [nI_clamp (by omega), nI_clamp (by omega)]; omega
      cases hb : s.testBit i
      · -- not in the set
        refine two_lt (two_l (x := (ms s, sm)) ?_ (two_r (x := (ms, tg)) ?_ (two_lt (two_rt (two_end (Or.inl ⟨_, _, rfl, rfl, ⟨i + 1, by omega, nI_1 i, nI_1 i, rfl, q4, ?_, ?_⟩, ?_⟩))))))
        · rw [if_neg (show ¬ (false = true) by decide), if_neg (nI_pos (by omega)), if_neg (nI_nlt (Nat.le_refl _) (by omega))]
        · rw [if_neg (show ¬ (false = true) by decide), if_neg (by decide)]
        · show tg s = if s.testBit i then _ else _
          rw [hb, q5]; rfl
        · rcases q6 with z | z
          · left
            intro j hj
            by_cases e : j = i
            · rw [e]; exact hb
            · exact z j (by omega)
          · exact Or.inr z
        · dsimp only; rw [nI_1]; exact hmu
      · -- in the set
        obtain ⟨d1, d2, d3⟩ := c3 hb
        have hp1 : 1 ≤ 2 ^ i := Nat.one_le_two_pow
        have hss : sm (s - 2 ^ i) + un i = ssum u s N := by
          rw [(q4 _ (by omega)).1, h2 _ (by omega), hun i hlt, ssum_clr hs10 (by omega) hb N, if_pos hlt]
        refine two_lt (two_l (x := (if ms s < sets (s - 2 ^ i) then sets (s - 2 ^ i) else ms s, vp_updL sm s (ssum u s N))) ?_ (two_r (x := (upd ms s (if ms s < sets (s - 2 ^ i) then sets (s - 2 ^ i) else ms s), vp_updL tg s (ssum u s (i + 1)))) ?_ (two_lt (two_rt (two_end (Or.inl ⟨_, _, rfl, rfl, ⟨i + 1, by omega, nI_1 i, nI_1 i, ?_, ?_, ?_, Or.inr ?_⟩, ?_⟩))))))
        · rw [if_pos (show (true = true) from rfl), if_neg (nI_pos (by omega)), if_pos (nI_lt (by omega) (by omega))]
          refine sbind (gL_at (by omega) (by decide)) (sbind (gL_at (by omega) (by decide)) (sbind (sL_at (by omega) (by decide)) (sbind (gI_at (by omega) (by decide)) ?_)))
          rw [hss, lt_eq]
        · rw [if_pos (show (true = true) from rfl), if_pos rfl, d1]
          refine sbind (gL_at (by omega) (by decide)) (sbind (gL_at (by omega) (by decide)) (sbind (sL_at (by omega) (by decide)) (sbind (gI_at (by omega) (by decide)) (sbind (gI_at (by omega) (by decide)) (sbind (x := if ms s < sets (s - 2 ^ i) then sets (s - 2 ^ i) else ms s) ?_ (sbind (sI_at (by omega) (by decide)) ?_))))))
          · rw [(q4 (s - 2 ^ i) (by omega)).2, ← h1 _ (by omega)]
            by_cases h : ms s < sets (s - 2 ^ i)
            · rw [if_pos h, if_pos h]
            · rw [if_neg h, if_neg h]
              exact sbind (gI_at (by omega) (by decide)) rfl
          · rw [q5, hnet i hlt]
            have : ssum u s (i + 1) = ssum u s i + u i := by
              show (if s.testBit i then _ else _) = _
              rw [hb]; rfl
            rw [this]
        · dsimp only; rw [pk_us]
        · intro j hj
          dsimp only
          rw [pk_uLn hj, pk_un hj]; exact q4 j hj
        · dsimp only; rw [pk_uLs]
        · dsimp only; rw [pk_uLs]
        · dsimp only; rw [nI_1]; exact hmu
    · have e : i = N := by omega
      subst e
      refine two_ifl' (nI_nlt (Nat.le_refl _) (by omega)) (two_ifr' (nI_nlt (Nat.le_refl _) (by omega)) (two_end (Or.inr ⟨_, _, rfl, rfl, rfl, q4, ?_, q5⟩)))
      rcases q6 with z | z
      · obtain ⟨j, j1, j2⟩ := some_bit h0 hs
        rw [z j j1] at j2; cases j2
      · exact z
  obtain ⟨t1, t2, e1, e2, e3, e4, e5, e6⟩ := hin
  have hz : ∃ x : Int32, (if ssum u s N = (0 : Int64) then some (1 : Int32) else some (0 : Int32)) = some x := by split <;> exact ⟨_, rfl⟩
  obtain ⟨x, hx⟩ := hz
  refine ⟨upd sets s (t1.1 + x), upd t2.2.1 s (t2.2.1 s + x), t1.2.2, t2.2.2, ?_, ?_, fun j hj => ?_, fun j hj => ?_, ?_, ?_, ?_⟩
  · unfold F_X4_weighSet
    rw [if_neg (nI_pos (by omega)), if_pos (ltR 1024 1024 rfl hs10 (by decide)), if_pos (ltR 1024 1024 rfl hs10 (by decide))]
    refine sbind e1 (sbind (gL_at (by omega) (by decide)) (sbind (x := x) (by rw [e5]; exact hx) (sbind (sI_at (by omega) (by decide)) rfl)))
  · unfold B_X12_fewest_63
    dsimp only
    rw [hx1, shl1 (by omega), if_pos (nI_lt hs (by omega))]
    refine sbind (sL_at (by omega) (by decide)) (sbind (sI_at (by omega) (by decide)) (sbind e2 (sbind (gI_at (by omega) (by decide)) (sbind (gL_at (by omega) (by decide)) (sbind (x := x) (by rw [e6]; exact hx) (sbind (sI_at (by omega) (by decide)) ?_))))))
    rw [lt_eq, nI_1]
  · by_cases e : j = s
    · subst e; rw [pk_us, pk_us, e3]
    · rw [pk_un e, pk_un e, (e4 j e).2]; exact h1 j (by omega)
  · by_cases e : j = s
    · subst e; exact e5
    · rw [(e4 j e).1]; exact h2 j (by omega)
  · rw [pk_un (by omega)]; exact (e4 0 (by omega)).2
  · rw [pk_un (by omega)]
  · exact (e4 0 (by omega)).1
theorem P_fewest (h : Rel actK tc tr nar nam st) (a1 : Int64) (a2 a3 a4 a5 : Int32) (a6 : Nat → Int64) (a7 : Int32) (paid bal prs : Nat → Int64) (sets : Nat → Int32) (sums un : Nat → Int64) (b1 : Nat → Int64) (most : Nat → Int32) (net : Nat → Int64) (b2 : Nat → Int32) (b3 : Int32) (tog : Nat → Int64) (b4 : Nat → Int64) (b5 : Int32) (b6 b7 : Nat → Int32) (p0 : Int32) (hs1 : sets 0 = 0) (hs2 : sums 0 = 0) (hs3 : most 0 = 0) :
    Two (F_X11_fewest a1 a2 a3 a4 a5 a6 a7 paid bal prs sets sums un (tc 2) (tr 2) (tc 3) (tr 3) (tc 0) (tr 0) (tc 4) (tr 4) p0) (F_X12_fewest b1 most net st b2 b3 tog b4 b5 b6 b7 p0) (fun o1 o2 => o1.1 = o2.1 ∧ o1.2.2.2.2.2.2.2.2.2.2.2.1 0 = 0 ∧ o1.2.2.2.2.2.2.2.2.2.2.2.2.1 0 = 0 ∧ o2.2.2.1 0 = 0) := by
  obtain ⟨n, a, b, R⟩ := h
  have hM10 : n 0 ≤ 10 := R.1.1.1
  refine two_guard (c := inR p0 0 99) C_season_t C_season_f M_season_t M_season_f (fun _ => two_end ⟨rfl, hs1, hs2, hs3⟩) (fun h1 => ?_)
  obtain ⟨s, s1, s2, rfl⟩ := inR_nat (b := 99) h1
  obtain ⟨ow, hO⟩ := OWES R s1
  obtain ⟨o, e1, e2, -⟩ := WEIGH R hO bal prs a1 a2 a3 a4 a5 a6 a7 paid
  obtain ⟨x3, f1, f2, f3⟩ := M_nets R hO net b1 b2 b3 b4 b5 b6 b7
  obtain ⟨u2, g1, g2⟩ := C_uneven (bl := o.1) (un := un) (bal := fun m => balF st ow m (n 2)) e2
  have hrest : ∀ m, n 0 ≤ m → m < 10 → balF st ow m (n 2) = 0 := by
    have R3 := R.2.2.2.1
    intro m hm hm2
    have key : ∀ d, d ≤ n 2 → balF st ow m d = 0 := by
      intro d
      induction d with
      | zero => intro _; rfl
      | succ d ih =>
        intro hd
        obtain ⟨x, y, s, l, u, z1, z2, z3, z4, z5, -⟩ := deb_at R3 (show d < n 2 by omega)
        show balF st ow m d + (if st (1092 + 7 * d) = nI m then lN (ow d) else if st (1092 + 7 * d + 1) = nI m then -(lN (ow d)) else 0) = 0
        rw [ih (by omega), z4, z5, if_neg (ne_nI (by omega) (by omega) (by omega)), if_neg (ne_nI (by omega) (by omega) (by omega))]; rfl
    exact key (n 2) (Nat.le_refl _)
  obtain ⟨hr1, hr2⟩ := cz_rest (bal := fun m => balF st ow m (n 2)) (m := n 0) (L := 10) hrest (10 - n 0) (by omega)
  rw [show n 0 + (10 - n 0) = 10 by omega] at hr1 hr2
  rw [← hr1] at f2 f3
  rw [← hr2] at f3
  have hN := cz_le (fun m => balF st ow m (n 2)) 10
  generalize cz (fun m => balF st ow m (n 2)) 10 = N at *
  generalize ez (fun m => balF st ow m (n 2)) 10 = u at *
  have hpb := pow_b hN
  have hloop : Two (itr (B_X4_fewestPayments_13 (nI (2 ^ N - 1)) (nI N, u2)) FU ((1 : Int32), sets, sums)) (itr (B_X12_fewest_63 x3) FU ((1 : Int32), most, tog)) (fun t1 t2 => t1.2.1 (2 ^ N - 1) = t2.2.1 (2 ^ N - 1) ∧ t1.2.1 0 = 0 ∧ t1.2.2 0 = 0 ∧ t2.2.1 0 = 0) := by
    refine itr_two_fu
      (I := fun s1 s2 => ∃ k, 1 ≤ k ∧ k ≤ 2 ^ N ∧ s1.1 = nI k ∧ s2.1 = nI k ∧ (∀ j, j < k → s1.2.1 j = s2.2.1 j) ∧ (∀ j, j < k → s1.2.2 j = ssum u j N) ∧ s1.2.1 0 = 0 ∧ s1.2.2 0 = 0 ∧ s2.2.1 0 = 0)
      (μ := fun s1 => 2 ^ N - s1.1.toNatClampNeg) _ _ _ ⟨1, by omega, by omega, rfl, rfl, fun j hj => by rw [show j = 0 by omega]; dsimp only; rw [hs1, hs3], fun j hj => by rw [show j = 0 by omega]; dsimp only; rw [hs2, ssum_0], hs1, hs2, hs3⟩ (by dsimp only; omega) ?_
    rintro ⟨i1, se1, su1⟩ ⟨i2, mo1, to1⟩ ⟨k, k1, k2, q1, q2, q3, q4, q5, q6, q7⟩
    dsimp only at q1 q2 q3 q4 q5 q6 q7
    subst q1; subst q2
    by_cases hlt : k < 2 ^ N
    · obtain ⟨sets2, most2, sums2, tog2, w1, w2, w3, w4, w5, w6, w7⟩ := SET1 (u := u) (un := u2) (net := x3.2.2.2.1) (x3 := x3) (tog := to1) hN k1 hlt g2 f3 q3 q4 f2 rfl
      refine ⟨.inl (nI (k + 1), sets2, sums2), _, ?_, w2, Or.inl ⟨_, _, rfl, rfl, ⟨k + 1, by omega, by omega, rfl, rfl, w3, w4, ?_, ?_, ?_⟩, ?_⟩⟩
      · unfold B_X4_fewestPayments_13
        dsimp only
        rw [if_neg (nI_nlt (by omega) (by omega))]
        refine sbind w1 ?_
        rw [lt_eq, nI_1]
      · dsimp only; rw [w6]; exact q5
      · dsimp only; rw [w7]; exact q6
      · dsimp only; rw [w5]; exact q7
      · dsimp only
        rw [nI_clamp (by omega), nI_clamp (by omega)]; omega
    · have e : k = 2 ^ N := by omega
      refine ⟨.inr (nI k, se1, su1), .inr (nI k, mo1, to1), ?_, ?_, Or.inr ⟨_, _, rfl, rfl, q3 _ (by omega), q5, q6, q7⟩⟩
      · unfold B_X4_fewestPayments_13
        dsimp only
        rw [if_pos (nI_lt (by omega) (by omega))]
      · unfold B_X12_fewest_63
        dsimp only
        rw [f2, shl1 (by omega), if_neg (nI_nlt (by omega) (by omega))]
  obtain ⟨t1, t2, l1, l2, l3, l4, l5, l6⟩ := hloop
  refine two_l e1 (two_l (x := (nI N - t1.2.1 (2 ^ N - 1), t1.2.1, t1.2.2, u2)) ?_ ?_)
  · unfold F_X4_fewestPayments
    refine sbind g1 ?_
    rw [shl1 (by omega), show (1 : Int32) = nI 1 from rfl, pk_sub (by omega), lt_eq]
    refine sbind l1 (sbind (x := nI N - t1.2.1 (2 ^ N - 1)) ?_ rfl)
    rw [if_neg (nI_pos (by omega)), if_pos (ltR 1024 1024 rfl (by omega) (by decide))]
    exact sbind (gI_at (by omega) (by decide)) rfl
  · refine two_r f1 (two_r l2 (two_r (x := t2.2.1 (2 ^ N - 1)) ?_ (two_end ⟨?_, l4, l5, l6⟩)))
    · rw [f2, shl1 (by omega), show (1 : Int32) = nI 1 from rfl, pk_sub (by omega)]
      exact gI_at (by omega) (by decide)
    · dsimp only
      rw [l3, f2]
end FEW
