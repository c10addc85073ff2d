/-! PURE LAWS 37: the first order -/
/-- the first that p holds of, or n -/
def frst (p : Nat → Bool) : Nat → Nat
  | 0 => 0
  | n + 1 => if frst p n < n then frst p n else if p n then n else n + 1
theorem frst_is {p : Nat → Bool} : ∀ n, frst p n ≤ n ∧ (frst p n < n → p (frst p n) = true) ∧ ∀ i, i < frst p n → p i = false
  | 0 => ⟨Nat.le_refl _, fun h => absurd h (Nat.lt_irrefl 0), fun i h => absurd h (Nat.not_lt_zero _)⟩
  | n + 1 => by
    obtain ⟨h1, h2, h3⟩ := frst_is (p := p) n
    show (if frst p n < n then frst p n else if p n then n else n + 1) ≤ n + 1 ∧ ((if frst p n < n then frst p n else if p n then n else n + 1) < n + 1 → p (if frst p n < n then frst p n else if p n then n else n + 1) = true) ∧ ∀ i, i < (if frst p n < n then frst p n else if p n then n else n + 1) → p i = false
    by_cases e : frst p n < n
    · rw [if_pos e]
      exact ⟨by omega, fun _ => h2 e, h3⟩
    · have e2 : frst p n = n := by omega
      rw [if_neg e]
      rw [e2] at h3
      cases hp : p n
      · rw [if_neg (by decide)]
        refine ⟨Nat.le_refl _, fun h => absurd h (Nat.lt_irrefl _), fun i hi => ?_⟩
        by_cases e3 : i = n
        · subst e3; exact hp
        · exact h3 i (by omega)
      · rw [if_pos rfl]
        exact ⟨by omega, fun _ => hp, h3⟩
theorem frst_ex {p : Nat → Bool} {n a : Nat} (ha : a < n) (h : p a = true) : frst p n < n := by
  by_cases e : frst p n < n
  · exact e
  · have := (frst_is (p := p) n).2.2 a (by omega)
    rw [this] at h; cases h
def nxP (cl : Nat → Nat) (s a : Nat) : Bool := !(s.testBit a) && decide (sub (cl a) s)
def nx (N : Nat) (cl : Nat → Nat) (s : Nat) : Nat := frst (nxP cl s) N
def sqS (N : Nat) (cl : Nat → Nat) : Nat → Nat
  | 0 => 0
  | i + 1 => sqS N cl i + 2 ^ nx N cl (sqS N cl i)
theorem nxP_t {cl : Nat → Nat} {s a : Nat} : nxP cl s a = true ↔ s.testBit a = false ∧ sub (cl a) s := by
  unfold nxP
  rw [Bool.and_eq_true, Bool.not_eq_true', decide_eq_true_eq]
section YRV
variable {N : Nat} {bef cl : Nat → Nat}
/-- what a set of the first order is, as long as there is a next one -/
def SqI (N : Nat) (bef cl : Nat → Nat) (i : Nat) : Prop := sqS N cl i < 2 ^ N ∧ pc (sqS N cl i) = i ∧ DC N bef (sqS N cl i) ∧ 0 < TT N bef (sqS N cl i)
theorem SqI_0 (hN : N ≤ 9) : SqI N bef cl 0 := ⟨Nat.two_pow_pos N, pc_0, dc_0, by
  show 0 < TT N bef 0
  rw [TT_eq hN (Nat.two_pow_pos N), if_pos rfl]; omega⟩
theorem SqI_s (H : ClI N bef cl) (hN : N ≤ 9) {i : Nat} (h : SqI N bef cl i) (hn : nx N cl (sqS N cl i) < N) : SqI N bef cl (i + 1) := by
  obtain ⟨h1, h2, h3, h4⟩ := h
  obtain ⟨n1, n2⟩ := nxP_t.mp ((frst_is (p := nxP cl (sqS N cl i)) N).2.1 hn)
  have hb := (dc_cl H hn h3).mpr n2
  have hadd := add_lt hN h1 hn n1
  refine ⟨hadd, ?_, dc_set hN h1 hn n1 h3 hb, ?_⟩
  · show pc (sqS N cl i + 2 ^ nx N cl (sqS N cl i)) = i + 1
    rw [pc_set (lt_10 hN h1) (show nx N cl (sqS N cl i) < 10 by omega) n1, h2]
  · obtain ⟨c1, c2, c3⟩ := set_clr (lt_10 hN h1) (show nx N cl (sqS N cl i) < 10 by omega) n1
    have := TT_step (bef := bef) hN hadd hn c2 (by rw [c3]; exact hb)
    rw [c3] at this
    show 0 < TT N bef (sqS N cl i + 2 ^ nx N cl (sqS N cl i))
    omega
theorem nx_lt (H : ClI N bef cl) (hN : N ≤ 9) (hA : Acy N cl) {i : Nat} (hi : i < N) (h : SqI N bef cl i) : nx N cl (sqS N cl i) < N := by
  obtain ⟨a, a1, a2, a3⟩ := next_ex H hN hA h.1 (by rw [h.2.1]; exact hi)
  exact frst_ex a1 (nxP_t.mpr ⟨a2, (dc_cl H a1 h.2.2.1).mp a3⟩)
theorem SqI_all (H : ClI N bef cl) (hN : N ≤ 9) (hA : Acy N cl) : ∀ i, i ≤ N → SqI N bef cl i
  | 0, _ => SqI_0 hN
  | i + 1, hi => by
    have h := SqI_all H hN hA i (by omega)
    exact SqI_s H hN h (nx_lt H hN hA (by omega) h)
theorem SqI_N (H : ClI N bef cl) (hN : N ≤ 9) (h : SqI N bef cl N) : Acy N cl := by
  rw [← OO_acy H hN, ← both_ends hN, ← pc_full (show N ≤ 10 by omega) h.1 h.2.1]
  exact h.2.2.2
theorem C_fnext {g : Nat → Int32} (hN : N ≤ 9) (hc : ∀ b, b < 9 → cl b < 2 ^ N) (hg : ∀ b, b < 9 → g b = nI (cl b)) {s : Nat} (hs : s < 1024) : F_X10_firstNext g (nI N) (nI s) = some (if nx N cl s < N then nI (nx N cl s) else -1) := by
  obtain ⟨f1, f2, f3⟩ := frst_is (p := nxP cl s) N
  have hl : ∃ u, itr (B_X10_firstNext_2 (nI N) (nI s) g) FU (0 : Int32) = some u ∧ ((nx N cl s = N ∧ ∃ i, u = .inl i) ∨ (nx N cl s < N ∧ u = .inr (nI (nx N cl s)))) := by
    refine itr_fu (I := fun x => ∃ a, a ≤ nx N cl s ∧ x = nI a) (μ := fun x => N - x.toNatClampNeg) _ _ ⟨0, Nat.zero_le _, rfl⟩ (by omega) ?_
    rintro x ⟨a, ha, rfl⟩
    have ha2 : a ≤ N := Nat.le_trans ha f1
    unfold B_X10_firstNext_2
    by_cases hlt : a < N
    · rw [if_pos (nI_lt hlt (by omega)), (B_all hs (show a < 10 by omega)).2.1]
      have hmu : N - (nI (a + 1)).toNatClampNeg < N - (nI a).toNatClampNeg := by rw [nI_clamp (by omega), nI_clamp (by omega)]; omega
      by_cases e : a = nx N cl s
      · right
        have hp := f2 (show frst (nxP cl s) N < N by have : nx N cl s = frst (nxP cl s) N := rfl; omega)
        obtain ⟨p1, p2⟩ := nxP_t.mp hp
        have e' : frst (nxP cl s) N = a := e.symm
        rw [e'] at p1 p2
        refine ⟨.inr (nI (nx N cl s)), ?_, Or.inr ⟨by omega, rfl⟩⟩
        rw [p1, if_neg (show ¬ (false = true) by decide), if_pos rfl]
        refine sbind (C_next (N := N) hN hc hg (by omega)) ?_
        rw [if_pos p2, if_neg (by decide), ← e]
      · left
        have hp := f3 a (show a < frst (nxP cl s) N by have : nx N cl s = frst (nxP cl s) N := rfl; omega)
        refine ⟨nI (a + 1), ?_, ⟨a + 1, by omega, rfl⟩, hmu⟩
        cases hb : s.testBit a
        · have hns : ¬ sub (cl a) s := fun q => by
            rw [nxP_t.mpr ⟨hb, q⟩] at hp; cases hp
          rw [if_neg (show ¬ (false = true) by decide), if_pos rfl]
          refine sbind (C_next (N := N) hN hc hg (by omega)) ?_
          rw [if_neg hns, if_pos rfl, lt_eq, nI_1]
        · rw [if_pos (show true = true from rfl), if_neg (by decide), lt_eq, nI_1]
    · right
      have e : a = N := by omega
      refine ⟨.inl (nI a), by rw [e, if_neg (nI_nlt (Nat.le_refl _) (by omega))], Or.inl ⟨?_, _, rfl⟩⟩
      have : nx N cl s = frst (nxP cl s) N := rfl
      omega
  obtain ⟨u, u1, u2⟩ := hl
  unfold F_X10_firstNext
  rcases u2 with ⟨h, i, rfl⟩ | ⟨h, rfl⟩
  · rw [if_neg (by omega)]; exact sbind u1 rfl
  · rw [if_pos h]; exact sbind u1 rfl
theorem C_lay1 (H : ClI N bef cl) {g : Nat → Int32} (hN : N ≤ 9) (hc : ∀ b, b < 9 → cl b < 2 ^ N) (hg : ∀ b, b < 9 → g b = nI (cl b)) (row : Nat → Int32) : ∃ o, F_X10_layFirstOrder g (nI N) row = some o ∧ ((o.1 = 0 ∧ ¬ Acy N cl) ∨ (o.1 = 1 ∧ Acy N cl ∧ ∀ i, i < N → o.2 i = nI (nx N cl (sqS N cl i)))) := by
  have hl : ∃ u, itr (B_X10_layFirstOrder_4 (nI N) g) FU ((0 : Int32), (0 : Int32), row) = some u ∧ ((∃ r, u = .inr (0, r) ∧ ¬ Acy N cl) ∨ (∃ a b r, u = .inl (a, b, r) ∧ Acy N cl ∧ ∀ i, i < N → r i = nI (nx N cl (sqS N cl i)))) := by
    refine itr_fu (I := fun x => ∃ i, i ≤ N ∧ x.1 = nI (sqS N cl i) ∧ x.2.1 = nI i ∧ SqI N bef cl i ∧ ∀ j, j < i → x.2.2 j = nI (nx N cl (sqS N cl j))) (μ := fun x => N - x.2.1.toNatClampNeg) _ _ ⟨0, by omega, rfl, rfl, SqI_0 hN, fun j hj => absurd hj (Nat.not_lt_zero _)⟩ (by dsimp only; omega) ?_
    rintro ⟨x, i', r⟩ ⟨i, hi, q1, q2, q3, q4⟩
    dsimp only at q1 q2 q4
    subst q1; subst q2
    unfold B_X10_layFirstOrder_4
    dsimp only
    by_cases hlt : i < N
    · rw [if_pos (nI_lt hlt (by omega)), if_pos (ltR 9 9 rfl (by omega) (by decide))]
      have h10 := lt_10 hN q3.1
      have hf := C_fnext hN hc hg h10
      by_cases hn : nx N cl (sqS N cl i) < N
      · left
        rw [if_pos hn] at hf
        obtain ⟨n1, n2⟩ := nxP_t.mp ((frst_is (p := nxP cl (sqS N cl i)) N).2.1 hn)
        have hne : ¬ nI (nx N cl (sqS N cl i)) = -1 := fun e => by
          have := nI_toInt (n := nx N cl (sqS N cl i)) (by omega)
          rw [e, show ((-1 : Int32)).toInt = -1 from rfl] at this; omega
        refine ⟨(nI (sqS N cl (i + 1)), nI (i + 1), upd r i (nI (nx N cl (sqS N cl i)))), sbind hf ?_, ⟨i + 1, by omega, rfl, rfl, SqI_s H hN q3 hn, fun j hj => ?_⟩, ?_⟩
        · rw [if_neg hne]
          refine sbind (sI_at (by omega) (by decide)) ?_
          rw [((B_all h10 (show nx N cl (sqS N cl i) < 10 by omega)).2.2.2 n1).1, lt_eq, lt_eq, nI_1]
          rfl
        · dsimp only
          by_cases e : j = i
          · subst e; rw [pk_us]
          · rw [pk_un e]; exact q4 j (by omega)
        · dsimp only
          rw [nI_clamp (by omega), nI_clamp (by omega)]; omega
      · right
        rw [if_neg hn] at hf
        refine ⟨.inr (0, r), sbind hf (by rw [if_pos rfl]), Or.inl ⟨r, rfl, fun hA => hn (nx_lt H hN hA hlt q3)⟩⟩
    · right
      have e : i = N := by omega
      subst e
      exact ⟨.inl (nI (sqS i cl i), nI i, r), by rw [if_neg (nI_nlt (Nat.le_refl _) (by omega))], Or.inr ⟨_, _, r, rfl, SqI_N H hN q3, q4⟩⟩
  obtain ⟨u, u1, u2⟩ := hl
  unfold F_X10_layFirstOrder
  rcases u2 with ⟨r, rfl, h⟩ | ⟨a, b, r, rfl, h1, h2⟩
  · exact ⟨(0, r), sbind u1 rfl, Or.inl ⟨rfl, h⟩⟩
  · exact ⟨(1, r), sbind u1 rfl, Or.inr ⟨rfl, h1, h2⟩⟩
theorem M_ord (H : ClI N bef cl) (hN : N ≤ 9) (hA : Acy N cl) (hcb : ∀ b, b < 9 → bef b < 2 ^ N) {c3 : Int64 × (Nat → Int32) × (Nat → Int64) × (Nat → Int64)} (hg : ∀ b, b < 9 → c3.2.1 b = nI (bef b)) (ho : ∀ s, s < 2 ^ N → c3.2.2.1 s = lN (OO N bef s)) {i : Nat} (hi : i < N) : ∃ t, itr (B_X12_order_38 (nI i) c3) FU ((0 : Int32), (0 : Int32), (0 : Int32)) = some t ∧ t.2.1 = nI (nx N cl (sqS N cl i)) := by
  refine itr_fu (I := fun x => ∃ j, j ≤ i + 1 ∧ x.1 = nI (sqS N cl j) ∧ x.2.2 = nI j ∧ (0 < j → x.2.1 = nI (nx N cl (sqS N cl (j - 1))))) (μ := fun x => i + 1 - x.2.2.toNatClampNeg) _ _ ⟨0, by omega, rfl, rfl, fun h => absurd h (Nat.lt_irrefl 0)⟩ (by dsimp only; omega) ?_
  rintro ⟨s', nm, j'⟩ ⟨j, hj, q1, q2, q3⟩
  dsimp only at q1 q2 q3
  subst q1; subst q2
  unfold B_X12_order_38
  dsimp only
  by_cases hlt : j ≤ i
  · left
    rw [if_neg (nI_nlt hlt (by omega))]
    have hq := SqI_all H hN hA j (by omega)
    have hn := nx_lt H hN hA (by omega) hq
    have h10 := lt_10 hN hq.1
    obtain ⟨f1, f2, f3⟩ := frst_is (p := nxP cl (sqS N cl j)) N
    obtain ⟨n1, n2⟩ := nxP_t.mp (f2 hn)
    have hb := (dc_cl H hn hq.2.2.1).mpr n2
    have hfind : ∃ u, itr (B_X12_order_47 c3 (nI (sqS N cl j), nm, nI j)) FU (0 : Int32) = some u ∧ u = nI (nx N cl (sqS N cl j)) := by
      refine itr_fu (I := fun x => ∃ a, a ≤ nx N cl (sqS N cl j) ∧ x = nI a) (μ := fun x => N - x.toNatClampNeg) _ _ ⟨0, Nat.zero_le _, rfl⟩ (by omega) ?_
      rintro x ⟨a, ha, rfl⟩
      unfold B_X12_order_47
      dsimp only
      have hmay := M_may (N := N) hN hcb hg (a := a) (s := sqS N cl j) (by omega) h10
      have hmu : N - (nI (a + 1)).toNatClampNeg < N - (nI a).toNatClampNeg := by rw [nI_clamp (by omega), nI_clamp (by omega)]; omega
      by_cases e : a = nx N cl (sqS N cl j)
      · right
        subst e
        have hadd := add_lt hN hq.1 hn n1
        have hpos := OO_pos H hN hA N _ hadd (by omega) (dc_set hN hq.1 hn n1 hq.2.2.1 hb)
        have hbd := OO_b (bef := bef) hN hadd
        rw [if_pos (show (sqS N cl j).testBit (nx N cl (sqS N cl j)) = false ∧ sub (bef (nx N cl (sqS N cl j))) (sqS N cl j) from ⟨n1, hb⟩)] at hmay
        refine ⟨nI (nx N cl (sqS N cl j)), sbind hmay ?_, rfl⟩
        rw [if_neg (by decide), ((B_all h10 (show nx N cl (sqS N cl j) < 10 by omega)).2.2.2 n1).1]
        refine sbind (gL_at (by have := pow9 hN; omega) (by decide)) ?_
        rw [ho _ hadd, if_neg (fun q => by have := (pk_lEQ (a := OO N bef (sqS N cl j + 2 ^ nx N cl (sqS N cl j))) (b := 0) (by omega) (by decide)).mp q; omega)]
      · left
        have hp := f3 a (show a < frst (nxP cl (sqS N cl j)) N by have : nx N cl (sqS N cl j) = frst (nxP cl (sqS N cl j)) N := rfl; omega)
        have hno : ¬ ((sqS N cl j).testBit a = false ∧ sub (bef a) (sqS N cl j)) := fun q => by
          rw [nxP_t.mpr ⟨q.1, (dc_cl H (show a < N by omega) hq.2.2.1).mp q.2⟩] at hp; cases hp
        rw [if_neg hno] at hmay
        exact ⟨nI (a + 1), sbind hmay (by rw [if_pos rfl, lt_eq, nI_1]), ⟨a + 1, by omega, rfl⟩, hmu⟩
    obtain ⟨u, u1, rfl⟩ := hfind
    refine ⟨(nI (sqS N cl (j + 1)), nI (nx N cl (sqS N cl j)), nI (j + 1)), sbind u1 ?_, ⟨j + 1, by omega, rfl, rfl, fun _ => by rw [Nat.add_sub_cancel]⟩, ?_⟩
    · rw [((B_all h10 (show nx N cl (sqS N cl j) < 10 by omega)).2.2.2 n1).1, lt_eq, lt_eq, nI_1]
      rfl
    · dsimp only
      rw [nI_clamp (by omega), nI_clamp (by omega)]; omega
  · right
    have e : j = i + 1 := by omega
    subst e
    refine ⟨(nI (sqS N cl (i + 1)), nm, nI (i + 1)), by rw [if_pos (nI_lt (by omega) (by omega))], ?_⟩
    have := q3 (by omega)
    rw [Nat.add_sub_cancel] at this
    exact this
end YRV
section YRW
variable {tc : Nat → Nat → Int32} {tr : Nat → Int32} {nar nam : Int32} {st : Nat → Int32}
theorem P_order (h : Rel actK tc tr nar nam st) (ah row before : Nat → Int32) (on to : Nat → Int64) (p0 p1 : Int32) : Two (F_X11_order nam (tc 8) (tr 8) ah row p0 p1) (F_X12_order before on st to p0 p1) (fun o1 o2 => o1.1 = o2.1) := by
  obtain ⟨n, a, b, R⟩ := h
  obtain ⟨y1, y2, y3, y4, y5, y6, y7, y8⟩ := id R.2.2.2.2.2.2.2.2.2.2.2.2.2
  have RT := R.2.2.2.2.2.2.2.2.1
  subst y7
  refine two_guard (c := inR p0 0 99) (C_out_t rfl rfl) (C_out_f rfl rfl) M_known_t M_known_f (fun _ => two_end rfl) (fun h0 => ?_)
  refine two_guard (c := inR p1 0 (((b : Nat) : Int) - 1)) (C_noN_t (by omega)) (C_noN_f (by omega)) (M_name_t y8 (by omega)) (M_name_f y8 (by omega)) (fun _ => two_end rfl) (fun h1 => ?_)
  obtain ⟨k, k1, k2, rfl⟩ := inR_nat (b := 99) h0
  obtain ⟨i, i1, i2, rfl⟩ := inR_row h1
  obtain ⟨g, g1, g2⟩ := C_know (k := k) RT y4 ah
  have hc := fun a ha => bef_lt (k := k) RT y4 (n 7) (Nat.le_refl _) a ha
  have hcl := clo_cl (A := fun b => befF st k b (n 7)) y4 hc
  obtain ⟨o, o1, o2⟩ := C_lay1 hcl y4 (fun c hc9 => clo_lt hc 9 (Nat.le_refl _) c hc9) g2 row
  obtain ⟨q, q1, q2, q3, q4, q5⟩ := M_find (k := k) RT y4 y8 before on to
  have hbd := OO_b (bef := fun b => befF st k b (n 7)) y4 (Nat.two_pow_pos b)
  have h0A := OO_acy hcl y4
  refine two_l g1 (two_l o1 (two_r q1 ?_))
  rcases o2 with ⟨e1, e2⟩ | ⟨e1, e2, e3⟩
  · have hz : OO b (fun b => befF st k b (n 7)) 0 = 0 := by
      by_cases e : 0 < OO b (fun b => befF st k b (n 7)) 0
      · exact absurd (h0A.mp e) e2
      · omega
    refine two_l (x := (-1 : Int32)) (by rw [e1, if_pos rfl]) (two_ifr (by rw [q2, hz]; rfl) (two_end rfl))
  · have hpos := h0A.mpr e2
    obtain ⟨t, t1, t2⟩ := M_ord hcl y4 e2 hc q3 q4 i1
    refine two_l (x := o.2 i) ?_ (two_ifr' ?_ (two_r t1 (two_end ?_)))
    · rw [e1, if_neg (by decide)]
      unfold F_X10_nameAt
      refine sbind (sbind (x := o.2 i) ?_ rfl) rfl
      rw [if_neg (nI_pos (by omega)), if_pos (ltR 9 9 rfl (by omega) (by decide))]
      exact sbind (gI_at (by omega) (by decide)) rfl
    · rw [q2]
      intro e
      have := (pk_lEQ (a := OO b (fun b => befF st k b (n 7)) 0) (b := 0) (by omega) (by decide)).mp e
      omega
    · dsimp only
      rw [e3 i i1, t2]
end YRW
