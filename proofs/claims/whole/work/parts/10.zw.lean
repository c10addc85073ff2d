/-! PURE LAWS 38: place -/
theorem pc_half : ((List.range 32).all fun a => (List.range 32).all fun b => decide (pc (32 * a + b) = (32 * a + b) % 2 + pc ((32 * a + b) / 2))) = true := by decide +kernel
theorem pc_h {s : Nat} (hs : s < 1024) : pc s = s % 2 + pc (s / 2) := by
  have h1 := List.all_eq_true.mp pc_half (s / 32) (List.mem_range.mpr (by omega))
  have h2 := List.all_eq_true.mp h1 (s % 32) (List.mem_range.mpr (by omega))
  rw [show 32 * (s / 32) + s % 32 = s by omega] at h2
  exact of_decide_eq_true h2
theorem bitc_all : ((List.range 32).all fun a => (List.range 16).all fun b => decide (F_J6_bitCount_0f7a4 (nI (16 * a + b)) = some (nI (pc (16 * a + b))))) = true := by decide +kernel
theorem bitc {s : Nat} (hs : s < 512) : F_J6_bitCount_0f7a4 (nI s) = some (nI (pc s)) := by
  have h1 := List.all_eq_true.mp bitc_all (s / 16) (List.mem_range.mpr (by omega))
  have h2 := List.all_eq_true.mp h1 (s % 16) (List.mem_range.mpr (by omega))
  rw [show 16 * (s / 16) + s % 16 = s by omega] at h2
  exact of_decide_eq_true h2
theorem M_size {s : Nat} (hs : s < 1024) : F_X12_sizeOf (nI s) = some (nI (pc s)) := by
  have hl : ∃ t, itr (B_X12_sizeOf_4) FU ((0 : Int32), nI s) = some t ∧ t.1 = nI (pc s) := by
    refine itr_fu (I := fun x => ∃ c v, v < 1024 ∧ x.1 = nI c ∧ x.2 = nI v ∧ c + pc v = pc s) (μ := fun x => x.2.toNatClampNeg) _ _ ⟨0, s, hs, rfl, rfl, by omega⟩ (by dsimp only; rw [nI_clamp (by omega)]; omega) ?_
    rintro ⟨c', v'⟩ ⟨c, v, hv, q1, q2, q3⟩
    dsimp only at q1 q2
    subst q1; subst q2
    unfold B_X12_sizeOf_4
    dsimp only
    by_cases h0 : 0 < v
    · left
      have hp := pc_h hv
      refine ⟨(nI (c + v % 2), nI (v / 2)), ?_, ⟨c + v % 2, v / 2, by omega, rfl, rfl, by omega⟩, ?_⟩
      · rw [if_pos (ltL 0 0 rfl h0 (by omega)), pk_andN (n := v) (by omega) 1 (by decide), nI_add, lt_eq, pk_shrN (n := v) (by omega) _ 1 (by decide), lt_eq]
      · dsimp only
        rw [nI_clamp (by omega), nI_clamp (by omega)]; omega
    · right
      have e : v = 0 := by omega
      subst e
      exact ⟨(nI c, nI 0), by rw [if_neg (by decide)], by dsimp only; rw [← q3, pc_0]; rfl⟩
  obtain ⟨t, t1, t2⟩ := hl
  exact sbind t1 (by rw [t2])
/-- those that p holds of -/
def mk (p : Nat → Bool) : Nat → Nat
  | 0 => 0
  | n + 1 => if p n then mk p n + 2 ^ n else mk p n
theorem mk_lt (p : Nat → Bool) : ∀ n, mk p n < 2 ^ n
  | 0 => Nat.lt_succ_self 0
  | n + 1 => by
    have := mk_lt p n
    have hp : 2 ^ (n + 1) = 2 ^ n + 2 ^ n := by rw [Nat.pow_succ]; omega
    show (if p n then mk p n + 2 ^ n else mk p n) < 2 ^ (n + 1)
    split <;> omega
theorem mk_bit (p : Nat → Bool) : ∀ n i, (mk p n).testBit i = (decide (i < n) && p i)
  | 0, i => by
    show (0 : Nat).testBit i = _
    rw [Nat.zero_testBit]; simp
  | n + 1, i => by
    have hl := mk_lt p n
    show (if p n then mk p n + 2 ^ n else mk p n).testBit i = _
    by_cases hi : i ≤ n
    · cases hp : p n
      · rw [if_neg (by decide), mk_bit p n i]
        by_cases e : i = n
        · subst e; rw [hp]; simp
        · rw [decide_eq_true (show i < n by omega), decide_eq_true (show i < n + 1 by omega)]
      · rw [if_pos rfl, hi_bit hl hi, mk_bit p n i]
        by_cases e : i = n
        · subst e; rw [hp]; simp
        · rw [decide_eq_true (show i < n by omega), decide_eq_true (show i < n + 1 by omega), decide_eq_false e, Bool.or_false]
    · rw [decide_eq_false (show ¬ i < n + 1 by omega), Bool.false_and]
      have h2 : (if p n then mk p n + 2 ^ n else mk p n) < 2 ^ i := by
        have := mk_lt p (n + 1)
        exact Nat.lt_of_lt_of_le this (Nat.pow_le_pow_right (by omega) (by omega))
      exact Nat.testBit_lt_two_pow h2
theorem pc_mk {p : Nat → Bool} {n : Nat} (hn : n ≤ 10) : pc (mk p n) = sumN (fun i => bN (p i)) n := by
  have h := sumN_zero (f := fun i => bN ((mk p n).testBit i)) (m := n) (fun j hj => by
    show bN ((mk p n).testBit j) = 0
    rw [mk_bit, decide_eq_false (by omega)]; rfl) (10 - n)
  rw [show n + (10 - n) = 10 by omega] at h
  show sumN (fun i => bN ((mk p n).testBit i)) 10 = _
  rw [h]
  exact sumN_congr (fun i hi => by rw [mk_bit, decide_eq_true hi, Bool.true_and])
section YRP
variable {N : Nat} {bef cl : Nat → Nat}
/-- a set that can stand ahead of a name -/
def QI (N : Nat) (bef : Nat → Nat) (nm s : Nat) : Prop := s < 2 ^ N ∧ s.testBit nm = false ∧ sub (bef nm) s ∧ 0 < TT N bef s ∧ 0 < OO N bef (s + 2 ^ nm)
theorem QI_no (H : ClI N bef cl) (hN : N ≤ 9) {nm s : Nat} (hm : nm < N) (hA : ¬ Acy N cl) : ¬ QI N bef nm s := by
  rintro ⟨h1, h2, h3, h4, h5⟩
  have h6 := OO_step hN h1 hm h2 h3
  exact hA ((OO_acy H hN).mp (OO_down hN 10 s h1 (by have := pc_N (show N ≤ 10 by omega) h1; omega) h4 (by omega)))
theorem QI_dc (H : ClI N bef cl) (hN : N ≤ 9) (hA : Acy N cl) {nm s : Nat} (hm : nm < N) : QI N bef nm s ↔ (s < 2 ^ N ∧ s.testBit nm = false ∧ sub (bef nm) s ∧ DC N bef s) := by
  constructor
  · rintro ⟨h1, h2, h3, h4, h5⟩
    exact ⟨h1, h2, h3, (TT_dc H hN 10 s h1 (by have := pc_N (show N ≤ 10 by omega) h1; omega) h4).1⟩
  · rintro ⟨h1, h2, h3, h4⟩
    exact ⟨h1, h2, h3, TT_pos H hN hA 10 s h1 (by have := pc_N (show N ≤ 10 by omega) h1; omega) h4, OO_pos H hN hA N _ (add_lt hN h1 hm h2) (by omega) (dc_set hN h1 hm h2 h4 h3)⟩
/-- the least of them -/
theorem Q_min (H : ClI N bef cl) (hN : N ≤ 9) (hA : Acy N cl) {nm : Nat} (hm : nm < N) : QI N bef nm (cl nm) ∧ ∀ s, QI N bef nm s → pc (cl nm) ≤ pc s := by
  refine ⟨(QI_dc H hN hA hm).mpr ⟨(H.1 nm hm).2, hA nm hm, H.2.1 nm hm, dc_self H hm⟩, fun s hs => ?_⟩
  obtain ⟨h1, h2, h3, h4⟩ := (QI_dc H hN hA hm).mp hs
  exact pc_sub ((dc_cl H hm h4).mp h3)
def freeP (cl : Nat → Nat) (nm b : Nat) : Bool := !(decide (b = nm)) && !((cl b).testBit nm)
/-- the greatest of them -/
theorem Q_max (H : ClI N bef cl) (hN : N ≤ 9) (hA : Acy N cl) {nm : Nat} (hm : nm < N) : QI N bef nm (mk (freeP cl nm) N) ∧ ∀ s, QI N bef nm s → pc s ≤ pc (mk (freeP cl nm) N) := by
  have hbit : ∀ i, (mk (freeP cl nm) N).testBit i = true ↔ (i < N ∧ i ≠ nm ∧ (cl i).testBit nm = false) := fun i => by
    rw [mk_bit, Bool.and_eq_true, decide_eq_true_eq]
    unfold freeP
    rw [Bool.and_eq_true, Bool.not_eq_true', Bool.not_eq_true', decide_eq_false_iff_not]
  constructor
  · refine (QI_dc H hN hA hm).mpr ⟨mk_lt _ _, ?_, sub_iff.mpr (fun c hc => ?_), fun b hb hbs => sub_iff.mpr (fun c hc => ?_)⟩
    · cases hb : (mk (freeP cl nm) N).testBit nm
      · rfl
      · exact absurd rfl ((hbit nm).mp hb).2.1
    · have hcN := bit_lt (H.1 nm hm).1 hc
      have hcc := sub_iff.mp (H.2.1 nm hm) c hc
      refine (hbit c).mpr ⟨hcN, fun e => ?_, ?_⟩
      · subst e; rw [hA c hm] at hcc; cases hcc
      · cases hx : (cl c).testBit nm
        · rfl
        · have := sub_iff.mp (H.2.2.1 nm c hm hcc) nm hx
          rw [hA nm hm] at this; cases this
    · obtain ⟨b1, b2, b3⟩ := (hbit b).mp hbs
      have hcN := bit_lt (H.1 b hb).1 hc
      have hcc := sub_iff.mp (H.2.1 b hb) c hc
      refine (hbit c).mpr ⟨hcN, fun e => ?_, ?_⟩
      · subst e; rw [b3] at hcc; cases hcc
      · cases hx : (cl c).testBit nm
        · rfl
        · have := sub_iff.mp (H.2.2.1 b c hb hcc) nm hx
          rw [b3] at this; cases this
  · intro s hs
    obtain ⟨h1, h2, h3, h4⟩ := (QI_dc H hN hA hm).mp hs
    refine pc_sub (sub_iff.mpr (fun b hb => (hbit b).mpr ⟨bit_lt h1 hb, fun e => ?_, ?_⟩))
    · subst e; rw [h2] at hb; cases hb
    · have hbN := bit_lt h1 hb
      cases hx : (cl b).testBit nm
      · rfl
      · have := sub_iff.mp ((dc_cl H hbN h4).mp (h4 b hbN hb)) nm hx
        rw [h2] at this; cases this
theorem pc_free (hA : Acy N cl) (hN : N ≤ 9) {nm : Nat} (hm : nm < N) : pc (mk (freeP cl nm) N) + sumN (fun b => bN ((cl b).testBit nm)) N + 1 = N := by
  rw [pc_mk (show N ≤ 10 by omega)]
  have h1 : ∀ m, sumN (fun i => bN (freeP cl nm i)) m + sumN (fun b => bN ((cl b).testBit nm)) m = sumN (fun i => bN (freeP cl nm i) + bN ((cl i).testBit nm)) m := by
    intro m
    induction m with
    | zero => rfl
    | succ m ih =>
      show sumN (fun i => bN (freeP cl nm i)) m + bN (freeP cl nm m) + (sumN (fun b => bN ((cl b).testBit nm)) m + bN ((cl m).testBit nm)) = sumN (fun i => bN (freeP cl nm i) + bN ((cl i).testBit nm)) m + (bN (freeP cl nm m) + bN ((cl m).testBit nm))
      omega
  rw [h1 N]
  have h2 := sumN_pt (f := fun i => bN (freeP cl nm i) + bN ((cl i).testBit nm)) (g := fun _ => 1) (j := nm) (n := N) hm (fun i _ hne => by
    show bN (freeP cl nm i) + bN ((cl i).testBit nm) = 1
    unfold freeP
    cases (cl i).testBit nm <;> simp [hne, bN])
  have h3 : bN (freeP cl nm nm) + bN ((cl nm).testBit nm) = 0 := by
    unfold freeP
    rw [hA nm hm]; simp [bN]
  have h4 : ∀ m, sumN (fun _ => 1) m = m := by
    intro m
    induction m with
    | zero => rfl
    | succ m ih => show sumN (fun _ => 1) m + 1 = m + 1; rw [ih]
  rw [h3, h4 N] at h2
  omega
theorem C_behind {g : Nat → Int32} (hN : N ≤ 9) (hc : ∀ b, b < 9 → cl b < 2 ^ N) (hg : ∀ b, b < 9 → g b = nI (cl b)) {nm : Nat} (hm : nm < N) : F_X10_countBehind g (nI N) (nI nm) = some (nI (sumN (fun b => bN ((cl b).testBit nm)) N)) := by
  unfold F_X10_countBehind
  refine sbind (itr_cnt' (fun i => (nI (sumN (fun b => bN ((cl b).testBit nm)) i), nI i)) _ (nI (sumN (fun b => bN ((cl b).testBit nm)) N), nI N) N rfl (fun i hi => ?_) ?_ (by omega)) rfl
  · unfold B_X10_countBehind_4
    dsimp only
    rw [if_pos (nI_lt hi (by omega)), if_pos (ltR 9 9 rfl (by omega) (by decide))]
    refine sbind (gI_at (by omega) (by decide)) ?_
    rw [hg i (by omega), (B_all (lt_10 hN (hc i (by omega))) (show nm < 10 by omega)).2.1, lt_eq, lt_eq, nI_1]
    have : (if (cl i).testBit nm = true then (1 : Int32) else 0) = nI (bN ((cl i).testBit nm)) := by
      cases (cl i).testBit nm <;> rfl
    rw [this, nI_add]; rfl
  · unfold B_X10_countBehind_4
    dsimp only
    rw [if_neg (nI_nlt (Nat.le_refl _) (by omega))]
/-- which of two sizes is kept -/
def bet (w : Nat) (x y : Nat) : Prop := if w = 0 then x ≤ y else y ≤ x
theorem M_place (hN : N ≤ 9) (hcb : ∀ b, b < 9 → bef b < 2 ^ N) {st : Nat → Int32} (h12 : st 12 = nI N) {c4 : Int64 × (Nat → Int32) × (Nat → Int64) × (Nat → Int64)} (hg : ∀ b, b < 9 → c4.2.1 b = nI (bef b)) (ho : ∀ s, s < 2 ^ N → c4.2.2.1 s = lN (OO N bef s)) (ht : ∀ s, s < 2 ^ N → c4.2.2.2 s = lN (TT N bef s)) {nm w : Nat} (hm : nm < N) (hw : w ≤ 1) : ∃ t, itr (B_X12_place_40 st c4 (nI nm) (nI w)) FU ((-1 : Int32), (0 : Int32)) = some t ∧ ((t.1 = -1 ∧ ∀ s, ¬ QI N bef nm s) ∨ (∃ s, QI N bef nm s ∧ t.1 = nI (pc s) ∧ ∀ s', QI N bef nm s' → bet w (pc s) (pc s'))) := by
  obtain ⟨hp1, hp2⟩ := pow9 hN
  refine itr_fu (I := fun x => ∃ s, s ≤ 2 ^ N ∧ x.2 = nI s ∧ ((x.1 = -1 ∧ ∀ r, r < s → ¬ QI N bef nm r) ∨ (∃ r, QI N bef nm r ∧ x.1 = nI (pc r) ∧ ∀ r', r' < s → QI N bef nm r' → bet w (pc r) (pc r')))) (μ := fun x => 2 ^ N - x.2.toNatClampNeg) _ _ ⟨0, by omega, rfl, Or.inl ⟨rfl, fun r hr => absurd hr (Nat.not_lt_zero _)⟩⟩ (by dsimp only; omega) ?_
  rintro ⟨x, s'⟩ ⟨s, hs, q1, q2⟩
  dsimp only at q1 q2
  subst q1
  unfold B_X12_place_40
  dsimp only
  by_cases hlt : s < 2 ^ N
  · left
    have h10 := lt_10 hN hlt
    have hmu : 2 ^ N - (nI (s + 1)).toNatClampNeg < 2 ^ N - (nI s).toNatClampNeg := by rw [nI_clamp (by omega), nI_clamp (by omega)]; omega
    have hmay := M_may (N := N) hN hcb hg (a := nm) (s := s) (by omega) h10
    have hT := TT_b (bef := bef) hN hlt
    -- the answer is kept where s cannot stand ahead
    have hkeep : ¬ QI N bef nm s → ((x = -1 ∧ ∀ r, r < s + 1 → ¬ QI N bef nm r) ∨ (∃ r, QI N bef nm r ∧ x = nI (pc r) ∧ ∀ r', r' < s + 1 → QI N bef nm r' → bet w (pc r) (pc r'))) := by
      intro hno
      rcases q2 with ⟨a1, a2⟩ | ⟨r, a1, a2, a3⟩
      · refine Or.inl ⟨a1, fun r hr => ?_⟩
        by_cases e : r = s
        · subst e; exact hno
        · exact a2 r (by omega)
      · refine Or.inr ⟨r, a1, a2, fun r' hr' hq => ?_⟩
        by_cases e : r' = s
        · subst e; exact absurd hq hno
        · exact a3 r' (by omega) hq
    have hj : ∃ y : Int32, (Option.bind (F_X12_mayCome c4.2.1 (nI s) (nI nm)) fun c_8 => Option.bind (if c_8 = 0 then some x else Option.bind (gL c4.2.2.2 512 (nI s)) fun t_10 => if (0 : Int64) < t_10 then Option.bind (gL c4.2.2.1 512 (nI s ||| ((1 : Int32) <<< (nI nm &&& 31)))) fun t_11 => if (0 : Int64) < t_11 then Option.bind (F_X12_sizeOf (nI s)) fun c_12 => Option.bind (if x = (-1 : Int32) then some c_12 else if nI w = 0 then if c_12 < x then some c_12 else some x else if x < c_12 then some c_12 else some x) fun j_13 => some j_13 else some x else some x) fun j_9 => some j_9) = some y ∧ ((y = -1 ∧ ∀ r, r < s + 1 → ¬ QI N bef nm r) ∨ (∃ r, QI N bef nm r ∧ y = nI (pc r) ∧ ∀ r', r' < s + 1 → QI N bef nm r' → bet w (pc r) (pc r'))) := by
      by_cases h1 : s.testBit nm = false ∧ sub (bef nm) s
      · rw [if_pos h1] at hmay
        have hgt : gL c4.2.2.2 512 (nI s) = some (lN (TT N bef s)) := by rw [gL_at (by omega) (by decide), ht s hlt]
        by_cases h2 : 0 < TT N bef s
        · have hadd := add_lt hN hlt hm h1.1
          have hO := OO_b (bef := bef) hN hadd
          have hgo : gL c4.2.2.1 512 (nI s ||| ((1 : Int32) <<< (nI nm &&& 31))) = some (lN (OO N bef (s + 2 ^ nm))) := by
            rw [((B_all h10 (show nm < 10 by omega)).2.2.2 h1.1).1, gL_at (by omega) (by decide), ho _ hadd]
          by_cases h3 : 0 < OO N bef (s + 2 ^ nm)
          · have hQ : QI N bef nm s := ⟨hlt, h1.1, h1.2, h2, h3⟩
            have hps := pc_N (show N ≤ 10 by omega) hlt
            -- the new one
            have hnew : ∃ y : Int32, (if x = (-1 : Int32) then some (nI (pc s)) else if nI w = 0 then if nI (pc s) < x then some (nI (pc s)) else some x else if x < nI (pc s) then some (nI (pc s)) else some x) = some y ∧ (∃ r, QI N bef nm r ∧ y = nI (pc r) ∧ ∀ r', r' < s + 1 → QI N bef nm r' → bet w (pc r) (pc r')) := by
              have hself : bet w (pc s) (pc s) := by unfold bet; split <;> exact Nat.le_refl _
              rcases q2 with ⟨a1, a2⟩ | ⟨r, a1, a2, a3⟩
              · refine ⟨nI (pc s), by rw [if_pos a1], s, hQ, rfl, fun r' hr' hq => ?_⟩
                by_cases e : r' = s
                · subst e; exact hself
                · exact absurd hq (a2 r' (by omega))
              · have hpr := pc_N (show N ≤ 10 by omega) a1.1
                have hne : ¬ x = -1 := fun e => by
                  have := nI_toInt (n := pc r) (by omega)
                  rw [← a2, e, show ((-1 : Int32)).toInt = -1 from rfl] at this; omega
                rw [if_neg hne, a2]
                have htake : bet w (pc s) (pc r) → (∀ r', r' < s + 1 → QI N bef nm r' → bet w (pc s) (pc r')) := fun hb r' hr' hq => by
                  by_cases e : r' = s
                  · subst e; exact hself
                  · have := a3 r' (by omega) hq
                    unfold bet at hb this ⊢
                    split at hb
                    · rename_i e0
                      rw [if_pos e0] at this ⊢; omega
                    · rename_i e0
                      rw [if_neg e0] at this ⊢; omega
                have hstay : bet w (pc r) (pc s) → (∀ r', r' < s + 1 → QI N bef nm r' → bet w (pc r) (pc r')) := fun hb r' hr' hq => by
                  by_cases e : r' = s
                  · subst e; exact hb
                  · exact a3 r' (by omega) hq
                by_cases hw0 : w = 0
                · rw [if_pos (by rw [hw0]; rfl)]
                  by_cases hc : pc s < pc r
                  · exact ⟨_, by rw [if_pos (nI_lt hc (by omega))], s, hQ, rfl, htake (by unfold bet; rw [if_pos hw0]; omega)⟩
                  · exact ⟨_, by rw [if_neg (nI_nlt (by omega) (by omega))], r, a1, rfl, hstay (by unfold bet; rw [if_pos hw0]; omega)⟩
                · rw [if_neg (neR 0 0 rfl (by omega) (by decide) hw0)]
                  by_cases hc : pc r < pc s
                  · exact ⟨_, by rw [if_pos (nI_lt hc (by omega))], s, hQ, rfl, htake (by unfold bet; rw [if_neg hw0]; omega)⟩
                  · exact ⟨_, by rw [if_neg (nI_nlt (by omega) (by omega))], r, a1, rfl, hstay (by unfold bet; rw [if_neg hw0]; omega)⟩
            obtain ⟨y, y1, y2⟩ := hnew
            refine ⟨y, sbind hmay (sbind (x := y) ?_ rfl), Or.inr y2⟩
            rw [if_neg (by decide)]
            refine sbind hgt ?_
            rw [if_pos ((lN_inj0 (by omega)).mpr h2)]
            refine sbind hgo ?_
            rw [if_pos ((lN_inj0 (by omega)).mpr h3)]
            exact sbind (M_size h10) (sbind y1 rfl)
          · refine ⟨x, sbind hmay (sbind (x := x) ?_ rfl), hkeep (fun q => h3 q.2.2.2.2)⟩
            rw [if_neg (by decide)]
            refine sbind hgt ?_
            rw [if_pos ((lN_inj0 (by omega)).mpr h2)]
            refine sbind hgo ?_
            rw [if_neg (fun q => h3 ((lN_inj0 (by omega)).mp q))]
        · refine ⟨x, sbind hmay (sbind (x := x) ?_ rfl), hkeep (fun q => h2 q.2.2.2.1)⟩
          rw [if_neg (by decide)]
          refine sbind hgt ?_
          rw [if_neg (fun q => h2 ((lN_inj0 (by omega)).mp q))]
      · rw [if_neg h1] at hmay
        exact ⟨x, sbind hmay (sbind (x := x) (by rw [if_pos rfl]) rfl), hkeep (fun q => h1 ⟨q.2.1, q.2.2.1⟩)⟩
    obtain ⟨y, y1, y2⟩ := hj
    obtain ⟨c8, z1, z2⟩ := bnd y1
    obtain ⟨j9, z3, z4⟩ := bnd z2
    cases z4
    refine ⟨(y, nI (s + 1)), sbind (M_at (k := 12) (by decide)) ?_, ⟨s + 1, by omega, rfl, y2⟩, hmu⟩
    rw [h12, shl1 (by omega), if_pos (nI_lt hlt (by omega))]
    exact sbind z1 (sbind z3 (by rw [lt_eq, nI_1]))
  · right
    have e : s = 2 ^ N := by omega
    subst e
    refine ⟨(x, nI (2 ^ N)), sbind (M_at (k := 12) (by decide)) ?_, ?_⟩
    · rw [h12, shl1 (by omega), if_neg (nI_nlt (Nat.le_refl _) (by omega))]
    · rcases q2 with ⟨a1, a2⟩ | ⟨r, a1, a2, a3⟩
      · exact Or.inl ⟨a1, fun r hr => a2 r hr.1 hr⟩
      · exact Or.inr ⟨r, a1, a2, fun r' hr' => a3 r' hr'.1 hr'⟩
end YRP
section YRQ
variable {tc : Nat → Nat → Int32} {tr : Nat → Int32} {nar nam : Int32} {st : Nat → Int32}
theorem P_place (h : Rel actK tc tr nar nam st) (ah row before : Nat → Int32) (on to : Nat → Int64) (p0 p1 p2 : Int32) : Two (F_X11_place nam (tc 8) (tr 8) ah row p0 p1 p2) (F_X12_place before on st to p0 p1 p2) (fun o1 o2 => o1.1 = o2.1) := by
  obtain ⟨n, a, b, R⟩ := h
  obtain ⟨y1, y2, y3, y4, y5, y6, y7, y8⟩ := id R.2.2.2.2.2.2.2.2.2.2.2.2.2
  have RT := R.2.2.2.2.2.2.2.2.1
  subst y7
  refine two_guard (c := inR p0 0 (((b : Nat) : Int) - 1)) (C_noN_t (by omega)) (C_noN_f (by omega)) (M_name_t y8 (by omega)) (M_name_f y8 (by omega)) (fun _ => two_end rfl) (fun h0 => ?_)
  refine two_guard (c := inR p1 0 99) (C_out_t rfl rfl) (C_out_f rfl rfl) M_known_t M_known_f (fun _ => two_end rfl) (fun h1 => ?_)
  refine two_guard (c := inR p2 0 1) (C_out_t rfl rfl) (C_out_f rfl rfl) (M_in_t rfl rfl) (M_in_f rfl rfl) (fun _ => two_end rfl) (fun h2 => ?_)
  obtain ⟨nm, i1, i2, rfl⟩ := inR_row h0
  obtain ⟨k, k1, k2, rfl⟩ := inR_nat (b := 99) h1
  obtain ⟨w, w1, w2, rfl⟩ := inR_nat (b := 1) h2
  obtain ⟨g, g1, g2⟩ := C_know (k := k) RT y4 ah
  have hc := fun a ha => bef_lt (k := k) RT y4 (n 7) (Nat.le_refl _) a ha
  have hcl := clo_cl (A := fun b => befF st k b (n 7)) y4 hc
  have hc2 := fun c (hc9 : c < 9) => clo_lt hc 9 (Nat.le_refl _) c hc9
  obtain ⟨o, o1, o2⟩ := C_lay1 hcl y4 hc2 g2 row
  obtain ⟨q, q1, q2, q3, q4, q5⟩ := M_find (k := k) RT y4 y8 before on to
  obtain ⟨t, t1, t2⟩ := M_place (bef := fun b => befF st k b (n 7)) (w := w) y4 hc y8 q3 q4 q5 i1 w1
  refine two_l g1 (two_l o1 (two_r q1 (two_r t1 ?_)))
  rcases o2 with ⟨e1, e2⟩ | ⟨e1, e2, e3⟩
  · refine two_ifl e1 (two_end ?_)
    rcases t2 with ⟨z1, -⟩ | ⟨s, z1, -⟩
    · exact z1.symm
    · exact absurd z1 (QI_no hcl y4 i1 e2)
  · refine two_ifl' (by rw [e1]; decide) ?_
    obtain ⟨m1, m2⟩ := Q_min hcl y4 e2 i1
    obtain ⟨x1, x2⟩ := Q_max hcl y4 e2 i1
    rcases t2 with ⟨-, z2⟩ | ⟨s, z1, z2, z3⟩
    · exact absurd m1 (z2 _)
    · rcases (show w = 0 ∨ w = 1 by omega) with rfl | rfl
      · have h3 := z3 _ m1
        have h4 := m2 s z1
        unfold bet at h3
        rw [if_pos rfl] at h3
        refine two_l (x := nI (pc (clo' (fun b => befF st k b (n 7)) 9 nm))) ?_ (two_end ?_)
        · rw [if_pos (by decide)]
          unfold F_X10_countAhead
          refine sbind (sbind (x := nI (pc (clo' (fun b => befF st k b (n 7)) 9 nm))) ?_ rfl) rfl
          rw [if_neg (nI_pos (by omega)), if_pos (ltR 9 9 rfl (by omega) (by decide))]
          refine sbind (gI_at (by omega) (by decide)) ?_
          rw [g2 nm (by omega)]
          exact sbind (bitc (p9 y4 (hc2 nm (by omega)))) rfl
        · dsimp only
          rw [z2, show pc (clo' (fun b => befF st k b (n 7)) 9 nm) = pc s by omega]
      · have h3 := z3 _ x1
        have h4 := x2 s z1
        unfold bet at h3
        rw [if_neg (by decide)] at h3
        have h5 := pc_free e2 y4 i1
        refine two_l (x := nI (b - 1 - sumN (fun c => bN ((clo' (fun b => befF st k b (n 7)) 9 c).testBit nm)) b)) ?_ (two_end ?_)
        · rw [if_neg (by decide)]
          refine sbind (C_behind y4 hc2 g2 i1) ?_
          rw [show (1 : Int32) = nI 1 from rfl, pk_sub (by omega), pk_sub (by omega)]
        · dsimp only
          rw [z2, show b - 1 - sumN (fun c => bN ((clo' (fun b => befF st k b (n 7)) 9 c).testBit nm)) b = pc s by omega]
end YRQ
