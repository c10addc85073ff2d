/-! PURE LAWS 34: what is told of names, and what follows -/
theorem nI_bv (n : Nat) : (nI n).toBitVec = BitVec.ofNat 32 n := rfl
theorem nI_or (a b : Nat) : nI a ||| nI b = nI (a ||| b) := by
  apply Int32.toBitVec_inj.mp; rw [Int32.toBitVec_or, nI_bv, nI_bv, nI_bv]; apply BitVec.eq_of_getLsbD_eq; intro i hi; simp [BitVec.getLsbD_ofNat, Nat.testBit_or, hi]
theorem nI_sub {t s : Nat} (ht : t < 2 ^ 31) : (nI t &&& (nI s ^^^ (-1 : Int32)) = 0) ↔ sub t s := by
  have hm : (-1 : Int32).toBitVec = BitVec.allOnes 32 := by decide
  have hz : (0 : Int32).toBitVec = 0#32 := by decide
  rw [← Int32.toBitVec_inj, Int32.toBitVec_and, Int32.toBitVec_xor, nI_bv, nI_bv, hm, hz]
  have bit : ∀ x i : Nat, i < 32 → (BitVec.ofNat 32 x).getLsbD i = x.testBit i := fun x i hi => by
    rw [BitVec.getLsbD_ofNat, decide_eq_true hi, Bool.true_and]
  have key : ∀ i, i < 32 → ((BitVec.ofNat 32 t &&& (BitVec.ofNat 32 s ^^^ BitVec.allOnes 32)).getLsbD i = (t.testBit i && !(s.testBit i))) := fun i hi => by
    rw [BitVec.getLsbD_and, BitVec.getLsbD_xor, bit _ _ hi, bit _ _ hi, BitVec.getLsbD_allOnes, decide_eq_true hi, Bool.xor_true]
  constructor
  · intro h
    refine sub_iff.mpr (fun i hi => ?_)
    have hi31 : i < 31 := bit_lt ht hi
    have h2 := key i (by omega)
    rw [h, BitVec.getLsbD_zero, hi, Bool.true_and] at h2
    cases hs : s.testBit i
    · rw [hs] at h2; cases h2
    · rfl
  · intro h
    apply BitVec.eq_of_getLsbD_eq
    intro i hi
    rw [key i hi, BitVec.getLsbD_zero]
    cases hti : t.testBit i
    · rfl
    · rw [sub_iff.mp h i hti]; rfl
theorem sub_or {x y z : Nat} (h1 : sub x z) (h2 : sub y z) : sub (x ||| y) z := sub_iff.mpr (fun i hi => by
  rw [Nat.testBit_or] at hi
  rcases Bool.or_eq_true_iff.mp hi with q | q
  · exact sub_iff.mp h1 i q
  · exact sub_iff.mp h2 i q)
theorem sub_or_l {x y : Nat} : sub x (x ||| y) := sub_iff.mpr (fun i hi => by rw [Nat.testBit_or, hi]; rfl)
theorem sub_or_r {x y : Nat} : sub y (x ||| y) := sub_iff.mpr (fun i hi => by rw [Nat.testBit_or, hi, Bool.or_true])
/-- who was told to be ahead of b, known by k, by the first i that were told -/
def befF (st : Nat → Int32) (k b : Nat) : Nat → Nat
  | 0 => 0
  | i + 1 => if st (1633 + 3 * i + 1) = nI b ∧ ¬ nI k < st (1633 + 3 * i + 2) then befF st k b i ||| 2 ^ (st (1633 + 3 * i)).toNatClampNeg else befF st k b i
section YRS
variable {tc : Nat → Nat → Int32} {tr : Nat → Int32} {nar nam : Int32} {st : Nat → Int32}
theorem tol_at {N nT i : Nat} {cells : Nat → Int32} {rows : Int32} (R : rT 40 3 3 1633 7 (qTol N) cells rows st nT) (hi : i < nT) : ∃ a b k : Nat, a < N ∧ b < N ∧ a ≠ b ∧ k ≤ 99 ∧ st (1633 + 3 * i) = nI a ∧ st (1633 + 3 * i + 1) = nI b ∧ st (1633 + 3 * i + 2) = nI k := by
  obtain ⟨a, b, k, h1, h2, h3, h4, h5, h6, h7⟩ := R.2.2 i hi
  rw [rowf_at (by decide)] at h5 h6 h7
  exact ⟨a, b, k, h1, h2, h3, h4, h5, h6, h7⟩
theorem C_tol {N nT k j : Nat} {cells : Nat → Int32} {rows : Int32} (R : rT 40 3 3 1633 7 (qTol N) cells rows st nT) (hk : k < nT) (hj : j < 3) : F_X8_get 120 cells rows 3 (nI k) (nI j) = some (st (1633 + 3 * k + j)) := by
  obtain ⟨⟨r1, r2, r3⟩, rT, -⟩ := R
  rw [r2]
  exact (C_get (len := 120) (wd := 3) hk hj (by omega) (by decide) (by omega) (by decide)).trans (congrArg some (rT k j hk hj))
theorem bef_next {N nT i k : Nat} {cells : Nat → Int32} {rows : Int32} (R : rT 40 3 3 1633 7 (qTol N) cells rows st nT) (hi : i < nT) (hN : N ≤ 9) : ∃ a b q : Nat, a < N ∧ b < N ∧ st (1633 + 3 * i) = nI a ∧ st (1633 + 3 * i + 1) = nI b ∧ st (1633 + 3 * i + 2) = nI q ∧ q ≤ 99 ∧ ∀ c, c < 9 → befF st k c (i + 1) = if c = b ∧ ¬ nI k < nI q then befF st k c i ||| 2 ^ a else befF st k c i := by
  obtain ⟨a, b, q, h1, h2, h3, h4, h5, h6, h7⟩ := tol_at R hi
  refine ⟨a, b, q, h1, h2, h5, h6, h7, h4, fun c hc => ?_⟩
  show (if st (1633 + 3 * i + 1) = nI c ∧ ¬ nI k < st (1633 + 3 * i + 2) then befF st k c i ||| 2 ^ (st (1633 + 3 * i)).toNatClampNeg else befF st k c i) = _
  rw [h5, h6, h7, nI_clamp (by omega)]
  by_cases e : c = b
  · subst e
    by_cases e2 : nI k < nI q
    · rw [if_neg (fun z => z.2 e2), if_neg (fun z => z.2 e2)]
    · rw [if_pos ⟨rfl, e2⟩, if_pos ⟨rfl, e2⟩]
  · rw [if_neg (fun z => e ((nI_eq (by omega) (by omega)).mp z.1).symm), if_neg (fun z => e z.1)]
theorem bef_lt {N nT k : Nat} {cells : Nat → Int32} {rows : Int32} (R : rT 40 3 3 1633 7 (qTol N) cells rows st nT) (hN : N ≤ 9) : ∀ i, i ≤ nT → ∀ c, c < 9 → befF st k c i < 2 ^ N := by
  intro i
  induction i with
  | zero => intro _ c _; exact Nat.two_pow_pos N
  | succ i ih =>
    intro hi c hc
    obtain ⟨a, b, q, h1, h2, -, -, -, -, h3⟩ := bef_next (k := k) R (show i < nT by omega) hN
    rw [h3 c hc]
    split
    · exact Nat.or_lt_two_pow (ih (by omega) c hc) (Nat.pow_lt_pow_right (by omega) h1)
    · exact ih (by omega) c hc
theorem p9 {N x : Nat} (hN : N ≤ 9) (h : x < 2 ^ N) : x < 512 := Nat.lt_of_lt_of_le h (Nat.le_trans (Nat.pow_le_pow_right (n := 2) (by omega) hN) (by decide))
theorem or_ite {c : Prop} [Decidable c] {x y : Nat} : (if c then x ||| y else x) = x ||| (if c then y else 0) := by
  by_cases h : c
  · rw [if_pos h, if_pos h]
  · rw [if_neg h, if_neg h, Nat.or_zero]
theorem M_before {N nT k : Nat} {cells : Nat → Int32} {rows : Int32} (R : rT 40 3 3 1633 7 (qTol N) cells rows st nT) (hN : N ≤ 9) (before : Nat → Int32) : ∃ t0 t, itr (B_X12_findOrders_10) FU ((0 : Int32), before) = some t0 ∧ itr (B_X12_findOrders_31 st (nI k)) FU ((0 : Int32), t0.2) = some t ∧ ∀ b, b < 9 → t.2 b = nI (befF st k b nT) := by
  obtain ⟨r1, r2, r3⟩ := id R.1
  have h0 : ∃ t0, itr (B_X12_findOrders_10) FU ((0 : Int32), before) = some t0 ∧ ∀ b, b < 9 → t0.2 b = 0 := by
    refine itr_fu (I := fun s => ∃ i, i ≤ 9 ∧ s.1 = nI i ∧ ∀ k, k < i → s.2 k = 0) (μ := fun s => 9 - s.1.toNatClampNeg) _ _ ⟨0, by omega, rfl, fun k hk => absurd hk (Nat.not_lt_zero _)⟩ (by dsimp only; omega) ?_
    rintro ⟨i', f⟩ ⟨i, hi, q1, q2⟩
    dsimp only at q1 q2
    subst q1
    unfold B_X12_findOrders_10
    dsimp only
    by_cases hlt : i < 9
    · left
      rw [if_pos (ltR 9 9 rfl hlt (by decide))]
      refine ⟨(nI (i + 1), upd f i 0), sbind (sI_at hlt (by decide)) (by rw [lt_eq, nI_1]), ⟨i + 1, by omega, rfl, fun k hk => ?_⟩, ?_⟩
      · dsimp only
        by_cases e : k = i
        · subst e; rw [pk_us]
        · rw [pk_un e]; exact q2 k (by omega)
      · dsimp only
        rw [nI_clamp (by omega), nI_clamp (by omega)]; omega
    · right
      have e : i = 9 := by omega
      subst e
      exact ⟨(nI 9, f), by rw [if_neg (by decide)], q2⟩
  obtain ⟨t0, e0, e00⟩ := h0
  have h1 : ∃ t, itr (B_X12_findOrders_31 st (nI k)) FU ((0 : Int32), t0.2) = some t ∧ ∀ b, b < 9 → t.2 b = nI (befF st k b nT) := by
    refine itr_fu (I := fun s => ∃ i, i ≤ nT ∧ s.1 = nI i ∧ ∀ b, b < 9 → s.2 b = nI (befF st k b i)) (μ := fun s => nT - s.1.toNatClampNeg) _ _ ⟨0, by omega, rfl, e00⟩ (by dsimp only; omega) ?_
    rintro ⟨i', f⟩ ⟨i, hi, q1, q2⟩
    dsimp only at q1 q2
    subst q1
    unfold B_X12_findOrders_31
    dsimp only
    by_cases hlt : i < nT
    · left
      obtain ⟨a, b, q, h1, h2, h3, h4, h5, h6, h7⟩ := bef_next (k := k) R hlt hN
      have hj : ∃ x : Nat, (if nI k < nI q then some (0 : Int32) else some (nI (2 ^ a))) = some (nI x) ∧ x = if ¬ nI k < nI q then 2 ^ a else 0 := by
        by_cases e : nI k < nI q
        · exact ⟨0, by rw [if_pos e]; rfl, by rw [if_neg (fun z => z e)]⟩
        · exact ⟨2 ^ a, by rw [if_neg e], by rw [if_pos e]⟩
      obtain ⟨x, x1, x2⟩ := hj
      refine ⟨(nI (i + 1), upd f b (nI (befF st k b i ||| x))), sbind (M_at (k := 7) (by decide)) ?_, ⟨i + 1, by omega, rfl, fun c hc => ?_⟩, ?_⟩
      · rw [r3, if_pos (nI_lt hlt (by omega)), show (1633 : Int32) = nI 1633 from rfl, show (3 : Int32) = nI 3 from rfl, show (1 : Int32) = nI 1 from rfl, show (2 : Int32) = nI 2 from rfl, pk_mul, nI_add, lt_eq, nI_add, nI_add]
        refine sbind (M_at (by omega)) ?_
        rw [h4]
        refine sbind (gI_at (by omega) (by decide)) (sbind (M_at (by omega)) ?_)
        rw [h5]
        refine sbind (x := nI x) ?_ ?_
        · rw [← x1]
          by_cases e : nI k < nI q
          · rw [if_pos e, if_pos e]
          · rw [if_neg e, if_neg e]
            refine sbind (M_at (by omega)) ?_
            rw [h3]
            exact congrArg some (shl1 (show a < 11 by omega))
        · rw [q2 b (by omega), nI_or]
          refine sbind (sI_at (by omega) (by decide)) ?_
          rw [lt_eq, nI_add]
      · dsimp only
        rw [h7 c hc]
        by_cases e : c = b
        · subst e
          rw [pk_us, x2]
          by_cases e2 : nI k < nI q
          · rw [if_neg (fun z => z e2), if_neg (fun z => z.2 e2), Nat.or_zero]
          · rw [if_pos e2, if_pos ⟨rfl, e2⟩]
        · rw [pk_un e, if_neg (fun z => e z.1)]; exact q2 c hc
      · dsimp only
        rw [nI_clamp (by omega), nI_clamp (by omega)]; omega
    · right
      have e : i = nT := by omega
      subst e
      refine ⟨(nI i, f), sbind (M_at (k := 7) (by decide)) ?_, q2⟩
      rw [r3, if_neg (nI_nlt (Nat.le_refl _) (by omega))]
  obtain ⟨t, e1, e2⟩ := h1
  exact ⟨t0, t, e0, e1, e2⟩
/-- what follows, by those below t -/
def phs (A : Nat → Nat) (t a : Nat) : Nat := if (A a).testBit t = true then A a ||| A t else A a
def clo' (A : Nat → Nat) : Nat → (Nat → Nat)
  | 0 => A
  | t + 1 => phs (clo' A t) t
theorem phs_t (A : Nat → Nat) (t : Nat) : phs A t t = A t := by
  unfold phs
  split
  · exact Nat.or_self _
  · rfl
theorem clo_lt {N : Nat} {A : Nat → Nat} (h : ∀ a, a < 9 → A a < 2 ^ N) : ∀ t, t ≤ 9 → ∀ a, a < 9 → clo' A t a < 2 ^ N := by
  intro t
  induction t with
  | zero => intro _; exact h
  | succ t ih =>
    intro ht a ha
    show phs (clo' A t) t a < 2 ^ N
    unfold phs
    split
    · exact Nat.or_lt_two_pow (ih (by omega) a ha) (ih (by omega) t (by omega))
    · exact ih (by omega) a ha
theorem clo_cl {N : Nat} {A : Nat → Nat} (hN : N ≤ 9) (h : ∀ a, a < 9 → A a < 2 ^ N) : ClI N A (clo' A 9) := by
  have hsub : ∀ t a, sub (A a) (clo' A t a) := by
    intro t
    induction t with
    | zero => intro a; exact sub_refl _
    | succ t ih =>
      intro a
      show sub (A a) (phs (clo' A t) t a)
      unfold phs
      split
      · exact sub_trans (ih a) sub_or_l
      · exact ih a
  have htr : ∀ t i a, i < t → (clo' A t a).testBit i = true → sub (clo' A t i) (clo' A t a) := by
    intro t
    induction t with
    | zero => intro i a hi; exact absurd hi (Nat.not_lt_zero _)
    | succ t ih =>
      intro i a hi hb
      have hb2 : (phs (clo' A t) t a).testBit i = true := hb
      show sub (phs (clo' A t) t i) (phs (clo' A t) t a)
      -- t in a's row: then the row of t lies in it
      have ht : (clo' A t a).testBit t = true → sub (clo' A t t) (phs (clo' A t) t a) := fun q => by
        unfold phs; rw [if_pos q]; exact sub_or_r
      have hl : sub (clo' A t a) (phs (clo' A t) t a) := by
        unfold phs
        split
        · exact sub_or_l
        · exact sub_refl _
      by_cases e : i = t
      · subst e
        rw [phs_t]
        refine ht ?_
        unfold phs at hb2
        split at hb2
        · assumption
        · exact hb2
      · have hcase : (clo' A t a).testBit i = true ∨ ((clo' A t a).testBit t = true ∧ (clo' A t t).testBit i = true) := by
          unfold phs at hb2
          split at hb2
          · rename_i q
            rw [Nat.testBit_or] at hb2
            rcases Bool.or_eq_true_iff.mp hb2 with z | z
            · exact Or.inl z
            · exact Or.inr ⟨q, z⟩
          · exact Or.inl hb2
        rcases hcase with z | ⟨z1, z2⟩
        · have h1 := ih i a (by omega) z
          unfold phs
          by_cases e2 : (clo' A t i).testBit t = true
          · rw [if_pos e2]
            have e3 := sub_iff.mp h1 t e2
            rw [if_pos e3]
            exact sub_or (sub_trans h1 sub_or_l) sub_or_r
          · rw [if_neg e2]
            split
            · exact sub_trans h1 sub_or_l
            · exact h1
        · have h1 := ih i t (by omega) z2
          have h2 := ht z1
          unfold phs at h2 ⊢
          by_cases e2 : (clo' A t i).testBit t = true
          · rw [if_pos e2]
            exact sub_or (sub_trans h1 h2) h2
          · rw [if_neg e2]; exact sub_trans h1 h2
  have hmin : ∀ t, t ≤ 9 → ∀ s, DC N A s → ∀ a, a < N → sub (A a) s → sub (clo' A t a) s := by
    intro t
    induction t with
    | zero => intro _ s _ a _ h; exact h
    | succ t ih =>
      intro ht9 s hd a ha hs
      show sub (phs (clo' A t) t a) s
      have h1 := ih (by omega) s hd a ha hs
      unfold phs
      split
      · rename_i q
        have hts := sub_iff.mp h1 t q
        by_cases htN : t < N
        · exact sub_or h1 (ih (by omega) s hd t htN (hd t htN hts))
        · exact absurd (bit_lt (clo_lt h t (by omega) a (by omega)) q) htN
      · exact h1
  exact ⟨fun a ha => ⟨h a (by omega), clo_lt h 9 (Nat.le_refl _) a (by omega)⟩, fun a ha => hsub 9 a, fun a i ha hb => htr 9 i a (by have := bit_lt (clo_lt h 9 (Nat.le_refl _) a (by omega)) hb; omega) hb, fun s a ha hd hs => hmin 9 (Nat.le_refl _) s hd a ha hs⟩
end YRS
