/-! PURE LAWS 23: span -/
def bestL (A L : Nat → Nat) : Nat → Nat
  | 0 => 0
  | i + 1 => if L (bestL A L i) * A i < L i * A (bestL A L i) then i else bestL A L i
def bestU (A U : Nat → Nat) : Nat → Nat
  | 0 => 0
  | i + 1 => if U i * A (bestU A U i) < U (bestU A U i) * A i then i else bestU A U i
theorem bestL_1 (A L : Nat → Nat) : bestL A L 1 = 0 := by
  show (if L 0 * A 0 < L 0 * A 0 then 0 else 0) = 0
  split <;> rfl
theorem bestU_1 (A L : Nat → Nat) : bestU A L 1 = 0 := by
  show (if L 0 * A 0 < L 0 * A 0 then 0 else 0) = 0
  split <;> rfl
theorem bestL_le (A L : Nat → Nat) : ∀ i, bestL A L (i + 1) ≤ i
  | 0 => by rw [bestL_1]; exact Nat.le_refl _
  | i + 1 => by
    have := bestL_le A L i
    show (if L (bestL A L (i + 1)) * A (i + 1) < L (i + 1) * A (bestL A L (i + 1)) then i + 1 else bestL A L (i + 1)) ≤ i + 1
    split <;> omega
theorem bestU_le (A L : Nat → Nat) : ∀ i, bestU A L (i + 1) ≤ i
  | 0 => by rw [bestU_1]; exact Nat.le_refl _
  | i + 1 => by
    have := bestU_le A L i
    show (if L (i + 1) * A (bestU A L (i + 1)) < L (bestU A L (i + 1)) * A (i + 1) then i + 1 else bestU A L (i + 1)) ≤ i + 1
    split <;> omega
section SPA
variable {tc : Nat → Nat → Int32} {tr : Nat → Int32} {nar nam : Int32} {st : Nat → Int32}
def StoF (st : Nat → Int32) (nS : Nat) (A B E : Nat → Nat) : Prop := ∀ k, k < nS → 1 ≤ A k ∧ A k ≤ 10000 ∧ 1 ≤ B k ∧ B k ≤ 10000 ∧ E k < B k ∧ st (1597 + 3 * k) = nI (A k) ∧ st (1597 + 3 * k + 1) = nI (B k) ∧ st (1597 + 3 * k + 2) = nI (E k)
theorem sto_fun {nS : Nat} {cells : Nat → Int32} {rows : Int32} (R : rT 12 3 3 1597 6 qSto cells rows st nS) : ∃ A B E, StoF st nS A B E := by
  refine ⟨fun k => (st (1597 + 3 * k)).toNatClampNeg, fun k => (st (1597 + 3 * k + 1)).toNatClampNeg, fun k => (st (1597 + 3 * k + 2)).toNatClampNeg, fun k hk => ?_⟩
  obtain ⟨a, b, e, h1, h2, h3, h4, h5, h6, h7, h8⟩ := R.2.2 k hk
  rw [rowf_at (by decide)] at h6 h7 h8
  rw [Nat.add_zero] at h6
  dsimp only
  rw [h6, h7, h8, nI_clamp (by omega), nI_clamp (by omega), nI_clamp (by omega)]
  exact ⟨h1, h2, h3, h4, h5, rfl, rfl, rfl⟩
theorem C_sto {nS k j : Nat} {cells : Nat → Int32} {rows : Int32} (R : rT 12 3 3 1597 6 qSto cells rows st nS) (hk : k < nS) (hj : j < 3) : F_X8_get 36 cells rows 3 (nI k) (nI j) = some (st (1597 + 3 * k + j)) := by
  obtain ⟨⟨r1, r2, r3⟩, rT, -⟩ := R
  rw [r2]
  exact (C_get (len := 36) (wd := 3) hk hj (by omega) (by decide) (by omega) (by decide)).trans (congrArg some (rT k j hk hj))
variable {nS : Nat} {cells : Nat → Int32} {rows : Int32} {A B E : Nat → Nat}
theorem C_lower (R : rT 12 3 3 1597 6 qSto cells rows st nS) (F : StoF st nS A B E) {k : Nat} (hk : k < nS) : F_X9_lowerOf cells rows (nI k) = some (lN (B k - E k)) := by
  obtain ⟨h1, h2, h3, h4, h5, h6, h7, h8⟩ := F k hk
  unfold F_X9_lowerOf
  have e1 := C_sto (j := 1) R hk (by decide); rw [h7] at e1
  have e2 := C_sto (j := 2) R hk (by decide); rw [h8] at e2
  refine sbind e1 (sbind e2 ?_)
  rw [pk_sub (by omega), nI_l (by omega)]
theorem C_upper (R : rT 12 3 3 1597 6 qSto cells rows st nS) (F : StoF st nS A B E) {k : Nat} (hk : k < nS) : F_X9_upperOf cells rows (nI k) = some (lN (B k + E k)) := by
  obtain ⟨h1, h2, h3, h4, h5, h6, h7, h8⟩ := F k hk
  unfold F_X9_upperOf
  have e1 := C_sto (j := 1) R hk (by decide); rw [h7] at e1
  have e2 := C_sto (j := 2) R hk (by decide); rw [h8] at e2
  refine sbind e1 (sbind e2 ?_)
  rw [nI_add, nI_l (by omega)]
theorem mulb {x y : Nat} (hx : x ≤ 20000) (hy : y ≤ 10000) : x * y ≤ 200000000 := Nat.mul_le_mul hx hy
theorem C_above (R : rT 12 3 3 1597 6 qSto cells rows st nS) (F : StoF st nS A B E) {k l x y : Nat} (hk : k < nS) (hl : l < nS) (hx : x ≤ 20000) (hy : y ≤ 20000) : F_X9_isAbove cells rows (lN x) (nI k) (lN y) (nI l) = some (if y * A k < x * A l then 1 else 0) := by
  obtain ⟨h1, h2, h3, h4, h5, h6, h7, h8⟩ := F k hk
  obtain ⟨g1, g2, g3, g4, g5, g6, g7, g8⟩ := F l hl
  unfold F_X9_isAbove
  have e1 := C_sto (j := 0) R hk (by decide); rw [Nat.add_zero, h6] at e1
  have e2 := C_sto (j := 0) R hl (by decide); rw [Nat.add_zero, g6] at e2
  refine sbind e2 (sbind e1 ?_)
  have b1 := mulb hx g2
  have b2 := mulb hy h2
  rw [nI_l (by omega), nI_l (by omega), lN_mul, lN_mul]
  by_cases h : y * A k < x * A l
  · rw [if_pos h]
    refine sbind (x := (1 : Int32)) (by rw [if_pos ((pk_lLT (by omega) (by omega)).mpr h)]) (sbind bZ_1 rfl)
  · rw [if_neg h]
    refine sbind (x := (0 : Int32)) (by rw [if_neg (lN_nlt (by omega) (by omega))]) (sbind bZ_0 rfl)
theorem C_hl (R : rT 12 3 3 1597 6 qSto cells rows st nS) (F : StoF st nS A B E) : F_X9_highestLower cells rows = some (nI (bestL A (fun k => B k - E k) (1 + (nS - 1)))) := by
  obtain ⟨r1, r2, r3⟩ := id R.1
  unfold F_X9_highestLower
  refine sbind (itr_cnt' (fun j => (nI (bestL A (fun k => B k - E k) (1 + j)), nI (1 + j))) _ (nI (bestL A (fun k => B k - E k) (1 + (nS - 1))), nI (1 + (nS - 1))) (nS - 1) (by show _ = (nI (bestL A (fun k => B k - E k) 1), nI 1); rw [bestL_1]; rfl) (fun j hj => ?_) ?_ (by omega)) rfl
  · have hb := bestL_le A (fun k => B k - E k) j
    rw [Nat.add_comm j 1] at hb
    have hb2 : bestL A (fun k => B k - E k) (1 + j) < nS := by omega
    unfold B_X9_highestLower_4
    dsimp only
    rw [r2, if_pos (nI_lt (by omega) (by omega)), ← r2]
    obtain ⟨h1, h2, h3, h4, h5, h6, h7, h8⟩ := F (1 + j) (by omega)
    obtain ⟨g1, g2, g3, g4, g5, g6, g7, g8⟩ := F _ hb2
    refine sbind (C_lower R F (by omega)) (sbind (C_lower R F hb2) (sbind (C_above R F (by omega) hb2 (by omega) (by omega)) ?_))
    have hn : bestL A (fun k => B k - E k) (1 + (j + 1)) = if (B (bestL A (fun k => B k - E k) (1 + j)) - E (bestL A (fun k => B k - E k) (1 + j))) * A (1 + j) < (B (1 + j) - E (1 + j)) * A (bestL A (fun k => B k - E k) (1 + j)) then 1 + j else bestL A (fun k => B k - E k) (1 + j) := rfl
    rw [hn]
    by_cases h : (B (bestL A (fun k => B k - E k) (1 + j)) - E (bestL A (fun k => B k - E k) (1 + j))) * A (1 + j) < (B (1 + j) - E (1 + j)) * A (bestL A (fun k => B k - E k) (1 + j))
    · rw [if_pos h, if_pos h, if_neg (by decide)]
      refine sbind rfl ?_
      rw [lt_eq, nI_1]; rfl
    · rw [if_neg h, if_neg h, if_pos rfl]
      refine sbind rfl ?_
      rw [lt_eq, nI_1]; rfl
  · unfold B_X9_highestLower_4
    dsimp only
    rw [r2, if_neg (nI_nlt (by omega) (by omega))]
theorem C_lu (R : rT 12 3 3 1597 6 qSto cells rows st nS) (F : StoF st nS A B E) : F_X9_lowestUpper cells rows = some (nI (bestU A (fun k => B k + E k) (1 + (nS - 1)))) := by
  obtain ⟨r1, r2, r3⟩ := id R.1
  unfold F_X9_lowestUpper
  refine sbind (itr_cnt' (fun j => (nI (bestU A (fun k => B k + E k) (1 + j)), nI (1 + j))) _ (nI (bestU A (fun k => B k + E k) (1 + (nS - 1))), nI (1 + (nS - 1))) (nS - 1) (by show _ = (nI (bestU A (fun k => B k + E k) 1), nI 1); rw [bestU_1]; rfl) (fun j hj => ?_) ?_ (by omega)) rfl
  · have hb := bestU_le A (fun k => B k + E k) j
    rw [Nat.add_comm j 1] at hb
    have hb2 : bestU A (fun k => B k + E k) (1 + j) < nS := by omega
    unfold B_X9_lowestUpper_4
    dsimp only
    rw [r2, if_pos (nI_lt (by omega) (by omega)), ← r2]
    obtain ⟨h1, h2, h3, h4, h5, h6, h7, h8⟩ := F (1 + j) (by omega)
    obtain ⟨g1, g2, g3, g4, g5, g6, g7, g8⟩ := F _ hb2
    refine sbind (C_upper R F hb2) (sbind (C_upper R F (by omega)) (sbind (C_above R F hb2 (by omega) (by omega) (by omega)) ?_))
    have hn : bestU A (fun k => B k + E k) (1 + (j + 1)) = if (B (1 + j) + E (1 + j)) * A (bestU A (fun k => B k + E k) (1 + j)) < (B (bestU A (fun k => B k + E k) (1 + j)) + E (bestU A (fun k => B k + E k) (1 + j))) * A (1 + j) then 1 + j else bestU A (fun k => B k + E k) (1 + j) := rfl
    rw [hn]
    by_cases h : (B (1 + j) + E (1 + j)) * A (bestU A (fun k => B k + E k) (1 + j)) < (B (bestU A (fun k => B k + E k) (1 + j)) + E (bestU A (fun k => B k + E k) (1 + j))) * A (1 + j)
    · rw [if_pos h, if_pos h, if_neg (by decide)]
      refine sbind rfl ?_
      rw [lt_eq, nI_1]; rfl
    · rw [if_neg h, if_neg h, if_pos rfl]
      refine sbind rfl ?_
      rw [lt_eq, nI_1]; rfl
  · unfold B_X9_lowestUpper_4
    dsimp only
    rw [r2, if_neg (nI_nlt (by omega) (by omega))]
theorem mul3 {x u v : Nat} (hx : x ≤ 1000000) (hu : u ≤ 20000) (hv : v ≤ 10000) : x * u * v ≤ 200000000000000 := Nat.mul_le_mul (Nat.mul_le_mul hx hu) hv
theorem mul2 {x u : Nat} (hx : x ≤ 1000000) (hu : u ≤ 20000) : x * u ≤ 20000000000 := Nat.mul_le_mul hx hu
theorem mlt {x p q : Nat} (hx : 1 ≤ x) : x * p < x * q ↔ p < q := Nat.mul_lt_mul_left (by omega)
def spaSt (A B E : Nat → Nat) (x i : Nat) : Int64 × Int64 × Int64 × Int64 × Int32 := if i = 0 then (0, 1, 1, 0, 0) else (lN (x * (B (bestL A (fun k => B k - E k) i) - E (bestL A (fun k => B k - E k) i))), lN (A (bestL A (fun k => B k - E k) i)), lN (x * (B (bestU A (fun k => B k + E k) i) + E (bestU A (fun k => B k + E k) i))), lN (A (bestU A (fun k => B k + E k) i)), nI i)
theorem M_span (R : rT 12 3 3 1597 6 qSto cells rows st nS) (F : StoF st nS A B E) {x : Nat} (h1 : 1 ≤ x) (h2 : x ≤ 1000000) : itr (B_X12_span_34 st (nI x)) FU ((0 : Int64), (1 : Int64), (1 : Int64), (0 : Int64), (0 : Int32)) = some (spaSt A B E x nS) := by
  obtain ⟨r1, r2, r3⟩ := id R.1
  refine itr_cnt' (spaSt A B E x) _ _ nS rfl (fun i hi => ?_) ?_ (by omega)
  · obtain ⟨f1, f2, f3, f4, f5, f6, f7, f8⟩ := F i hi
    have hi2 : (spaSt A B E x i).2.2.2.2 = nI i := by
      unfold spaSt
      by_cases e : i = 0
      · rw [if_pos e, e]; rfl
      · rw [if_neg e]
    have hlow : x * (B i - E i) = x * (B i - E i) := rfl
    have m1 := mul2 h2 (show B i - E i ≤ 20000 by omega)
    have m2 := mul2 h2 (show B i + E i ≤ 20000 by omega)
    have hpos : 0 < x * (B i - E i) := Nat.mul_pos (by omega) (by omega)
    unfold B_X12_span_34
    refine sbind (M_at (k := 6) (by decide)) ?_
    rw [hi2, r3, if_pos (nI_lt hi (by omega)), show (1597 : Int32) = nI 1597 from rfl, show (3 : Int32) = nI 3 from rfl, pk_mul, nI_add, lt_eq, show (1 : Int32) = nI 1 from rfl, show (2 : Int32) = nI 2 from rfl, nI_add, nI_add]
    refine sbind (M_at (by omega)) (sbind (M_at (by omega)) (sbind (M_at (by omega)) ?_))
    rw [f6, f7, f8, pk_sub (by omega), nI_l (show x < 2 ^ 31 by omega), nI_l (show B i - E i < 2 ^ 31 by omega), lN_mul, lt_eq]
    refine sbind (M_at (by omega)) (sbind (M_at (by omega)) ?_)
    rw [f7, f8, nI_add, nI_l (show B i + E i < 2 ^ 31 by omega), nI_l (show A i < 2 ^ 31 by omega), lN_mul, lt_eq]
    by_cases e : i = 0
    · subst e
      have s0 : spaSt A B E x 0 = (0, 1, 1, 0, 0) := rfl
      have s1 : spaSt A B E x (0 + 1) = (lN (x * (B 0 - E 0)), lN (A 0), lN (x * (B 0 + E 0)), lN (A 0), nI 1) := by
        unfold spaSt
        rw [if_neg (by omega), bestL_1, bestU_1]
      rw [s0, s1]
      dsimp only
      refine sbind (x := (lN (x * (B 0 - E 0)), lN (A 0))) ?_ (sbind (x := (lN (x * (B 0 + E 0)), lN (A 0))) ?_ ?_)
      · rw [if_pos]
        rw [show (0 : Int64) = lN 0 from rfl, show (1 : Int64) = lN 1 from rfl, lN_mul, lN_mul, pk_lLT (by omega) (by omega)]
        omega
      · rw [if_pos]
        rw [show (0 : Int64) = lN 0 from rfl, show (1 : Int64) = lN 1 from rfl, lN_mul, lN_mul, pk_lLT (by omega) (by omega)]
        omega
      · rw [lt_eq, nI_add]
    · have hb := bestL_le A (fun k => B k - E k) (i - 1)
      have hu := bestU_le A (fun k => B k + E k) (i - 1)
      rw [show i - 1 + 1 = i by omega] at hb hu
      obtain ⟨g1, g2, g3, g4, g5, g6, g7, g8⟩ := F (bestL A (fun k => B k - E k) i) (by omega)
      obtain ⟨k1, k2, k3, k4, k5, k6, k7, k8⟩ := F (bestU A (fun k => B k + E k) i) (by omega)
      have s0 : spaSt A B E x i = (lN (x * (B (bestL A (fun k => B k - E k) i) - E (bestL A (fun k => B k - E k) i))), lN (A (bestL A (fun k => B k - E k) i)), lN (x * (B (bestU A (fun k => B k + E k) i) + E (bestU A (fun k => B k + E k) i))), lN (A (bestU A (fun k => B k + E k) i)), nI i) := by unfold spaSt; rw [if_neg e]
      have s1 : spaSt A B E x (i + 1) = (lN (x * (B (bestL A (fun k => B k - E k) (i + 1)) - E (bestL A (fun k => B k - E k) (i + 1)))), lN (A (bestL A (fun k => B k - E k) (i + 1))), lN (x * (B (bestU A (fun k => B k + E k) (i + 1)) + E (bestU A (fun k => B k + E k) (i + 1)))), lN (A (bestU A (fun k => B k + E k) (i + 1))), nI (i + 1)) := by unfold spaSt; rw [if_neg (by omega)]
      have nl : bestL A (fun k => B k - E k) (i + 1) = if (B (bestL A (fun k => B k - E k) i) - E (bestL A (fun k => B k - E k) i)) * A i < (B i - E i) * A (bestL A (fun k => B k - E k) i) then i else bestL A (fun k => B k - E k) i := rfl
      have nu : bestU A (fun k => B k + E k) (i + 1) = if (B i + E i) * A (bestU A (fun k => B k + E k) i) < (B (bestU A (fun k => B k + E k) i) + E (bestU A (fun k => B k + E k) i)) * A i then i else bestU A (fun k => B k + E k) i := rfl
      rw [s0, s1, nl, nu]
      generalize bestL A (fun k => B k - E k) i = p at *
      generalize bestU A (fun k => B k + E k) i = u at *
      dsimp only
      have c1 := mul3 h2 (show B p - E p ≤ 20000 by omega) f2
      have c2 := mul3 h2 (show B i - E i ≤ 20000 by omega) g2
      have c3 := mul3 h2 (show B i + E i ≤ 20000 by omega) k2
      have c4 := mul3 h2 (show B u + E u ≤ 20000 by omega) f2
      rw [lN_mul, lN_mul, lN_mul, lN_mul]
      refine sbind (x := if (B p - E p) * A i < (B i - E i) * A p then (lN (x * (B i - E i)), lN (A i)) else (lN (x * (B p - E p)), lN (A p))) ?_ (sbind (x := if (B i + E i) * A u < (B u + E u) * A i then (lN (x * (B i + E i)), lN (A i)) else (lN (x * (B u + E u)), lN (A u))) ?_ ?_)
      · by_cases q : (B p - E p) * A i < (B i - E i) * A p
        · rw [if_pos q, if_pos]
          rw [pk_lLT (by omega) (by omega), Nat.mul_assoc, Nat.mul_assoc, mlt h1]; exact q
        · rw [if_neg q, if_neg]
          rw [pk_lLT (by omega) (by omega), Nat.mul_assoc, Nat.mul_assoc, mlt h1]; exact q
      · by_cases q : (B i + E i) * A u < (B u + E u) * A i
        · rw [if_pos q, if_pos]
          rw [pk_lLT (by omega) (by omega), Nat.mul_assoc, Nat.mul_assoc, mlt h1]; exact q
        · rw [if_neg q, if_neg]
          rw [pk_lLT (by omega) (by omega), Nat.mul_assoc, Nat.mul_assoc, mlt h1]; exact q
      · rw [lt_eq, nI_add]
        by_cases q1 : (B p - E p) * A i < (B i - E i) * A p <;> by_cases q2 : (B i + E i) * A u < (B u + E u) * A i
        · rw [if_pos q1, if_pos q2, if_pos q1, if_pos q2]
        · rw [if_pos q1, if_neg q2, if_pos q1, if_neg q2]
        · rw [if_neg q1, if_pos q2, if_neg q1, if_pos q2]
        · rw [if_neg q1, if_neg q2, if_neg q1, if_neg q2]
  · have hi2 : (spaSt A B E x nS).2.2.2.2 = nI nS := by
      unfold spaSt
      by_cases e : nS = 0
      · rw [if_pos e, e]; rfl
      · rw [if_neg e]
    unfold B_X12_span_34
    refine sbind (M_at (k := 6) (by decide)) ?_
    rw [hi2, r3, if_neg (nI_nlt (Nat.le_refl _) (by omega)), ← hi2]
theorem P_span (h : Rel actK tc tr nar nam st) (ab be : Int64) (p0 p1 : Int32) : Two (F_X11_span ab be (tc 7) (tr 7) p0 p1) (F_X12_span ab be st p0 p1) (fun o1 o2 => o1 = o2) := by
  obtain ⟨n, a, b, R⟩ := h
  have RS := R.2.2.2.2.2.2.2.1
  obtain ⟨r1, r2, r3⟩ := id RS.1
  obtain ⟨A, B, E, F⟩ := sto_fun RS
  refine two_guard (c := inR p0 1 1000000) (C_out_t rfl rfl) (C_out_f rfl rfl) M_weight_t M_weight_f (fun _ => two_end rfl) (fun h0 => ?_)
  refine two_guard (c := inR p1 0 1) (C_out_t rfl rfl) (C_out_f rfl rfl) (M_in_t rfl rfl) (M_in_f rfl rfl) (fun _ => two_end rfl) (fun h1 => ?_)
  obtain ⟨x, x0, x1, x2, rfl⟩ := inR_natA (a := 1) (b := 1000000) h0
  have hhl := C_hl RS F
  have hlu := C_lu RS F
  refine two_r (M_span RS F x0 x1) (two_r (M_at (k := 6) (by decide)) ?_)
  rw [r3]
  by_cases hS : n 6 = 0
  · have hmeet : F_X9_stonesMeet (tc 7) (tr 7) = some 0 := by
      unfold F_X9_stonesMeet
      refine sbind hhl (sbind hlu (sbind (x := (0 : Int32)) (by rw [r2, hS]; rfl) (sbind bZ_0 rfl)))
    exact two_l hmeet (two_ifl rfl (two_ifr (by rw [hS]; rfl) (two_end rfl)))
  · rw [show 1 + (n 6 - 1) = n 6 by omega] at hhl hlu
    have hb := bestL_le A (fun k => B k - E k) (n 6 - 1)
    have hu := bestU_le A (fun k => B k + E k) (n 6 - 1)
    rw [show n 6 - 1 + 1 = n 6 by omega] at hb hu
    have s0 : spaSt A B E x (n 6) = (lN (x * (B (bestL A (fun k => B k - E k) (n 6)) - E (bestL A (fun k => B k - E k) (n 6)))), lN (A (bestL A (fun k => B k - E k) (n 6))), lN (x * (B (bestU A (fun k => B k + E k) (n 6)) + E (bestU A (fun k => B k + E k) (n 6)))), lN (A (bestU A (fun k => B k + E k) (n 6))), nI (n 6)) := by unfold spaSt; rw [if_neg hS]
    rw [s0]
    generalize bestL A (fun k => B k - E k) (n 6) = p at *
    generalize bestU A (fun k => B k + E k) (n 6) = u at *
    dsimp only
    obtain ⟨g1, g2, g3, g4, g5, g6, g7, g8⟩ := F p (by omega)
    obtain ⟨k1, k2, k3, k4, k5, k6, k7, k8⟩ := F u (by omega)
    have c1 := mul3 x1 (show B p - E p ≤ 20000 by omega) k2
    have c2 := mul3 x1 (show B u + E u ≤ 20000 by omega) g2
    have c3 := mul2 x1 (show B p - E p ≤ 20000 by omega)
    have c4 := mul2 x1 (show B u + E u ≤ 20000 by omega)
    have hmeet : F_X9_stonesMeet (tc 7) (tr 7) = some (if (B u + E u) * A p < (B p - E p) * A u then 0 else 1) := by
      unfold F_X9_stonesMeet
      refine sbind hhl (sbind hlu (sbind (x := if (B u + E u) * A p < (B p - E p) * A u then 0 else 1) ?_ ?_))
      · rw [r2, if_pos (ltL 0 0 rfl (by omega) (by omega)), ← r2]
        refine sbind (C_lower RS F (by omega)) (sbind (C_upper RS F (by omega)) (sbind (C_above RS F (by omega) (by omega) (by omega) (by omega)) ?_))
        by_cases q : (B u + E u) * A p < (B p - E p) * A u
        · rw [if_pos q, if_pos q, if_neg (by decide)]
        · rw [if_neg q, if_neg q, if_pos rfl]
      · split
        · exact sbind bZ_0 rfl
        · exact sbind bZ_1 rfl
    refine two_l hmeet (two_ifr' (neR 0 0 rfl (by omega) (by decide) hS) ?_)
    rw [lN_mul, lN_mul]
    by_cases q : (B u + E u) * A p < (B p - E p) * A u
    · refine two_ifl (by rw [if_pos q]) (two_ifr ?_ (two_end rfl))
      rw [pk_lLT (by omega) (by omega), Nat.mul_assoc, Nat.mul_assoc, mlt x0]; exact q
    · refine two_ifl' (by rw [if_neg q]; decide) (two_ifr' ?_ ?_)
      · rw [pk_lLT (by omega) (by omega), Nat.mul_assoc, Nat.mul_assoc, mlt x0]; exact q
      · obtain ⟨w, w1, w2, rfl⟩ := inR_nat (b := 1) h1
        have xp : 0 < x * (B p - E p) := Nat.mul_pos (by omega) (by omega)
        rcases (show w = 0 ∨ w = 1 by omega) with rfl | rfl
        · obtain ⟨y, z, e1, e2⟩ := P_fraction (X := x * (B p - E p)) (Y := A p) (by omega) (by omega) (Or.inl xp) ab be ab be
          have hA := C_sto (j := 0) RS (show p < n 6 by omega) (by decide); rw [Nat.add_zero, g6] at hA
          refine two_l (x := nI p) (by rw [if_pos (by rfl)]; exact sbind hhl rfl) (two_l (x := lN (B p - E p)) (by rw [if_pos (by rfl)]; exact sbind (C_lower RS F (by omega)) rfl) (two_l hA (two_l (by rw [nI_l (show x < 2 ^ 31 by omega), nI_l (show A p < 2 ^ 31 by omega), lN_mul]; exact e1) ?_)))
          exact two_r (by rw [if_pos (by rfl)]; exact sbind e2 rfl) (two_end rfl)
        · obtain ⟨y, z, e1, e2⟩ := P_fraction (X := x * (B u + E u)) (Y := A u) (by omega) (by omega) (Or.inr (by omega)) ab be ab be
          have hA := C_sto (j := 0) RS (show u < n 6 by omega) (by decide); rw [Nat.add_zero, k6] at hA
          refine two_l (x := nI u) (by rw [if_neg (by decide)]; exact sbind hlu rfl) (two_l (x := lN (B u + E u)) (by rw [if_neg (by decide)]; exact sbind (C_upper RS F (by omega)) rfl) (two_l hA (two_l (by rw [nI_l (show x < 2 ^ 31 by omega), nI_l (show A u < 2 ^ 31 by omega), lN_mul]; exact e1) ?_)))
          exact two_r (by rw [if_neg (by decide)]; exact sbind e2 rfl) (two_end rfl)
end SPA
