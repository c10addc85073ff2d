/-! PURE LAWS 39: letters -/
section LET
variable {tc : Nat → Nat → Int32} {tr : Nat → Int32} {nar nam : Int32} {st : Nat → Int32}
theorem let_at {nM nL i : Nat} {cells : Nat → Int32} {rows : Int32} (R : rT 30 5 5 1753 8 (qLet nM) cells rows st nL) (hi : i < nL) : ∃ a b s c : Nat, s ≤ 9999 ∧ c ≤ 9999 ∧ st (1753 + 5 * i) = nI a ∧ st (1753 + 5 * i + 1) = nI b ∧ st (1753 + 5 * i + 2) = nI s ∧ st (1753 + 5 * i + 3) = nI c ∧ (st (1753 + 5 * i + 4) = -1 ∨ ∃ t : Nat, t < 8 ∧ st (1753 + 5 * i + 4) = nI t) := by
  obtain ⟨a, b, s, c, h1, h2, h3, h4, h5, h6, h7, h8, h9, h10⟩ := R.2.2 i hi
  rw [rowf_at (by decide)] at h6 h7 h8 h9 h10
  exact ⟨a, b, s, c, by omega, h5, h6, h7, h8, h9, h10⟩
theorem C_let {nM nL k j : Nat} {cells : Nat → Int32} {rows : Int32} (R : rT 30 5 5 1753 8 (qLet nM) cells rows st nL) (hk : k < nL) (hj : j < 5) : F_X8_get 150 cells rows 5 (nI k) (nI j) = some (st (1753 + 5 * k + j)) := by
  obtain ⟨⟨r1, r2, r3⟩, rT, -⟩ := R
  rw [r2]
  exact (C_get (len := 150) (wd := 5) hk hj (by omega) (by decide) (by omega) (by decide)).trans (congrArg some (rT k j hk hj))
/-- told first in letter i by m, sent by the day -/
def knA (st : Nat → Int32) (m day : Int32) (i : Nat) : Nat := if st (1753 + 5 * i) = m then (if day < st (1753 + 5 * i + 2) then 0 else if st (1753 + 5 * i + 4) = -1 then 0 else 2 ^ (st (1753 + 5 * i + 4)).toNatClampNeg) else 0
/-- come to m in letter i by the day -/
def knB (st : Nat → Int32) (c : Nat → Nat) (m day : Int32) (i : Nat) : Nat := if st (1753 + 5 * i + 1) = m then (if day < st (1753 + 5 * i + 3) then 0 else c i) else 0
def kn (st : Nat → Int32) (c : Nat → Nat) (m day : Int32) : Nat → Nat
  | 0 => 0
  | i + 1 => (kn st c m day i ||| knA st m day i) ||| knB st c m day i
theorem C_knownTo {nM nL : Nat} {cells : Nat → Int32} {rows : Int32} (R : rT 30 5 5 1753 8 (qLet nM) cells rows st nL) {ca : Nat → Int32} {c : Nat → Nat} (hc : ∀ j, j < nL → ca j = nI (c j)) (m day : Int32) : F_X6_knownTo ca cells rows m day = some (nI (kn st c m day nL)) := by
  obtain ⟨r1, r2, r3⟩ := id R.1
  unfold F_X6_knownTo
  refine sbind (itr_cnt' (fun i => (nI (kn st c m day i), nI i)) _ (nI (kn st c m day nL), nI nL) nL rfl (fun i hi => ?_) ?_ (by omega)) rfl
  · obtain ⟨a, b, s, co, h1, h2, h3, h4, h5, h6, h7⟩ := let_at R hi
    have g0 := C_let (j := 0) R hi (by decide); rw [Nat.add_zero] at g0
    have g1 := C_let (j := 1) R hi (by decide)
    have g2 := C_let (j := 2) R hi (by decide)
    have g3 := C_let (j := 3) R hi (by decide)
    have g4 := C_let (j := 4) R hi (by decide)
    unfold B_X6_knownTo_5
    dsimp only
    rw [show (if nI i < rows then _ else _) = (if nI i < nI nL then _ else _) from by rw [← r2], if_pos (nI_lt hi (by omega))]
    refine sbind g0 (sbind (x := nI (kn st c m day i ||| knA st m day i)) ?_ (sbind g1 (sbind (x := nI (kn st c m day (i + 1))) ?_ (by rw [lt_eq, nI_1]))))
    · unfold knA
      by_cases e1 : st (1753 + 5 * i) = m
      · rw [if_pos e1, if_pos e1]
        refine sbind g2 ?_
        by_cases e2 : day < st (1753 + 5 * i + 2)
        · rw [if_pos e2, if_pos e2, Nat.or_zero]
        · rw [if_neg e2, if_neg e2]
          refine sbind g4 ?_
          rcases h7 with h7 | ⟨t, t1, h7⟩
          · rw [h7, if_pos rfl, if_pos rfl, Nat.or_zero]
            refine sbind rfl ?_
            rw [show (0 : Int32) = nI 0 from rfl, nI_or, Nat.or_zero, lt_eq]
          · have hne : ¬ nI t = -1 := fun e => by
              have := nI_toInt (n := t) (by omega)
              rw [e, show ((-1 : Int32)).toInt = -1 from rfl] at this; omega
            rw [h7, if_neg hne, if_neg hne, nI_clamp (by omega)]
            refine sbind (x := nI (2 ^ t)) (congrArg some (shl1 (by omega))) ?_
            rw [nI_or, lt_eq]
      · rw [if_neg e1, if_neg e1, Nat.or_zero]
    · show _ = some (nI ((kn st c m day i ||| knA st m day i) ||| knB st c m day i))
      unfold knB
      by_cases e1 : st (1753 + 5 * i + 1) = m
      · rw [if_pos e1, if_pos e1]
        refine sbind g3 ?_
        by_cases e2 : day < st (1753 + 5 * i + 3)
        · rw [if_pos e2, if_pos e2, Nat.or_zero]
        · rw [if_neg e2, if_neg e2]
          refine sbind (x := nI (c i)) ?_ (by rw [nI_or, lt_eq])
          unfold F_X6_carriedBy
          refine sbind (x := nI (c i)) ?_ rfl
          rw [if_neg (nI_pos (by omega)), if_pos (ltR 30 30 rfl (by omega) (by decide))]
          exact sbind (gI_at (by omega) (by decide)) (by rw [hc i hi])
      · rw [if_neg e1, if_neg e1, Nat.or_zero]
  · unfold B_X6_knownTo_5
    dsimp only
    rw [r2, if_neg (nI_nlt (Nat.le_refl _) (by omega))]
theorem M_known {nM nL : Nat} {cells : Nat → Int32} {rows : Int32} (R : rT 30 5 5 1753 8 (qLet nM) cells rows st nL) {ca : Nat → Int32} {c : Nat → Nat} (hc : ∀ j, j < nL → ca j = nI (c j)) (m day : Int32) : F_X12_known ca st m day = some (nI (kn st c m day nL)) := by
  obtain ⟨r1, r2, r3⟩ := id R.1
  unfold F_X12_known
  refine sbind (itr_cnt' (fun i => (nI (kn st c m day i), nI i)) _ (nI (kn st c m day nL), nI nL) nL rfl (fun i hi => ?_) ?_ (by omega)) rfl
  · obtain ⟨a, b, s, co, h1, h2, h3, h4, h5, h6, h7⟩ := let_at R hi
    unfold B_X12_known_5
    dsimp only
    refine sbind (M_at (k := 8) (by decide)) ?_
    rw [r3, if_pos (nI_lt hi (by omega)), show (1753 : Int32) = nI 1753 from rfl, show (5 : Int32) = nI 5 from rfl, pk_mul, nI_add, lt_eq, show (2 : Int32) = nI 2 from rfl, show (4 : Int32) = nI 4 from rfl, show (3 : Int32) = nI 3 from rfl, nI_add, nI_add, nI_add]
    refine sbind (M_at (by omega)) (sbind (x := nI (knA st m day i)) ?_ ?_)
    · unfold knA
      by_cases e1 : st (1753 + 5 * i) = m
      · rw [if_pos e1, if_pos e1]
        refine sbind (M_at (by omega)) ?_
        by_cases e2 : day < st (1753 + 5 * i + 2)
        · rw [if_pos e2, if_pos e2]; rfl
        · rw [if_neg e2, if_neg e2]
          refine sbind (M_at (by omega)) ?_
          rcases h7 with h7 | ⟨t, t1, h7⟩
          · rw [h7, if_pos rfl, if_pos rfl]; rfl
          · have hne : ¬ nI t = -1 := fun e => by
              have := nI_toInt (n := t) (by omega)
              rw [e, show ((-1 : Int32)).toInt = -1 from rfl] at this; omega
            rw [h7, if_neg hne, if_neg hne, nI_clamp (by omega)]
            refine sbind (M_at (by omega)) ?_
            rw [h7]
            exact congrArg some (shl1 (by omega))
      · rw [if_neg e1, if_neg e1]; rfl
    · rw [nI_or, lt_eq, nI_1]
      refine sbind (M_at (by omega)) (sbind (x := nI (knB st c m day i)) ?_ ?_)
      · unfold knB
        by_cases e1 : st (1753 + 5 * i + 1) = m
        · rw [if_pos e1, if_pos e1]
          refine sbind (M_at (by omega)) ?_
          by_cases e2 : day < st (1753 + 5 * i + 3)
          · rw [if_pos e2, if_pos e2]; rfl
          · rw [if_neg e2, if_neg e2]
            exact sbind (gI_at (by omega) (by decide)) (by rw [hc i hi])
        · rw [if_neg e1, if_neg e1]; rfl
      · rw [nI_or, lt_eq, lt_eq, nI_1]; rfl
  · unfold B_X12_known_5
    dsimp only
    refine sbind (M_at (k := 8) (by decide)) ?_
    rw [r3, if_neg (nI_nlt (Nat.le_refl _) (by omega))]
theorem or256 {x y : Nat} (hx : x < 256) (hy : y < 256) : x ||| y < 256 := Nat.or_lt_two_pow (n := 8) hx hy
theorem kn_lt {nM nL : Nat} {cells : Nat → Int32} {rows : Int32} (R : rT 30 5 5 1753 8 (qLet nM) cells rows st nL) {c : Nat → Nat} (hc : ∀ j, c j < 256) (m day : Int32) : ∀ i, i ≤ nL → kn st c m day i < 256 := by
  intro i
  induction i with
  | zero => intro _; exact (by decide : (0 : Nat) < 256)
  | succ i ih =>
    intro hi
    obtain ⟨a, b, s, co, -, -, -, -, -, -, h7⟩ := let_at R (show i < nL by omega)
    have h1 := ih (by omega)
    show (kn st c m day i ||| knA st m day i) ||| knB st c m day i < 256
    refine or256 (or256 h1 ?_) ?_
    · unfold knA
      rcases h7 with h7 | ⟨t, t1, h7⟩
      · rw [h7, if_pos rfl]; (repeat' split) <;> decide
      · rw [h7, nI_clamp (by omega)]
        have : 2 ^ t < 256 := Nat.pow_lt_pow_right (m := t) (n := 8) (by omega) t1
        (repeat' split) <;> omega
    · unfold knB
      have := hc i
      (repeat' split) <;> omega
theorem sub_or2 {x y x' y' : Nat} (h1 : sub x x') (h2 : sub y y') : sub (x ||| y) (x' ||| y') := sub_or (sub_trans h1 sub_or_l) (sub_trans h2 sub_or_r)
theorem sub_z (x : Nat) : sub 0 x := Nat.zero_and x
theorem kn_mono {c c' : Nat → Nat} (h : ∀ j, sub (c j) (c' j)) (m day : Int32) : ∀ i, sub (kn st c m day i) (kn st c' m day i)
  | 0 => sub_refl 0
  | i + 1 => by
    refine sub_or2 (sub_or2 (kn_mono h m day i) (sub_refl _)) ?_
    unfold knB
    split
    · split
      · exact sub_refl 0
      · exact h i
    · exact sub_refl 0
/-- how much is carried -/
def Mc (c : Nat → Nat) : Nat := sumN (fun j => pc (c j)) 30
theorem pc8_all : ((List.range 16).all fun a => (List.range 16).all fun b => decide (pc (16 * a + b) ≤ 8)) = true := by decide +kernel
theorem pc8 {s : Nat} (hs : s < 256) : pc s ≤ 8 := by
  have h1 := List.all_eq_true.mp pc8_all (s / 16) (List.mem_range.mpr (by omega))
  have h2 := List.all_eq_true.mp h1 (s % 16) (List.mem_range.mpr (by omega))
  rw [show 16 * (s / 16) + s % 16 = s by omega] at h2
  exact of_decide_eq_true h2
theorem Mc_le {c : Nat → Nat} (hc : ∀ j, c j < 256) : Mc c ≤ 240 := by
  have h := sumN_le (f := fun j => pc (c j)) (g := fun _ => 8) (n := 30) (fun i _ => pc8 (hc i))
  exact Nat.le_trans h (by decide)
theorem sub_ne {x y : Nat} (hy : y < 256) (h : sub x y) (hne : x ≠ y) : pc x < pc y := by
  by_cases he : ∃ b, y.testBit b = true ∧ x.testBit b = false
  · obtain ⟨b, b1, b2⟩ := he
    exact pc_lt h (by have := bit_lt (n := 8) hy b1; omega) b1 b2
  · exfalso
    apply hne
    apply Nat.eq_of_testBit_eq
    intro i
    cases hx : x.testBit i
    · cases hyi : y.testBit i
      · rfl
      · exact absurd ⟨i, hyi, hx⟩ he
    · exact (sub_iff.mp h i hx).symm
abbrev c1 (c : Nat → Nat) (l v : Nat) : Nat → Nat := fun j => if j = l then v else c j
theorem Mc_up {c : Nat → Nat} {l v : Nat} (hl : l < 30) (hv : v < 256) (h : sub (c l) v) : Mc c ≤ Mc (c1 c l v) ∧ (c l ≠ v → Mc c < Mc (c1 c l v)) := by
  have h1 := sumN_pt (f := fun j => pc (c1 c l v j)) (g := fun j => pc (c j)) (j := l) (n := 30) hl (fun i _ hne => by
    show pc (if i = l then v else c i) = pc (c i)
    rw [if_neg hne])
  have h2 : pc (c1 c l v l) = pc v := by show pc (if l = l then v else c l) = pc v; rw [if_pos rfl]
  rw [h2] at h1
  have h3 := pc_sub h
  unfold Mc
  refine ⟨by omega, fun hne => ?_⟩
  have h4 := sub_ne hv h hne
  omega
theorem c1_s {c : Nat → Nat} {l v : Nat} : c1 c l v l = v := if_pos rfl
theorem c1_n {c : Nat → Nat} {l v j : Nat} (h : j ≠ l) : c1 c l v j = c j := if_neg h
/-- each carries no more than its writer knows -/
def LInv (st : Nat → Int32) (nL : Nat) (c : Nat → Nat) : Prop := (∀ j, c j < 256) ∧ ∀ l, l < nL → sub (c l) (kn st c (st (1753 + 5 * l)) (st (1753 + 5 * l + 2)) nL)
theorem SWEEP {nM nL : Nat} {cells : Nat → Int32} {rows : Int32} (R : rT 30 5 5 1753 8 (qLet nM) cells rows st nL) {ca la : Nat → Int32} {c : Nat → Nat} (hC : ∀ j, j < nL → ca j = nI (c j)) (hM : ∀ j, j < nL → la j = nI (c j)) (hI : LInv st nL c) :
    Two (itr (B_X6_fill_27 rows cells) FU ((0 : Int32), (0 : Int32), ca)) (itr (B_X12_findLoads_31 st) FU ((0 : Int32), (0 : Int32), la)) (fun t1 t2 => t1.1 = t2.1 ∧ (t1.1 = 0 ∨ t1.1 = 1) ∧ ∃ c' : Nat → Nat, (∀ j, j < nL → t1.2.2 j = nI (c' j)) ∧ (∀ j, j < nL → t2.2.2 j = nI (c' j)) ∧ LInv st nL c' ∧ (t1.1 = 1 → Mc c < Mc c')) := by
  obtain ⟨r1, r2, r3⟩ := id R.1
  refine itr_two_fu
    (I := fun s1 s2 => ∃ l c', l ≤ nL ∧ s1.2.1 = nI l ∧ s2.2.1 = nI l ∧ s1.1 = s2.1 ∧ (s1.1 = 0 ∨ s1.1 = 1) ∧ (∀ j, j < nL → s1.2.2 j = nI (c' j)) ∧ (∀ j, j < nL → s2.2.2 j = nI (c' j)) ∧ LInv st nL c' ∧ Mc c ≤ Mc c' ∧ (s1.1 = 1 → Mc c < Mc c'))
    (μ := fun s1 => nL - s1.2.1.toNatClampNeg) _ _ _ ⟨0, c, by omega, rfl, rfl, rfl, Or.inl rfl, hC, hM, hI, Nat.le_refl _, fun h => absurd (show (0 : Int32) = 1 from h) (by decide)⟩ (by dsimp only; omega) ?_
  rintro ⟨g1, l1, f1⟩ ⟨g2, l2, f2⟩ ⟨l, c', hl, q1, q2, q3, q4, q5, q6, q7, q8, q9⟩
  dsimp only at q1 q2 q3 q4 q5 q6 q9
  subst q1; subst q2; subst q3
  unfold B_X6_fill_27 B_X12_findLoads_31
  dsimp only
  refine two_r (M_at (k := 8) (by decide)) ?_
  rw [r3]
  by_cases hlt : l < nL
  · have hv := kn_lt R q7.1 (st (1753 + 5 * l)) (st (1753 + 5 * l + 2)) nL (Nat.le_refl _)
    have hs := q7.2 l hlt
    refine two_ifl (by rw [r2]; exact nI_lt hlt (by omega)) (two_ifl (ltR 30 30 rfl (by omega) (by decide)) (two_ifr (nI_lt hlt (by omega)) ?_))
    have g0 := C_let (j := 0) R hlt (by decide); rw [Nat.add_zero] at g0
    have g2' := C_let (j := 2) R hlt (by decide)
    rw [show (1753 : Int32) = nI 1753 from rfl, show (5 : Int32) = nI 5 from rfl, show (2 : Int32) = nI 2 from rfl, pk_mul, nI_add, nI_add]
    refine two_l g0 (two_l g2' (two_l (C_knownTo R q5 _ _) (two_r (M_at (by omega)) (two_r (M_at (by omega)) (two_r (M_known R q6 _ _) ?_)))))
    obtain ⟨v, hv0⟩ : ∃ v, v = kn st c' (st (1753 + 5 * l)) (st (1753 + 5 * l + 2)) nL := ⟨_, rfl⟩
    rw [← hv0] at hv hs ⊢
    obtain ⟨u1, u2⟩ := Mc_up (c := c') (l := l) (v := v) (by omega) hv hs
    have hfl : ∃ x : Int32, (if g1 = 0 then (Option.bind (gI f1 30 (nI l)) fun t_10 => if nI v = t_10 then some (0 : Int32) else some (1 : Int32)) else some (1 : Int32)) = some x ∧ (if g1 = 0 then (Option.bind (gI f2 30 (nI l)) fun t_14 => if nI v = t_14 then some (0 : Int32) else some (1 : Int32)) else some (1 : Int32)) = some x ∧ (x = 0 ∨ x = 1) ∧ (x = 1 → Mc c < Mc (c1 c' l v)) := by
      have hcl := q7.1 l
      rcases q4 with rfl | rfl
      · have e1 : gI f1 30 (nI l) = some (nI (c' l)) := by rw [gI_at (by omega) (by decide), q5 l hlt]
        have e2 : gI f2 30 (nI l) = some (nI (c' l)) := by rw [gI_at (by omega) (by decide), q6 l hlt]
        by_cases e : nI v = nI (c' l)
        · exact ⟨0, by rw [if_pos rfl]; exact sbind e1 (by rw [if_pos e]), by rw [if_pos rfl]; exact sbind e2 (by rw [if_pos e]), Or.inl rfl, fun h => absurd h (by decide)⟩
        · refine ⟨1, by rw [if_pos rfl]; exact sbind e1 (by rw [if_neg e]), by rw [if_pos rfl]; exact sbind e2 (by rw [if_neg e]), Or.inr rfl, fun _ => ?_⟩
          have := u2 (fun q => e (by rw [q]))
          omega
      · refine ⟨1, by rw [if_neg (by decide)], by rw [if_neg (by decide)], Or.inr rfl, fun _ => ?_⟩
        have := q9 rfl
        omega
    obtain ⟨x, x1, x2, x3, x4⟩ := hfl
    refine two_l x1 (two_l (sI_at (by omega) (by decide)) (two_r x2 (two_r (sI_at (by omega) (by decide)) (two_lt (two_rt (two_end (Or.inl ⟨_, _, rfl, rfl, ⟨l + 1, c1 c' l v, by omega, nI_1 l, nI_1 l, rfl, x3, fun j hj => ?_, fun j hj => ?_, ?_, by omega, x4⟩, ?_⟩)))))))
    · dsimp only
      by_cases e : j = l
      · subst e; rw [pk_us, c1_s]
      · rw [pk_un e, c1_n e]; exact q5 j hj
    · dsimp only
      by_cases e : j = l
      · subst e; rw [pk_us, c1_s]
      · rw [pk_un e, c1_n e]; exact q6 j hj
    · have hmono : ∀ j, sub (c' j) (c1 c' l v j) := fun j => by
        show sub (c' j) (if j = l then v else c' j)
        by_cases e : j = l
        · subst e; rw [if_pos rfl]; exact hs
        · rw [if_neg e]; exact sub_refl _
      refine ⟨fun j => ?_, fun k hk => ?_⟩
      · show (if j = l then v else c' j) < 256
        split
        · exact hv
        · exact q7.1 j
      · show sub (if k = l then v else c' k) _
        by_cases e : k = l
        · subst e
          rw [if_pos rfl, hv0]
          exact kn_mono (fun j => by rw [← hv0]; exact hmono j) _ _ _
        · rw [if_neg e]
          exact sub_trans (q7.2 k hk) (kn_mono hmono _ _ _)
    · dsimp only
      rw [nI_1, nI_clamp (by omega), nI_clamp (by omega)]; omega
  · have e : l = nL := by omega
    subst e
    exact two_ifl' (by rw [r2]; exact nI_nlt (Nat.le_refl _) (by omega)) (two_ifr' (nI_nlt (Nat.le_refl _) (by omega)) (two_end (Or.inr ⟨_, _, rfl, rfl, rfl, q4, c', q5, q6, q7, q9⟩)))
theorem M_zero30 (f : Nat → Int32) : ∃ t, itr (B_X12_findLoads_2) FU ((0 : Int32), f) = some t ∧ ∀ k, k < 30 → t.2 k = 0 := by
  refine itr_fu (I := fun s => ∃ i, i ≤ 30 ∧ s.1 = nI i ∧ ∀ k, k < i → s.2 k = 0) (μ := fun s => 30 - s.1.toNatClampNeg) _ _ ⟨0, by omega, rfl, fun k hk => absurd hk (Nat.not_lt_zero _)⟩ (by dsimp only; omega) ?_
  rintro ⟨i', f⟩ ⟨i, hi, q1, q2⟩
  dsimp only at q1 q2
  subst q1
  unfold B_X12_findLoads_2
  dsimp only
  by_cases hlt : i < 30
  · left
    rw [if_pos (ltR 30 30 rfl hlt (by decide))]
    refine ⟨(nI (i + 1), upd f i 0), sbind (sI_at hlt (by decide)) (by rw [lt_eq, nI_1]), ⟨i + 1, by omega, rfl, fun k hk => ?_⟩, ?_⟩
    · dsimp only
      by_cases e : k = i
      · subst e; rw [pk_us]
      · rw [pk_un e]; exact q2 k (by omega)
    · dsimp only
      rw [nI_clamp (by omega), nI_clamp (by omega)]; omega
  · right
    have e : i = 30 := by omega
    subst e
    exact ⟨(nI 30, f), by rw [if_neg (by decide)], q2⟩
theorem FILL {nM nL : Nat} {cells : Nat → Int32} {rows : Int32} (R : rT 30 5 5 1753 8 (qLet nM) cells rows st nL) (ca la : Nat → Int32) : Two (F_X6_fill ca cells rows) (F_X12_findLoads la st) (fun f1 f2 => ∃ c : Nat → Nat, (∀ j, j < nL → f1 j = nI (c j)) ∧ (∀ j, j < nL → f2 j = nI (c j))) := by
  obtain ⟨r1, r2, r3⟩ := id R.1
  obtain ⟨t0, t1, t2⟩ := M_zero30 la
  unfold F_X6_fill F_X12_findLoads
  refine two_l (J_fillI (by decide)) (two_r t1 ?_)
  refine two_bind (P := fun u1 u2 => ∃ c : Nat → Nat, (∀ j, j < nL → u1.2.2 j = nI (c j)) ∧ (∀ j, j < nL → u2.2 j = nI (c j))) ?_ (fun x y h => two_end h)
  refine itr_two_fu
    (I := fun s1 s2 => ∃ r c, r ≤ 241 ∧ s1.2.1 = nI r ∧ s1.1 = s2.1 ∧ (s1.1 = 0 ∨ s1.1 = 1) ∧ (∀ j, j < nL → s1.2.2 j = nI (c j)) ∧ (∀ j, j < nL → s2.2 j = nI (c j)) ∧ LInv st nL c ∧ (s1.1 = 1 → r ≤ Mc c))
    (μ := fun s1 => 241 - s1.2.1.toNatClampNeg) _ _ _ ⟨0, fun _ => 0, by omega, rfl, rfl, Or.inr rfl, fun j hj => by show filI ca 30 0 j = _; unfold filI; rw [if_pos (by omega)]; rfl, fun j hj => t2 j (by omega), ⟨fun _ => (by decide : (0 : Nat) < 256), fun l hl => sub_z _⟩, fun _ => Nat.zero_le _⟩ (by dsimp only; omega) ?_
  rintro ⟨g1, r', f1⟩ ⟨g2, f2⟩ ⟨r, c, hr, q1, q2, q3, q4, q5, q6, q7⟩
  dsimp only at q1 q2 q3 q4 q5 q7
  subst q1; subst q2
  unfold B_X6_fill_12 B_X12_findLoads_23
  dsimp only
  rcases q3 with rfl | rfl
  · refine two_ifr rfl ?_
    by_cases hlt : r < 241
    · exact two_ifl (ltR 241 241 rfl hlt (by decide)) (two_ifl rfl (two_end (Or.inr ⟨_, _, rfl, rfl, c, q4, q5⟩)))
    · exact two_ifl' (nltR 241 241 rfl (by omega) (by omega)) (two_end (Or.inr ⟨_, _, rfl, rfl, c, q4, q5⟩))
  · have h1 := q7 rfl
    have h2 := Mc_le q6.1
    refine two_ifl (ltR 241 241 rfl (by omega) (by decide)) (two_ifl' (by decide) (two_ifr' (by decide) ?_))
    refine two_bind (SWEEP R q4 q5 q6) ?_
    rintro ⟨x1, x2, x3⟩ ⟨y1, y2, y3⟩ ⟨e1, e2, c', e3, e4, e5, e6⟩
    dsimp only at e1 e2 e3 e4 e6
    subst e1
    refine two_lt (two_end (Or.inl ⟨_, _, rfl, rfl, ⟨r + 1, c', by omega, nI_1 r, rfl, e2, e3, e4, e5, fun h => ?_⟩, ?_⟩))
    · have := e6 h
      omega
    · dsimp only
      rw [nI_1, nI_clamp (by omega), nI_clamp (by omega)]; omega
theorem P_knows (h : Rel actK tc tr nar nam st) (ca la : Nat → Int32) (p0 p1 p2 : Int32) : Two (F_X11_knows (tc 9) (tr 9) (tr 0) ca p0 p1 p2) (F_X12_knows la st p0 p1 p2) (fun o1 o2 => o1.1 = o2.1) := by
  obtain ⟨n, a, b, R⟩ := h
  obtain ⟨⟨m1, m2, m3⟩, -, -⟩ := id R.1
  have RL := R.2.2.2.2.2.2.2.2.2.1
  refine two_guard (c := inR p0 0 (((n 0 : Nat) : Int) - 1)) (fun z => by rw [m2]; exact C_noM_t (by omega) z) (fun z => by rw [m2]; exact C_noM_f (by omega) z) (M_is_t (c := 0) (by decide) m3 (by omega)) (M_is_f (c := 0) (by decide) m3 (by omega)) (fun _ => two_end rfl) (fun h0 => ?_)
  refine two_guard (c := inR p1 0 7) (C_out_t rfl rfl) (C_out_f rfl rfl) (M_in_t rfl rfl) (M_in_f rfl rfl) (fun _ => two_end rfl) (fun h1 => ?_)
  refine two_guard (c := inR p2 0 9999) (C_out_t rfl rfl) (C_out_f rfl rfl) (M_in_t rfl rfl) (M_in_f rfl rfl) (fun _ => two_end rfl) (fun h2 => ?_)
  refine two_bind (FILL RL ca la) ?_
  rintro f1 f2 ⟨c, c1, c2⟩
  exact two_l (C_knownTo RL c1 p0 p2) (two_r (M_known RL c2 p0 p2) (two_end rfl))
theorem P_carries (h : Rel actK tc tr nar nam st) (ca la : Nat → Int32) (p0 : Int32) : Two (F_X11_carries (tc 9) (tr 9) ca p0) (F_X12_carries la st p0) (fun o1 o2 => o1.1 = o2.1) := by
  obtain ⟨n, a, b, R⟩ := h
  have RL := R.2.2.2.2.2.2.2.2.2.1
  obtain ⟨l1, l2, l3⟩ := id RL.1
  refine two_guard (c := inR p0 0 (((n 8 : Nat) : Int) - 1)) (fun z => by rw [l2]; exact C_rows_t (by omega) z) (fun z => by rw [l2]; exact C_rows_f (by omega) z) (M_is_t (c := 8) (by decide) l3 (by omega)) (M_is_f (c := 8) (by decide) l3 (by omega)) (fun _ => two_end rfl) (fun h0 => ?_)
  obtain ⟨l, i1, i2, rfl⟩ := inR_row h0
  refine two_bind (FILL RL ca la) ?_
  rintro f1 f2 ⟨c, c1, c2⟩
  refine two_l (x := nI (c l)) ?_ (two_r (gI_at (by omega) (by decide)) (two_end (c2 l i1).symm))
  unfold F_X6_carriedBy
  refine sbind (x := nI (c l)) ?_ rfl
  rw [if_neg (nI_pos (by omega)), if_pos (ltR 30 30 rfl (by omega) (by decide))]
  exact sbind (gI_at (by omega) (by decide)) (by rw [c1 l i1])
end LET
