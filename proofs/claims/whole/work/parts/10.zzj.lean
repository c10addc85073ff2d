/-! PURE LAWS 51: men, the model's way through all rows -/
def Rch {S T : Type} (f : S → Option (S ⊕ T)) (B : Nat) (s s' : S) : Prop := ∃ k, k ≤ B ∧ ∀ K, itr f (k + K) s = itr f K s'
theorem Rch_1 {S T : Type} {f : S → Option (S ⊕ T)} {s s' : S} (h : f s = some (.inl s')) : Rch f 1 s s' := ⟨1, Nat.le_refl _, fun K => by rw [Nat.add_comm]; exact itr_in h⟩
theorem Rch_t {S T : Type} {f : S → Option (S ⊕ T)} {A B : Nat} {s s' t : S} (h1 : Rch f A s s') (h2 : Rch f B s' t) : Rch f (A + B) s t := by
  obtain ⟨a, a1, a2⟩ := h1
  obtain ⟨b, b1, b2⟩ := h2
  refine ⟨a + b, by omega, fun K => ?_⟩
  rw [Nat.add_assoc, a2, b2]
theorem Rch_m {S T : Type} {f : S → Option (S ⊕ T)} {A B : Nat} {s s' : S} (h : Rch f A s s') (hAB : A ≤ B) : Rch f B s s' := by
  obtain ⟨a, a1, a2⟩ := h
  exact ⟨a, by omega, a2⟩
theorem Rch_FU {S T : Type} {f : S → Option (S ⊕ T)} {B : Nat} {s s' : S} {t : T} (h : Rch f B s s') (hB : B < 1000000000000) (hx : f s' = some (.inr t)) : itr f FU s = some t := by
  obtain ⟨k, k1, k2⟩ := h
  have e : FU = k + ((999999999999 - k) + 1) := by unfold FU; omega
  rw [e, k2]
  exact itr_out hx
section MEP
variable {st : Nat → Int32} {N : Nat} {cells : Nat → Int32} {rows : Int32}
theorem M_oneM (R : rT 10 3 3 1903 9 qMen cells rows st N) {i j : Nat} (hi : i < N) (hj : j < N) : F_X12_mayBeOne st (nI i) (nI j) = some (if oneM st N i j = true then 1 else 0) := by
  have hN : N ≤ 10 := R.1.1
  obtain ⟨a, a1, a2⟩ := menV_2 R i
  obtain ⟨b, b1, b2⟩ := menV_2 R j
  have ei : ∀ k, menV st N i k = st (1903 + 3 * i + k) := fun k => if_pos hi
  have ej : ∀ k, menV st N j k = st (1903 + 3 * j + k) := fun k => if_pos hj
  unfold F_X12_mayBeOne
  rw [show (1903 : Int32) = nI 1903 from rfl, show (3 : Int32) = nI 3 from rfl, pk_mul, pk_mul, nI_add, nI_add, lt_eq, lt_eq, show (1 : Int32) = nI 1 from rfl, show (2 : Int32) = nI 2 from rfl, nI_add, nI_add, nI_add, nI_add, M_at (k := 1903 + 3 * i) (by omega), M_at (k := 1903 + 3 * j) (by omega), M_at (k := 1903 + 3 * i + 1) (by omega), M_at (k := 1903 + 3 * j + 1) (by omega), M_at (k := 1903 + 3 * i + 2) (by omega), M_at (k := 1903 + 3 * j + 2) (by omega)]
  have g0 := agr_if (menV st N i 0) (menV st N j 0)
  have g1 := agr_if (menV st N i 1) (menV st N j 1)
  rw [ei 0, ej 0, Nat.add_zero, Nat.add_zero] at g0
  rw [ei 1, ej 1] at g1
  refine sbind rfl (sbind g0 (sbind rfl (sbind g1 (sbind (x := if oneM st N i j = true then 1 else 0) ?_ ?_))))
  · unfold oneM
    have ei0 : menV st N i 0 = st (1903 + 3 * i) := if_pos hi
    have ej0 : menV st N j 0 = st (1903 + 3 * j) := if_pos hj
    rw [ei0, ej0, ei 1, ej 1]
    by_cases h0 : agr (st (1903 + 3 * i)) (st (1903 + 3 * j)) = true
    · rw [if_pos h0, if_neg (by decide), h0, Bool.true_and]
      by_cases h1 : agr (st (1903 + 3 * i + 1)) (st (1903 + 3 * j + 1)) = true
      · rw [if_pos h1, if_neg (by decide), h1, Bool.true_and, a2, b2, nI_clamp (by omega), nI_clamp (by omega)]
        rw [ei 2] at a2
        rw [ej 2] at b2
        rw [a2, b2]
        refine sbind rfl (sbind rfl (sbind (near_M a1 b1) ?_))
        by_cases h2 : near a b = true
        · rw [if_pos h2, if_neg (by decide)]; rfl
        · rw [if_neg h2, if_pos rfl]
      · rw [if_neg h1, if_pos rfl, Bool.eq_false_iff.mpr h1]; rfl
    · rw [if_neg h0, if_pos rfl, Bool.eq_false_iff.mpr h0]; rfl
  · split
    · exact sbind bZ_1 rfl
    · exact sbind bZ_0 rfl
theorem M_follow (R : rT 10 3 3 1903 9 qMen cells rows st N) {i c : Nat} {r : Nat → Nat} {ld : Nat → Int32} (hi : i < N) (hc : c ≤ i) (hP : PV r i) (hl : ∀ k, k < i → ld k = nI (r k)) (hli : ld i = nI c) : F_X12_mayFollow ld st (nI i) = some (if okb (oneM st N) r i c = true then 1 else 0) := by
  have hN : N ≤ 10 := R.1.1
  have g1 : gI ld 10 (nI i) = some (nI c) := by rw [gI_at (by omega) (by decide), hli]
  unfold F_X12_mayFollow
  refine sbind g1 ?_
  by_cases e : c = i
  · subst e
    rw [if_pos rfl, if_pos (okb_iff.mpr (Or.inl rfl))]
  · have hci : c < i := by omega
    rw [if_neg (ne_nI (by omega) (by omega) e)]
    have hrc := (hP c hci).1
    refine sbind g1 (sbind (x := nI (r c)) (by rw [gI_at (by omega) (by decide), hl c hci]) (sbind g1 ?_))
    by_cases e2 : r c = c
    · rw [if_pos (by rw [e2])]
      have hlp : ∃ t, itr (B_X12_mayFollow_36 (nI i) ld st) FU (0 : Int32) = some t ∧ ((∃ y, t = .inl y ∧ ∀ j, j < i → r j = c → oneM st N i j = true) ∨ (t = .inr 0 ∧ ¬ ∀ j, j < i → r j = c → oneM st N i j = true)) := by
        refine itr_fu (I := fun s => ∃ j, j ≤ i ∧ s = nI j ∧ ∀ k, k < j → r k = c → oneM st N i k = true) (μ := fun s => i - s.toNatClampNeg) _ _ ⟨0, Nat.zero_le _, rfl, fun k h => absurd h (Nat.not_lt_zero _)⟩ (by omega) ?_
        rintro s ⟨j, q1, q2, q3⟩
        subst q2
        unfold B_X12_mayFollow_36
        by_cases h : j < i
        · have hrj := (hP j h).1
          rw [if_pos (nI_lt h (by omega))]
          by_cases e3 : r j = c
          · by_cases ho : oneM st N i j = true
            · left
              refine ⟨nI (j + 1), ?_, ⟨j + 1, h, rfl, fun k hk hr => ?_⟩, ?_⟩
              · refine sbind (gI_at (by omega) (by decide)) (sbind g1 ?_)
                rw [hl j h, if_pos (by rw [e3])]
                refine sbind (M_oneM R hi (by omega)) ?_
                rw [if_pos ho, if_neg (by decide), lt_eq, nI_1]
              · by_cases e4 : k = j
                · subst e4; exact ho
                · exact q3 k (by omega) hr
              · rw [nI_clamp (by omega), nI_clamp (by omega)]; omega
            · right
              refine ⟨.inr 0, ?_, Or.inr ⟨rfl, fun z => ho (z j h e3)⟩⟩
              refine sbind (gI_at (by omega) (by decide)) (sbind g1 ?_)
              rw [hl j h, if_pos (by rw [e3])]
              refine sbind (M_oneM R hi (by omega)) ?_
              rw [if_neg ho, if_pos rfl]
          · left
            refine ⟨nI (j + 1), ?_, ⟨j + 1, h, rfl, fun k hk hr => ?_⟩, ?_⟩
            · refine sbind (gI_at (by omega) (by decide)) (sbind g1 ?_)
              rw [hl j h, if_neg (ne_nI (by omega) (by omega) e3), lt_eq, nI_1]
            · by_cases e4 : k = j
              · subst e4; exact absurd hr e3
              · exact q3 k (by omega) hr
            · rw [nI_clamp (by omega), nI_clamp (by omega)]; omega
        · right
          have e3 : j = i := by omega
          subst e3
          exact ⟨.inl (nI j), by rw [if_neg (nI_nlt (Nat.le_refl _) (by omega))], Or.inl ⟨_, rfl, q3⟩⟩
      obtain ⟨t, t1, t2⟩ := hlp
      rcases t2 with ⟨y, rfl, h⟩ | ⟨rfl, h⟩
      · rw [if_pos (okb_iff.mpr (Or.inr ⟨e2, h⟩))]
        exact sbind t1 rfl
      · rw [if_neg (fun z => by
          rcases okb_iff.mp z with h2 | h2
          · exact e h2
          · exact h h2.2)]
        exact sbind t1 rfl
    · rw [if_neg (ne_nI (by omega) (by omega) e2), if_neg (fun z => by
        rcases okb_iff.mp z with h2 | h2
        · exact e h2
        · exact e2 h2.1)]
theorem M_cntM {g : Nat → Int32} {x : Nat → Nat} (hN : N ≤ 10) (hx : ∀ k, k < N → g k = nI (x k)) (hb : ∀ k, k < N → x k < 2 ^ 31) : ∃ t, itr (B_X12_findMen_99 (nI N) g) FU ((0 : Int32), (0 : Int32)) = some t ∧ t.1 = nI (nwc x 0 N) := by
  refine itr_fu (I := fun s => ∃ j q, j ≤ N ∧ s.2 = nI j ∧ s.1 = nI q ∧ q + nwc x j (N - j) = nwc x 0 N) (μ := fun s => N - s.2.toNatClampNeg) _ _ ⟨0, 0, Nat.zero_le _, rfl, rfl, Nat.zero_add _⟩ (by dsimp only; omega) ?_
  rintro ⟨q', j'⟩ ⟨j, q, q1, q2, q3, q4⟩
  dsimp only at q2 q3
  subst q2 q3
  unfold B_X12_findMen_99
  dsimp only
  by_cases h : j < N
  · left
    rw [show N - j = (N - (j + 1)) + 1 by omega, nwc_s] at q4
    refine ⟨(nI (q + (if x j = j then 1 else 0)), nI (j + 1)), ?_, ⟨j + 1, _, h, rfl, rfl, by omega⟩, ?_⟩
    · rw [if_pos (nI_lt h (by omega))]
      refine sbind (gI_at (by omega) (by decide)) ?_
      rw [hx j h]
      refine sbind (x := nI (if x j = j then 1 else 0)) ?_ (by rw [nI_add, lt_eq, nI_1, lt_eq])
      by_cases e : x j = j
      · rw [if_pos (by rw [e]), if_pos e]; rfl
      · rw [if_neg (ne_nI (hb j h) (by omega) e), if_neg e]; rfl
    · dsimp only
      rw [nI_clamp (by omega), nI_clamp (by omega)]; omega
  · right
    have e : j = N := by omega
    subst e
    rw [Nat.sub_self] at q4
    exact ⟨_, by rw [if_neg (nI_nlt (Nat.le_refl _) (by omega))], congrArg nI q4⟩
theorem M_cpyM {g bl : Nat → Int32} (hN : N ≤ 10) : ∃ t, itr (B_X12_findMen_150 (nI N) g) FU ((0 : Int32), bl) = some t ∧ ∀ k, k < N → t.2 k = g k := by
  refine itr_fu (I := fun s => ∃ j, j ≤ N ∧ s.1 = nI j ∧ ∀ k, k < j → s.2 k = g k) (μ := fun s => N - s.1.toNatClampNeg) _ _ ⟨0, Nat.zero_le _, rfl, fun k h => absurd h (Nat.not_lt_zero _)⟩ (by dsimp only; omega) ?_
  rintro ⟨j', f⟩ ⟨j, q1, q2, q3⟩
  dsimp only at q2 q3
  subst q2
  unfold B_X12_findMen_150
  dsimp only
  by_cases h : j < N
  · left
    refine ⟨(nI (j + 1), upd f j (g j)), ?_, ⟨j + 1, h, rfl, fun k hk => ?_⟩, ?_⟩
    · rw [if_pos (nI_lt h (by omega))]
      exact sbind (gI_at (by omega) (by decide)) (sbind (sI_at (by omega) (by decide)) (by rw [lt_eq, nI_1]))
    · dsimp only
      by_cases e : k = j
      · subst e; rw [pk_us]
      · rw [pk_un e]; exact q3 k (by omega)
    · dsimp only
      rw [nI_clamp (by omega), nI_clamp (by omega)]; omega
  · right
    have e : j = N := by omega
    subst e
    exact ⟨_, by rw [if_neg (nI_nlt (Nat.le_refl _) (by omega))], q3⟩
end MEP
