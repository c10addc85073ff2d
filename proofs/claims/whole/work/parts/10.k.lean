/-- two loops side by side -/
theorem itr_two {S1 S2 T1 T2 : Type} {f1 : S1 → Option (S1 ⊕ T1)} {f2 : S2 → Option (S2 ⊕ T2)} (I : S1 → S2 → Prop) (μ : S1 → Nat) (P : T1 → T2 → Prop)
    (step : ∀ s1 s2, I s1 s2 → Two (f1 s1) (f2 s2) (fun o1 o2 => (∃ a b, o1 = .inl a ∧ o2 = .inl b ∧ I a b ∧ μ a < μ s1) ∨ (∃ a b, o1 = .inr a ∧ o2 = .inr b ∧ P a b))) :
    ∀ (n : Nat) (s1 : S1) (s2 : S2), I s1 s2 → μ s1 < n → Two (itr f1 n s1) (itr f2 n s2) P := by
  intro n
  induction n with
  | zero => intro s1 s2 _ h; exact absurd h (Nat.not_lt_zero _)
  | succ n ih =>
    intro s1 s2 hI hm
    obtain ⟨o1, o2, h1, h2, h3⟩ := step s1 s2 hI
    rcases h3 with ⟨a, b, rfl, rfl, q1, q2⟩ | ⟨a, b, rfl, rfl, q⟩
    · rw [itr_in h1, itr_in h2]
      exact ih a b q1 (by omega)
    · exact ⟨a, b, itr_out h1, itr_out h2, q⟩
theorem itr_two_fu {S1 S2 T1 T2 : Type} {f1 : S1 → Option (S1 ⊕ T1)} {f2 : S2 → Option (S2 ⊕ T2)} (I : S1 → S2 → Prop) (μ : S1 → Nat) (P : T1 → T2 → Prop) (s1 : S1) (s2 : S2) (h0 : I s1 s2) (hm : μ s1 < 1000000000000)
    (step : ∀ s1 s2, I s1 s2 → Two (f1 s1) (f2 s2) (fun o1 o2 => (∃ a b, o1 = .inl a ∧ o2 = .inl b ∧ I a b ∧ μ a < μ s1) ∨ (∃ a b, o1 = .inr a ∧ o2 = .inr b ∧ P a b))) : Two (itr f1 FU s1) (itr f2 FU s2) P := itr_two I μ P step FU s1 s2 h0 hm
/-- what is done behind two that go alike -/
theorem two_bind {α β γ δ : Type} {a : Option γ} {b : Option δ} {K : γ → Option α} {L : δ → Option β} {P : γ → δ → Prop} {Q : α → β → Prop} (h : Two a b P) (k : ∀ x y, P x y → Two (K x) (L y) Q) : Two (Option.bind a K) (Option.bind b L) Q := by
  obtain ⟨x, y, h1, h2, h3⟩ := h
  exact two_l h1 (two_r h2 (k x y h3))
section OPS
variable {AK : (Nat → Int32) → (Nat → Int32) → Prop} {tc : Nat → Nat → Int32} {tr : Nat → Int32} {nar nam : Int32} {st : Nat → Int32}
theorem P_inForce {n : Nat} {cells : Nat → Int32} {rows : Int32} (R : rAct AK cells rows st n) (p0 p1 : Int32) : Two (F_X1_inForce cells rows p0 p1) (F_X12_inForce st p0 p1) (fun o1 o2 => o1 = o2 ∧ (o1 = -1 ∨ ∃ f : Nat, f < n ∧ o1 = nI f)) := by
  obtain ⟨⟨q1, q2, q3⟩, q4⟩ := R
  have hsort : ∀ i, i < n → cells (104 * i + 0) = st (244 + 53 * i) := fun i hi => by
    have h := (q4 i hi).1
    rw [rowf_at (by decide), rowf_at (by decide)] at h
    rw [show 104 * i + 0 = 0 + 104 * i + 0 by omega]; exact h
  have hfrom : ∀ i, i < n → cells (104 * i + 1) = st (244 + 53 * i + 1) := fun i hi => by
    have h := (q4 i hi).2.1
    rw [rowf_at (by decide), rowf_at (by decide)] at h
    rw [show 104 * i + 1 = 0 + 104 * i + 1 by omega]; exact h
  have hpos : ∀ i, i < n → inR (st (244 + 53 * i + 1)) 0 99 := fun i hi => by
    have h := (q4 i hi).2.2.1
    rw [rowf_at (by decide)] at h
    exact h
  unfold F_X1_inForce F_X12_inForce
  refine two_bind (P := fun t1 t2 => t1.1 = t2.1 ∧ (t1.1 = -1 ∨ ∃ f : Nat, f < n ∧ t1.1 = nI f)) ?_ (fun x y h => two_end h)
  refine itr_two_fu
    (I := fun s1 s2 => ∃ i, i ≤ n ∧ s1.2.2 = nI i ∧ s2.2 = nI i ∧ s2.1 = s1.1 ∧ ((s1.1 = -1 ∧ s1.2.1 = -1) ∨ ∃ f : Nat, f < i ∧ s1.1 = nI f ∧ s1.2.1 = st (244 + 53 * f + 1)))
    (μ := fun s1 => n - s1.2.2.toNatClampNeg) _ _ _ ⟨0, by omega, rfl, rfl, rfl, Or.inl ⟨rfl, rfl⟩⟩ (by dsimp only; omega) ?_
  rintro ⟨fo, la, ac⟩ ⟨be, ii⟩ ⟨i, hi, h1, h2, h3, hc⟩
  dsimp only at h1 h2 h3 hc
  subst h1; subst h2; subst h3
  unfold B_X1_inForce_8 B_X12_inForce_5
  refine two_r (M_at (k := 1) (by decide)) ?_
  rw [q3, q2]
  by_cases hlt : i < n
  · have hn31 : n < 2 ^ 31 := by omega
    refine two_ifl (nI_lt hlt hn31) (two_ifr (nI_lt hlt hn31) ?_)
    rw [show (244 : Int32) = nI 244 from rfl, show (53 : Int32) = nI 53 from rfl, pk_mul, nI_add]
    refine two_l (C_get (len := 1664) (wd := 104) (c := 1) hlt (by decide) (by omega) (by decide) (by omega) (by decide)) ?_
    refine two_l (C_get (len := 1664) (wd := 104) (c := 0) hlt (by decide) (by omega) (by decide) (by omega) (by decide)) ?_
    rw [hsort i hlt, hfrom i hlt]
    refine two_rt (two_r (M_at (by omega)) ?_)
    have hfr : gI st 1951 (nI (244 + 53 * i) + 1) = some (st (244 + 53 * i + 1)) := by
      rw [show (1 : Int32) = nI 1 from rfl, nI_add]; exact M_at (by omega)
    have hend : ∀ (fo' la' : Int32), ((fo' = -1 ∧ la' = -1) ∨ ∃ f : Nat, f < i + 1 ∧ fo' = nI f ∧ la' = st (244 + 53 * f + 1)) → Two (some (Sum.inl (fo', la', nI i + 1) : (Int32 × Int32 × Int32) ⊕ (Int32 × Int32 × Int32))) (some (Sum.inl (fo', nI i + 1) : (Int32 × Int32) ⊕ (Int32 × Int32))) (fun o1 o2 => (∃ a b, o1 = .inl a ∧ o2 = .inl b ∧ (∃ j, j ≤ n ∧ a.2.2 = nI j ∧ b.2 = nI j ∧ b.1 = a.1 ∧ ((a.1 = -1 ∧ a.2.1 = -1) ∨ ∃ f : Nat, f < j ∧ a.1 = nI f ∧ a.2.1 = st (244 + 53 * f + 1))) ∧ n - a.2.2.toNatClampNeg < n - (nI i).toNatClampNeg) ∨ (∃ a b, o1 = .inr a ∧ o2 = .inr b ∧ (a.1 = b.1 ∧ (a.1 = -1 ∨ ∃ f : Nat, f < n ∧ a.1 = nI f)))) := by
      intro fo' la' h
      refine two_end (Or.inl ⟨_, _, rfl, rfl, ⟨i + 1, by omega, nI_1 i, nI_1 i, rfl, h⟩, ?_⟩)
      dsimp only
      rw [nI_1, nI_clamp (by omega), nI_clamp (by omega)]; omega
    have hold : (be = -1 ∧ la = -1) ∨ ∃ f : Nat, f < i + 1 ∧ be = nI f ∧ la = st (244 + 53 * f + 1) := by
      rcases hc with h | ⟨f, a, b, c⟩
      · exact Or.inl h
      · exact Or.inr ⟨f, by omega, b, c⟩
    by_cases c1 : st (244 + 53 * i) = p0
    · rw [if_pos c1, if_pos c1]
      refine two_r (x := if p1 < st (244 + 53 * i + 1) then (0 : Int32) else 1) (by rw [hfr]; show (if _ then _ else _) = _; split <;> rfl) ?_
      by_cases c2 : p1 < st (244 + 53 * i + 1)
      · rw [if_pos c2, if_pos c2]
        refine two_l rfl (two_lt (two_r (x := be) (by rw [if_pos rfl]) (two_rt ?_)))
        exact hend be la hold
      · rw [if_neg c2, if_neg c2]
        rcases hc with ⟨rfl, rfl⟩ | ⟨f, f1, rfl, rfl⟩
        · have hnl : ¬ st (244 + 53 * i + 1) < -1 := by
            have := (hpos i hlt).1
            rw [Int32.lt_iff_toInt_lt, show ((-1 : Int32)).toInt = -1 from rfl]; omega
          rw [if_neg hnl]
          refine two_l rfl (two_lt (two_r (x := nI i) (by rw [if_neg (by decide), if_pos rfl]) (two_rt ?_)))
          exact hend _ _ (Or.inr ⟨i, by omega, rfl, rfl⟩)
        · have hne : ¬ nI f = -1 := by
            intro e
            have := nI_toInt (n := f) (by omega)
            rw [e, show ((-1 : Int32)).toInt = -1 from rfl] at this; omega
          have hfr2 : gI st 1951 (nI 244 + nI 53 * nI f + 1) = some (st (244 + 53 * f + 1)) := by
            rw [pk_mul, nI_add, show (1 : Int32) = nI 1 from rfl, nI_add]; exact M_at (by omega)
          by_cases c3 : st (244 + 53 * i + 1) < st (244 + 53 * f + 1)
          · rw [if_pos c3]
            refine two_l rfl (two_lt (two_r (x := nI f) (by rw [if_neg (by decide), if_neg hne]; exact sbind hfr (sbind hfr2 (by rw [if_pos c3]))) (two_rt ?_)))
            exact hend _ _ (Or.inr ⟨f, by omega, rfl, rfl⟩)
          · rw [if_neg c3]
            refine two_l rfl (two_lt (two_r (x := nI i) (by rw [if_neg (by decide), if_neg hne]; exact sbind hfr (sbind hfr2 (by rw [if_neg c3]))) (two_rt ?_)))
            exact hend _ _ (Or.inr ⟨i, by omega, rfl, rfl⟩)
    · rw [if_neg c1, if_neg c1]
      refine two_l rfl (two_lt (two_r (x := (0 : Int32)) rfl (two_r (x := be) (by rw [if_pos rfl]) (two_rt ?_))))
      exact hend be la hold
  · refine two_ifl' (nI_nlt (by omega) (by omega)) (two_ifr' (nI_nlt (by omega) (by omega)) (two_end (Or.inr ⟨_, _, rfl, rfl, rfl, ?_⟩)))
    rcases hc with ⟨h, -⟩ | ⟨f, a, b, -⟩
    · exact Or.inl h
    · exact Or.inr ⟨f, by omega, b⟩
end OPS
