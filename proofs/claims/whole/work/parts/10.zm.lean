/-! PURE LAWS 28: rings, as the model finds them -/
section MRI
variable {O : Nat → Nat → Prop} {owes : Nat → Int32}
def OwI (O : Nat → Nat → Prop) (owes : Nat → Int32) : Prop := ∀ x y, x < 10 → y < 10 → is01 (owes (10 * x + y)) (O x y)
def CanI (O : Nat → Nat → Prop) (f k : Nat) (can : Nat → Int32) : Prop := ∀ j b, 1 ≤ j → j < k → f ≤ b → b < 10 → is01 (can (10 * j + b)) (Wk O f j b)
def EndI (O : Nat → Nat → Prop) (f k c : Nat) : Prop := (k = 1 ∧ c = f) ∨ (2 ≤ k ∧ f < c ∧ Wk O f (k - 1) c)
theorem EndI_all {f k a : Nat} (hf : f < 10) (hk : 1 ≤ k) : (∃ c, f ≤ c ∧ c < 10 ∧ EndI O f k c ∧ O a c) ↔ Wk O f k a := by
  constructor
  · rintro ⟨c, h1, h2, ⟨e1, e2⟩ | ⟨e1, e2, e3⟩, h4⟩
    · subst e1; subst e2; exact h4
    · have := Wk_step (show 1 ≤ k - 1 by omega) e2 h2 e3 h4
      rw [show k - 1 + 1 = k by omega] at this
      exact this
  · intro h
    by_cases e : k = 1
    · subst e
      exact ⟨f, Nat.le_refl _, hf, Or.inl ⟨rfl, rfl⟩, h⟩
    · rw [show k = k - 1 + 1 by omega] at h
      obtain ⟨b, h1, h2, h3, h4⟩ := Wk_inv (by omega) h
      exact ⟨b, by omega, h2, Or.inr ⟨by omega, h1, h3⟩, h4⟩
theorem M_can1 (HO : OwI O owes) {f k a : Nat} {z can : Nat → Int32} (hf : f < 10) (ha : a < 10) (hk : 1 ≤ k) (hk2 : k ≤ 10) (HC : CanI O f k can) : ∃ t, itr (B_X12_findCan_23 (nI k, z) (nI f) (nI a, can) owes) FU ((0 : Int32), nI f) = some t ∧ is01 t.1 (Wk O f k a) := by
  refine itr_fu (I := fun s => ∃ b, f ≤ b ∧ b ≤ 10 ∧ s.2 = nI b ∧ is01 s.1 (∃ c, f ≤ c ∧ c < b ∧ EndI O f k c ∧ O a c)) (μ := fun s => 10 - s.2.toNatClampNeg) _ _ ⟨f, Nat.le_refl _, by omega, rfl, Or.inr ⟨rfl, fun ⟨c, h1, h2, _⟩ => by omega⟩⟩ (by dsimp only; omega) ?_
  rintro ⟨x, i⟩ ⟨b, b1, b2, q1, q2⟩
  dsimp only at q1 q2
  subst q1
  unfold B_X12_findCan_23
  dsimp only
  by_cases hlt : b < 10
  · left
    rw [if_pos (ltR 10 10 rfl hlt (by decide))]
    have h7 : ∃ y : Int32, (if nI k = (1 : Int32) then (if nI b = nI f then some (1 : Int32) else some (0 : Int32)) else (if nI f < nI b then (Option.bind (gI can 110 (((10 : Int32) * (nI k - (1 : Int32))) + nI b)) fun t_8 => if t_8 = 0 then some (0 : Int32) else some (1 : Int32)) else some (0 : Int32))) = some y ∧ is01 y (EndI O f k b) := by
      by_cases e : k = 1
      · rw [if_pos (by rw [e]; rfl)]
        by_cases e2 : b = f
        · exact ⟨1, by rw [if_pos (by rw [e2])], Or.inl ⟨rfl, Or.inl ⟨e, e2⟩⟩⟩
        · exact ⟨0, by rw [if_neg (ne_nI (by omega) (by omega) e2)], Or.inr ⟨rfl, fun q => by
            rcases q with q | q
            · exact e2 q.2
            · omega⟩⟩
      · rw [if_neg (neR 1 1 rfl (by omega) (by decide) e)]
        by_cases e2 : f < b
        · rw [if_pos (nI_lt e2 (by omega)), show (1 : Int32) = nI 1 from rfl, show (10 : Int32) = nI 10 from rfl, pk_sub (by omega), pk_mul, nI_add]
          have hc := HC (k - 1) b (by omega) (by omega) (by omega) hlt
          have hg : gI can 110 (nI (10 * (k - 1) + b)) = some (can (10 * (k - 1) + b)) := gI_at (by omega) (by decide)
          by_cases hw : Wk O f (k - 1) b
          · refine ⟨1, sbind hg ?_, Or.inl ⟨rfl, Or.inr ⟨by omega, e2, hw⟩⟩⟩
            rw [is01_1 hc hw]; rfl
          · refine ⟨0, sbind hg ?_, Or.inr ⟨rfl, fun q => ?_⟩⟩
            · rw [is01_0 hc hw]; rfl
            · rcases q with q | q
              · exact e q.1
              · exact hw q.2.2
        · rw [if_neg (nI_nlt (by omega) (by omega))]
          exact ⟨0, rfl, Or.inr ⟨rfl, fun q => by
            rcases q with q | q
            · exact e q.1
            · exact e2 q.2.1⟩⟩
    obtain ⟨y, hy1, hy2⟩ := h7
    have hob := HO a b ha hlt
    have h9 : ∃ w : Int32, (if x = 0 then (if y = 0 then some (0 : Int32) else (Option.bind (gI owes 100 (((10 : Int32) * nI a) + nI b)) fun t_10 => if t_10 = 0 then some (0 : Int32) else some (1 : Int32))) else some (1 : Int32)) = some w ∧ is01 w (∃ c, f ≤ c ∧ c < b + 1 ∧ EndI O f k c ∧ O a c) := by
      rcases q2 with ⟨rfl, c, c1, c2, c3, c4⟩ | ⟨rfl, hno⟩
      · exact ⟨1, rfl, Or.inl ⟨rfl, c, c1, by omega, c3, c4⟩⟩
      · rw [if_pos rfl]
        have hlast : (∃ c, f ≤ c ∧ c < b + 1 ∧ EndI O f k c ∧ O a c) ↔ (EndI O f k b ∧ O a b) := by
          constructor
          · rintro ⟨c, c1, c2, c3, c4⟩
            by_cases e : c = b
            · subst e; exact ⟨c3, c4⟩
            · exact absurd ⟨c, c1, by omega, c3, c4⟩ hno
          · rintro ⟨c3, c4⟩
            exact ⟨b, b1, by omega, c3, c4⟩
        rcases hy2 with ⟨rfl, he⟩ | ⟨rfl, he⟩
        · rw [if_neg (by decide), show (10 : Int32) = nI 10 from rfl, pk_mul, nI_add]
          have hg : gI owes 100 (nI (10 * a + b)) = some (owes (10 * a + b)) := gI_at (by omega) (by decide)
          rcases hob with ⟨o1, o2⟩ | ⟨o1, o2⟩
          · exact ⟨1, sbind hg (by rw [o1]; rfl), Or.inl ⟨rfl, hlast.mpr ⟨he, o2⟩⟩⟩
          · exact ⟨0, sbind hg (by rw [o1]; rfl), Or.inr ⟨rfl, fun q => o2 (hlast.mp q).2⟩⟩
        · exact ⟨0, by rw [if_pos rfl], Or.inr ⟨rfl, fun q => he (hlast.mp q).1⟩⟩
    obtain ⟨w, hw1, hw2⟩ := h9
    refine ⟨(w, nI (b + 1)), sbind hy1 (sbind hw1 (by rw [lt_eq, nI_1])), ⟨b + 1, by omega, by omega, rfl, hw2⟩, ?_⟩
    dsimp only
    rw [nI_clamp (by omega), nI_clamp (by omega)]; omega
  · right
    have e : b = 10 := by omega
    subst e
    exact ⟨(x, nI 10), by rw [if_neg (by decide)], is01_c q2 (EndI_all hf hk)⟩
theorem M_can2 (HO : OwI O owes) {f k : Nat} {z can : Nat → Int32} (hf : f < 10) (hk : 1 ≤ k) (hk2 : k ≤ 10) (HC : CanI O f k can) : ∃ t, itr (B_X12_findCan_10 (nI k, z) (nI f) owes) FU (nI f, can) = some t ∧ CanI O f (k + 1) t.2 := by
  refine itr_fu (I := fun s => ∃ a, f ≤ a ∧ a ≤ 10 ∧ s.1 = nI a ∧ CanI O f k s.2 ∧ ∀ b, f ≤ b → b < a → is01 (s.2 (10 * k + b)) (Wk O f k b)) (μ := fun s => 10 - s.1.toNatClampNeg) _ _ ⟨f, Nat.le_refl _, by omega, rfl, HC, fun b h1 h2 => absurd h1 (by omega)⟩ (by dsimp only; omega) ?_
  rintro ⟨i, c⟩ ⟨a, a1, a2, q1, q2, q3⟩
  dsimp only at q1 q2 q3
  subst q1
  unfold B_X12_findCan_10
  dsimp only
  by_cases hlt : a < 10
  · left
    rw [if_pos (ltR 10 10 rfl hlt (by decide))]
    obtain ⟨t, t1, t2⟩ := M_can1 (z := z) HO hf hlt hk hk2 q2
    refine ⟨(nI (a + 1), upd c (10 * k + a) t.1), sbind t1 ?_, ⟨a + 1, by omega, by omega, rfl, fun j b j1 j2 b1 b2 => ?_, fun b b1 b2 => ?_⟩, ?_⟩
    · rw [show (10 : Int32) = nI 10 from rfl, pk_mul, nI_add]
      refine sbind (sZ_at (is01_b t2) (by omega) (by decide)) ?_
      rw [lt_eq, nI_1]
    · dsimp only
      rw [pk_un (by omega)]; exact q2 j b j1 j2 b1 b2
    · dsimp only
      by_cases e : b = a
      · subst e; rw [pk_us]; exact t2
      · rw [pk_un (by omega)]; exact q3 b b1 (by omega)
    · dsimp only
      rw [nI_clamp (by omega), nI_clamp (by omega)]; omega
  · right
    have e : a = 10 := by omega
    subst e
    refine ⟨(nI 10, c), by rw [if_neg (by decide)], fun j b j1 j2 b1 b2 => ?_⟩
    by_cases e : j = k
    · subst e; exact q3 b b1 b2
    · exact q2 j b j1 (by omega) b1 b2
theorem M_can (HO : OwI O owes) {f n : Nat} (can : Nat → Int32) (hf : f < 10) (hn : 1 ≤ n) (hn2 : n ≤ 10) : ∃ (x : Int32) (can2 : Nat → Int32), F_X12_findCan can owes (nI f) (nI n) = some (x, can2) ∧ is01 x (Wk O f n f) ∧ CanI O f (n + 1) can2 := by
  have hl : ∃ t, itr (B_X12_findCan_2 (nI n) (nI f) owes) FU ((1 : Int32), can) = some t ∧ CanI O f (n + 1) t.2 := by
    refine itr_fu (I := fun s => ∃ k, 1 ≤ k ∧ k ≤ n + 1 ∧ s.1 = nI k ∧ CanI O f k s.2) (μ := fun s => n + 1 - s.1.toNatClampNeg) _ _ ⟨1, by omega, by omega, rfl, fun j b j1 j2 => absurd j2 (by omega)⟩ (by dsimp only; omega) ?_
    rintro ⟨i, c⟩ ⟨k, k1, k2, q1, q2⟩
    dsimp only at q1 q2
    subst q1
    unfold B_X12_findCan_2
    dsimp only
    by_cases hlt : k ≤ n
    · left
      rw [if_neg (nI_nlt hlt (by omega))]
      obtain ⟨t, t1, t2⟩ := M_can2 (z := c) HO hf k1 (by omega) q2
      refine ⟨(nI (k + 1), t.2), sbind t1 (by rw [lt_eq, nI_1]), ⟨k + 1, by omega, by omega, rfl, t2⟩, ?_⟩
      dsimp only
      rw [nI_clamp (by omega), nI_clamp (by omega)]; omega
    · right
      have e : k = n + 1 := by omega
      subst e
      exact ⟨(nI (n + 1), c), by rw [if_pos (nI_lt (by omega) (by omega))], q2⟩
  obtain ⟨t, t1, t2⟩ := hl
  have h := t2 n f hn (by omega) (Nat.le_refl _) hf
  refine ⟨t.2 (10 * n + f), t.2, ?_, h, t2⟩
  unfold F_X12_findCan
  refine sbind t1 ?_
  rw [show (10 : Int32) = nI 10 from rfl, pk_mul, nI_add]
  refine sbind (gI_at (by omega) (by decide)) (sbind (x := t.2 (10 * n + f)) ?_ rfl)
  unfold bZ
  rw [if_pos (is01_b h)]
/-- the row of a ring -/
theorem M_row (HO : OwI O owes) {f n : Nat} {x : Int32} {can y z row : Nat → Int32} {r : Nat → Nat} (hf : f < 10) (hn : 2 ≤ n) (hn2 : n ≤ 10) (HC : CanI O f (n + 1) can) (hr : RowI O f n r n) : ∃ t, itr (B_X12_findRing_34 (nI n, y) (nI f, z) (x, can) owes) FU ((1 : Int32), upd row 0 (nI f)) = some t ∧ ∀ i, i < n → t.2 i = nI (r i) := by
  refine itr_fu (I := fun s => ∃ i, 1 ≤ i ∧ i ≤ n ∧ s.1 = nI i ∧ ∀ j, j < i → s.2 j = nI (r j)) (μ := fun s => n - s.1.toNatClampNeg) _ _ ⟨1, by omega, by omega, rfl, fun j hj => by rw [show j = 0 by omega]; dsimp only; rw [pk_us, hr.1]⟩ (by dsimp only; omega) ?_
  rintro ⟨i', rw1⟩ ⟨i, i1, i2, q1, q2⟩
  dsimp only at q1 q2
  subst q1
  unfold B_X12_findRing_34
  dsimp only
  by_cases hlt : i < n
  · left
    rw [if_pos (nI_lt hlt (by omega))]
    obtain ⟨c1, c2, c3, c4, c5⟩ := hr.2 i i1 hlt
    have hprev : r (i - 1) < 10 := by
      by_cases e : i = 1
      · subst e; rw [hr.1]; exact hf
      · exact (hr.2 (i - 1) (by omega) (by omega)).2.1
    have hfind : ∃ t, itr (B_X12_findRing_44 (x, can) (nI n, y) (nI i, rw1) owes) FU (nI (f + 1)) = some t ∧ t = nI (r i) := by
      refine itr_fu (I := fun s => ∃ b, f < b ∧ b ≤ r i ∧ s = nI b) (μ := fun s => r i - s.toNatClampNeg) _ _ ⟨f + 1, by omega, by omega, rfl⟩ (by omega) ?_
      rintro s ⟨b, b1, b2, rfl⟩
      unfold B_X12_findRing_44
      dsimp only
      rw [pk_sub (by omega), show (10 : Int32) = nI 10 from rfl, pk_mul, nI_add, show (1 : Int32) = nI 1 from rfl, pk_sub i1]
      have hc := HC (n - i) b (by omega) (by omega) (by omega) (by omega)
      have ho := HO (r (i - 1)) b hprev (by omega)
      have hg1 : gI can 110 (nI (10 * (n - i) + b)) = some (can (10 * (n - i) + b)) := gI_at (by omega) (by decide)
      have hg2 : gI rw1 10 (nI (i - 1)) = some (nI (r (i - 1))) := by rw [gI_at (by omega) (by decide), q2 _ (by omega)]
      have hg3 : gI owes 100 (nI 10 * nI (r (i - 1)) + nI b) = some (owes (10 * r (i - 1) + b)) := by rw [pk_mul, nI_add]; exact gI_at (by omega) (by decide)
      by_cases e : b = r i
      · right
        subst e
        refine ⟨nI (r i), sbind hg1 ?_, rfl⟩
        rw [is01_1 hc c3, if_neg (by decide)]
        refine sbind hg2 (sbind hg3 ?_)
        rw [is01_1 ho c4, if_neg (by decide)]
      · left
        have hno := c5 b b1 (by omega)
        refine ⟨nI (b + 1), sbind hg1 ?_, ⟨b + 1, by omega, by omega, rfl⟩, by rw [nI_clamp (by omega), nI_clamp (by omega)]; omega⟩
        by_cases hw : Wk O f (n - i) b
        · rw [is01_1 hc hw, if_neg (by decide)]
          refine sbind hg2 (sbind hg3 ?_)
          rw [is01_0 ho (fun q => hno ⟨hw, q⟩), if_pos rfl, lt_eq, nI_add]
        · rw [is01_0 hc hw, if_pos rfl, lt_eq, nI_add]
    obtain ⟨t, t1, rfl⟩ := hfind
    refine ⟨(nI (i + 1), upd rw1 i (nI (r i))), ?_, ⟨i + 1, by omega, by omega, rfl, fun j hj => ?_⟩, ?_⟩
    · rw [nI_1, lt_eq]
      refine sbind t1 (sbind (sI_at (by omega) (by decide)) ?_)
      rw [lt_eq, nI_1]
    · dsimp only
      by_cases e : j = i
      · subst e; rw [pk_us]
      · rw [pk_un e]; exact q2 j (by omega)
    · dsimp only
      rw [nI_clamp (by omega), nI_clamp (by omega)]; omega
  · right
    have e : i = n := by omega
    subst e
    exact ⟨(nI i, rw1), by rw [if_neg (nI_nlt (Nat.le_refl _) (by omega))], q2⟩
abbrev MR := Int32 × (Nat → Int32) × (Nat → Int32)
theorem M_first (HO : OwI O owes) {n : Nat} (hn : 2 ≤ n) (hn2 : n ≤ 10) (y row can : Nat → Int32) : ∃ t : (Int32 × (Nat → Int32)) ⊕ MR, itr (B_X12_findRing_10 owes (nI n, y) row) FU ((0 : Int32), can) = some t ∧ ((∃ c, t = .inl (nI 10, c) ∧ ∀ f, f < 10 → ¬ Wk O f n f) ∨ (∃ (f : Nat) (c w : Nat → Int32) (r : Nat → Nat), t = .inr (nI n, c, w) ∧ f < 10 ∧ Wk O f n f ∧ (∀ f', f' < f → ¬ Wk O f' n f') ∧ RowI O f n r n ∧ ∀ i, i < n → w i = nI (r i))) := by
  refine itr_fu (I := fun s => ∃ f, f ≤ 10 ∧ s.1 = nI f ∧ ∀ f', f' < f → ¬ Wk O f' n f') (μ := fun s => 10 - s.1.toNatClampNeg) _ _ ⟨0, by omega, rfl, fun f' h => absurd h (Nat.not_lt_zero _)⟩ (by dsimp only; omega) ?_
  rintro ⟨i, c⟩ ⟨f, f1, q1, q2⟩
  dsimp only at q1 q2
  subst q1
  unfold B_X12_findRing_10
  dsimp only
  by_cases hlt : f < 10
  · rw [if_pos (ltR 10 10 rfl hlt (by decide))]
    obtain ⟨x, can2, e1, e2, e3⟩ := M_can HO c hlt (by omega) hn2
    by_cases hw : Wk O f n f
    · right
      obtain ⟨r, hr⟩ := Row_ex hw n (Nat.le_refl _)
      obtain ⟨t, t1, t2⟩ := M_row (x := x) (y := y) (z := c) (row := row) HO hlt hn hn2 e3 hr
      refine ⟨.inr (nI n, can2, t.2), sbind e1 ?_, Or.inr ⟨f, can2, t.2, r, rfl, hlt, hw, q2, hr, t2⟩⟩
      dsimp only
      rw [is01_1 e2 hw, if_neg (by decide)]
      rw [is01_1 e2 hw] at t1
      exact sbind (sI_at (k := 0) (by decide) (by decide)) (sbind t1 rfl)
    · left
      refine ⟨(nI (f + 1), can2), sbind e1 ?_, ⟨f + 1, by omega, rfl, fun f' h => ?_⟩, ?_⟩
      · dsimp only
        rw [is01_0 e2 hw, if_pos rfl, lt_eq, nI_1]
      · by_cases e : f' = f
        · subst e; exact hw
        · exact q2 f' (by omega)
      · dsimp only
        rw [nI_clamp (by omega), nI_clamp (by omega)]; omega
  · right
    have e : f = 10 := by omega
    subst e
    exact ⟨.inl (nI 10, c), by rw [if_neg (by decide)], Or.inl ⟨c, rfl, q2⟩⟩
theorem M_ringN (HO : OwI O owes) (can row : Nat → Int32) : ∃ o : MR, F_X12_findRing can owes row = some o ∧ ((o.1 = 0 ∧ ∀ f n, f < 10 → 2 ≤ n → n ≤ 10 → ¬ Wk O f n f) ∨ (∃ (n f : Nat) (r : Nat → Nat), RingF O n f ∧ RowI O f n r n ∧ o.1 = nI n ∧ ∀ i, i < n → o.2.2 i = nI (r i))) := by
  have hl : ∃ t : (Int32 × (Nat → Int32)) ⊕ MR, itr (B_X12_findRing_2 owes row) FU ((2 : Int32), can) = some t ∧ ((∃ c, t = .inl (nI 11, c) ∧ ∀ f n, f < 10 → 2 ≤ n → n ≤ 10 → ¬ Wk O f n f) ∨ (∃ (n f : Nat) (c w : Nat → Int32) (r : Nat → Nat), t = .inr (nI n, c, w) ∧ RingF O n f ∧ RowI O f n r n ∧ ∀ i, i < n → w i = nI (r i))) := by
    refine itr_fu (I := fun s => ∃ n, 2 ≤ n ∧ n ≤ 11 ∧ s.1 = nI n ∧ ∀ f j, f < 10 → 2 ≤ j → j < n → ¬ Wk O f j f) (μ := fun s => 11 - s.1.toNatClampNeg) _ _ ⟨2, by omega, by omega, rfl, fun f j _ h1 h2 => absurd h2 (by omega)⟩ (by dsimp only; omega) ?_
    rintro ⟨i, c⟩ ⟨n, n1, n2, q1, q2⟩
    dsimp only at q1 q2
    subst q1
    unfold B_X12_findRing_2
    dsimp only
    by_cases hlt : n ≤ 10
    · rw [if_neg (nltL 10 10 rfl hlt (by decide))]
      obtain ⟨t, t1, ht⟩ := M_first HO n1 hlt c row c
      rcases ht with ⟨c2, rfl, h⟩ | ⟨f, c2, w, r, rfl, h1, h2, h3, h4, h5⟩
      · left
        refine ⟨(nI (n + 1), c2), sbind t1 ?_, ⟨n + 1, by omega, by omega, rfl, fun f j f1 j1 j2 => ?_⟩, ?_⟩
        · rw [nI_1]; rfl
        · by_cases e : j = n
          · subst e; exact h f f1
          · exact q2 f j f1 j1 (by omega)
        · dsimp only
          rw [nI_clamp (by omega), nI_clamp (by omega)]; omega
      · right
        exact ⟨.inr (nI n, c2, w), sbind t1 rfl, Or.inr ⟨n, f, c2, w, r, rfl, ⟨n1, hlt, h1, h2, fun f' j a b d => q2 f' j a b d, h3⟩, h4, h5⟩⟩
    · right
      have e : n = 11 := by omega
      subst e
      exact ⟨.inl (nI 11, c), by rw [if_pos (by decide)], Or.inl ⟨c, rfl, fun f n a b d => q2 f n a b (by omega)⟩⟩
  obtain ⟨t, t1, ht⟩ := hl
  rcases ht with ⟨c, rfl, h⟩ | ⟨n, f, c, w, r, rfl, h1, h2, h3⟩
  · exact ⟨(0, c, row), sbind t1 rfl, Or.inl ⟨rfl, h⟩⟩
  · exact ⟨(nI n, c, w), sbind t1 rfl, Or.inr ⟨n, f, r, h1, h2, rfl, h3⟩⟩
end MRI
