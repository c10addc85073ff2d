/-! PURE LAWS 29: rings, as the class finds them -/
section CRI
variable {O : Nat → Nat → Prop} {prs : Nat → Int64}
def OwC2 (O : Nat → Nat → Prop) (prs : Nat → Int64) : Prop := ∀ x y, x < 10 → y < 10 → ∃ z : Int32, F_X4_isOwing prs (nI x) (nI y) = some z ∧ is01 z (O x y)
/-- how far each is, by t steps -/
def StI (O : Nat → Nat → Prop) (f t m : Nat) (x : Int32) : Prop := (x = 0 ∧ ∀ k, 1 ≤ k → k ≤ t → ¬ Wk O f k m) ∨ (∃ k, 1 ≤ k ∧ k ≤ t ∧ x = nI k ∧ Dk O f k m)
theorem StI_is {f t t' m : Nat} {x : Int32} (h : StI O f t' m x) (h1 : 1 ≤ t) (h2 : t ≤ t') (ht : t' < 100) : x = nI t ↔ Dk O f t m := by
  rcases h with ⟨rfl, h⟩ | ⟨k, k1, k2, rfl, k3⟩
  · constructor
    · intro e
      have : (0 : Nat) = t := (nI_eq (a := 0) (b := t) (by decide) (by omega)).mp e
      omega
    · intro e; exact absurd e.1 (h t h1 h2)
  · constructor
    · intro e
      have : k = t := (nI_eq (by omega) (by omega)).mp e
      subst this; exact k3
    · intro e; rw [Dk_uniq k1 h1 k3 e]
theorem C_near (HO : OwC2 O prs) {f m t : Nat} {steps : Nat → Int32} (hf : f < 10) (hm : m < 10) (ht : 1 ≤ t) (ht2 : t ≤ 9) (hno : ∀ j, 1 ≤ j → j < t → ¬ Wk O f j m) (HS : ∀ b, f < b → b < 10 → StI O f (t - 1) b (steps b) ∨ StI O f t b (steps b)) : ∃ x : Int32, F_X4_isNear prs steps (nI m) (nI f) (nI t) = some x ∧ is01 x (Wk O f t m) := by
  unfold F_X4_isNear
  by_cases e : t = 1
  · subst e
    obtain ⟨z, z1, z2⟩ := HO m f hm hf
    refine ⟨z, ?_, z2⟩
    rw [if_pos (by decide)]
    refine sbind z1 (sbind (x := z) ?_ rfl)
    unfold bZ; rw [if_pos (is01_b z2)]
  · rw [if_neg (neR 1 1 rfl (by omega) (by decide) e)]
    have hsb : ∀ b, f < b → b < 10 → (steps b = nI (t - 1) ↔ Dk O f (t - 1) b) := fun b b1 b2 => by
      rcases HS b b1 b2 with h | h
      · exact StI_is h (by omega) (Nat.le_refl _) (by omega)
      · exact StI_is h (by omega) (by omega) (by omega)
    have hd := Dk_next (O := O) (f := f) (t := t - 1) (m := m) (by omega) (fun j j1 j2 => hno j j1 (by omega))
    rw [show t - 1 + 1 = t by omega] at hd
    have hl : ∃ u, itr (B_X4_isNear_17 steps (nI t) prs (nI m)) FU (nI (f + 1)) = some u ∧ ((∃ i, u = .inl i) ∧ ¬ Wk O f t m ∨ u = .inr 1 ∧ Wk O f t m) := by
      refine itr_fu (I := fun s => ∃ b, f < b ∧ b ≤ 10 ∧ s = nI b ∧ ∀ c, f < c → c < b → ¬ (Dk O f (t - 1) c ∧ O m c)) (μ := fun s => 10 - s.toNatClampNeg) _ _ ⟨f + 1, by omega, by omega, rfl, fun c c1 c2 => absurd c2 (by omega)⟩ (by omega) ?_
      rintro s ⟨b, b1, b2, rfl, b3⟩
      unfold B_X4_isNear_17
      by_cases hlt : b < 10
      · rw [if_pos (ltR 10 10 rfl hlt (by decide)), if_neg (nI_pos (by omega))]
        have hmu : 10 - (nI (b + 1)).toNatClampNeg < 10 - (nI b).toNatClampNeg := by rw [nI_clamp (by omega), nI_clamp (by omega)]; omega
        have hstep : ∀ h : ¬ (Dk O f (t - 1) b ∧ O m b), ∃ b', f < b' ∧ b' ≤ 10 ∧ nI (b + 1) = nI b' ∧ ∀ c, f < c → c < b' → ¬ (Dk O f (t - 1) c ∧ O m c) := fun h => ⟨b + 1, by omega, by omega, rfl, fun c c1 c2 => by
          by_cases e2 : c = b
          · subst e2; exact h
          · exact b3 c c1 (by omega)⟩
        have hg : gI steps 10 (nI b) = some (steps b) := gI_at hlt (by decide)
        by_cases h1 : Dk O f (t - 1) b
        · obtain ⟨z, z1, z2⟩ := HO m b hm hlt
          rcases z2 with ⟨rfl, z2⟩ | ⟨rfl, z2⟩
          · right
            refine ⟨.inr 1, sbind hg ?_, Or.inr ⟨rfl, hd.mp ⟨b, b1, hlt, h1, z2⟩⟩⟩
            rw [(hsb b b1 hlt).mpr h1, show (1 : Int32) = nI 1 from rfl, pk_sub (by omega), if_pos rfl]
            exact sbind z1 (by rw [if_neg (by decide)])
          · left
            refine ⟨nI (b + 1), sbind hg ?_, hstep (fun q => z2 q.2), hmu⟩
            rw [(hsb b b1 hlt).mpr h1, show (1 : Int32) = nI 1 from rfl, pk_sub (by omega), if_pos rfl]
            exact sbind z1 (by rw [if_pos rfl, lt_eq, nI_add])
        · left
          refine ⟨nI (b + 1), sbind hg ?_, hstep (fun q => h1 q.1), hmu⟩
          rw [show (1 : Int32) = nI 1 from rfl, pk_sub (by omega), if_neg (fun q => h1 ((hsb b b1 hlt).mp q)), lt_eq, nI_add]
      · right
        have e2 : b = 10 := by omega
        subst e2
        refine ⟨.inl (nI 10), by rw [if_neg (by decide)], Or.inl ⟨⟨_, rfl⟩, fun q => ?_⟩⟩
        obtain ⟨c, c1, c2, c3, c4⟩ := hd.mpr q
        exact b3 c c1 c2 ⟨c3, c4⟩
    obtain ⟨u, u1, u2⟩ := hl
    rw [nI_1, lt_eq]
    rcases u2 with ⟨⟨i, rfl⟩, h⟩ | ⟨rfl, h⟩
    · exact ⟨0, sbind u1 rfl, Or.inr ⟨rfl, h⟩⟩
    · exact ⟨1, sbind u1 rfl, Or.inl ⟨rfl, h⟩⟩
theorem StI_next {f t m : Nat} {x : Int32} (h : StI O f t m x) : (x = 0 ∧ (∀ k, 1 ≤ k → k ≤ t → ¬ Wk O f k m)) ∨ (x ≠ 0 ∧ StI O f (t + 1) m x) ∨ 100 ≤ t := by
  by_cases ht : 100 ≤ t
  · exact Or.inr (Or.inr ht)
  · rcases h with h | ⟨k, k1, k2, rfl, k3⟩
    · exact Or.inl h
    · exact Or.inr (Or.inl ⟨nI_ne0 k1 (by omega), Or.inr ⟨k, k1, by omega, rfl, k3⟩⟩)
theorem C_layer (HO : OwC2 O prs) {f t : Nat} {steps z : Nat → Int32} (hf : f < 10) (ht : 1 ≤ t) (ht2 : t ≤ 9) (HS : ∀ b, f < b → b < 10 → StI O f (t - 1) b (steps b)) : ∃ u, itr (B_X4_lengthFrom_23 prs (nI f) (nI t, z)) FU (nI (f + 1), steps) = some u ∧ ∀ b, f < b → b < 10 → StI O f t b (u.2 b) := by
  refine itr_fu (I := fun s => ∃ m, f < m ∧ m ≤ 10 ∧ s.1 = nI m ∧ (∀ b, f < b → b < m → StI O f t b (s.2 b)) ∧ (∀ b, m ≤ b → b < 10 → StI O f (t - 1) b (s.2 b))) (μ := fun s => 10 - s.1.toNatClampNeg) _ _ ⟨f + 1, by omega, by omega, rfl, fun b b1 b2 => absurd b2 (by omega), fun b b1 b2 => HS b (by omega) b2⟩ (by dsimp only; omega) ?_
  rintro ⟨i, s⟩ ⟨m, m1, m2, q1, q2, q3⟩
  dsimp only at q1 q2 q3
  subst q1
  unfold B_X4_lengthFrom_23
  dsimp only
  by_cases hlt : m < 10
  · left
    rw [if_pos (ltR 10 10 rfl hlt (by decide))]
    have hall : ∀ b, f < b → b < 10 → StI O f (t - 1) b (s b) ∨ StI O f t b (s b) := fun b b1 b2 => by
      by_cases e : b < m
      · exact Or.inr (q2 b b1 e)
      · exact Or.inl (q3 b (by omega) b2)
    have hm := q3 m (Nat.le_refl _) hlt
    have hnew : ∃ s2 : Nat → Int32, (if nI m < 0 then some s else Option.bind (gI s 10 (nI m)) fun t_8 => if t_8 = 0 then Option.bind (F_X4_isNear prs s (nI m) (nI f) (nI t)) fun c_9 => if c_9 = 0 then some s else Option.bind (sI s 10 (nI m) (nI t)) fun g_10 => some g_10 else some s) = some s2 ∧ StI O f t m (s2 m) ∧ ∀ b, b ≠ m → s2 b = s b := by
      rw [if_neg (nI_pos (by omega))]
      have hg : gI s 10 (nI m) = some (s m) := gI_at hlt (by decide)
      rcases StI_next hm with ⟨h0, h1⟩ | ⟨h0, h1⟩ | h0
      · obtain ⟨x, x1, x2⟩ := C_near (steps := s) HO hf hlt ht ht2 (fun j j1 j2 => h1 j j1 (by omega)) hall
        rcases x2 with ⟨rfl, x2⟩ | ⟨rfl, x2⟩
        · refine ⟨upd s m (nI t), sbind hg ?_, ?_, fun b hb => pk_un hb⟩
          · rw [h0, if_pos rfl]
            exact sbind x1 (by rw [if_neg (by decide)]; exact sbind (sI_at hlt (by decide)) rfl)
          · rw [pk_us]
            exact Or.inr ⟨t, ht, Nat.le_refl _, rfl, x2, fun j j1 j2 => h1 j j1 (by omega)⟩
        · refine ⟨s, sbind hg ?_, ?_, fun b hb => rfl⟩
          · rw [h0, if_pos rfl]
            exact sbind x1 (by rw [if_pos rfl])
          · refine Or.inl ⟨h0, fun k k1 k2 => ?_⟩
            by_cases e : k = t
            · subst e; exact x2
            · exact h1 k k1 (by omega)
      · refine ⟨s, sbind hg (by rw [if_neg h0]), ?_, fun b hb => rfl⟩
        rw [show t - 1 + 1 = t by omega] at h1
        exact h1
      · omega
    obtain ⟨s2, e1, e2, e3⟩ := hnew
    refine ⟨(nI (m + 1), s2), sbind e1 (by rw [lt_eq, nI_1]), ⟨m + 1, by omega, by omega, rfl, fun b b1 b2 => ?_, fun b b1 b2 => ?_⟩, ?_⟩
    · dsimp only
      by_cases e : b = m
      · subst e; exact e2
      · rw [e3 b e]; exact q2 b b1 (by omega)
    · dsimp only
      rw [e3 b (by omega)]; exact q3 b (by omega) b2
    · dsimp only
      rw [nI_clamp (by omega), nI_clamp (by omega)]; omega
  · right
    have e : m = 10 := by omega
    subst e
    exact ⟨(nI 10, s), by rw [if_neg (by decide)], q2⟩
theorem C_len (HO : OwC2 O prs) {f : Nat} (steps : Nat → Int32) (hf : f < 10) : ∃ (x : Int32) (s2 : Nat → Int32), F_X4_lengthFrom prs steps (nI f) = some (x, s2) ∧ (∀ b, f < b → b < 10 → StI O f 9 b (s2 b)) ∧ ((x = 0 ∧ ∀ n, 2 ≤ n → n ≤ 10 → ¬ Wk O f n f) ∨ (∃ n, x = nI n ∧ LenF O f n)) := by
  have h1 : ∃ u, itr (B_X4_lengthFrom_10 (nI f) prs) FU ((1 : Int32), filI steps 10 0) = some u ∧ ∀ b, f < b → b < 10 → StI O f 9 b (u.2 b) := by
    refine itr_fu (I := fun s => ∃ t, 1 ≤ t ∧ t ≤ 10 ∧ s.1 = nI t ∧ ∀ b, f < b → b < 10 → StI O f (t - 1) b (s.2 b)) (μ := fun s => 10 - s.1.toNatClampNeg) _ _ ⟨1, by omega, by omega, rfl, fun b b1 b2 => Or.inl ⟨by show filI steps 10 0 b = 0; unfold filI; rw [if_pos b2], fun k k1 k2 => absurd k2 (by omega)⟩⟩ (by dsimp only; omega) ?_
    rintro ⟨i, s⟩ ⟨t, t1, t2, q1, q2⟩
    dsimp only at q1 q2
    subst q1
    unfold B_X4_lengthFrom_10
    dsimp only
    by_cases hlt : t < 10
    · left
      rw [if_pos (ltR 10 10 rfl hlt (by decide)), nI_1, lt_eq]
      obtain ⟨u, u1, u2⟩ := C_layer (z := s) HO hf t1 (by omega) q2
      refine ⟨(nI (t + 1), u.2), sbind u1 (by rw [lt_eq, nI_1]), ⟨t + 1, by omega, by omega, rfl, fun b b1 b2 => u2 b b1 b2⟩, ?_⟩
      dsimp only
      rw [nI_clamp (by omega), nI_clamp (by omega)]; omega
    · right
      have e : t = 10 := by omega
      subst e
      exact ⟨(nI 10, s), by rw [if_neg (by decide)], q2⟩
  obtain ⟨u, u1, u2⟩ := h1
  have h2 : ∃ v, itr (B_X4_lengthFrom_80 u prs (nI f)) FU ((0 : Int32), nI (f + 1)) = some v ∧ ((v.1 = 0 ∧ ∀ b k, f < b → b < 10 → 1 ≤ k → k ≤ 9 → ¬ (Dk O f k b ∧ O f b)) ∨ (∃ n, v.1 = nI n ∧ (∃ b k, f < b ∧ b < 10 ∧ 1 ≤ k ∧ k ≤ 9 ∧ n = k + 1 ∧ Dk O f k b ∧ O f b) ∧ ∀ b k, f < b → b < 10 → 1 ≤ k → k ≤ 9 → Dk O f k b → O f b → n ≤ k + 1)) := by
    refine itr_fu (I := fun s => ∃ m, f < m ∧ m ≤ 10 ∧ s.2 = nI m ∧ ((s.1 = 0 ∧ ∀ b k, f < b → b < m → 1 ≤ k → k ≤ 9 → ¬ (Dk O f k b ∧ O f b)) ∨ (∃ n, s.1 = nI n ∧ (∃ b k, f < b ∧ b < 10 ∧ 1 ≤ k ∧ k ≤ 9 ∧ n = k + 1 ∧ Dk O f k b ∧ O f b) ∧ ∀ b k, f < b → b < m → 1 ≤ k → k ≤ 9 → Dk O f k b → O f b → n ≤ k + 1))) (μ := fun s => 10 - s.2.toNatClampNeg) _ _ ⟨f + 1, by omega, by omega, rfl, Or.inl ⟨rfl, fun b k b1 b2 => absurd b2 (by omega)⟩⟩ (by dsimp only; omega) ?_
    rintro ⟨x, i⟩ ⟨m, m1, m2, q1, q2⟩
    dsimp only at q1 q2
    subst q1
    unfold B_X4_lengthFrom_80
    dsimp only
    by_cases hlt : m < 10
    · left
      rw [if_pos (ltR 10 10 rfl hlt (by decide))]
      have hmu : 10 - (nI (m + 1)).toNatClampNeg < 10 - (nI m).toNatClampNeg := by rw [nI_clamp (by omega), nI_clamp (by omega)]; omega
      have hg : gI u.2 10 (nI m) = some (u.2 m) := gI_at hlt (by decide)
      -- nothing new at m
      have hskip : (∀ k, 1 ≤ k → k ≤ 9 → ¬ (Dk O f k m ∧ O f m)) → ((x = 0 ∧ ∀ b k, f < b → b < m + 1 → 1 ≤ k → k ≤ 9 → ¬ (Dk O f k b ∧ O f b)) ∨ (∃ n, x = nI n ∧ (∃ b k, f < b ∧ b < 10 ∧ 1 ≤ k ∧ k ≤ 9 ∧ n = k + 1 ∧ Dk O f k b ∧ O f b) ∧ ∀ b k, f < b → b < m + 1 → 1 ≤ k → k ≤ 9 → Dk O f k b → O f b → n ≤ k + 1)) := by
        intro hno
        rcases q2 with ⟨h0, h1⟩ | ⟨n, h0, h1, h2⟩
        · refine Or.inl ⟨h0, fun b k b1 b2 k1 k2 => ?_⟩
          by_cases e : b = m
          · subst e; exact hno k k1 k2
          · exact h1 b k b1 (by omega) k1 k2
        · refine Or.inr ⟨n, h0, h1, fun b k b1 b2 k1 k2 k3 k4 => ?_⟩
          by_cases e : b = m
          · subst e; exact absurd ⟨k3, k4⟩ (hno k k1 k2)
          · exact h2 b k b1 (by omega) k1 k2 k3 k4
      rcases u2 m m1 hlt with ⟨g0, g1⟩ | ⟨k, k1, k2, g0, g1⟩
      · refine ⟨(x, nI (m + 1)), sbind (x := x) ?_ (by rw [lt_eq, nI_1]), ⟨m + 1, by omega, by omega, rfl, hskip (fun k a b c => g1 k a b c.1.1)⟩, hmu⟩
        rw [if_neg (nI_pos (by omega))]
        exact sbind hg (by rw [g0, if_neg (by decide)])
      · obtain ⟨z, z1, z2⟩ := HO f m hf hlt
        have hpos : (0 : Int32) < u.2 m := by rw [g0]; exact ltL 0 0 rfl (by omega) (by omega)
        rcases z2 with ⟨rfl, z2⟩ | ⟨rfl, z2⟩
        · have hnew : ∃ y n : _, (if x = 0 then (Option.bind (gI u.2 10 (nI m)) fun t_21 => some (t_21 + (1 : Int32))) else (Option.bind (gI u.2 10 (nI m)) fun t_20 => some (if (t_20 + (1 : Int32)) < x then (t_20 + (1 : Int32)) else x))) = some y ∧ y = nI n ∧ (∃ b k, f < b ∧ b < 10 ∧ 1 ≤ k ∧ k ≤ 9 ∧ n = k + 1 ∧ Dk O f k b ∧ O f b) ∧ ∀ b k, f < b → b < m + 1 → 1 ≤ k → k ≤ 9 → Dk O f k b → O f b → n ≤ k + 1 := by
            rcases q2 with ⟨h0, h1⟩ | ⟨n, h0, ⟨b', k', b1', b2', k1', k2', k3', k4', k5'⟩, h2⟩
            · refine ⟨nI (k + 1), k + 1, ?_, rfl, ⟨m, k, m1, hlt, k1, k2, rfl, g1, z2⟩, fun b l b1 b2 l1 l2 l3 l4 => ?_⟩
              · rw [if_pos h0]
                exact sbind hg (by rw [g0, nI_1])
              · by_cases e : b = m
                · subst e; rw [Dk_uniq l1 k1 l3 g1]; exact Nat.le_refl _
                · exact absurd ⟨l3, l4⟩ (h1 b l b1 (by omega) l1 l2)
            · have hx0 : ¬ x = 0 := by rw [h0]; exact nI_ne0 (by omega) (by omega)
              by_cases hc : k + 1 < n
              · refine ⟨nI (k + 1), k + 1, ?_, rfl, ⟨m, k, m1, hlt, k1, k2, rfl, g1, z2⟩, fun b l b1 b2 l1 l2 l3 l4 => ?_⟩
                · rw [if_neg hx0]
                  exact sbind hg (by rw [g0, nI_1, h0, if_pos (nI_lt hc (by omega))])
                · by_cases e : b = m
                  · subst e; rw [Dk_uniq l1 k1 l3 g1]; exact Nat.le_refl _
                  · have := h2 b l b1 (by omega) l1 l2 l3 l4
                    omega
              · refine ⟨nI n, n, ?_, rfl, ⟨b', k', b1', b2', k1', k2', k3', k4', k5'⟩, fun b l b1 b2 l1 l2 l3 l4 => ?_⟩
                · rw [if_neg hx0]
                  exact sbind hg (by rw [g0, nI_1, h0, if_neg (nI_nlt (by omega) (by omega))])
                · by_cases e : b = m
                  · subst e
                    have := Dk_uniq l1 k1 l3 g1
                    omega
                  · exact h2 b l b1 (by omega) l1 l2 l3 l4
          obtain ⟨y, n, y1, y2, y3, y4⟩ := hnew
          refine ⟨(y, nI (m + 1)), sbind (x := y) ?_ (by rw [lt_eq, nI_1]), ⟨m + 1, by omega, by omega, rfl, Or.inr ⟨n, y2, y3, y4⟩⟩, hmu⟩
          rw [if_neg (nI_pos (by omega))]
          refine sbind hg ?_
          rw [if_pos hpos]
          refine sbind z1 ?_
          rw [if_neg (by decide)]
          exact sbind y1 rfl
        · refine ⟨(x, nI (m + 1)), sbind (x := x) ?_ (by rw [lt_eq, nI_1]), ⟨m + 1, by omega, by omega, rfl, hskip (fun k a b c => z2 c.2)⟩, hmu⟩
          rw [if_neg (nI_pos (by omega))]
          refine sbind hg ?_
          rw [if_pos hpos]
          exact sbind z1 (by rw [if_pos rfl])
    · right
      have e : m = 10 := by omega
      subst e
      exact ⟨(x, nI 10), by rw [if_neg (by decide)], q2⟩
  obtain ⟨v, v1, v2⟩ := h2
  refine ⟨v.1, u.2, ?_, u2, ?_⟩
  · unfold F_X4_lengthFrom
    refine sbind (J_fillI (by decide)) (sbind u1 ?_)
    rw [nI_1, lt_eq]
    exact sbind v1 rfl
  · rcases v2 with ⟨h0, h1⟩ | ⟨n, h0, ⟨b, k, b1, b2, k1, k2, rfl, k3, k4⟩, h2⟩
    · refine Or.inl ⟨h0, fun n n1 n2 hw => ?_⟩
      rw [show n = n - 1 + 1 by omega] at hw
      obtain ⟨b, b1, b2, b3, b4⟩ := Wk_inv (by omega) hw
      obtain ⟨j, j1, j2, j3⟩ := Dk_of (by omega) b3
      exact h1 b j b1 b2 j1 (by omega) ⟨j3, b4⟩
    · refine Or.inr ⟨k + 1, h0, by omega, by omega, Wk_step k1 b1 b2 k3.1 k4, fun j j1 j2 hw => ?_⟩
      rw [show j = j - 1 + 1 by omega] at hw
      obtain ⟨c, c1, c2, c3, c4⟩ := Wk_inv (by omega) hw
      obtain ⟨l, l1, l2, l3⟩ := Dk_of (by omega) c3
      have := h2 c l c1 c2 l1 (by omega) l3 c4
      omega
/-- the first at so many steps -/
theorem C_first (HO : OwC2 O prs) {f at' k : Nat} {steps : Nat → Int32} (hf : f < 10) (ha : at' < 10) : ∃ x : Int32, F_X4_firstStep prs steps (nI at') (nI f) (nI k) = some x ∧ ∀ t, f < t → t < 10 → steps t = nI k → O at' t → (∀ b, f < b → b < t → ¬ (steps b = nI k ∧ O at' b)) → x = nI t := by
  unfold F_X4_firstStep
  have hl : ∃ u, itr (B_X4_firstStep_5 steps (nI k) prs (nI at')) FU (nI (f + 1)) = some u ∧ ((∃ i, u = .inl i) ∧ (∀ c, f < c → c < 10 → ¬ (steps c = nI k ∧ O at' c)) ∨ (∃ b, u = .inr (nI b) ∧ f < b ∧ b < 10 ∧ steps b = nI k ∧ O at' b ∧ ∀ c, f < c → c < b → ¬ (steps c = nI k ∧ O at' c))) := by
    refine itr_fu (I := fun s => ∃ b, f < b ∧ b ≤ 10 ∧ s = nI b ∧ ∀ c, f < c → c < b → ¬ (steps c = nI k ∧ O at' c)) (μ := fun s => 10 - s.toNatClampNeg) _ _ ⟨f + 1, by omega, by omega, rfl, fun c c1 c2 => absurd c2 (by omega)⟩ (by omega) ?_
    rintro s ⟨b, b1, b2, rfl, b3⟩
    unfold B_X4_firstStep_5
    by_cases hlt : b < 10
    · rw [if_pos (ltR 10 10 rfl hlt (by decide)), if_neg (nI_pos (by omega))]
      have hmu : 10 - (nI (b + 1)).toNatClampNeg < 10 - (nI b).toNatClampNeg := by rw [nI_clamp (by omega), nI_clamp (by omega)]; omega
      have hg : gI steps 10 (nI b) = some (steps b) := gI_at hlt (by decide)
      have hstep : ∀ h : ¬ (steps b = nI k ∧ O at' b), ∃ b', f < b' ∧ b' ≤ 10 ∧ nI (b + 1) = nI b' ∧ ∀ c, f < c → c < b' → ¬ (steps c = nI k ∧ O at' c) := fun h => ⟨b + 1, by omega, by omega, rfl, fun c c1 c2 => by
        by_cases e2 : c = b
        · subst e2; exact h
        · exact b3 c c1 (by omega)⟩
      by_cases h1 : steps b = nI k
      · obtain ⟨z, z1, z2⟩ := HO at' b ha hlt
        rcases z2 with ⟨rfl, z2⟩ | ⟨rfl, z2⟩
        · right
          refine ⟨.inr (nI b), sbind hg ?_, Or.inr ⟨b, rfl, b1, hlt, h1, z2, b3⟩⟩
          rw [if_pos h1]
          exact sbind z1 (by rw [if_neg (by decide)])
        · left
          refine ⟨nI (b + 1), sbind hg ?_, hstep (fun q => z2 q.2), hmu⟩
          rw [if_pos h1]
          exact sbind z1 (by rw [if_pos rfl, lt_eq, nI_1])
      · left
        refine ⟨nI (b + 1), sbind hg ?_, hstep (fun q => h1 q.1), hmu⟩
        rw [if_neg h1, lt_eq, nI_1]
    · right
      have e2 : b = 10 := by omega
      subst e2
      exact ⟨.inl (nI 10), by rw [if_neg (by decide)], Or.inl ⟨⟨_, rfl⟩, b3⟩⟩
  obtain ⟨u, u1, u2⟩ := hl
  rw [nI_1, lt_eq]
  rcases u2 with ⟨⟨i, rfl⟩, h⟩ | ⟨b, rfl, b1, b2, b3, b4, b5⟩
  · exact ⟨nI f, sbind u1 rfl, fun t t1 t2 t3 t4 _ => absurd ⟨t3, t4⟩ (h t t1 t2)⟩
  · refine ⟨nI b, sbind u1 rfl, fun t t1 t2 t3 t4 t5 => ?_⟩
    rcases Nat.lt_trichotomy b t with h | h | h
    · exact absurd ⟨b3, b4⟩ (t5 b b1 h)
    · rw [h]
    · exact absurd ⟨t3, t4⟩ (b5 t t1 h)
theorem C_follow (HO : OwC2 O prs) {f n : Nat} {steps ring : Nat → Int32} {r : Nat → Nat} (hf : f < 10) (hL : LenF O f n) (HS : ∀ b, f < b → b < 10 → StI O f 9 b (steps b)) (hr : RowI O f n r n) : ∃ g, F_X4_follow prs ring steps (nI f) (nI n) = some g ∧ ∀ i, i < n → g i = nI (r i) := by
  have hl : ∃ u, itr (B_X4_follow_5 (nI n) prs steps (nI f)) FU (nI f, (0 : Int32), ring) = some u ∧ ∀ i, i < n → u.2.2 i = nI (r i) := by
    refine itr_fu (I := fun s => ∃ i, i ≤ n ∧ s.2.1 = nI i ∧ (i < n → s.1 = nI (r i)) ∧ ∀ j, j < i → s.2.2 j = nI (r j)) (μ := fun s => n - s.2.1.toNatClampNeg) _ _ ⟨0, by omega, rfl, fun _ => by dsimp only; rw [hr.1], fun j hj => absurd hj (Nat.not_lt_zero _)⟩ (by have := hL.2.1; dsimp only; omega) ?_
    rintro ⟨x, i', g⟩ ⟨i, i1, q1, q2, q3⟩
    dsimp only at q1 q2 q3
    subst q1
    have hn10 := hL.2.1
    unfold B_X4_follow_5
    dsimp only
    by_cases hlt : i < n
    · left
      have hx := q2 hlt
      subst hx
      have hri : r i < 10 := by
        by_cases e : i = 0
        · subst e; rw [hr.1]; exact hf
        · exact (hr.2 i (by omega) hlt).2.1
      obtain ⟨y, y1, y2⟩ := C_first (k := n - i - 1) (steps := steps) HO hf hri
      rw [if_pos (nI_lt hlt (by omega)), if_pos (ltR 10 10 rfl (by omega) (by decide))]
      refine ⟨(y, nI (i + 1), upd g i (nI (r i))), sbind (sI_at (by omega) (by decide)) ?_, ⟨i + 1, by omega, rfl, fun h => ?_, fun j hj => ?_⟩, ?_⟩
      · rw [show (1 : Int32) = nI 1 from rfl, pk_sub (by omega), pk_sub (by omega)]
        exact sbind y1 (by rw [lt_eq, nI_add])
      · dsimp only
        obtain ⟨c1, c2, c3, c4, c5⟩ := hr.2 (i + 1) (by omega) h
        rw [Nat.add_sub_cancel] at c4 c5
        have hD : ∀ b, f < b → b < 10 → O (r i) b → (Wk O f (n - (i + 1)) b ↔ Dk O f (n - (i + 1)) b) := fun b b1 b2 b3 => ⟨fun hw => Row_D (i := i + 1) hL ⟨hr.1, fun j j1 j2 => hr.2 j j1 (by omega)⟩ (by omega) h b1 b2 hw (by rw [Nat.add_sub_cancel]; exact b3), fun hw => hw.1⟩
        have hS : ∀ b, f < b → b < 10 → (steps b = nI (n - i - 1) ↔ Dk O f (n - (i + 1)) b) := fun b b1 b2 => by
          rw [show n - i - 1 = n - (i + 1) by omega]
          exact StI_is (HS b b1 b2) (by omega) (by omega) (by omega)
        refine y2 (r (i + 1)) c1 c2 ((hS _ c1 c2).mpr ((hD _ c1 c2 c4).mp c3)) c4 (fun b b1 b2 hb => ?_)
        exact c5 b b1 b2 ⟨((hS b b1 (by omega)).mp hb.1).1, hb.2⟩
      · dsimp only
        by_cases e : j = i
        · subst e; rw [pk_us]
        · rw [pk_un e]; exact q3 j (by omega)
      · dsimp only
        rw [nI_clamp (by omega), nI_clamp (by omega)]; omega
    · right
      have e : i = n := by omega
      subst e
      exact ⟨(x, nI i, g), by rw [if_neg (nI_nlt (Nat.le_refl _) (by omega))], q3⟩
  obtain ⟨u, u1, u2⟩ := hl
  exact ⟨u.2.2, sbind u1 rfl, u2⟩
/-- by the first starts -/
def RingP (O : Nat → Nat → Prop) (m : Nat) (x : Int32) (ring : Nat → Int32) : Prop := (x = 0 ∧ ∀ f n, f < m → 2 ≤ n → n ≤ 10 → ¬ Wk O f n f) ∨ (∃ (n f : Nat) (r : Nat → Nat), f < m ∧ x = nI n ∧ LenF O f n ∧ (∀ f' j, f' < m → 2 ≤ j → j < n → ¬ Wk O f' j f') ∧ (∀ f', f' < f → ¬ Wk O f' n f') ∧ RowI O f n r n ∧ ∀ i, i < n → ring i = nI (r i))
theorem C_lay (HO : OwC2 O prs) {nM : Nat} (ring steps : Nat → Int32) (hM : nM ≤ 10) : ∃ o, F_X4_layRing (nI nM) prs ring steps = some o ∧ RingP O nM o.1 o.2.1 := by
  have hl : ∃ u, itr (B_X4_layRing_4 (nI nM) prs) FU ((0 : Int32), (0 : Int32), ring, steps) = some u ∧ RingP O nM u.1 u.2.2.1 := by
    refine itr_fu (I := fun s => ∃ m, m ≤ nM ∧ s.2.1 = nI m ∧ RingP O m s.1 s.2.2.1) (μ := fun s => nM - s.2.1.toNatClampNeg) _ _ ⟨0, by omega, rfl, Or.inl ⟨rfl, fun f n h => absurd h (Nat.not_lt_zero _)⟩⟩ (by dsimp only; omega) ?_
    rintro ⟨x, i, g, s⟩ ⟨m, m1, q1, q2⟩
    dsimp only at q1 q2
    subst q1
    unfold B_X4_layRing_4
    dsimp only
    by_cases hlt : m < nM
    · left
      rw [if_pos (nI_lt hlt (by omega))]
      obtain ⟨y, s2, y1, y2, y3⟩ := C_len HO s (show m < 10 by omega)
      have hmu : nM - (nI (m + 1)).toNatClampNeg < nM - (nI m).toNatClampNeg := by rw [nI_clamp (by omega), nI_clamp (by omega)]; omega
      have hnew : ∃ (z : Int32) (g2 : Nat → Int32), (if 0 < y then (if x = 0 then J_X4_layRing_4_37 prs (x, nI m, g, s) (y, s2) () else (if y < x then J_X4_layRing_4_37 prs (x, nI m, g, s) (y, s2) () else some (x, g))) else some (x, g)) = some (z, g2) ∧ RingP O (m + 1) z g2 := by
        have hkeep : (∀ n, y ≠ nI n ∨ ¬ LenF O m n) ∨ True := Or.inr trivial
        rcases y3 with ⟨rfl, hno⟩ | ⟨n, rfl, hLn⟩
        · refine ⟨x, g, by rw [if_neg (by decide)], ?_⟩
          rcases q2 with ⟨h0, h1⟩ | ⟨n, f, r, f1, h0, h1, h2, h3, h4, h5⟩
          · refine Or.inl ⟨h0, fun f n f1 n1 n2 => ?_⟩
            by_cases e : f = m
            · subst e; exact hno n n1 n2
            · exact h1 f n (by omega) n1 n2
          · refine Or.inr ⟨n, f, r, by omega, h0, h1, fun f' j f2 j1 j2 => ?_, h3, h4, h5⟩
            by_cases e : f' = m
            · subst e; exact hno j j1 (by have := h1.2.1; omega)
            · exact h2 f' j (by omega) j1 j2
        · have hn2 := hLn.1
          have hn10 := hLn.2.1
          have hmake : (∀ f' j, f' < m → 2 ≤ j → j ≤ n → ¬ Wk O f' j f') → ∃ g2, J_X4_layRing_4_37 prs (x, nI m, g, s) (nI n, s2) () = some (nI n, g2) ∧ RingP O (m + 1) (nI n) g2 := by
            intro hless
            obtain ⟨r, hr⟩ := Row_ex hLn.2.2.1 n (Nat.le_refl _)
            obtain ⟨g2, g3, g4⟩ := C_follow (ring := g) HO (show m < 10 by omega) hLn y2 hr
            refine ⟨g2, sbind g3 rfl, Or.inr ⟨n, m, r, by omega, rfl, hLn, fun f' j f2 j1 j2 => ?_, fun f' f2 => hless f' n f2 hn2 (Nat.le_refl _), hr, g4⟩⟩
            by_cases e : f' = m
            · subst e; exact hLn.2.2.2 j j1 j2
            · exact hless f' j (by omega) j1 (by omega)
          rw [if_pos (ltL 0 0 rfl (by omega) (by omega))]
          rcases q2 with ⟨rfl, h1⟩ | ⟨l, f, r, f1, rfl, h1, h2, h3, h4, h5⟩
          · rw [if_pos rfl]
            obtain ⟨g2, g3, g4⟩ := hmake (fun f' j f2 j1 j2 => h1 f' j f2 j1 (by omega))
            exact ⟨_, g2, g3, g4⟩
          · have hl2 := h1.1
            have hl10 := h1.2.1
            rw [if_neg (nI_ne0 (by omega) (by omega))]
            by_cases hc : n < l
            · rw [if_pos (nI_lt hc (by omega))]
              obtain ⟨g2, g3, g4⟩ := hmake (fun f' j f2 j1 j2 => h2 f' j f2 j1 (by omega))
              exact ⟨_, g2, g3, g4⟩
            · rw [if_neg (nI_nlt (by omega) (by omega))]
              refine ⟨_, g, rfl, Or.inr ⟨l, f, r, by omega, rfl, h1, fun f' j f2 j1 j2 => ?_, h3, h4, h5⟩⟩
              by_cases e : f' = m
              · subst e; exact hLn.2.2.2 j j1 (by omega)
              · exact h2 f' j (by omega) j1 j2
      obtain ⟨z, g2, z1, z2⟩ := hnew
      exact ⟨(z, nI (m + 1), g2, s2), sbind y1 (sbind z1 (by rw [lt_eq, nI_1])), ⟨m + 1, by omega, rfl, z2⟩, hmu⟩
    · right
      have e : m = nM := by omega
      subst e
      exact ⟨(x, nI m, g, s), by rw [if_neg (nI_nlt (Nat.le_refl _) (by omega))], q2⟩
  obtain ⟨u, u1, u2⟩ := hl
  exact ⟨_, sbind u1 rfl, u2⟩
end CRI
