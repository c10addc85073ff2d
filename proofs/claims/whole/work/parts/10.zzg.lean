/-! PURE LAWS 48: men, the class's search -/
def ResS (N i : Nat) (r : Nat → Nat) (q : Option (Nat → Nat)) (v : Int32 × (Nat → Int32) × (Nat → Int32)) : Prop :=
  (∀ x, q = some x → v.1 = 1 ∧ ∀ k, k < N → v.2.1 k = nI (x k)) ∧ (q = none → v.1 = 0 ∧ (∀ k, k < i → v.2.1 k = nI (r k)) ∧ MemR i r v.2.2)
def FSok (one : Nat → Nat → Bool) (N d : Nat) (f : Nat → Int32) (rows : Int32) (FS : (Nat → Int32) → Int32 → (Nat → Int32) → (Nat → Int32) → Int32 → Int32 → Option (Int32 × (Nat → Int32) × (Nat → Int32))) : Prop :=
  ∀ (i o : Nat) (r : Nat → Nat) (ls m : Nat → Int32), i + d = N → PV r i → MemR i r m → (∀ k, k < i → ls k = nI (r k)) → o ≤ 10 → ∃ v, FS f rows ls m (nI i) (nI o) = some v ∧ ResS N i r ((enm one N d r).find? (fits i d o)) v
theorem sm_L {G S Z : Type} {y : S} {K : S → Option G} {W : Z → G} {x : Option G} (h : K y = x) : sm (.inl y) K W = x := h
section MEN
variable {one : Nat → Nat → Bool} {N d i : Nat} {f : Nat → Int32} {rows : Int32} {FS : (Nat → Int32) → Int32 → (Nat → Int32) → (Nat → Int32) → Int32 → Int32 → Option (Int32 × (Nat → Int32) × (Nat → Int32))}
theorem C_joins (H : FSok one N d f rows FS) (hN : N ≤ 10) (hi : i + 1 + d = N) {c o : Nat} (hc : c ≤ i) {r : Nat → Nat} {ls m : Nat → Int32} (hP : PV r i) (hM : MemR i r m) (hl : ∀ k, k < i → ls k = nI (r k)) (ho : o ≤ 10) (hk : okb one r i c = true) : ∃ v, F_X3_joins FS f rows ls m (nI i) (nI c) (nI o) = some v ∧ ResS N i r ((kid one N d r i c).find? (fits (i + 1) d o)) v := by
  obtain ⟨w, w1, w2⟩ := MemR_up hM (show i < 10 by omega) (show c < 10 by omega)
  have hl2 : ∀ k, k < i + 1 → upd ls i (nI c) k = nI (rset r i c k) := by
    intro k hk
    by_cases e : k = i
    · subst e; rw [pk_us, rset_s]
    · rw [pk_un e, rset_n e]; exact hl k (by omega)
  obtain ⟨v, v1, v2, v3⟩ := H (i + 1) o (rset r i c) (upd ls i (nI c)) (upd m c w) hi (PV_s hP hc (okb_iff.mp hk)) w2 hl2 ho
  have ek : kid one N d r i c = enm one N d (rset r i c) := if_pos hk
  rw [ek]
  unfold F_X3_joins
  rw [if_neg (nI_pos (by omega)), if_pos (ltR 10 10 rfl (by omega) (by decide)), if_neg (nI_pos (by omega)), if_pos (ltR 10 10 rfl (by omega) (by decide))]
  generalize hq : (enm one N d (rset r i c)).find? (fits (i + 1) d o) = q at v2 v3
  cases q with
  | some x =>
    obtain ⟨x1, x2⟩ := v2 x rfl
    refine ⟨(1, v.2.1, v.2.2), sbind (gI_at (by omega) (by decide)) ?_, fun y hy => ?_, fun z => absurd z (by simp)⟩
    · rw [w1]
      refine sbind (sI_at (by omega) (by decide)) (sbind (sI_at (by omega) (by decide)) ?_)
      rw [nI_1]
      refine sbind v1 ?_
      rw [x1, if_neg (by decide)]
    · have e := Option.some.inj hy
      subst e
      exact ⟨rfl, x2⟩
  | none =>
    obtain ⟨x1, x2, x3⟩ := v3 rfl
    refine ⟨(0, v.2.1, upd v.2.2 c (v.2.2 c &&& (((1 : Int32) <<< (nI i &&& 31)) ^^^ (-1 : Int32)))), sbind (gI_at (by omega) (by decide)) ?_, fun y hy => absurd hy (by simp), fun _ => ⟨rfl, fun k hk => ?_, ?_⟩⟩
    · rw [w1]
      refine sbind (sI_at (by omega) (by decide)) (sbind (sI_at (by omega) (by decide)) ?_)
      rw [nI_1]
      refine sbind v1 ?_
      rw [x1, if_pos rfl]
      exact sbind (gI_at (by omega) (by decide)) (sbind (sI_at (by omega) (by decide)) rfl)
    · dsimp only
      rw [x2 k (by omega), rset_n (by omega)]
    · exact MemR_dn x3 (by omega) (by omega)
theorem kids_c {F : Nat → List (Nat → Nat)} {c : Nat} (hc : c ≤ i) : kids F i (i + 1 - c) = F c ++ kids F i (i + 1 - (c + 1)) := by
  rw [show i + 1 - c = (i - c) + 1 by omega, show i + 1 - (c + 1) = i - c by omega]
  show F (i - (i - c)) ++ _ = _
  rw [show i - (i - c) = c by omega]
theorem C_settle1 (hA : AlkR one N f) (hr : rows = nI N) (hN : N ≤ 10) (H : FSok one N d f rows FS) : FSok one N (d + 1) f rows (F_X3_settle1 FS) := by
  intro i o r ls m hi hP hM hl ho
  have hi2 : i + 1 + d = N := by omega
  have hE := enm_s (one := one) (r := r) hi
  generalize hq : (enm one N (d + 1) r).find? (fits i (d + 1) o) = q
  rw [hE] at hq
  have hlp : ∃ t, itr (B_X3_settle_46 (nI i) f FS rows (nI o)) FU ((0 : Int32), ls, m) = some t ∧ ((∃ y, t = .inl y ∧ (∀ k, k < i → y.2.1 k = nI (r k)) ∧ MemR i r y.2.2 ∧ (kid one N d r i i).find? (fits i (d + 1) o) = q) ∨ ∃ z, t = .inr z ∧ z.1 = 1 ∧ ResS N i r q z) := by
    refine itr_fu (I := fun s => ∃ c, c ≤ i ∧ s.1 = nI c ∧ (∀ k, k < i → s.2.1 k = nI (r k)) ∧ MemR i r s.2.2 ∧ (kids (kid one N d r i) i (i + 1 - c)).find? (fits i (d + 1) o) = q) (μ := fun s => i - s.1.toNatClampNeg) _ _ ⟨0, Nat.zero_le _, rfl, hl, hM, hq⟩ (by dsimp only; omega) ?_
    rintro ⟨c', ls', m'⟩ ⟨c, q1, q2, q3, q4, q5⟩
    dsimp only at q2 q3 q4
    subst q2
    unfold B_X3_settle_46
    dsimp only
    rw [kids_c q1, List.find?_append] at q5
    by_cases h : c < i
    · rw [fits_lt hi2 h] at q5
      rw [if_pos (nI_lt h (by omega)), C_mayJoin hA q4 hP hN (by omega) h]
      by_cases hk : okb one r i c = true
      · obtain ⟨v, v1, v2, v3⟩ := C_joins H hN hi2 (c := c) (o := o) (by omega) hP q4 q3 ho hk
        generalize hw : (kid one N d r i c).find? (fits (i + 1) d o) = w at q5 v2 v3
        cases w with
        | some x =>
          right
          obtain ⟨x1, x2⟩ := v2 x rfl
          refine ⟨.inr (1, v.2.1, v.2.2), ?_, Or.inr ⟨_, rfl, rfl, fun y hy => ?_, fun hy => ?_⟩⟩
          · rw [if_pos hk]
            refine sbind rfl ?_
            rw [if_neg (by decide)]
            refine sbind v1 ?_
            rw [x1, if_neg (by decide)]
          · have e : q = some x := q5.symm
            rw [e] at hy
            have e := Option.some.inj hy
            subst e
            exact ⟨rfl, x2⟩
          · have e : q = some x := q5.symm
            rw [e] at hy
            exact absurd hy (by simp)
        | none =>
          left
          obtain ⟨x1, x2, x3⟩ := v3 rfl
          refine ⟨(nI (c + 1), v.2.1, v.2.2), ?_, ⟨c + 1, h, rfl, x2, x3, q5⟩, ?_⟩
          · rw [if_pos hk]
            refine sbind rfl ?_
            rw [if_neg (by decide)]
            refine sbind v1 ?_
            rw [x1, if_pos rfl, lt_eq, nI_1]
          · dsimp only
            rw [nI_clamp (by omega), nI_clamp (by omega)]; omega
      · left
        have ek : kid one N d r i c = [] := if_neg hk
        rw [ek] at q5
        refine ⟨(nI (c + 1), ls', m'), ?_, ⟨c + 1, h, rfl, q3, q4, q5⟩, ?_⟩
        · rw [if_neg hk]
          refine sbind rfl ?_
          rw [if_pos rfl, lt_eq, nI_1]
        · dsimp only
          rw [nI_clamp (by omega), nI_clamp (by omega)]; omega
    · right
      have e : c = i := by omega
      subst e
      refine ⟨.inl (nI c, ls', m'), by rw [if_neg (nI_nlt (Nat.le_refl _) (by omega))], Or.inl ⟨_, rfl, q3, q4, ?_⟩⟩
      rw [Nat.sub_self] at q5
      have e2 : (kids (kid one N d r c) c 0).find? (fits c (d + 1) o) = none := rfl
      rw [e2, Option.or_none] at q5
      exact q5
  obtain ⟨t, t1, t2⟩ := hlp
  unfold F_X3_settle1
  rw [hr, if_pos (nI_lt (by omega) (by omega)), if_pos (ltR 10 10 rfl (by omega) (by decide)), if_pos (ltR 10 10 rfl (by omega) (by decide)), if_neg (nI_pos (by omega)), if_neg (nI_pos (by omega)), ← hr]
  rcases t2 with ⟨y, rfl, y1, y2, y3⟩ | ⟨z, rfl, z1, z2⟩
  · have hk : okb one r i i = true := okb_iff.mpr (Or.inl rfl)
    by_cases h0 : o = 0
    · subst h0
      rw [fits_0 hi2] at y3
      refine ⟨(0, y.2.1, y.2.2), sbind t1 ?_, fun x hx => ?_, fun _ => ⟨rfl, y1, y2⟩⟩
      · refine sm_L ?_
        refine sbind (x := (0, y.2.1, y.2.2)) (by rw [if_neg (by decide)]) rfl
      · rw [← y3] at hx
        exact absurd hx (by simp)
    · obtain ⟨o', rfl⟩ : ∃ o', o = o' + 1 := ⟨o - 1, by omega⟩
      rw [fits_eq hi2] at y3
      obtain ⟨v, v1, v2, v3⟩ := C_joins H hN hi2 (c := i) (o := o') (Nat.le_refl _) hP y2 y1 (by omega) hk
      rw [y3] at v2 v3
      have hm1 : nI (o' + 1) - 1 = nI o' := m1s o'
      refine ⟨v, sbind t1 ?_, v2, v3⟩
      refine sm_L ?_
      refine sbind (x := v) ?_ ?_
      · rw [if_pos (ltL 0 0 rfl (Nat.succ_pos _) (by omega)), hm1]
        refine sbind v1 ?_
        cases q with
        | some x => rw [(v2 x rfl).1, if_neg (by decide), ← (v2 x rfl).1]
        | none => rw [(v3 rfl).1, if_pos rfl, ← (v3 rfl).1]
      · cases q with
        | some x => rw [(v2 x rfl).1, bZ_1, ← (v2 x rfl).1]; rfl
        | none => rw [(v3 rfl).1, bZ_0, ← (v3 rfl).1]; rfl
  · exact ⟨z, sbind t1 rfl, z2⟩
theorem C_settle (hA : AlkR one N f) (hr : rows = nI N) (hN : N ≤ 10) : ∀ d fuel, d < fuel → FSok one N d f rows (F_X3_settle fuel)
  | 0, fuel, hf => by
    obtain ⟨k, rfl⟩ : ∃ k, fuel = k + 1 := ⟨fuel - 1, by omega⟩
    intro i o r ls m hi hP hM hl ho
    refine ⟨(1, ls, m), ?_, fun x hx => ⟨rfl, fun k hk => ?_⟩, fun hx => ?_⟩
    · show F_X3_settle1 (F_X3_settle k) f rows ls m (nI i) (nI o) = _
      unfold F_X3_settle1
      rw [hr, if_neg (nI_nlt (by omega) (by omega))]
    · have e : (enm one N 0 r).find? (fits i 0 o) = some r := by
        show ([r] : List (Nat → Nat)).find? _ = _
        rw [List.find?_cons, show fits i 0 o r = true from decide_eq_true (Nat.zero_le _)]
      rw [e] at hx
      have e := Option.some.inj hx
      subst e
      exact hl k (by omega)
    · have e : (enm one N 0 r).find? (fits i 0 o) = some r := by
        show ([r] : List (Nat → Nat)).find? _ = _
        rw [List.find?_cons, show fits i 0 o r = true from decide_eq_true (Nat.zero_le _)]
      rw [e] at hx
      exact absurd hx (by simp)
  | d + 1, fuel, hf => by
    obtain ⟨k, rfl⟩ : ∃ k, fuel = k + 1 := ⟨fuel - 1, by omega⟩
    exact C_settle1 hA hr hN (C_settle hA hr hN d k (by omega))
end MEN
