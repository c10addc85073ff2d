/-! PURE LAWS 52: men, the call -/
def tb : Nat → Nat
  | 0 => 0
  | d + 1 => 12 * (tb d + 1)
theorem tb_mono : ∀ {d e}, d ≤ e → tb d ≤ tb e
  | d, 0, h => by rw [show d = 0 by omega]; exact Nat.le_refl _
  | d, e + 1, h => by
    by_cases h2 : d = e + 1
    · rw [h2]; exact Nat.le_refl _
    · have := tb_mono (show d ≤ e by omega)
      show tb d ≤ 12 * (tb e + 1)
      omega
theorem tb_b {d : Nat} (h : d ≤ 10) : tb d < 100000000000 := Nat.lt_of_le_of_lt (tb_mono h) (by decide)
def BR (N : Nat) (b : Int32) (bl : Nat → Int32) (o : Option (Nat × (Nat → Nat))) : Prop := (o = none → b = -1) ∧ ∀ m x, o = some (m, x) → b = nI m ∧ m ≤ 10 ∧ ∀ k, k < N → bl k = nI (x k)
section MEQ
variable {st : Nat → Int32} {N : Nat} {cells : Nat → Int32} {rows : Int32}
theorem M_leaf (R : rT 10 3 3 1903 9 qMen cells rows st N) {b : Int32} {i : Nat} {i0 : Int32} {bl ld g : Nat → Int32} {x : Nat → Nat} {acc : Option (Nat × (Nat → Nat))} (hB : BR N b bl acc) (hx : ∀ k, k < N → g k = nI (x k)) (hb : ∀ k, k < N → x k < 2 ^ 31) : ∃ b' bl', (Option.bind (itr (B_X12_findMen_99 (nI N) g) FU ((0 : Int32), (0 : Int32))) fun x_12 => Option.bind (if b = (-1 : Int32) then J_X12_findMen_4_144 (nI N) g (b, i0, bl, ld) x_12 () else if x_12.1 < b then J_X12_findMen_4_144 (nI N) g (b, i0, bl, ld) x_12 () else some (b, bl)) fun j_17 => some (Sum.inl (j_17.1, nI i, j_17.2, g) : (Int32 × Int32 × (Nat → Int32) × (Nat → Int32)) ⊕ (Int32 × Int32 × (Nat → Int32) × (Nat → Int32)))) = some (Sum.inl (b', nI i, bl', g)) ∧ BR N b' bl' (mup N acc x) := by
  have hN : N ≤ 10 := R.1.1
  obtain ⟨t, t1, t2⟩ := M_cntM (x := x) hN hx hb
  obtain ⟨u, u1, u2⟩ := M_cpyM (g := g) (bl := bl) hN
  have hw := nwc_le x N 0
  have hJ : J_X12_findMen_4_144 (nI N) g (b, i0, bl, ld) t () = some (t.1, u.2) := sbind u1 rfl
  have hnew : BR N t.1 u.2 (some (nwc x 0 N, x)) := ⟨fun z => absurd z (by simp), fun m y e => by
    have e := Option.some.inj e
    have e1 : nwc x 0 N = m := congrArg Prod.fst e
    have e2 : x = y := congrArg Prod.snd e
    subst e1; subst e2
    exact ⟨t2, by omega, fun k hk => by rw [u2 k hk, hx k hk]⟩⟩
  cases acc with
  | none =>
    have hb1 := hB.1 rfl
    refine ⟨t.1, u.2, sbind t1 (sbind (x := (t.1, u.2)) ?_ rfl), hnew⟩
    rw [if_pos hb1]; exact hJ
  | some p =>
    obtain ⟨m, y⟩ := p
    obtain ⟨c1, c2, c3⟩ := hB.2 m y rfl
    have hne : ¬ b = -1 := fun e => by
      have := nI_toInt (n := m) (by omega)
      rw [← c1, e, show ((-1 : Int32)).toInt = -1 from rfl] at this; omega
    by_cases h : nwc x 0 N < m
    · refine ⟨t.1, u.2, sbind t1 (sbind (x := (t.1, u.2)) ?_ rfl), ?_⟩
      · rw [if_neg hne, if_pos (by rw [t2, c1]; exact nI_lt h (by omega))]; exact hJ
      · rw [show mup N (some (m, y)) x = some (nwc x 0 N, x) from if_pos h]; exact hnew
    · refine ⟨b, bl, sbind t1 (sbind (x := (b, bl)) ?_ rfl), ?_⟩
      · rw [if_neg hne, if_neg (by rw [t2, c1]; exact nI_nlt (by omega) (by omega))]
      · rw [show mup N (some (m, y)) x = some (m, y) from if_neg h]; exact hB
def WalkOK (st : Nat → Int32) (N d : Nat) : Prop := ∀ (e i c : Nat) (r : Nat → Nat) (b : Int32) (bl ld : Nat → Int32) (acc : Option (Nat × (Nat → Nat))), i + (d + 1) = N → c + e = i + 1 → PV r i → (∀ k, k < i → ld k = nI (r k)) → ld i = nI c - 1 → BR N b bl acc → ∃ b' bl' ld', Rch (B_X12_findMen_35 st (nI N)) (e * (tb d + 1) + 1) (b, nI i, bl, ld) (b', nI i - 1, bl', ld') ∧ BR N b' bl' ((kids (kid (oneM st N) N d r i) i e).foldl (mup N) acc) ∧ ∀ k, k < i → ld' k = nI (r k)
theorem M_walk1 (R : rT 10 3 3 1903 9 qMen cells rows st N) (d : Nat) (H : ∀ d', d = d' + 1 → WalkOK st N d') : ∀ (e i c : Nat) (r : Nat → Nat) (b : Int32) (bl ld : Nat → Int32) (acc : Option (Nat × (Nat → Nat))), i + (d + 1) = N → c + e = i + 1 → PV r i → (∀ k, k < i → ld k = nI (r k)) → ld i = nI c - 1 → BR N b bl acc → ∃ b' bl' ld', Rch (B_X12_findMen_35 st (nI N)) (e * (tb d + 1) + 1) (b, nI i, bl, ld) (b', nI i - 1, bl', ld') ∧ BR N b' bl' ((kids (kid (oneM st N) N d r i) i e).foldl (mup N) acc) ∧ ∀ k, k < i → ld' k = nI (r k)
  | 0, i, c, r, b, bl, ld, acc, hi, hc, hP, hl, hli, hB => by
    have hN : N ≤ 10 := R.1.1
    refine ⟨b, bl, upd ld i (nI c), Rch_m (Rch_1 ?_) (by omega), hB, fun k hk => by rw [pk_un (by omega)]; exact hl k hk⟩
    unfold B_X12_findMen_35
    dsimp only
    rw [if_neg (nI_pos (by omega))]
    refine sbind (gI_at (by omega) (by decide)) ?_
    rw [hli, m1b]
    refine sbind (sI_at (by omega) (by decide)) (sbind (gI_at (by omega) (by decide)) ?_)
    rw [pk_us, if_pos (nI_lt (by omega) (by omega)), lt_eq, m1d]
  | e + 1, i, c, r, b, bl, ld, acc, hi, hc, hP, hl, hli, hB => by
    have hN : N ≤ 10 := R.1.1
    have IH := M_walk1 R d H e
    have hci : c ≤ i := by omega
    have hkid : kids (kid (oneM st N) N d r i) i (e + 1) = kid (oneM st N) N d r i c ++ kids (kid (oneM st N) N d r i) i e := by
      show kid (oneM st N) N d r i (i - e) ++ _ = _
      rw [show i - e = c by omega]
    rw [hkid, List.foldl_append]
    have hg : ∀ k, k < i → upd ld i (nI c) k = nI (r k) := fun k hk => by rw [pk_un (by omega)]; exact hl k hk
    have hgi : upd ld i (nI c) i = nI c := pk_us
    have hF := M_follow R (show i < N by omega) hci hP hg hgi
    have hgi2 : upd ld i (nI c) i = nI (c + 1) - 1 := by rw [hgi, m1s]
    -- one step of the loop, as far as mayFollow
    have hstep : ∀ (z : Option ((Int32 × Int32 × (Nat → Int32) × (Nat → Int32)) ⊕ (Int32 × Int32 × (Nat → Int32) × (Nat → Int32)))), (if (if okb (oneM st N) r i c = true then (1 : Int32) else 0) = 0 then some (Sum.inl (b, nI i, bl, upd ld i (nI c))) else if nI i + (1 : Int32) < nI N then lt (nI i + (1 : Int32)) fun x_24 => Option.bind (sI (upd ld i (nI c)) 10 x_24 (-1 : Int32)) fun g_25 => some (Sum.inl (b, x_24, bl, g_25)) else Option.bind (itr (B_X12_findMen_99 (nI N) (upd ld i (nI c))) FU ((0 : Int32), (0 : Int32))) fun x_12 => Option.bind (if b = (-1 : Int32) then J_X12_findMen_4_144 (nI N) (upd ld i (nI c)) (b, nI i, bl, ld) x_12 () else if x_12.1 < b then J_X12_findMen_4_144 (nI N) (upd ld i (nI c)) (b, nI i, bl, ld) x_12 () else some (b, bl)) fun j_17 => some (Sum.inl (j_17.1, nI i, j_17.2, upd ld i (nI c)))) = z → B_X12_findMen_35 st (nI N) (b, nI i, bl, ld) = z := by
      intro z hz
      unfold B_X12_findMen_35
      dsimp only
      rw [if_neg (nI_pos (by omega))]
      refine sbind (gI_at (by omega) (by decide)) ?_
      rw [hli, m1b]
      refine sbind (sI_at (by omega) (by decide)) (sbind (gI_at (by omega) (by decide)) ?_)
      rw [hgi, if_neg (nI_nlt hci (by omega))]
      exact sbind hF hz
    by_cases hk : okb (oneM st N) r i c = true
    · have ek : kid (oneM st N) N d r i c = enm (oneM st N) N d (rset r i c) := if_pos hk
      have hP2 := PV_s hP hci (okb_iff.mp hk)
      have hg2 : ∀ k, k < i + 1 → upd ld i (nI c) k = nI (rset r i c k) := by
        intro k hk2
        by_cases e2 : k = i
        · subst e2; rw [rset_s]; exact hgi
        · rw [rset_n e2]; exact hg k (by omega)
      rw [ek]
      cases d with
      | zero =>
        have hiN : i + 1 = N := by omega
        obtain ⟨b1, bl1, w1, w2⟩ := M_leaf R (i := i) (i0 := nI i) (ld := ld) (x := rset r i c) hB (fun k hk2 => hg2 k (by omega)) (fun k hk2 => by have := (hP2 k (by omega)).1; omega)
        obtain ⟨b2, bl2, ld2, v1, v2, v3⟩ := IH i (c + 1) r b1 bl1 (upd ld i (nI c)) (mup N acc (rset r i c)) hi (by omega) hP hg hgi2 w2
        refine ⟨b2, bl2, ld2, Rch_m (Rch_t (Rch_1 (hstep _ ?_)) v1) (by rw [Nat.add_mul]; omega), v2, v3⟩
        rw [if_pos hk, if_neg (by decide), if_neg (by rw [nI_1, hiN]; exact nI_nlt (Nat.le_refl _) (by omega))]
        exact w1
      | succ d =>
        have hBs := enm_s (one := oneM st N) (r := rset r i c) (show i + 1 + (d + 1) = N by omega)
        obtain ⟨b1, bl1, ld1, w1, w2, w3⟩ := H d rfl (i + 2) (i + 1) 0 (rset r i c) b bl (upd (upd ld i (nI c)) (i + 1) (-1)) acc (by omega) (by omega) hP2 (fun k hk2 => by rw [pk_un (by omega)]; exact hg2 k hk2) (by rw [pk_us]; rfl) hB
        rw [← hBs] at w2
        have hl1 : ld1 i = nI (c + 1) - 1 := by rw [w3 i (by omega), rset_s, m1s]
        rw [m1s] at w1
        obtain ⟨b2, bl2, ld2, v1, v2, v3⟩ := IH i (c + 1) r b1 bl1 ld1 _ hi (by omega) hP (fun k hk2 => by rw [w3 k (by omega), rset_n (by omega)]) hl1 w2
        refine ⟨b2, bl2, ld2, Rch_m (Rch_t (Rch_1 (hstep _ ?_)) (Rch_t w1 v1)) ?_, v2, v3⟩
        · rw [if_pos hk, if_neg (by decide), nI_1, if_pos (nI_lt (by omega) (by omega)), lt_eq]
          exact sbind (sI_at (by omega) (by decide)) rfl
        · have h1 : (i + 2) * (tb d + 1) ≤ 11 * (tb d + 1) := Nat.mul_le_mul_right _ (by omega)
          have h2 : tb (d + 1) = 12 * (tb d + 1) := rfl
          have h3 : (e + 1) * (tb (d + 1) + 1) = e * (tb (d + 1) + 1) + (tb (d + 1) + 1) := by rw [Nat.add_mul, Nat.one_mul]
          rw [h3]
          generalize e * (tb (d + 1) + 1) = q
          generalize (i + 2) * (tb d + 1) = p at h1
          omega
    · have ek : kid (oneM st N) N d r i c = [] := if_neg hk
      rw [ek]
      obtain ⟨b2, bl2, ld2, v1, v2, v3⟩ := IH i (c + 1) r b bl (upd ld i (nI c)) acc hi (by omega) hP hg hgi2 hB
      refine ⟨b2, bl2, ld2, Rch_m (Rch_t (Rch_1 (hstep _ ?_)) v1) (by rw [Nat.add_mul]; omega), v2, v3⟩
      rw [if_neg hk, if_pos rfl]
theorem M_walk (R : rT 10 3 3 1903 9 qMen cells rows st N) : ∀ d, WalkOK st N d
  | 0 => M_walk1 R 0 (fun d' h => absurd h (by omega))
  | d + 1 => M_walk1 R (d + 1) (fun d' h => by
    have e : d' = d := by omega
    subst e
    exact M_walk R d')
theorem M_findMen (R : rT 10 3 3 1903 9 qMen cells rows st N) (bl ld : Nat → Int32) : ∃ o b x, F_X12_findMen bl ld st = some o ∧ b ≤ N ∧ FstM N (enm (oneM st N) N N (fun k => k)) b x ∧ o.1 = nI b ∧ ∀ k, k < N → o.2.1 k = nI (x k) := by
  have hN : N ≤ 10 := R.1.1
  have h9 : gI st 1951 9 = some (nI N) := by rw [← R.1.2.2]; exact M_at (k := 9) (by decide)
  obtain ⟨b, x, f1, f2, f3⟩ := mup_all (N := N) (enm_ne (one := oneM st N) (N := N) (d := N) (i := 0) (r := fun k => k) (by omega))
  have hld : sI ld 10 0 (-1) = some (upd ld 0 (-1)) := sI_at (k := 0) (by decide) (by decide)
  unfold F_X12_findMen
  cases N with
  | zero =>
    have e0 : B_X12_findMen_35 st (nI 0) ((0 : Int32), (-1 : Int32), bl, upd ld 0 (-1)) = some (.inr ((0 : Int32), (-1 : Int32), bl, upd ld 0 (-1))) := by
      unfold B_X12_findMen_35
      dsimp only
      rw [if_pos (by decide)]
    have e1 : itr (B_X12_findMen_35 st (nI 0)) FU ((0 : Int32), (-1 : Int32), bl, upd ld 0 (-1)) = some ((0 : Int32), (-1 : Int32), bl, upd ld 0 (-1)) := Rch_FU (B := 0) ⟨0, Nat.le_refl _, fun K => by rw [Nat.zero_add]⟩ (by decide) e0
    refine ⟨(0, bl, upd ld 0 (-1)), b, x, sbind h9 (sbind (x := 0) (if_pos rfl) (sbind (x := -1) (if_pos rfl) (sbind hld (sbind e1 rfl)))), f2, f3, ?_, fun k hk => absurd hk (Nat.not_lt_zero _)⟩
    rw [show b = 0 by omega]; rfl
  | succ n =>
    obtain ⟨b1, bl1, ld1, w1, w2, -⟩ := M_walk R n 1 0 0 (fun k => k) (-1) bl (upd ld 0 (-1)) none (by omega) (by omega) (fun k hk => absurd hk (Nat.not_lt_zero _)) (fun k hk => absurd hk (Nat.not_lt_zero _)) (by rw [pk_us]; rfl) ⟨fun _ => rfl, fun m x e => absurd e (by simp)⟩
    have hE := enm_s (one := oneM st (n + 1)) (r := fun k => k) (show 0 + (n + 1) = n + 1 by omega)
    rw [← hE, f1] at w2
    obtain ⟨c1, c2, c3⟩ := w2.2 b x rfl
    have hx : B_X12_findMen_35 st (nI (n + 1)) (b1, nI 0 - 1, bl1, ld1) = some (.inr (b1, nI 0 - 1, bl1, ld1)) := by
      unfold B_X12_findMen_35
      dsimp only
      rw [if_pos (by decide)]
    have ht := tb_b (show n ≤ 10 by omega)
    have e1 := Rch_FU w1 (by omega) hx
    have hne : ¬ nI (n + 1) = 0 := neR 0 0 rfl (by omega) (by decide) (by omega)
    exact ⟨(b1, bl1, ld1), b, x, sbind h9 (sbind (x := -1) (by rw [if_neg hne]) (sbind (x := 0) (by rw [if_neg hne]) (sbind hld (sbind e1 rfl)))), f2, f3, c1, c3⟩
end MEQ
section MER
variable {tc : Nat → Nat → Int32} {tr : Nat → Int32} {nar nam : Int32} {st : Nat → Int32}
theorem P_men (h : Rel actK tc tr nar nam st) (al ls ms bl ld : Nat → Int32) (p0 : Int32) :
    Two (F_X11_men (tc 10) (tr 10) al ls ms p0) (F_X12_men bl ld st p0) (fun o1 o2 => o1.1 = o2.1) := by
  obtain ⟨n, a, b, R⟩ := h
  have RM := R.2.2.2.2.2.2.2.2.2.2.1
  obtain ⟨r1, r2, r3⟩ := id RM.1
  obtain ⟨o, m, x, f1, f2, f3, f4, f5⟩ := M_findMen RM bl ld
  obtain ⟨v, v1, v2, v3⟩ := C_tellApart RM al ls ms f2 f3
  unfold F_X11_men F_X12_men
  by_cases hm : p0 = -1
  · refine two_l (C_out_t (a := -1) (b := (n 9 : Int) - 1) rfl (by rw [r2]; exact nI_m1 (by omega)) ⟨by rw [hm]; decide, by rw [hm, show ((-1 : Int32)).toInt = -1 from rfl]; omega⟩) ?_
    rw [if_pos rfl, if_pos hm]
    refine two_l v1 (two_l (x := v.1) (by rw [if_pos hm]) ?_)
    unfold J_X12_men_1_18
    exact two_r f1 (two_r (x := o.1) (by rw [if_pos hm]) (two_end (v2.trans f4.symm)))
  · by_cases hi : inR p0 0 (((n 9 : Nat) : Int) - 1)
    · refine two_l (C_out_t (a := -1) (b := (n 9 : Int) - 1) rfl (by rw [r2]; exact nI_m1 (by omega)) ⟨by have := hi.1; omega, hi.2⟩) ?_
      rw [if_pos rfl, if_neg hm]
      refine two_r (M_is_t (c := 9) (by decide) r3 (by omega) hi) ?_
      rw [if_neg (by decide)]
      obtain ⟨l, k1, k2, rfl⟩ := inR_row hi
      refine two_l v1 (two_l (x := nI (x l)) ?_ ?_)
      · rw [if_neg hm]
        refine sbind (x := nI (x l)) ?_ rfl
        unfold F_X3_leastOf
        refine sbind (x := nI (x l)) ?_ rfl
        rw [if_neg (nI_pos (by omega)), if_pos (ltR 10 10 rfl (by omega) (by decide))]
        refine sbind (gI_at (by omega) (by decide)) ?_
        rw [v3 l k1]
      · unfold J_X12_men_1_18
        refine two_r f1 (two_r (x := nI (x l)) ?_ (two_end rfl))
        rw [if_neg hm]
        refine sbind (gI_at (by omega) (by decide)) ?_
        rw [f5 l k1]
    · have hn : ¬ inR p0 (-1) (((n 9 : Nat) : Int) - 1) := fun z => hi ⟨by
        have h1 := z.1
        have h2 : p0.toInt ≠ -1 := fun e => hm (by rw [← Int32.toInt_inj, e]; rfl)
        omega, z.2⟩
      refine two_l (C_out_f (a := -1) (b := (n 9 : Int) - 1) rfl (by rw [r2]; exact nI_m1 (by omega)) hn) ?_
      rw [if_neg (by decide), if_neg hm]
      refine two_r (M_is_f (c := 9) (by decide) r3 (by omega) hi) ?_
      rw [if_pos rfl]
      exact two_end rfl
end MER
