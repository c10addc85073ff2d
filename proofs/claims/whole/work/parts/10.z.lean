/-! PURE LAWS 15: codes at work -/
def alike (d : Nat) (a b : Nat → Int64) : Prop := ∀ k, k < d → a k = b k
theorem alike_p {d : Nat} {a b : Nat → Int64} (h : alike d a b) (x : Int64) : alike (d + 1) (vp_updL a d x) (vp_updL b d x) := by
  intro k hk
  by_cases e : k = d
  · subst e; rw [pk_uLs, pk_uLs]
  · rw [pk_uLn e, pk_uLn e]; exact h k (by omega)
theorem alike_l {d e : Nat} {a b : Nat → Int64} (h : alike d a b) (he : e ≤ d) : alike e a b := fun k hk => h k (by omega)
/-- what is given to a text -/
def Gv (given : Nat → Int64) (ab : Int64) (ga ki se to : Int32) : Prop := given 0 = ga.toInt64 ∧ given 1 = ki.toInt64 ∧ given 2 = to.toInt64 ∧ given 3 = se.toInt64 ∧ given 4 = ab
theorem nn32 {v : Nat} (h : v < 2 ^ 31) : (nI v).toInt64 = (nI v).toInt64 := rfl
theorem neg_lt {x : Int32} (h : 0 < x.toInt) (h2 : x.toInt < 1000) : -x < 0 := by
  rw [Int32.lt_iff_toInt_lt, Int32.toInt_neg, Int.bmod_def, show (0 : Int32).toInt = 0 from rfl]
  split <;> omega
theorem bin_work (s : Sg) : binS s → s.kc < 0 ∧ -(s.kc) = nI s.cs ∧ ¬ nI s.cs = 33 ∧ ¬ nI s.cs = 63 ∧ ¬ nI s.cs = 103 ∧ ¬ nI s.cs = 107 ∧ ¬ nI s.cs = 115 ∧ ¬ nI s.cs = 116 ∧ ¬ nI s.cs = 119 ∧ ¬ nI s.cs = 126 := by
  unfold binS
  revert s; apply all14 <;> decide
theorem bin_ms (s : Sg) : binS s → ¬ nI s.ms = 0 ∧ ¬ nI s.ms = 1 ∧ ¬ nI s.ms = 3 ∧ ¬ nI s.ms = 2 ∧ ¬ nI s.ms = 15 := by
  unfold binS
  revert s; apply all14 <;> decide
theorem sg3 (s : Sg) : ¬ binS s → s ≠ Sg.op → s ≠ Sg.as → s = Sg.no ∨ s = Sg.ng ∨ s = Sg.el := by
  unfold binS
  revert s; apply all14 <;> decide
theorem WORK {ab : Int64} {ga ki se to : Int32} {given : Nat → Int64} (hG : Gv given ab ga ki se to) {f step wth : Nat → Int32} {steps : Int32} {i d d' : Nat} {sk vl : Nat → Int64} (hC : CK f step wth i d d') (hd : d < 50) (hi : i < 50) (hlt : nI i < steps) (hA : alike d sk vl) :
    ∃ sk' vl' : Nat → Int64, F_X1_work ab ga (nI d) ki se sk to (f i) = some (nI d', sk') ∧ B_X12_tellsOf_4 steps step wth given (nI d, nI i, vl) = some (.inl (nI d', nI (i + 1), vl')) ∧ alike d' sk' vl' := by
  obtain ⟨g0, g1, g2, g3, g4⟩ := hG
  rcases hC with ⟨v, hv, h1, h2, h3, h4⟩ | ⟨v, hv, h1, h2, h3, h4⟩ | ⟨s, s1, s2, h1, h2, h3, h4⟩
  · subst h4
    refine ⟨_, _, ?_, ?_, alike_p hA (nI v).toInt64⟩
    · unfold F_X1_work
      rw [h1, if_neg (nI_pos (by omega))]
      exact sbind (C_psh hd) rfl
    · unfold B_X12_tellsOf_4
      dsimp only
      rw [if_pos hlt]
      refine sbind (gI_at (by omega) (by decide)) ?_
      rw [h2]
      refine sbind (x := (nI (d + 1), vp_updL vl d (nI v).toInt64)) ?_ (by rw [lt_eq, nI_1])
      rw [if_pos rfl]
      unfold J_X12_tellsOf_4_28
      refine sbind (x := (nI v).toInt64) ?_ ?_
      · rw [if_pos rfl]
        exact sbind (gI_at (by omega) (by decide)) (by rw [h3])
      · exact sbind (sL_at (by omega) (by decide)) (by rw [lt_eq]; dsimp only; rw [nI_1])
  · subst h4
    have hmod : ∀ x : Int64, given v = x → B_X12_tellsOf_4 steps step wth given (nI d, nI i, vl) = some (.inl (nI (d + 1), nI (i + 1), vp_updL vl d x)) := by
      intro x hx
      unfold B_X12_tellsOf_4
      dsimp only
      rw [if_pos hlt]
      refine sbind (gI_at (by omega) (by decide)) ?_
      rw [h2]
      refine sbind (x := (nI (d + 1), vp_updL vl d x)) ?_ (by rw [lt_eq, nI_1])
      rw [if_neg (by decide), if_pos rfl]
      unfold J_X12_tellsOf_4_28
      refine sbind (x := x) ?_ ?_
      · rw [if_neg (by decide)]
        refine sbind (gI_at (by omega) (by decide)) ?_
        rw [h3]
        exact sbind (gL_at (by omega) (by decide)) (by rw [hx])
      · exact sbind (sL_at (by omega) (by decide)) (by rw [lt_eq]; dsimp only; rw [nI_1])
    rcases (show v = 0 ∨ v = 1 ∨ v = 2 ∨ v = 3 ∨ v = 4 by omega) with rfl | rfl | rfl | rfl | rfl
    · refine ⟨_, _, ?_, hmod _ g0, alike_p hA _⟩
      unfold F_X1_work
      rw [h1, show nmC 0 = 103 from rfl, if_pos (by decide)]
      refine sbind (x := (nI (d + 1), vp_updL sk d ga.toInt64)) ?_ rfl
      rw [if_neg (by decide), if_neg (by decide), if_pos (by decide)]
      exact sbind (C_psh hd) rfl
    · refine ⟨_, _, ?_, hmod _ g1, alike_p hA _⟩
      unfold F_X1_work
      rw [h1, show nmC 1 = 107 from rfl, if_pos (by decide)]
      refine sbind (x := (nI (d + 1), vp_updL sk d ki.toInt64)) ?_ rfl
      rw [if_neg (by decide), if_neg (by decide), if_neg (by decide), if_pos (by decide)]
      exact sbind (C_psh hd) rfl
    · refine ⟨_, _, ?_, hmod _ g2, alike_p hA _⟩
      unfold F_X1_work
      rw [h1, show nmC 2 = 116 from rfl, if_pos (by decide)]
      refine sbind (x := (nI (d + 1), vp_updL sk d to.toInt64)) ?_ rfl
      rw [if_neg (by decide), if_neg (by decide), if_neg (by decide), if_neg (by decide), if_neg (by decide), if_pos (by decide)]
      exact sbind (C_psh hd) rfl
    · refine ⟨_, _, ?_, hmod _ g3, alike_p hA _⟩
      unfold F_X1_work
      rw [h1, show nmC 3 = 115 from rfl, if_pos (by decide)]
      refine sbind (x := (nI (d + 1), vp_updL sk d se.toInt64)) ?_ rfl
      rw [if_neg (by decide), if_neg (by decide), if_neg (by decide), if_neg (by decide), if_pos (by decide)]
      exact sbind (C_psh hd) rfl
    · refine ⟨_, _, ?_, hmod _ g4, alike_p hA _⟩
      unfold F_X1_work
      rw [h1, show nmC 4 = 119 from rfl, if_pos (by decide)]
      refine sbind (x := (nI (d + 1), vp_updL sk d ab)) ?_ rfl
      rw [if_neg (by decide), if_neg (by decide), if_neg (by decide), if_neg (by decide), if_neg (by decide), if_neg (by decide), if_pos (by decide)]
      exact sbind (C_psh hd) rfl
  · have htm : ∀ {vl' : Nat → Int64} {dd : Nat}, (Option.bind (gI step 70 (nI i)) fun t_3 => Option.bind (if t_3 = 0 then (
J_X12_tellsOf_4_28 t_3 wth (nI d, nI i, vl) given ()) else (
if t_3 = (1 : Int32) then (
J_X12_tellsOf_4_28 t_3 wth (nI d, nI i, vl) given ()) else (
if t_3 = (3 : Int32) then (
Option.bind (gL vl 70 (nI d - (1 : Int32))) fun t_26 =>
Option.bind (sL vl 70 (nI d - (1 : Int32)) (-t_26)) fun g_27 =>
some (nI d, g_27)) else (
if t_3 = (2 : Int32) then (
Option.bind (gL vl 70 (nI d - (1 : Int32))) fun t_23 =>
Option.bind (if t_23 = (0 : Int64) then (
some (1 : Int64)) else (
some (0 : Int64))) fun j_24 =>
Option.bind (sL vl 70 (nI d - (1 : Int32)) j_24) fun g_25 =>
some (nI d, g_25)) else (
if t_3 = (15 : Int32) then (
lt (nI d + (-2 : Int32)) fun x_17 =>
Option.bind (gL vl 70 (x_17 - (1 : Int32))) fun t_18 =>
Option.bind (if t_18 = (0 : Int64) then (
Option.bind (gL vl 70 (x_17 + (1 : Int32))) fun t_20 =>
some t_20) else (
Option.bind (gL vl 70 x_17) fun t_21 =>
some t_21)) fun j_19 =>
Option.bind (sL vl 70 (x_17 - (1 : Int32)) j_19) fun g_22 =>
some (x_17, g_22)) else (
lt (nI d + (-1 : Int32)) fun x_12 =>
Option.bind (gL vl 70 (x_12 - (1 : Int32))) fun t_13 =>
Option.bind (gL vl 70 x_12) fun t_14 =>
Option.bind (F_X12_twoOf t_3 t_13 t_14) fun c_15 =>
Option.bind (sL vl 70 (x_12 - (1 : Int32)) c_15) fun g_16 =>
some (x_12, g_16))))))) fun j_4 => some j_4) = some (nI dd, vl') → B_X12_tellsOf_4 steps step wth given (nI d, nI i, vl) = some (.inl (nI dd, nI (i + 1), vl')) := by
      intro vl' dd e
      unfold B_X12_tellsOf_4
      dsimp only
      rw [if_pos hlt]
      obtain ⟨x, e1, e2⟩ := bnd e
      refine sbind e1 ?_
      obtain ⟨y, e3, e4⟩ := bnd e2
      refine sbind e3 ?_
      cases e4
      rw [lt_eq, nI_1]
    have hwk : ∀ {r : Int32 × (Nat → Int64)}, f i < 0 → (if (-(f i)) = (33 : Int32) then (
Option.bind (F_X1_pop (nI d) sk) fun c_2 =>
Option.bind (if c_2.1 = (0 : Int64) then (
some (1 : Int64)) else (
some (0 : Int64))) fun j_3 =>
Option.bind (F_X1_push c_2.2 sk j_3) fun c_4 =>
some (c_4.1, c_4.2)) else (
if (-(f i)) = (63 : Int32) then (
Option.bind (F_X1_pop (nI d) sk) fun c_5 =>
Option.bind (F_X1_pop c_5.2 sk) fun c_6 =>
Option.bind (F_X1_pop c_6.2 sk) fun c_7 =>
Option.bind (if c_7.1 = (0 : Int64) then (
some c_5.1) else (
some c_6.1)) fun j_8 =>
Option.bind (F_X1_push c_7.2 sk j_8) fun c_9 =>
some (c_9.1, c_9.2)) else (
if (-(f i)) = (103 : Int32) then (
Option.bind (F_X1_push (nI d) sk ga.toInt64) fun c_10 =>
some (c_10.1, c_10.2)) else (
if (-(f i)) = (107 : Int32) then (
Option.bind (F_X1_push (nI d) sk ki.toInt64) fun c_11 =>
some (c_11.1, c_11.2)) else (
if (-(f i)) = (115 : Int32) then (
Option.bind (F_X1_push (nI d) sk se.toInt64) fun c_12 =>
some (c_12.1, c_12.2)) else (
if (-(f i)) = (116 : Int32) then (
Option.bind (F_X1_push (nI d) sk to.toInt64) fun c_13 =>
some (c_13.1, c_13.2)) else (
if (-(f i)) = (119 : Int32) then (
Option.bind (F_X1_push (nI d) sk ab) fun c_14 =>
some (c_14.1, c_14.2)) else (
if (-(f i)) = (126 : Int32) then (
Option.bind (F_X1_pop (nI d) sk) fun c_15 =>
Option.bind (F_X1_push c_15.2 sk (-c_15.1)) fun c_16 =>
some (c_16.1, c_16.2)) else (
Option.bind (F_X1_pop (nI d) sk) fun c_17 =>
Option.bind (F_X1_pop c_17.2 sk) fun c_18 =>
Option.bind (F_X1_joined (-(f i)) c_18.1 c_17.1) fun c_19 =>
Option.bind (F_X1_push c_18.2 sk c_19) fun c_20 =>
some (c_20.1, c_20.2)))))))))) = some r → F_X1_work ab ga (nI d) ki se sk to (f i) = some r := by
      intro r hn e
      unfold F_X1_work
      rw [if_pos hn]
      exact sbind e rfl
    have hgi : gI step 70 (nI i) = some (nI s.ms) := by rw [gI_at (by omega) (by decide), h2]
    by_cases hb : binS s
    · obtain ⟨-, -, -, -, -, -, -, hwt, -, -, -, -, -⟩ := bin_fact s hb
      rw [hwt] at h3 h4
      obtain ⟨hj, x, hx⟩ := two_some s hb (sk (d - 2)) (sk (d - 1))
      refine ⟨vp_updL sk (d - 2) x, vp_updL vl (d - 2) x, hwk ?_ ?_, htm (dd := d') (sbind hgi (sbind ?_ rfl)), ?_⟩
      · rw [h1]; exact (bin_work s hb).1
      · obtain ⟨-, z0, z1, z2, z3, z4, z5, z6, z7, z8⟩ := bin_work s hb
        rw [← h1] at z0
        rw [z0, if_neg z1, if_neg z2, if_neg z3, if_neg z4, if_neg z5, if_neg z6, if_neg z7, if_neg z8]
        refine sbind (C_pop (by omega) (by omega)) (sbind (C_pop (by omega) (by omega)) (sbind (x := x) ?_ ?_))
        · dsimp only
          rw [show d - 1 - 1 = d - 2 by omega, hj, hx]
        · dsimp only
          rw [show d - 1 - 1 = d - 2 by omega]
          refine sbind (C_psh (by omega)) ?_
          rw [show d - 2 + 1 = d' by omega]
      · obtain ⟨z1, z2, z3, z4, z5⟩ := bin_ms s hb
        rw [if_neg z1, if_neg z2, if_neg z3, if_neg z4, if_neg z5, lt_eq]
        rw [show nI d + (-1 : Int32) = nI (d - 1) from by rw [show d = (d - 1) + 1 by omega]; exact pk_m1 (d - 1), show (1 : Int32) = nI 1 from rfl, pk_sub (by omega), show d - 1 - 1 = d - 2 by omega]
        refine sbind (gL_at (by omega) (by decide)) (sbind (gL_at (by omega) (by decide)) (sbind (x := x) ?_ ?_))
        · rw [← hA _ (by omega), ← hA _ (by omega)]; exact hx
        · refine sbind (sL_at (by omega) (by decide)) ?_
          rw [show d - 1 = d' by omega]
      · have := alike_p (alike_l hA (show d - 2 ≤ d by omega)) x
        rw [show d - 2 + 1 = d' by omega] at this
        exact this
    · have hs3 := sg3 s hb s1 s2
      rcases hs3 with rfl | rfl | rfl
      · have e1 : Sg.no.wt = 0 := rfl
        rw [e1] at h3 h4
        have hv : ∃ x : Int64, (if sk (d - 1) = (0 : Int64) then some (1 : Int64) else some (0 : Int64)) = some x := by split <;> exact ⟨_, rfl⟩
        obtain ⟨x, hx⟩ := hv
        refine ⟨vp_updL sk (d - 1) x, vp_updL vl (d - 1) x, hwk (by rw [h1]; decide) ?_, htm (dd := d') (sbind hgi (sbind ?_ rfl)), ?_⟩
        · rw [h1, if_pos (by decide)]
          refine sbind (C_pop (by omega) (by omega)) (sbind hx (sbind (C_psh (by omega)) ?_))
          rw [show d - 1 + 1 = d' by omega]
        · rw [if_neg (by decide), if_neg (by decide), if_neg (by decide), if_pos (by decide), show (1 : Int32) = nI 1 from rfl, pk_sub (by omega)]
          refine sbind (gL_at (by omega) (by decide)) (sbind (x := x) ?_ (sbind (sL_at (by omega) (by decide)) ?_))
          · rw [← hA _ (by omega)]; exact hx
          · rw [show d = d' by omega]
        · have := alike_p (alike_l hA (show d - 1 ≤ d by omega)) x
          rw [show d - 1 + 1 = d' by omega] at this
          exact this
      · have e1 : Sg.ng.wt = 0 := rfl
        rw [e1] at h3 h4
        refine ⟨vp_updL sk (d - 1) (-(sk (d - 1))), vp_updL vl (d - 1) (-(sk (d - 1))), hwk (by rw [h1]; decide) ?_, htm (dd := d') (sbind hgi (sbind ?_ rfl)), ?_⟩
        · rw [h1, if_neg (by decide), if_neg (by decide), if_neg (by decide), if_neg (by decide), if_neg (by decide), if_neg (by decide), if_neg (by decide), if_pos (by decide)]
          refine sbind (C_pop (by omega) (by omega)) (sbind (C_psh (by omega)) ?_)
          rw [show d - 1 + 1 = d' by omega]
        · rw [if_neg (by decide), if_neg (by decide), if_pos (by decide), show (1 : Int32) = nI 1 from rfl, pk_sub (by omega)]
          refine sbind (gL_at (by omega) (by decide)) (sbind (sL_at (by omega) (by decide)) ?_)
          rw [← hA _ (by omega), show d = d' by omega]
        · have := alike_p (alike_l hA (show d - 1 ≤ d by omega)) (-(sk (d - 1)))
          rw [show d - 1 + 1 = d' by omega] at this
          exact this
      · have e1 : Sg.el.wt = 2 := rfl
        rw [e1] at h3 h4
        have hv : ∃ x : Int64, (if sk (d - 3) = (0 : Int64) then some (sk (d - 1)) else some (sk (d - 2))) = some x := by split <;> exact ⟨_, rfl⟩
        obtain ⟨x, hx⟩ := hv
        refine ⟨vp_updL sk (d - 3) x, vp_updL vl (d - 3) x, hwk (by rw [h1]; decide) ?_, htm (dd := d') (sbind hgi (sbind ?_ rfl)), ?_⟩
        · rw [h1, if_neg (by decide), if_pos (by decide)]
          refine sbind (C_pop (by omega) (by omega)) (sbind (C_pop (by omega) (by omega)) (sbind (C_pop (by omega) (by omega)) ?_))
          dsimp only
          rw [show d - 1 - 1 - 1 = d - 3 by omega, show d - 1 - 1 = d - 2 by omega]
          refine sbind hx (sbind (C_psh (by omega)) ?_)
          rw [show d - 3 + 1 = d' by omega]
        · rw [if_neg (by decide), if_neg (by decide), if_neg (by decide), if_neg (by decide), if_pos (by decide), lt_eq]
          have hd2 : nI d + (-2 : Int32) = nI (d - 2) := by
            have := pk_m1 (d - 1)
            rw [show d - 1 + 1 = d by omega] at this
            have h2 := pk_m1 (d - 2)
            rw [show d - 2 + 1 = d - 1 by omega] at h2
            rw [← h2, ← this, Int32.add_assoc]; rfl
          rw [hd2, show (1 : Int32) = nI 1 from rfl, pk_sub (by omega), nI_add, show d - 2 - 1 = d - 3 by omega, show d - 2 + 1 = d - 1 by omega]
          refine sbind (gL_at (by omega) (by decide)) (sbind (x := x) ?_ (sbind (sL_at (by omega) (by decide)) ?_))
          · rw [← hA _ (by omega)]
            by_cases e : sk (d - 3) = 0
            · rw [if_pos e] at hx ⊢
              exact sbind (gL_at (by omega) (by decide)) (by rw [← hA _ (by omega)]; exact hx)
            · rw [if_neg e] at hx ⊢
              exact sbind (gL_at (by omega) (by decide)) (by rw [← hA _ (by omega)]; exact hx)
          · rw [show d - 2 = d' by omega]
        · have := alike_p (alike_l hA (show d - 3 ≤ d by omega)) x
          rw [show d - 3 + 1 = d' by omega] at this
          exact this
theorem RUN {ab : Int64} {ga ki se to : Int32} {given : Nat → Int64} (hG : Gv given ab ga ki se to) {f step wth : Nat → Int32} {c p N : Nat} (hK : KD f step wth c 1) (hc : c ≤ 50) {v : Nat → Int32} (hv : ∀ i, i < c → v (p + i) = f i) (hN : p + c ≤ N) (hN2 : N < 2 ^ 31) (ht : Int32) (sk vl : Nat → Int64) :
    Two (F_X1_run N v ab ga ht ki se sk to (nI p) (nI c)) (F_X12_tellsOf given step (nI c) vl wth) (fun o1 o2 => o1.1 = o2.1) := by
  obtain ⟨dp, d0, dc, dk⟩ := KD_dp hK
  have hle : ∀ k, k ≤ c → dp k ≤ k := by
    intro k
    induction k with
    | zero => intro _; omega
    | succ k ih =>
      intro hk
      have h1 := ih (by omega)
      have h2 := CK_up (dk k (by omega))
      omega
  unfold F_X1_run F_X12_tellsOf
  refine two_bind (P := fun t1 t2 => t1.2.1 = nI 1 ∧ t1.2.2 0 = t2.2.2 0) ?_ ?_
  · refine itr_two_fu
      (I := fun s1 s2 => ∃ i, i ≤ c ∧ s1.1 = nI i ∧ s1.2.1 = nI (dp i) ∧ s2.1 = nI (dp i) ∧ s2.2.1 = nI i ∧ alike (dp i) s1.2.2 s2.2.2)
      (μ := fun s1 => c - s1.1.toNatClampNeg) _ _ _ ⟨0, by omega, rfl, by rw [d0]; rfl, by rw [d0]; rfl, rfl, fun k hk => absurd hk (by omega)⟩ (by dsimp only; omega) ?_
    rintro ⟨i1, h1, sk1⟩ ⟨h2, i2, vl2⟩ ⟨i, hi, a1, a2, a3, a4, a5⟩
    dsimp only at a1 a2 a3 a4 a5
    subst a1; subst a2; subst a3; subst a4
    by_cases hlt : i < c
    · have hd := hle i (by omega)
      obtain ⟨sk', vl', w1, w2, w3⟩ := WORK hG (dk i hlt) (by omega) (by omega) (steps := nI c) (nI_lt hlt (by omega)) a5
      refine ⟨.inl (nI (i + 1), nI (dp (i + 1)), sk'), _, ?_, w2, Or.inl ⟨_, _, rfl, rfl, ⟨i + 1, by omega, rfl, rfl, rfl, rfl, w3⟩, ?_⟩⟩
      · unfold B_X1_run_14
        dsimp only
        rw [if_pos (nI_lt hlt (by omega)), nI_add, lt_eq]
        refine sbind (x := (nI (dp (i + 1)), sk')) ?_ (by rw [lt_eq, nI_1])
        rw [if_neg (nI_pos (by omega)), if_pos (show nI (p + i) < Int32.ofNat N from nI_lt (by omega) hN2)]
        refine sbind (gI_at (by omega) hN2) ?_
        rw [hv i hlt]
        exact sbind w1 rfl
      · dsimp only
        rw [nI_clamp (by omega), nI_clamp (by omega)]; omega
    · have e : i = c := by omega
      subst e
      refine ⟨.inr (nI i, nI (dp i), sk1), .inr (nI (dp i), nI i, vl2), ?_, ?_, Or.inr ⟨_, _, rfl, rfl, by rw [dc], a5 0 (by omega)⟩⟩
      · unfold B_X1_run_14
        dsimp only
        rw [if_neg (nI_nlt (Nat.le_refl _) (by omega))]
      · unfold B_X12_tellsOf_4
        dsimp only
        rw [if_neg (nI_nlt (Nat.le_refl _) (by omega))]
  · rintro ⟨i1, h1, sk1⟩ ⟨h2, i2, vl2⟩ ⟨a1, a2⟩
    dsimp only at a1 a2 ⊢
    subst a1
    refine two_l (C_pop (d := 1) (by omega) (by omega)) (two_r (gL_at (k := 0) (by omega) (by decide)) (two_end ?_))
    exact a2
