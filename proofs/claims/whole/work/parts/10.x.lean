/-! PURE LAWS 13: the readers, behind a unit: ? : and the signs between two -/
section RDW
variable {tx : Nat → Int32} {n N : Nat} {cells : Nat → Int32} {rows wd t : Int32} {st : Nat → Int32} {pp : Int32} {i : Nat} {f0 f : Nat → Int32} {c h o q : Nat} {g : Nat → Sg} {c0 dg fd nb : Int32} {w : Nat → Int32} {step waits wth : Nat → Int32}
theorem popM_not {g : Nat → Sg} {h t u : Nat} (e : popw (pM t) g h = u) (h1 : 1 ≤ t) : ∀ k, u ≤ k → k < h → g k ≠ Sg.op ∧ g k ≠ Sg.as := fun k a b => Sg_M1 _ (by have := of_decide_eq_true (popw_in (pM t) g h k (by omega) b); omega)
theorem popM_top {g : Nat → Sg} {h t u : Nat} (e : popw (pM t) g h = u) : u = 0 ∨ (g (u - 1)).hd < t := by
  have := popw_top (pM t) g h
  rw [e] at this
  rcases this with z | z
  · exact Or.inl z
  · exact Or.inr (by have := of_decide_eq_false z; omega)
theorem W_ask (H : RdH tx n N cells rows wd t st pp) (hi : i < n) (IH : RdI tx n N cells rows wd t st pp (i + 1)) (ho : o ≤ 8) (hoc : o = nOp g h) (hb : c + h ≤ i) (hS : Shp g h) (hw : clo w g h) (he : F_X7_endNumber f0 c0 dg nb = some (f, nI c, 0)) (hq : popw (pM 6) g h = q) (hm : mlo waits g q) (hk : KD f step wth c (wsm g h + 1)) (pre : ∀ j, j < h - q → step (c + j) = nI (g (h - 1 - j)).ms) (hx : tx i = 63) :
    RdF tx n N cells rows wd t st pp (nI i, f0, c0, dg, -1, fd, nb, nI o, 0, w, nI h) (nI o, 1, nI i, step, nI (c + (h - q)), nI q, waits, wth) i := by
  have h50 := H.1
  obtain ⟨f2, step2, wth2, u, u0, u1, u2, u3, u4, u5⟩ := REL (t := 1) hw hq hm hk pre (by omega) (by omega) (by omega)
  have hnd : ¬ dig (tx i) := by rw [hx]; unfold dig inR; decide
  have h32 : tx i ≠ 32 := by rw [hx]; decide
  have hnop : nOp g h = nOp g u := nOp_q (by omega) (popM_not u0 (by omega))
  refine RdF_step hi (CS H hi (C_take_j hnd h32 he (f' := f2) (c' := nI (c + (h - u))) (fa' := -1) (op' := nI o) (du' := 1) (w' := upd w u (tx i)) (h' := nI (u + 1)) ?_)) (M_w H hi h32 rfl rfl ?_) (IH _ _ _ _ _ _ _ _ _ _ _ step2 (nI (c + (h - u))) (nI (u + 1)) (upd waits u 14) wth2 ⟨va_up g u Sg.as, c + (h - u), u + 1, o, f2, ⟨rfl, rfl, ho, by rw [nOp_p, if_neg (by decide)]; omega, rfl, by omega, Shp_p (Shp_le hS (by omega)) (fun _ => ?_), clo_p (clo_le hw (by omega)) hx, C_end_0⟩, Or.inl ⟨rfl, rfl, rfl, rfl, rfl, mlo_p (mlo_le hm u1) rfl, ?_⟩⟩)
  · unfold F_X7_takeJoint
    rw [if_neg (by rw [hx]; decide), if_neg (by rw [hx]; decide), if_pos hx]
    refine sbind (x := (f2, nI (c + (h - u)), -1, nI o, 1, upd w u (tx i), nI (u + 1))) (sbind u3 (sbind (C_push (by omega)) rfl)) rfl
  · dsimp only
    rw [if_neg (by rw [hx]; decide)]
    unfold J_X12_reads_6_104
    rw [if_pos hx]
    refine sbind u4 (sbind (M_waitsWith (by omega)) ?_)
    dsimp only
    rw [lt_eq, nI_1]
  · rcases popM_top u0 with z | z
    · exact Or.inl z
    · exact Or.inr (by omega)
  · rw [wsm_p]; exact u5
theorem W_turn (H : RdH tx n N cells rows wd t st pp) (hi : i < n) (IH : RdI tx n N cells rows wd t st pp (i + 1)) (ho : o ≤ 8) (hoc : o = nOp g h) (hb : c + h ≤ i) (hS : Shp g h) (hw : clo w g h) (he : F_X7_endNumber f0 c0 dg nb = some (f, nI c, 0)) (hq : popw (pM 6) g h = q) (hm : mlo waits g q) (hk : KD f step wth c (wsm g h + 1)) (pre : ∀ j, j < h - q → step (c + j) = nI (g (h - 1 - j)).ms) (hx : tx i = 58) :
    RdF tx n N cells rows wd t st pp (nI i, f0, c0, dg, -1, fd, nb, nI o, 0, w, nI h) (nI o, 1, nI i, step, nI (c + (h - q)), nI q, waits, wth) i := by
  have h50 := H.1
  obtain ⟨f2, step2, wth2, u, u1, u2, u3, u4, u5, u6, u7⟩ := CLO hw hq hm hk pre hS (by omega)
  have hnd : ¬ dig (tx i) := by rw [hx]; unfold dig inR; decide
  have h32 : tx i ≠ 32 := by rw [hx]; decide
  have hso : F_X12_signOf (tx i) = some (-1) := by rw [hx]; rfl
  have hnop : nOp g h = nOp g u := nOp_q (by omega) u7
  by_cases hop : 0 < u ∧ g (u - 1) = Sg.as
  · obtain ⟨p1, p2⟩ := hop
    have ho1 : nOp g u = nOp g (u - 1) := by
      rw [show u = (u - 1) + 1 by omega]
      show nOp g (u - 1) + (if g (u - 1) = Sg.op then 1 else 0) = _
      rw [if_neg (by rw [p2]; decide)]; rfl
    have hwu : wsm g u = wsm g (u - 1) + 1 := by
      rw [show u = (u - 1) + 1 by omega]
      show wsm g (u - 1) + (g (u - 1)).wt = _
      rw [p2]; rfl
    refine RdF_step hi (CS H hi (C_take_j hnd h32 he (f' := f2) (c' := nI (c + (h - u))) (fa' := -1) (op' := nI o) (du' := 1) (w' := upd w (u - 1) 58) (h' := nI (u - 1 + 1)) ?_)) (M_w H hi h32 rfl rfl ?_) (IH _ _ _ _ _ _ _ _ _ _ _ step2 (nI (c + (h - u))) (nI (u - 1 + 1)) (upd waits (u - 1) 15) wth2 ⟨va_up g (u - 1) Sg.el, c + (h - u), u - 1 + 1, o, f2, ⟨rfl, rfl, ho, by rw [nOp_p, if_neg (by decide)]; omega, rfl, by omega, Shp_p (Shp_le hS (by omega)) (fun _ => ?_), clo_p (clo_le hw (by omega)) rfl, C_end_0⟩, Or.inl ⟨rfl, rfl, rfl, rfl, rfl, mlo_p (mlo_le hm (by omega)) rfl, ?_⟩⟩)
    · unfold F_X7_takeJoint
      rw [if_neg (by rw [hx]; decide), if_pos hx]
      refine sbind (x := (f2, nI (c + (h - u)), -1, nI o, 1, upd w (u - 1) 58, nI (u - 1 + 1))) (sbind (x := (f2, nI (c + (h - u)), -1, 1, upd w (u - 1) 58, nI (u - 1 + 1))) ?_ rfl) rfl
      unfold F_X7_turn
      refine sbind u3 (sbind (x := (63 : Int32)) ?_ ?_)
      · dsimp only
        rw [C_top p1 (by omega), hw _ (by omega), p2]; rfl
      · dsimp only
        refine sbind (x := (-1, 1, upd w (u - 1) 58, nI (u - 1 + 1))) ?_ rfl
        rw [if_pos rfl, lt_eq, show (1 : Int32) = nI 1 from rfl, pk_sub (by omega)]
        exact sbind (C_push (by omega)) rfl
    · dsimp only
      rw [if_neg (by rw [hx]; decide)]
      unfold J_X12_reads_6_104
      rw [if_neg (by rw [hx]; decide), if_pos hx]
      refine sbind u4 ?_
      dsimp only
      rw [if_neg (show ¬ u = 0 by omega), if_pos ((ms_inj _).2.1.mpr p2), show (1 : Int32) = nI 1 from rfl, pk_sub (by omega)]
      refine sbind (sI_at (by omega) (by decide)) ?_
      rw [lt_eq, nI_add, show u - 1 + 1 = u by omega]
    · by_cases e : u - 1 = 0
      · exact Or.inl e
      · right
        have := hS (u - 1 - 1) (by omega) (Or.inl (by rw [show u - 1 - 1 + 1 = u - 1 by omega]; exact p2))
        exact this
    · rw [wsm_p, show Sg.el.wt = 2 from rfl]
      rw [hwu] at u5; exact u5
  · have hmz : ∃ z : MF, B_X12_reads_25 (nI n) st pp (nI o, 1, nI i, step, nI (c + (h - q)), nI q, waits, wth) = some (.inr (.inr z)) ∧ z.1 = 10 * nI i + 1 := by
      refine ⟨(10 * nI i + 1, step2, nI (c + (h - u)), nI u, waits, wth2), M_w H hi h32 rfl rfl ?_, rfl⟩
      dsimp only
      rw [if_neg (by rw [hx]; decide)]
      unfold J_X12_reads_6_104
      rw [if_neg (by rw [hx]; decide), if_pos hx]
      refine sbind u4 ?_
      dsimp only
      rw [if_neg]
      · exact M_j5f rfl hso
      · by_cases hu0 : u = 0
        · rw [if_pos hu0]; decide
        · rw [if_neg hu0]
          exact fun z => hop ⟨by omega, (ms_inj _).2.1.mp z⟩
    obtain ⟨z, z1, z2⟩ := hmz
    refine RdF_fault hi (CS H hi (C_take_j hnd h32 he (f' := f2) (c' := nI (c + (h - u))) (fa' := 10 * nI i + 1) (op' := nI o) (du' := 0) (w' := w) (h' := nI u) ?_)) (flt1 (by omega)) z1 z2
    unfold F_X7_takeJoint
    rw [if_neg (by rw [hx]; decide), if_pos hx]
    refine sbind (x := (f2, nI (c + (h - u)), 10 * nI i + 1, nI o, 0, w, nI u)) (sbind (x := (f2, nI (c + (h - u)), 10 * nI i + 1, 0, w, nI u)) ?_ rfl) rfl
    unfold F_X7_turn
    refine sbind u3 (sbind (x := if u = 0 then (0 : Int32) else nI (g (u - 1)).cs) ?_ ?_)
    · dsimp only
      by_cases hu0 : u = 0
      · rw [if_pos hu0, hu0]; rfl
      · rw [if_neg hu0, C_top (by omega) (by omega), hw _ (by omega)]
    · dsimp only
      refine sbind (x := (10 * nI i + 1, 0, w, nI u)) ?_ rfl
      rw [if_neg]
      · rfl
      · by_cases hu0 : u = 0
        · rw [if_pos hu0]; decide
        · rw [if_neg hu0]
          exact fun z => hop ⟨by omega, (ms_inj _).2.2.2.2.mp z⟩
theorem W_bin (H : RdH tx n N cells rows wd t st pp) (hi : i < n) (IH : RdI tx n N cells rows wd t st pp (i + 1)) (ho : o ≤ 8) (hoc : o = nOp g h) (hb : c + h ≤ i) (hS : Shp g h) (hw : clo w g h) (he : F_X7_endNumber f0 c0 dg nb = some (f, nI c, 0)) (hq : popw (pM 6) g h = q) (hm : mlo waits g q) (hk : KD f step wth c (wsm g h + 1)) (pre : ∀ j, j < h - q → step (c + j) = nI (g (h - 1 - j)).ms) {s : Sg} (hs : binS s) (hx : tx i = nI s.cs) :
    RdF tx n N cells rows wd t st pp (nI i, f0, c0, dg, -1, fd, nb, nI o, 0, w, nI h) (nI o, 1, nI i, step, nI (c + (h - q)), nI q, waits, wth) i := by
  have h50 := H.1
  obtain ⟨b1, b2, b3, b4, b5, b6, b7, b8, b9, b10, b11, b12, b13⟩ := bin_fact s hs
  have hnd : ¬ dig (tx i) := by rw [hx]; exact b1
  have h32 : tx i ≠ 32 := by rw [hx]; exact b2
  have hrk := Sg_rkb s
  have hmode : ∀ T : Nat, T = (if s.hd = 3 then 4 else s.hd) → ∃ (f2 step2 wth2 : Nat → Int32) (u : Nat), popw (pM T) g h = u ∧ u ≤ q ∧ q ≤ h ∧ F_X7_release f (nI c) w (nI h) (nI (T + 1)) = some (f2, nI (c + (h - u)), nI u) ∧ F_X12_settles step (nI (c + (h - q))) (nI q) waits wth (nI T) = some (step2, nI (c + (h - u)), nI u, wth2) ∧ KD f2 step2 wth2 (c + (h - u)) (wsm g u + 1) := fun T hT => REL hw hq hm hk pre (by split at hT <;> omega) (by split at hT <;> omega) (by omega)
  obtain ⟨T, hT⟩ : ∃ T, T = (if s.hd = 3 then 4 else s.hd) := ⟨_, rfl⟩
  obtain ⟨f2, step2, wth2, u, u0, u1, u2, u3, u4, u5⟩ := hmode T hT
  have hT1 : 1 ≤ T := by split at hT <;> omega
  have hnop : nOp g h = nOp g u := nOp_q (by omega) (popM_not u0 hT1)
  have hcj : (if nI s.rk = (4 : Int32) then some (5 : Int32) else some (nI s.rk)) = some (nI (T + 1)) := by
    by_cases e3 : s.hd = 3
    · rw [if_pos e3] at hT
      rw [if_pos (by rw [b11, e3]; rfl), hT]; rfl
    · rw [if_neg e3] at hT
      rw [if_neg (neR 4 4 rfl (by omega) (by decide) (by omega)), hT, b11]
  have hr1 : (1 : Int32) < nI s.rk := ltL 1 1 rfl (by omega) (by omega)
  have hr7 : nI s.rk < (7 : Int32) := ltR 7 7 rfl (by omega) (by decide)
  have hjoint : ∀ {f' c' fa' du' w' h'}, F_X7_join f (nI c) (-1) 0 w (nI h) (nI i) (tx i) = some (f', c', fa', du', w', h') → F_X7_takeJoint f (nI c) (-1) (nI o) 0 w (nI h) (nI i) (tx i) = some (f', c', fa', nI o, du', w', h') := by
    intro f' c' fa' du' w' h' e
    unfold F_X7_takeJoint
    rw [if_neg (by rw [hx]; exact b3), if_neg (by rw [hx]; exact b4), if_neg (by rw [hx]; exact b5)]
    exact sbind (sbind e rfl) rfl
  have hpush : ∀ (hC : F_X7_join f (nI c) (-1) 0 w (nI h) (nI i) (tx i) = some (f2, nI (c + (h - u)), -1, 1, upd w u (tx i), nI (u + 1))) (hG : F_X12_goesOn step (nI (c + (h - q))) (nI q) waits wth (nI s.ms) = some (1, step2, nI (c + (h - u)), nI (u + 1), upd waits u (nI s.ms), wth2)), RdF tx n N cells rows wd t st pp (nI i, f0, c0, dg, -1, fd, nb, nI o, 0, w, nI h) (nI o, 1, nI i, step, nI (c + (h - q)), nI q, waits, wth) i := by
    intro hC hG
    refine RdF_step hi (CS H hi (C_take_j hnd h32 he (hjoint hC))) (M_w H hi h32 rfl rfl ?_) (IH _ _ _ _ _ _ _ _ _ _ _ step2 (nI (c + (h - u))) (nI (u + 1)) (upd waits u (nI s.ms)) wth2 ⟨va_up g u s, c + (h - u), u + 1, o, f2, ⟨rfl, rfl, ho, by rw [nOp_p, if_neg b9]; omega, rfl, by omega, Shp_p (Shp_le hS (by omega)) (fun z => absurd z b10), clo_p (clo_le hw (by omega)) hx, C_end_0⟩, Or.inl ⟨rfl, rfl, rfl, rfl, rfl, mlo_p (mlo_le hm u1) rfl, by rw [wsm_p, b8]; exact u5⟩⟩)
    dsimp only
    rw [if_neg (by rw [hx]; exact b3)]
    unfold J_X12_reads_6_104
    rw [if_neg (by rw [hx]; exact b5), if_neg (by rw [hx]; exact b4)]
    unfold J_X12_reads_5_163
    rw [hx]
    refine sbind b6 ?_
    rw [if_neg b7]
    refine sbind b6 (sbind hG ?_)
    dsimp only
    rw [if_neg (by decide), lt_eq, nI_1]
  have hj68 : J_X7_join_3_68 w (f2, nI (c + (h - u)), nI u) (tx i) (-1) () = some (f2, nI (c + (h - u)), -1, 1, upd w u (tx i), nI (u + 1)) := by
    unfold J_X7_join_3_68
    exact sbind (C_push (by omega)) rfl
  by_cases e3 : s.hd = 3
  · rw [if_pos e3] at hT
    subst hT
    have hrk4 : nI s.rk = (4 : Int32) := by rw [b11, e3]; rfl
    have htopC : ∃ r : Nat, r ≤ 7 ∧ (Option.bind (F_X7_top w (nI u)) fun c_8 => F_X7_rank c_8) = some (nI r) ∧ (r = 4 ↔ (0 < u ∧ (g (u - 1)).hd = 3)) := by
      by_cases hu0 : u = 0
      · exact ⟨0, by omega, by rw [hu0]; rfl, by omega⟩
      · refine ⟨(g (u - 1)).rk, Sg_rkb _, sbind (C_top (by omega) (by omega)) (by rw [hw _ (by omega)]; exact Sg_rank _), ?_⟩
        have hall : ∀ x : Sg, x.rk = 4 ↔ x.hd = 3 := by intro x; revert x; apply all14 <;> decide
        rw [hall]
        exact ⟨fun z => ⟨by omega, z⟩, fun z => z.2⟩
    obtain ⟨r, hrb, hr, hr4⟩ := htopC
    obtain ⟨x8, hx8, hr8⟩ := bnd hr
    by_cases hbad : 0 < u ∧ (g (u - 1)).hd = 3
    · have hC : F_X7_join f (nI c) (-1) 0 w (nI h) (nI i) (tx i) = some (f2, nI (c + (h - u)), 10 * nI i + 1, 0, w, nI u) := by
        unfold F_X7_join
        refine sbind (by rw [hx]; exact Sg_rank s) ?_
        rw [if_pos hr1, if_pos hr7]
        refine sbind hcj (sbind u3 ?_)
        rw [if_pos hrk4]
        refine sbind hx8 (sbind hr8 ?_)
        rw [if_pos (by rw [hr4.mpr hbad]; rfl)]; rfl
      refine RdF_fault hi (CS H hi (C_take_j hnd h32 he (hjoint hC))) (flt1 (by omega)) (z := (10 * nI i + 1, step2, nI (c + (h - u)), nI u, waits, wth2)) (M_w H hi h32 rfl rfl ?_) rfl
      dsimp only
      rw [if_neg (by rw [hx]; exact b3)]
      unfold J_X12_reads_6_104
      rw [if_neg (by rw [hx]; exact b5), if_neg (by rw [hx]; exact b4)]
      unfold J_X12_reads_5_163
      rw [hx]
      refine sbind b6 ?_
      rw [if_neg b7]
      refine sbind b6 (sbind (x := (0, step2, nI (c + (h - u)), nI u, waits, wth2)) ?_ ?_)
      · unfold F_X12_goesOn
        refine sbind (Sg_holds s) ?_
        rw [if_pos (by rw [e3]; rfl)]
        refine sbind u4 ?_
        dsimp only
        rw [if_pos (ltL 0 0 rfl hbad.1 (by omega)), show (1 : Int32) = nI 1 from rfl, pk_sub (by omega)]
        refine sbind (gI_at (by omega) (by decide)) ?_
        rw [hm _ (by omega)]
        refine sbind (Sg_holds _) ?_
        rw [if_pos (by rw [hbad.2]; rfl)]
      · dsimp only
        rw [if_pos rfl]
    · have hlt3 : u = 0 ∨ (g (u - 1)).hd < 3 := by
        by_cases hu0 : u = 0
        · exact Or.inl hu0
        · right
          have h3 : ¬ (g (u - 1)).hd = 3 := fun z2 => hbad ⟨by omega, z2⟩
          rcases popM_top u0 with z | z <;> omega
      refine hpush ?_ ?_
      · unfold F_X7_join
        refine sbind (by rw [hx]; exact Sg_rank s) ?_
        rw [if_pos hr1, if_pos hr7]
        refine sbind hcj (sbind u3 ?_)
        rw [if_pos hrk4]
        refine sbind hx8 (sbind hr8 ?_)
        rw [if_neg (neR 4 4 rfl (by omega) (by decide) (fun z => hbad (hr4.mp z)))]
        exact hj68
      · unfold F_X12_goesOn
        refine sbind (Sg_holds s) ?_
        rw [if_pos (by rw [e3]; rfl)]
        refine sbind u4 ?_
        have h42 : J_X12_goesOn_1_42 waits (nI s.hd) (nI s.ms) (step2, nI (c + (h - u)), nI u, wth2) = some (1, step2, nI (c + (h - u)), nI (u + 1), upd waits u (nI s.ms), wth2) := by
          unfold J_X12_goesOn_1_42
          have hpu : popw (pM 3) g u = u := popw_is (Nat.le_refl _) (fun k a b => absurd b (by omega)) (by
            rcases hlt3 with z | z
            · exact Or.inl z
            · exact Or.inr (decide_eq_false (by omega)))
          rw [e3]
          refine sbind (M_settles (t := 3) (mlo_le hm u1) (by omega) (by omega)) ?_
          rw [hpu, Nat.sub_self, emit_0, emit_0]
          exact sbind (M_waitsWith (by omega)) rfl
        dsimp only
        by_cases hu0 : u = 0
        · rw [if_neg (by rw [hu0]; decide)]; exact h42
        · rw [if_pos (ltL 0 0 rfl (by omega) (by omega)), show (1 : Int32) = nI 1 from rfl, pk_sub (by omega)]
          refine sbind (gI_at (by omega) (by decide)) ?_
          rw [hm _ (by omega)]
          refine sbind (Sg_holds _) ?_
          rw [if_neg (neR 3 3 rfl (by have := Sg_hdb (g (u - 1)); omega) (by decide) (fun z => hbad ⟨by omega, z⟩))]
          exact h42
  · rw [if_neg e3] at hT
    subst hT
    refine hpush ?_ ?_
    · unfold F_X7_join
      refine sbind (by rw [hx]; exact Sg_rank s) ?_
      rw [if_pos hr1, if_pos hr7]
      refine sbind hcj (sbind u3 ?_)
      rw [if_neg (neR 4 4 rfl (by omega) (by decide) (by omega))]
      exact hj68
    · unfold F_X12_goesOn
      refine sbind (Sg_holds s) ?_
      rw [if_neg (neR 3 3 rfl (by omega) (by decide) e3)]
      unfold J_X12_goesOn_1_42
      exact sbind u4 (sbind (M_waitsWith (by omega)) rfl)
theorem W_rest (H : RdH tx n N cells rows wd t st pp) (hi : i < n) (hb : c + h ≤ i) (he : F_X7_endNumber f0 c0 dg nb = some (f, nI c, 0)) (hd : ¬ dig (tx i)) (h32 : tx i ≠ 32) (h41 : tx i ≠ 41) (h58 : tx i ≠ 58) (h63 : tx i ≠ 63) (hx : ∀ s : Sg, binS s → tx i ≠ nI s.cs) :
    RdF tx n N cells rows wd t st pp (nI i, f0, c0, dg, -1, fd, nb, nI o, 0, w, nI h) (nI o, 1, nI i, step, nI (c + (h - q)), nI q, waits, wth) i := by
  have h50 := H.1
  obtain ⟨hso, r, hr1, hr2⟩ := bin_other hx
  refine RdF_fault hi (CS H hi (C_take_j hd h32 he (f' := f) (c' := nI c) (fa' := 10 * nI i + 1) (op' := nI o) (du' := 0) (w' := w) (h' := nI h) ?_)) (flt1 (by omega)) (z := (10 * nI i + 1, step, nI (c + (h - q)), nI q, waits, wth)) (M_w H hi h32 rfl rfl ?_) rfl
  · unfold F_X7_takeJoint
    rw [if_neg h41, if_neg h58, if_neg h63]
    refine sbind (x := (f, nI c, 10 * nI i + 1, nI o, 0, w, nI h)) (sbind (x := (f, nI c, 10 * nI i + 1, 0, w, nI h)) ?_ rfl) rfl
    unfold F_X7_join
    refine sbind hr1 ?_
    rcases hr2 with z | z
    · rw [if_neg (nltL 1 1 rfl z (by omega))]
      rfl
    · subst z
      rw [if_pos (by decide), if_neg (by decide)]; rfl
  · dsimp only
    rw [if_neg h41]
    exact M_j6f rfl h63 h58 hso
theorem RdAll (H : RdH tx n N cells rows wd t st pp) : ∀ m j, j + m = n → RdI tx n N cells rows wd t st pp j := by
  have h50 := H.1
  intro m
  induction m using Nat.strongRecOn with
  | ind m ih =>
    intro j hj f c dg fd nb op du w h mop whole step steps waiting waits wth hX
    by_cases hjn : j = n
    · subst hjn
      refine ⟨_, _, Ev_out (CO (Or.inr (nI_nlt (Nat.le_refl _) (by omega)))) (by omega), Ev_out (t := .inl (mop, whole, nI j, step, steps, waiting, waits, wth)) ?_ (by omega), Or.inr ⟨rfl, _, rfl, hX⟩⟩
      unfold B_X12_reads_25
      dsimp only
      rw [if_neg (nI_nlt (Nat.le_refl _) (by omega))]
    · have hi : j < n := by omega
      have IH : ∀ k, j < k → k ≤ n → RdI tx n N cells rows wd t st pp k := fun k a b => ih (n - k) (by omega) k (by omega)
      have IH1 := IH (j + 1) (by omega) (by omega)
      obtain ⟨g, c', h', o, f', ⟨x1, x2, x3, x4, x5, x6, x7, x8, x9⟩, hX⟩ := hX
      subst x1; subst x2; subst x5
      by_cases h32 : tx j = 32
      · refine RdF_step hi (CS H hi (C_take_b h32 x9)) (M_b H hi h32) (IH1 _ _ _ _ _ _ _ _ _ _ _ _ _ _ _ _ ⟨g, c', h', o, f', ⟨rfl, rfl, x3, x4, rfl, by omega, x7, x8, C_end_0⟩, ?_⟩)
        rcases hX with ⟨y1, y2, y3, y4, y5, y6, y7⟩ | ⟨y1, y2, y3, q, y4, y5, y6, y7, y8, y9⟩
        · exact Or.inl ⟨y1, y2, rfl, y4, y5, y6, y7⟩
        · exact Or.inr ⟨y1, y2, Or.inl rfl, q, y4, y5, y6, y7, y8, y9⟩
      · rcases hX with ⟨y1, y2, y3, y4, y5, y6, y7⟩ | ⟨y1, y2, y3, q, y4, y5, y6, y7, y8, y9⟩
        · subst y1; subst y2; subst y3; subst y4; subst y5
          have e9 : (f, c, (0 : Int32)) = (f', nI c', 0) := Option.some.inj x9
          have e1 : f = f' := congrArg (fun z => z.1) e9
          have e2 : c = nI c' := congrArg (fun z => z.2.1) e9
          subst e1; subst e2
          by_cases hd : dig (tx j)
          · exact D_dig H hi IH x3 x4 x6 x7 x8 y6 y7 hd
          · by_cases hn : ∃ v, v < 5 ∧ tx j = nmC v
            · obtain ⟨v, hv, hx⟩ := hn
              exact D_name H hi IH1 x3 x4 x6 x7 x8 y6 y7 hv hx
            · exact D_rest H hi IH1 x3 x4 x6 x7 x8 y6 y7 hd h32 (fun v hv hx => hn ⟨v, hv, hx⟩)
        · subst y1; subst y2; subst y5; subst y6
          by_cases hd : dig (tx j)
          · rcases y3 with z | z
            · subst z
              have e9 : (f, c, (0 : Int32)) = (f', nI c', 0) := Option.some.inj x9
              have e1 : f = f' := congrArg (fun z => z.1) e9
              have e2 : c = nI c' := congrArg (fun z => z.2.1) e9
              subst e1; subst e2
              have hne : ∀ k : Int32, ¬ dig k → tx j ≠ k := fun k hk e => hk (by rw [← e]; exact hd)
              have hso : F_X12_signOf (tx j) = some (-1) := (bin_other (fun s hs => hne _ (bin_fact s hs).1)).1
              refine RdF_fault hi (CS H hi (by rw [C_take_d hd, C_dig_f]; rfl)) (flt1 (by omega)) (z := (10 * nI j + 1, step, nI (c' + (h' - q)), nI q, waits, wth)) (M_w H hi h32 rfl rfl ?_) rfl
              dsimp only
              rw [if_neg (hne 41 (by unfold dig inR; decide))]
              exact M_j6f rfl (hne 63 (by unfold dig inR; decide)) (hne 58 (by unfold dig inR; decide)) hso
            · exact absurd hd (z hi)
          · by_cases a1 : tx j = 41
            · exact W_close H hi IH1 x3 x4 x6 x7 x8 x9 y4 y7 y8 y9 a1
            · by_cases a2 : tx j = 63
              · exact W_ask H hi IH1 x3 x4 x6 x7 x8 x9 y4 y7 y8 y9 a2
              · by_cases a3 : tx j = 58
                · exact W_turn H hi IH1 x3 x4 x6 x7 x8 x9 y4 y7 y8 y9 a3
                · by_cases a4 : ∃ s : Sg, binS s ∧ tx j = nI s.cs
                  · obtain ⟨s, hs, hx⟩ := a4
                    exact W_bin H hi IH1 x3 x4 x6 x7 x8 x9 y4 y7 y8 y9 hs hx
                  · exact W_rest H hi x6 x9 hd h32 a1 a3 a2 (fun s hs hx => a4 ⟨s, hs, hx⟩)
end RDW
