/-! PURE LAWS 12: the readers, behind a unit -/
def binS (s : Sg) : Prop := 2 ≤ s.val ∧ s.val ≤ 10
theorem bin_fact (s : Sg) : binS s → ¬ dig (nI s.cs) ∧ nI s.cs ≠ 32 ∧ nI s.cs ≠ 41 ∧ nI s.cs ≠ 58 ∧ nI s.cs ≠ 63 ∧ F_X12_signOf (nI s.cs) = some (nI s.ms) ∧ nI s.ms ≠ -1 ∧ s.wt = 1 ∧ s ≠ Sg.op ∧ ¬ (s = Sg.as ∨ s = Sg.el) ∧ s.rk = s.hd + 1 ∧ 1 ≤ s.hd ∧ s.hd ≤ 5 := by
  unfold binS dig inR
  revert s
  apply all14 <;> intro h <;> first | exact absurd h (by decide) | exact ⟨by decide, by decide, by decide, by decide, by decide, rfl, by decide, by decide, by decide, by decide, by decide, by decide, by decide⟩
theorem ms_inj (s : Sg) : (nI s.ms = 13 ↔ s = Sg.op) ∧ (nI s.ms = 14 ↔ s = Sg.as) ∧ nI s.ms ≠ -1 ∧ (nI s.cs = 40 ↔ s = Sg.op) ∧ (nI s.cs = 63 ↔ s = Sg.as) := by revert s; apply all14 <;> decide
theorem bin_other {ch : Int32} (h : ∀ s : Sg, binS s → ch ≠ nI s.cs) : F_X12_signOf ch = some (-1) ∧ ∃ r : Nat, F_X7_rank ch = some (nI r) ∧ (r ≤ 1 ∨ r = 7) := by
  have a2 : ch ≠ 42 := h Sg.mu (by unfold binS; decide)
  have a3 : ch ≠ 47 := h Sg.di (by unfold binS; decide)
  have a4 : ch ≠ 43 := h Sg.pl (by unfold binS; decide)
  have a5 : ch ≠ 45 := h Sg.mi (by unfold binS; decide)
  have a6 : ch ≠ 60 := h Sg.lw (by unfold binS; decide)
  have a7 : ch ≠ 62 := h Sg.gt (by unfold binS; decide)
  have a8 : ch ≠ 61 := h Sg.eq (by unfold binS; decide)
  have a9 : ch ≠ 38 := h Sg.an (by unfold binS; decide)
  have a10 : ch ≠ 124 := h Sg.oo (by unfold binS; decide)
  constructor
  · unfold F_X12_signOf
    rw [if_neg a9, if_neg a2, if_neg a4, if_neg a5, if_neg a3, if_neg a6, if_neg a8, if_neg a7, if_neg a10]
  · unfold F_X7_rank
    by_cases b1 : ch = 33
    · exact ⟨7, by rw [if_pos b1]; rfl, Or.inr rfl⟩
    · rw [if_neg b1, if_neg a9, if_neg a2, if_neg a4, if_neg a5, if_neg a3]
      by_cases b2 : ch = 58
      · exact ⟨1, by rw [if_pos b2]; rfl, Or.inl (by omega)⟩
      · rw [if_neg b2, if_neg a6, if_neg a8, if_neg a7, if_neg a10]
        by_cases b3 : ch = 126
        · exact ⟨7, by rw [if_pos b3]; rfl, Or.inr rfl⟩
        · exact ⟨0, by rw [if_neg b3]; rfl, Or.inl (by omega)⟩
section RDW
variable {tx : Nat → Int32} {n N : Nat} {cells : Nat → Int32} {rows wd t : Int32} {st : Nat → Int32} {pp : Int32} {i : Nat} {f0 f : Nat → Int32} {c h o q : Nat} {g : Nat → Sg} {c0 dg fd nb : Int32} {w : Nat → Int32} {step waits wth : Nat → Int32}
/-- the model, behind a unit, at a sign that is no blank -/
theorem M_w (H : RdH tx n N cells rows wd t st pp) (hi : i < n) (h32 : tx i ≠ 32) {s2 : MT} {r : Option (MT ⊕ (MT ⊕ MF))} (hs1 : s2.2.1 = 1) (hs2 : s2.2.2.1 = nI i) (hk : (if tx i = (41 : Int32) then (
if 0 < s2.1 then (
Option.bind (F_X12_closes s2.2.2.2.1 s2.2.2.2.2.1 s2.2.2.2.2.2.1 s2.2.2.2.2.2.2.1 s2.2.2.2.2.2.2.2) fun c_41 =>
if c_41.1 = (13 : Int32) then (
lt (c_41.2.2.2.1 - (1 : Int32)) fun x_42 =>
lt (s2.1 + (-1 : Int32)) fun x_43 =>
Option.bind (F_X12_settles c_41.2.1 c_41.2.2.1 x_42 s2.2.2.2.2.2.2.1 c_41.2.2.2.2 (6 : Int32)) fun c_44 =>
lt (s2.2.2.1 + (1 : Int32)) fun x_45 =>
some (Sum.inl (x_43, s2.2.1, x_45, c_44.1, c_44.2.1, c_44.2.2.1, s2.2.2.2.2.2.2.1, c_44.2.2.2))) else (
J_X12_reads_6_104 (tx i) s2 (c_41.2.1, c_41.2.2.1, c_41.2.2.2.1, c_41.2.2.2.2))) else (
J_X12_reads_6_104 (tx i) s2 (s2.2.2.2.1, s2.2.2.2.2.1, s2.2.2.2.2.2.1, s2.2.2.2.2.2.2.2))) else (
J_X12_reads_6_104 (tx i) s2 (s2.2.2.2.1, s2.2.2.2.2.1, s2.2.2.2.2.2.1, s2.2.2.2.2.2.2.2))) = r) : B_X12_reads_25 (nI n) st pp s2 = r := by
  have h50 := H.1
  unfold B_X12_reads_25
  rw [hs2, if_pos (nI_lt hi (by omega))]
  refine sbind (H.2.2 i hi) ?_
  rw [if_neg h32, hs1, if_neg (by decide)]
  rw [hs2, hs1] at hk
  exact hk
theorem M_j5f {s2 : MT} {ch : Int32} {v : (Nat → Int32) × Int32 × Int32 × (Nat → Int32)} (hs2 : s2.2.2.1 = nI i) (hx : F_X12_signOf ch = some (-1)) : J_X12_reads_5_163 ch s2 v = some (.inr (.inr (10 * nI i + 1, v.1, v.2.1, v.2.2.1, s2.2.2.2.2.2.2.1, v.2.2.2))) := by
  unfold J_X12_reads_5_163
  refine sbind hx ?_
  rw [if_pos rfl, hs2]
theorem M_j6f {s2 : MT} {ch : Int32} {v : (Nat → Int32) × Int32 × Int32 × (Nat → Int32)} (hs2 : s2.2.2.1 = nI i) (h63 : ch ≠ 63) (h58 : ch ≠ 58) (hx : F_X12_signOf ch = some (-1)) : J_X12_reads_6_104 ch s2 v = some (.inr (.inr (10 * nI i + 1, v.1, v.2.1, v.2.2.1, s2.2.2.2.2.2.2.1, v.2.2.2))) := by
  unfold J_X12_reads_6_104
  rw [if_neg h63, if_neg h58]
  exact M_j5f hs2 hx
theorem W_close (H : RdH tx n N cells rows wd t st pp) (hi : i < n) (IH : RdI tx n N cells rows wd t st pp (i + 1)) (ho : o ≤ 8) (hoc : o = nOp g h) (hb : c + h ≤ i) (hS : Shp g h) (hw : clo w g h) (he : F_X7_endNumber f0 c0 dg nb = some (f, nI c, 0)) (hq : popw (pM 6) g h = q) (hm : mlo waits g q) (hk : KD f step wth c (wsm g h + 1)) (pre : ∀ j, j < h - q → step (c + j) = nI (g (h - 1 - j)).ms) (hx : tx i = 41) :
    RdF tx n N cells rows wd t st pp (nI i, f0, c0, dg, -1, fd, nb, nI o, 0, w, nI h) (nI o, 1, nI i, step, nI (c + (h - q)), nI q, waits, wth) i := by
  have h50 := H.1
  obtain ⟨f2, step2, wth2, u, u1, u2, u3, u4, u5, u6, u7⟩ := CLO hw hq hm hk pre hS (by omega)
  have hnd : ¬ dig (tx i) := by rw [hx]; unfold dig inR; decide
  have h32 : tx i ≠ 32 := by rw [hx]; decide
  have hso : F_X12_signOf (tx i) = some (-1) := by rw [hx]; rfl
  have hnop : nOp g h = nOp g u := nOp_q (by omega) u7
  by_cases hop : 0 < u ∧ g (u - 1) = Sg.op
  · obtain ⟨p1, p2⟩ := hop
    have ho1 : nOp g u = nOp g (u - 1) + 1 := by
      rw [show u = (u - 1) + 1 by omega]
      show nOp g (u - 1) + (if g (u - 1) = Sg.op then 1 else 0) = _
      rw [if_pos p2]; rfl
    have hwu : wsm g u = wsm g (u - 1) := by
      rw [show u = (u - 1) + 1 by omega]
      show wsm g (u - 1) + (g (u - 1)).wt = _
      rw [p2]; rfl
    obtain ⟨q2, hq2⟩ : ∃ q2, popw (pM 6) g (u - 1) = q2 := ⟨_, rfl⟩
    have hq2l : q2 ≤ u - 1 := by rw [← hq2]; exact popw_le _ _ _
    refine RdF_step hi (CS H hi (C_take_j hnd h32 he (f' := f2) (c' := nI (c + (h - u))) (fa' := -1) (op' := nI (o - 1)) (du' := 0) (w' := w) (h' := nI (u - 1)) ?_)) (M_w H hi h32 rfl rfl ?_) (IH _ _ _ _ _ _ _ _ _ _ _ (emit step2 (c + (h - u)) (fun j => nI (g (u - 1 - 1 - j)).ms) (u - 1 - q2)) (nI (c + (h - u) + (u - 1 - q2))) (nI q2) waits (emit wth2 (c + (h - u)) z0 (u - 1 - q2)) ⟨g, c + (h - u), u - 1, o - 1, f2, ⟨rfl, rfl, by omega, by omega, rfl, by omega, Shp_le hS (by omega), clo_le hw (by omega), C_end_0⟩, Or.inr ⟨rfl, rfl, Or.inl rfl, q2, hq2, rfl, rfl, mlo_le hm (by omega), ?_, fun j hj => emit_in hj⟩⟩)
    · unfold F_X7_takeJoint
      rw [if_pos hx]
      refine sbind (x := (f2, nI (c + (h - u)), -1, nI (o - 1), 0, w, nI (u - 1))) (sbind (x := (f2, nI (c + (h - u)), -1, nI (o - 1), nI (u - 1))) ?_ rfl) rfl
      unfold F_X7_closeOne
      refine sbind u3 (sbind (x := (40 : Int32)) ?_ ?_)
      · dsimp only
        rw [C_top p1 (by omega), hw _ (by omega), p2]; rfl
      · dsimp only
        refine sbind (x := (-1, nI (o - 1), nI (u - 1))) ?_ rfl
        rw [if_pos rfl, lt_eq, lt_eq, show (1 : Int32) = nI 1 from rfl, pk_sub (by omega), pk_sub (by omega)]
    · dsimp only
      rw [if_pos hx, if_pos (ltL 0 0 rfl (by omega) (by omega))]
      refine sbind u4 ?_
      dsimp only
      rw [if_neg (show ¬ u = 0 by omega), if_pos ((ms_inj _).1.mpr p2), lt_eq, lt_eq, show (1 : Int32) = nI 1 from rfl, pk_sub (by omega), show (6 : Int32) = nI 6 from rfl]
      refine sbind (M_settles (t := 6) (h := u - 1) (c := c + (h - u)) (mlo_le hm (by omega)) (by omega) (by omega)) ?_
      rw [hq2, lt_eq, nI_add]
      dsimp only
      rw [show nI o + (-nI 1) = nI (o - 1) from by rw [show o = (o - 1) + 1 by omega]; exact pk_m1 (o - 1)]
    · rw [← hwu]
      exact KD_frame (fun k hk => ⟨rfl, emit_out hk, emit_out hk⟩) u5
  · have hmz : ∃ z : MF, B_X12_reads_25 (nI n) st pp (nI o, 1, nI i, step, nI (c + (h - q)), nI q, waits, wth) = some (.inr (.inr z)) ∧ z.1 = 10 * nI i + 1 := by
      by_cases h0 : o = 0
      · subst h0
        refine ⟨(10 * nI i + 1, step, nI (c + (h - q)), nI q, waits, wth), M_w H hi h32 rfl rfl ?_, rfl⟩
        dsimp only
        rw [if_pos hx, if_neg (by decide)]
        exact M_j6f rfl (by rw [hx]; decide) (by rw [hx]; decide) hso
      · refine ⟨(10 * nI i + 1, step2, nI (c + (h - u)), nI u, waits, wth2), M_w H hi h32 rfl rfl ?_, rfl⟩
        dsimp only
        rw [if_pos hx, if_pos (ltL 0 0 rfl (by omega) (by omega))]
        refine sbind u4 ?_
        dsimp only
        rw [if_neg]
        · exact M_j6f rfl (by rw [hx]; decide) (by rw [hx]; decide) hso
        · by_cases hu0 : u = 0
          · rw [if_pos hu0]; decide
          · rw [if_neg hu0]
            exact fun z => hop ⟨by omega, (ms_inj _).1.mp z⟩
    obtain ⟨z, z1, z2⟩ := hmz
    refine RdF_fault hi (CS H hi (C_take_j hnd h32 he (f' := f2) (c' := nI (c + (h - u))) (fa' := 10 * nI i + 1) (op' := nI o) (du' := 0) (w' := w) (h' := nI u) ?_)) (flt1 (by omega)) z1 z2
    unfold F_X7_takeJoint
    rw [if_pos hx]
    refine sbind (x := (f2, nI (c + (h - u)), 10 * nI i + 1, nI o, 0, w, nI u)) (sbind (x := (f2, nI (c + (h - u)), 10 * nI i + 1, nI o, nI u)) ?_ rfl) rfl
    unfold F_X7_closeOne
    refine sbind u3 (sbind (x := if u = 0 then (0 : Int32) else nI (g (u - 1)).cs) ?_ ?_)
    · dsimp only
      by_cases hu0 : u = 0
      · rw [if_pos hu0, hu0]; rfl
      · rw [if_neg hu0, C_top (by omega) (by omega), hw _ (by omega)]
    · dsimp only
      refine sbind (x := (10 * nI i + 1, nI o, nI u)) ?_ rfl
      rw [if_neg]
      · rfl
      · by_cases hu0 : u = 0
        · rw [if_pos hu0]; decide
        · rw [if_neg hu0]
          exact fun z => hop ⟨by omega, (ms_inj _).2.2.2.1.mp z⟩
end RDW
