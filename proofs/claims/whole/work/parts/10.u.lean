/-! PURE LAWS 10: the readers, the cases -/
section RDC
variable {tx : Nat → Int32} {n N : Nat} {cells : Nat → Int32} {rows wd t : Int32} {st : Nat → Int32} {pp : Int32} {i : Nat} {f f1 f' : Nat → Int32} {c c1 c' dg fa fa' fd nb op op' du du' : Int32} {w w' : Nat → Int32} {h h' ii ch mop whole : Int32} {step : Nat → Int32} {steps waiting : Int32} {waits wth : Nat → Int32}
theorem C_take_u (hn : ¬ dig ch) (hb : ch ≠ 32) (hk : F_X7_takeUnit f c fa op 1 w h ii ch = some (f', c', fa', op', du', w', h')) : F_X7_take f c 0 fa fd nb op 1 w h ii ch = some (f', c', 0, fa', fd, nb, op', du', w', h') := by
  rw [C_take_nd hn]
  unfold J_X7_take_1_22
  refine sbind C_end_0 ?_
  dsimp only
  rw [if_neg hb]
  exact sbind (by rw [if_neg (by decide)]; exact sbind hk rfl) rfl
theorem C_take_j (hn : ¬ dig ch) (hb : ch ≠ 32) (he : F_X7_endNumber f c dg nb = some (f1, c1, 0)) (hk : F_X7_takeJoint f1 c1 fa op 0 w h ii ch = some (f', c', fa', op', du', w', h')) : F_X7_take f c dg fa fd nb op 0 w h ii ch = some (f', c', 0, fa', fd, nb, op', du', w', h') := by
  rw [C_take_nd hn]
  unfold J_X7_take_1_22
  refine sbind he ?_
  dsimp only
  rw [if_neg hb]
  exact sbind (by rw [if_pos rfl]; exact sbind hk rfl) rfl
theorem C_take_b (hb : ch = 32) (he : F_X7_endNumber f c dg nb = some (f1, c1, 0)) : F_X7_take f c dg fa fd nb op du w h ii ch = some (f1, c1, 0, fa, fd, nb, op, du, w, h) := by
  rw [C_take_nd (by rw [hb]; unfold dig inR; decide)]
  unfold J_X7_take_1_22
  refine sbind he ?_
  dsimp only
  rw [if_pos hb]
theorem M_b (H : RdH tx n N cells rows wd t st pp) (hi : i < n) (hc : tx i = 32) : B_X12_reads_25 (nI n) st pp (mop, whole, nI i, step, steps, waiting, waits, wth) = some (.inl (mop, whole, nI (i + 1), step, steps, waiting, waits, wth)) := by
  unfold B_X12_reads_25
  dsimp only
  rw [if_pos (nI_lt hi (by have := H.1; omega))]
  refine sbind (H.2.2 i hi) ?_
  rw [if_pos hc, lt_eq, nI_1]
def RdI (tx : Nat → Int32) (n N : Nat) (cells : Nat → Int32) (rows wd t : Int32) (st : Nat → Int32) (pp : Int32) (j : Nat) : Prop :=
  ∀ (f : Nat → Int32) (c dg fd nb op du : Int32) (w : Nat → Int32) (h mop whole : Int32) (step : Nat → Int32) (steps waiting : Int32) (waits wth : Nat → Int32), RdX tx n j f c dg nb op du w h mop whole step steps waiting waits wth → RdF tx n N cells rows wd t st pp (nI j, f, c, dg, -1, fd, nb, op, du, w, h) (mop, whole, nI j, step, steps, waiting, waits, wth) j
theorem nm_fact {v : Nat} (hv : v < 5) : ¬ dig (nmC v) ∧ nmC v ≠ 32 ∧ F_X12_nameOf (nmC v) = some (nI v) ∧ nI v ≠ -1 := by
  unfold dig inR
  rcases (show v = 0 ∨ v = 1 ∨ v = 2 ∨ v = 3 ∨ v = 4 by omega) with rfl | rfl | rfl | rfl | rfl <;> exact ⟨by decide, by decide, rfl, by decide⟩
theorem C_unit_name {c v : Nat} (hv : v < 5) (hc : c < 50) : F_X7_takeUnit f (nI c) fa op du w h ii (nmC v) = some (upd f c (-(nmC v)), nI (c + 1), fa, op, 0, w, h) := by
  unfold F_X7_takeUnit
  rcases (show v = 0 ∨ v = 1 ∨ v = 2 ∨ v = 3 ∨ v = 4 by omega) with rfl | rfl | rfl | rfl | rfl
  · rw [if_neg (by decide), if_neg (by decide), if_neg (by decide), if_pos (by decide)]
    exact sbind (sbind (C_put hc) rfl) rfl
  · rw [if_neg (by decide), if_neg (by decide), if_neg (by decide), if_neg (by decide), if_pos (by decide)]
    exact sbind (sbind (C_put hc) rfl) rfl
  · rw [if_neg (by decide), if_neg (by decide), if_neg (by decide), if_neg (by decide), if_neg (by decide), if_neg (by decide), if_pos (by decide)]
    exact sbind (sbind (C_put hc) rfl) rfl
  · rw [if_neg (by decide), if_neg (by decide), if_neg (by decide), if_neg (by decide), if_neg (by decide), if_pos (by decide)]
    exact sbind (sbind (C_put hc) rfl) rfl
  · rw [if_neg (by decide), if_neg (by decide), if_neg (by decide), if_neg (by decide), if_neg (by decide), if_neg (by decide), if_neg (by decide), if_pos (by decide)]
    exact sbind (sbind (C_put hc) rfl) rfl
end RDC
section RDD
variable {tx : Nat → Int32} {n N : Nat} {cells : Nat → Int32} {rows wd t : Int32} {st : Nat → Int32} {pp : Int32} {i : Nat} {f : Nat → Int32} {c h o : Nat} {g : Nat → Sg} {fd nb : Int32} {w : Nat → Int32} {step waits wth : Nat → Int32}
theorem D_name (H : RdH tx n N cells rows wd t st pp) (hi : i < n) (IH : RdI tx n N cells rows wd t st pp (i + 1)) (ho : o ≤ 8) (hoc : o = nOp g h) (hb : c + h ≤ i) (hS : Shp g h) (hw : clo w g h) (hm : mlo waits g h) (hk : KD f step wth c (wsm g h)) {v : Nat} (hv : v < 5) (hx : tx i = nmC v) :
    RdF tx n N cells rows wd t st pp (nI i, f, nI c, 0, -1, fd, nb, nI o, 1, w, nI h) (nI o, 0, nI i, step, nI c, nI h, waits, wth) i := by
  have h50 := H.1
  obtain ⟨n1, n2, n3, n4⟩ := nm_fact hv
  obtain ⟨step2, wth2, q, e1, e2, e3, e4, e5, e6, e7⟩ := UNI (x := -(nmC v)) (a := 1) (b := nI v) hm hk (by omega) (fun f2 s2 w2 a b c => Or.inr (Or.inl ⟨v, hv, a, b, c, rfl⟩))
  refine RdF_step hi (CS H hi (C_take_u (by rw [hx]; exact n1) (by rw [hx]; exact n2) (by rw [hx]; exact C_unit_name hv (by omega)))) ?_ (IH _ _ _ _ _ _ _ _ _ _ _ _ _ _ _ _ ⟨g, c + 1, h, o, _, ⟨rfl, rfl, ho, hoc, rfl, by omega, hS, hw, C_end_0⟩, Or.inr ⟨rfl, rfl, Or.inl rfl, q, e1, rfl, rfl, e5, e6, e7⟩⟩)
  unfold B_X12_reads_25
  dsimp only
  rw [if_pos (nI_lt hi (by omega))]
  refine sbind (H.2.2 i hi) ?_
  rw [hx, if_neg n2, if_pos rfl]
  refine sbind (M_in_f rfl rfl n1) ?_
  rw [if_pos rfl]
  refine sbind n3 ?_
  rw [if_neg n4]
  refine sbind n3 (sbind e3 (sbind e4 ?_))
  rw [lt_eq, nI_1]
theorem D_push (H : RdH tx n N cells rows wd t st pp) (hi : i < n) (IH : RdI tx n N cells rows wd t st pp (i + 1)) (hb : c + h ≤ i) (hS : Shp g h) (hw : clo w g h) (hm : mlo waits g h) (hk : KD f step wth c (wsm g h)) {s : Sg} {o' : Nat} (ho : o' ≤ 8) (hoc : o' = nOp g h + (if s = Sg.op then 1 else 0)) (hs : s.wt = 0) (hs2 : ¬ (s = Sg.as ∨ s = Sg.el)) (hd : ¬ dig (tx i)) (h32 : tx i ≠ 32)
    (hC : F_X7_takeUnit f (nI c) (-1) (nI o) 1 w (nI h) (nI i) (tx i) = some (f, nI c, -1, nI o', 1, upd w h (nI s.cs), nI (h + 1)))
    (hM : B_X12_reads_25 (nI n) st pp (nI o, 0, nI i, step, nI c, nI h, waits, wth) = some (.inl (nI o', 0, nI (i + 1), step, nI c, nI (h + 1), upd waits h (nI s.ms), wth))) :
    RdF tx n N cells rows wd t st pp (nI i, f, nI c, 0, -1, fd, nb, nI o, 1, w, nI h) (nI o, 0, nI i, step, nI c, nI h, waits, wth) i := by
  refine RdF_step hi (CS H hi (C_take_u hd h32 hC)) hM (IH _ _ _ _ _ _ _ _ _ _ _ _ _ _ _ _ ⟨va_up g h s, c, h + 1, o', f, ⟨rfl, rfl, ho, by rw [nOp_p]; exact hoc, rfl, by omega, Shp_p hS (fun z => absurd z hs2), clo_p hw rfl, C_end_0⟩, Or.inl ⟨rfl, rfl, rfl, rfl, rfl, mlo_p hm rfl, ?_⟩⟩)
  rw [wsm_p, hs]; exact hk
theorem D_rest (H : RdH tx n N cells rows wd t st pp) (hi : i < n) (IH : RdI tx n N cells rows wd t st pp (i + 1)) (ho : o ≤ 8) (hoc : o = nOp g h) (hb : c + h ≤ i) (hS : Shp g h) (hw : clo w g h) (hm : mlo waits g h) (hk : KD f step wth c (wsm g h)) (hd : ¬ dig (tx i)) (h32 : tx i ≠ 32) (hnm : ∀ v, v < 5 → tx i ≠ nmC v) :
    RdF tx n N cells rows wd t st pp (nI i, f, nI c, 0, -1, fd, nb, nI o, 1, w, nI h) (nI o, 0, nI i, step, nI c, nI h, waits, wth) i := by
  have h50 := H.1
  have a0 : tx i ≠ 103 := hnm 0 (by omega)
  have a1 : tx i ≠ 107 := hnm 1 (by omega)
  have a2 : tx i ≠ 116 := hnm 2 (by omega)
  have a3 : tx i ≠ 115 := hnm 3 (by omega)
  have a4 : tx i ≠ 119 := hnm 4 (by omega)
  have hname : F_X12_nameOf (tx i) = some (-1) := by
    unfold F_X12_nameOf
    rw [if_neg a0, if_neg a1, if_neg a3, if_neg a2, if_neg a4]
  by_cases b0 : tx i = 33
  · refine D_push (s := Sg.no) (o' := o) H hi IH hb hS hw hm hk ho hoc rfl (by decide) hd h32 ?_ ?_
    · unfold F_X7_takeUnit
      rw [if_pos b0, b0]
      exact sbind (sbind (C_push (by omega)) rfl) rfl
    · unfold B_X12_reads_25
      dsimp only
      rw [if_pos (nI_lt hi (by omega))]
      refine sbind (H.2.2 i hi) ?_
      rw [if_neg h32, if_pos rfl]
      refine sbind (M_in_f rfl rfl hd) ?_
      rw [if_pos rfl]
      refine sbind hname ?_
      rw [if_pos rfl, if_neg (by rw [b0]; decide), if_neg (by rw [b0]; decide), if_pos b0]
      unfold J_X12_reads_4_405
      refine sbind (x := (2 : Int32)) (by rw [if_neg (by rw [b0]; decide)]) ?_
      refine sbind (M_waitsWith (by omega)) ?_
      rw [lt_eq]
      dsimp only
      rw [nI_1]
      rfl
  · by_cases b1 : tx i = 45
    · refine D_push (s := Sg.ng) (o' := o) H hi IH hb hS hw hm hk ho hoc rfl (by decide) hd h32 ?_ ?_
      · unfold F_X7_takeUnit
        rw [if_neg b0, if_neg (by rw [b1]; decide), if_pos b1]
        exact sbind (sbind (C_push (by omega)) rfl) rfl
      · unfold B_X12_reads_25
        dsimp only
        rw [if_pos (nI_lt hi (by omega))]
        refine sbind (H.2.2 i hi) ?_
        rw [if_neg h32, if_pos rfl]
        refine sbind (M_in_f rfl rfl hd) ?_
        rw [if_pos rfl]
        refine sbind hname ?_
        rw [if_pos rfl, if_neg (by rw [b1]; decide), if_pos b1]
        unfold J_X12_reads_4_405
        refine sbind (x := (3 : Int32)) (by rw [if_pos b1]) ?_
        refine sbind (M_waitsWith (by omega)) ?_
        rw [lt_eq]
        dsimp only
        rw [nI_1]
        rfl
    · by_cases b2 : tx i = 40
      · by_cases o8 : o = 8
        · subst o8
          refine RdF_fault hi (CS H hi (C_take_u hd h32 (f' := f) (c' := nI c) (fa' := 10 * nI i + 3) (op' := nI 8) (du' := 1) (w' := w) (h' := nI h) ?_)) (flt3 (by omega)) (z := (10 * nI i + 3, step, nI c, nI h, waits, wth)) ?_ rfl
          · unfold F_X7_takeUnit
            rw [if_neg b0, if_pos b2]
            refine sbind (x := (f, nI c, 10 * nI i + 3, nI 8, 1, w, nI h)) (sbind (x := (10 * nI i + 3, nI 8, w, nI h)) ?_ rfl) rfl
            unfold F_X7_openOne
            refine sbind (x := (10 * nI i + 3, nI 8, w, nI h)) ?_ rfl
            rw [if_pos (by decide)]; rfl
          · unfold B_X12_reads_25
            dsimp only
            rw [if_pos (nI_lt hi (by omega))]
            refine sbind (H.2.2 i hi) ?_
            rw [if_neg h32, if_pos rfl]
            refine sbind (M_in_f rfl rfl hd) ?_
            rw [if_pos rfl]
            refine sbind hname ?_
            rw [if_pos rfl, if_pos b2, if_pos (by decide)]
        · have hne : ¬ nI o = 8 := neR 8 8 rfl (by omega) (by decide) o8
          refine D_push (s := Sg.op) (o' := o + 1) H hi IH hb hS hw hm hk (by omega) (by rw [if_pos rfl, hoc]) rfl (by decide) hd h32 ?_ ?_
          · unfold F_X7_takeUnit
            rw [if_neg b0, if_pos b2]
            refine sbind (x := (f, nI c, -1, nI (o + 1), 1, upd w h (nI Sg.op.cs), nI (h + 1))) (sbind (x := (-1, nI (o + 1), upd w h (nI Sg.op.cs), nI (h + 1))) ?_ rfl) rfl
            unfold F_X7_openOne
            refine sbind (x := (-1, nI (o + 1), upd w h (nI Sg.op.cs), nI (h + 1))) ?_ rfl
            rw [if_neg hne, lt_eq]
            refine sbind (C_push (by omega)) ?_
            rw [nI_1]; rfl
          · unfold B_X12_reads_25
            dsimp only
            rw [if_pos (nI_lt hi (by omega))]
            refine sbind (H.2.2 i hi) ?_
            rw [if_neg h32, if_pos rfl]
            refine sbind (M_in_f rfl rfl hd) ?_
            rw [if_pos rfl]
            refine sbind hname ?_
            rw [if_pos rfl, if_pos b2, if_neg hne, lt_eq]
            refine sbind (M_waitsWith (by omega)) ?_
            rw [lt_eq, nI_1, nI_1]
            rfl
      · refine RdF_fault hi (CS H hi (C_take_u hd h32 (f' := f) (c' := nI c) (fa' := 10 * nI i + 1) (op' := nI o) (du' := 1) (w' := w) (h' := nI h) ?_)) (flt1 (by omega)) (z := (10 * nI i + 1, step, nI c, nI h, waits, wth)) ?_ rfl
        · unfold F_X7_takeUnit
          rw [if_neg b0, if_neg b2, if_neg b1, if_neg a0, if_neg a1, if_neg a3, if_neg a2, if_neg a4]
          rfl
        · unfold B_X12_reads_25
          dsimp only
          rw [if_pos (nI_lt hi (by omega))]
          refine sbind (H.2.2 i hi) ?_
          rw [if_neg h32, if_pos rfl]
          refine sbind (M_in_f rfl rfl hd) ?_
          rw [if_pos rfl]
          refine sbind hname ?_
          rw [if_pos rfl, if_neg b2, if_neg b1, if_neg b0]
end RDD
