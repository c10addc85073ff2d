/-- behind a call, by lookups alone: the callee's cells where they stood, the others as they were -/
theorem ii_covP {A0 : Nat → Prop} {D : va_G} {cl : List vw_C} {B B' tl wc w1 : va_W} {H H1 : Heap} (hP : va_P D cl (B ++ tl) H) (hD : va_D A0 (B ++ tl)) (isC isR : List Nat) (hC : isC.map (fun i => B[i]?) = wc.map some) (hC' : isC.map (fun i => B'[i]?) = w1.map some) (hR : isR.map (fun i => B[i]?) = isR.map (fun i => B'[i]?)) (hlen : B'.length = B.length) (hcov : (List.range B.length).all (fun k => decide (k ∈ isC) || decide (k ∈ isR)) = true) (hdis : isR.all (fun k => decide (k ∉ isC)) = true)
    (hk : ∀ q : Nat, q < H.size → ¬ va_A wc H.size q → H1[q]? = H[q]?) (hP1 : va_P D cl w1 H1) : va_P D cl (B' ++ tl) H1 := by
  have atC : ∀ (k2 : Nat) (x : Nat × va_E), wc[k2]? = some x → ∃ i, isC[k2]? = some i ∧ B[i]? = some x := by
    intro k2 x h
    have h3 : (isC.map (fun i => B[i]?))[k2]? = some (some x) := by rw [hC, List.getElem?_map, h]; rfl
    rw [List.getElem?_map] at h3
    cases hi : isC[k2]? with
    | none => rw [hi] at h3; cases h3
    | some i => rw [hi] at h3; exact ⟨i, rfl, Option.some.inj h3⟩
  have keep : ∀ (k : Nat) (q : Nat × va_E), (B ++ tl)[k]? = some q → (∀ i, i ∈ isC → i < B.length → i ≠ k) → va_at D cl q H1 := by
    intro k q hq hno
    have hlt := (hP k q hq).lt
    refine (hP k q hq).kept (hk q.1 hlt (fun h => ?_))
    rcases h with ⟨k2, e, h⟩ | h
    · obtain ⟨i, hi1, hi2⟩ := atC k2 (q.1, e) h
      have hib : i < B.length := (List.getElem?_eq_some_iff.mp hi2).1
      have h4 : (B ++ tl)[i]? = some (q.1, e) := by rw [List.getElem?_append_left hib]; exact hi2
      exact hno i (List.mem_of_getElem? hi1) hib (hD.1 k i q (q.1, e) hq h4 rfl).symm
    · omega
  intro k q hq
  by_cases hkb : k < B.length
  · rw [List.getElem?_append_left (by omega)] at hq
    have hc := List.all_eq_true.mp hcov k (List.mem_range.mpr hkb)
    rcases Bool.or_eq_true _ _ ▸ hc with hc | hc
    · have hmem := of_decide_eq_true hc
      obtain ⟨j, hj⟩ := List.getElem?_of_mem hmem
      have h5 : (isC.map (fun i => B'[i]?))[j]? = some (some q) := by rw [List.getElem?_map, hj]; exact congrArg some hq
      rw [hC', List.getElem?_map] at h5
      cases hw : w1[j]? with
      | none => rw [hw] at h5; cases h5
      | some x => rw [hw] at h5; cases h5; exact hP1 j q hw
    · have hmem := of_decide_eq_true hc
      obtain ⟨j, hj⟩ := List.getElem?_of_mem hmem
      have h5 : (isR.map (fun i => B[i]?))[j]? = some (B[k]?) := by rw [List.getElem?_map, hj]; rfl
      rw [hR, List.getElem?_map, hj] at h5
      have h6 : B[k]? = some q := by
        have h7 : B'[k]? = B[k]? := Option.some.inj h5
        rw [← h7]; exact hq
      refine keep k q (by rw [List.getElem?_append_left hkb]; exact h6) (fun i hi _ e => ?_)
      have h8 := of_decide_eq_true (List.all_eq_true.mp hdis k hmem)
      exact h8 (e ▸ hi)
  · rw [List.getElem?_append_right (by omega), hlen, ← List.getElem?_append_right (l₁ := B) (by omega)] at hq
    exact keep k q hq (fun i _ hib e => by omega)
section II
variable {p : Program} {l : Launch} {e : Env} {R : Room} {s : State} {m : MethodId} {args : Array Value} {below : List Frame} {meth : Method} {c : Code} {cc : ByteArray} {own : String} {Ts : List Cond} {D : va_G} {tys : List (ClassId × FieldType)} {A : Nat → Prop} {nL cells slots : Nat} {Q : State → Prop} {ws ws' : va_W} {pc : Nat} {lv lv' : List (Nat × Value)} {st : List Value}
theorem ii_callGi {y : MethodName} {wy wy' : List Cond} {bytes : ByteArray} {maxL n idx : Nat} {ret : Option FieldType} {rm : Room} {b ci N : Nat} {C : String} {T : u_T} {fs : List Value} {As sk : List Value} {B B' tl wc wc' : va_W} {r0 : Int32} (hc : CTi l y wy rm D tys (.ref b :: As) wc r0 wc') (hG : GoodIn Ts (wsV own idx C y wy)) (hw : wy = Cond.code y bytes maxL ret :: wy') (hrc : rm.cells = 0) (hrs : rm.slots = 0) (hd : y.cls = C ∧ y.cls ≠ "java/lang/invoke/MethodHandle" ∧ y.cls ≠ "java/lang/invoke/VarHandle" ∧ (parseMethodDescriptor y.desc).map (fun d => d.parameters.length) = some n) (hR : rm.frames + 1 ≤ R.frames ∧ 8 + (maxL + 11) + rm.locals ≤ R.locals) (hn : As.length = n) (q0 : Nat) (he : B[q0]? = some (b, .inr (ci, fs))) (hcl : vwCl[ci]? = some (C, T, N))
    (isC isR : List Nat) (hC : isC.map (fun i => B[i]?) = wc.map some) (hC' : isC.map (fun i => B'[i]?) = wc'.map some) (hnd : va_nd isC = true) {wr : va_W} {al : List Nat} (hR1 : isR.map (fun i => B[i]?) = wr.map some) (hR2 : isR.map (fun i => B'[i]?) = wr.map some) (h31 : B.map (fun q => q.1) = al) (h32 : B'.map (fun q => q.1) = al) {nB : Nat} (hnB : B.length = nB) (hcov : (List.range nB).all (fun k => decide (k ∈ isC) || decide (k ∈ isR)) = true) (hdis : isR.all (fun k => decide (k ∉ isC)) = true) (hst : (st.map fun v => v.category).sum ≤ 8) (hcs : cells ≤ R.cells) (hss : slots ≤ R.slots) (hsk : sk = As.reverse ++ .ref b :: st) (d : decode cc pc = .ok (.invokevirtual idx, 3)) (hws : B ++ tl = ws) (hws2 : B' ++ tl = ws') (kk : WX p l e R s m args below meth c cc own Ts D tys A nL cells slots Q ws' (pc + 3) lv (.int r0 :: st)) : WX p l e R s m args below meth c cc own Ts D tys A nL cells slots Q ws pc lv sk := by
  subst hws; subst hws2
  have hRr := hR1.trans hR2.symm
  have h3 := h32.trans h31.symm
  intro C H locs ls hP hD hS hl
  obtain ⟨hx, hb, hml, hown, hts, hK, hlk, hA, hZ⟩ := id C
  have hC2 : isC.map (fun i => (B ++ tl)[i]?) = wc.map some := by
    rw [← hC]
    refine List.map_congr_left (fun i hi => ?_)
    obtain ⟨j, hj⟩ := List.getElem?_of_mem hi
    have h9 : (isC.map (fun i => B[i]?))[j]? = some (B[i]?) := by rw [List.getElem?_map, hj]; rfl
    rw [hC, List.getElem?_map] at h9
    cases hw9 : wc[j]? with
    | none => rw [hw9] at h9; cases h9
    | some x =>
      rw [hw9] at h9
      have h8 : B[i]? = some x := (Option.some.inj h9).symm
      exact List.getElem?_append_left (List.getElem?_eq_some_iff.mp h8).1
  have hPc := hP.sub (ws' := wc) isC (by
    have h9 := congrArg (fun (z : List (Option (Nat × va_E))) => z.filterMap id) hC2
    simpa [List.filterMap_map, Function.comp_def] using h9)
  have hDc := hD.sub isC hnd hC2
  have hFc := va_free (wc := wc) hD hS hA isC hC2
  have hpre : ∀ U : State, U.heap = H → s.WarmedH U.vm → ii_Pre D tys (.ref b :: As) wc H.size (.ref b :: As).toArray U := fun U hU hW => ⟨rfl, by rw [hU], by rw [hU]; exact hPc, va_K.moved hW.alike hK, hDc.weaken (fun _ _ _ _ => trivial), by rw [hU]; exact hZ.go hW.alike hFc (fun a h1 h2 => hS.2.1 a h1 h2)⟩
  refine va_calli (va_runV (As := As) (rest := st) ⟨hx, hb, hml, hown, hts⟩ (hc H.size) (cwV n hts hG hw hrc hrs hd hR) ⟨ii_blind, va_recv hK hP hcl (by rw [List.getElem?_append_left (List.getElem?_eq_some_iff.mp he).1]; exact he), hpre⟩ rfl hn hl.1 hsk (lv_room hst) d ⟨hcs, hss⟩) hS (fun q _ h => hFc q h) hFc (fun x u t H1 locs1 ht hvm hw hB hz1 hk1 hS1 => ?_)
  subst hw
  have hP1 : va_P D vwCl wc' H1 := by rw [← ht]; exact hB
  have hlen : B'.length = B.length := by
    have a := congrArg List.length h3
    simpa using a
  have hP2 := ii_covP hP hD isC isR hC hC' hRr hlen (hnB ▸ hcov) hdis hk1 hP1
  exact kk C H1 locs1 ls hP2 (ii_D hD (by rw [List.map_append, List.map_append, h3])) hS1 hl
theorem ii_callGl {y : MethodName} {wy wy' : List Cond} {bytes : ByteArray} {maxL n idx : Nat} {ret : Option FieldType} {rm : Room} {b ci N : Nat} {C : String} {T : u_T} {fs : List Value} {As sk : List Value} {B B' tl wc wc' : va_W} {r0 : Int64} (hc : CTl l y wy rm D tys (.ref b :: As) wc r0 wc') (hG : GoodIn Ts (wsV own idx C y wy)) (hw : wy = Cond.code y bytes maxL ret :: wy') (hrc : rm.cells = 0) (hrs : rm.slots = 0) (hd : y.cls = C ∧ y.cls ≠ "java/lang/invoke/MethodHandle" ∧ y.cls ≠ "java/lang/invoke/VarHandle" ∧ (parseMethodDescriptor y.desc).map (fun d => d.parameters.length) = some n) (hR : rm.frames + 1 ≤ R.frames ∧ 8 + (maxL + 11) + rm.locals ≤ R.locals) (hn : As.length = n) (q0 : Nat) (he : B[q0]? = some (b, .inr (ci, fs))) (hcl : vwCl[ci]? = some (C, T, N))
    (isC isR : List Nat) (hC : isC.map (fun i => B[i]?) = wc.map some) (hC' : isC.map (fun i => B'[i]?) = wc'.map some) (hnd : va_nd isC = true) {wr : va_W} {al : List Nat} (hR1 : isR.map (fun i => B[i]?) = wr.map some) (hR2 : isR.map (fun i => B'[i]?) = wr.map some) (h31 : B.map (fun q => q.1) = al) (h32 : B'.map (fun q => q.1) = al) {nB : Nat} (hnB : B.length = nB) (hcov : (List.range nB).all (fun k => decide (k ∈ isC) || decide (k ∈ isR)) = true) (hdis : isR.all (fun k => decide (k ∉ isC)) = true) (hst : (st.map fun v => v.category).sum ≤ 8) (hcs : cells ≤ R.cells) (hss : slots ≤ R.slots) (hsk : sk = As.reverse ++ .ref b :: st) (d : decode cc pc = .ok (.invokevirtual idx, 3)) (hws : B ++ tl = ws) (hws2 : B' ++ tl = ws') (kk : WX p l e R s m args below meth c cc own Ts D tys A nL cells slots Q ws' (pc + 3) lv (.long r0 :: st)) : WX p l e R s m args below meth c cc own Ts D tys A nL cells slots Q ws pc lv sk := by
  subst hws; subst hws2
  have hRr := hR1.trans hR2.symm
  have h3 := h32.trans h31.symm
  intro C H locs ls hP hD hS hl
  obtain ⟨hx, hb, hml, hown, hts, hK, hlk, hA, hZ⟩ := id C
  have hC2 : isC.map (fun i => (B ++ tl)[i]?) = wc.map some := by
    rw [← hC]
    refine List.map_congr_left (fun i hi => ?_)
    obtain ⟨j, hj⟩ := List.getElem?_of_mem hi
    have h9 : (isC.map (fun i => B[i]?))[j]? = some (B[i]?) := by rw [List.getElem?_map, hj]; rfl
    rw [hC, List.getElem?_map] at h9
    cases hw9 : wc[j]? with
    | none => rw [hw9] at h9; cases h9
    | some x =>
      rw [hw9] at h9
      have h8 : B[i]? = some x := (Option.some.inj h9).symm
      exact List.getElem?_append_left (List.getElem?_eq_some_iff.mp h8).1
  have hPc := hP.sub (ws' := wc) isC (by
    have h9 := congrArg (fun (z : List (Option (Nat × va_E))) => z.filterMap id) hC2
    simpa [List.filterMap_map, Function.comp_def] using h9)
  have hDc := hD.sub isC hnd hC2
  have hFc := va_free (wc := wc) hD hS hA isC hC2
  have hpre : ∀ U : State, U.heap = H → s.WarmedH U.vm → ii_Pre D tys (.ref b :: As) wc H.size (.ref b :: As).toArray U := fun U hU hW => ⟨rfl, by rw [hU], by rw [hU]; exact hPc, va_K.moved hW.alike hK, hDc.weaken (fun _ _ _ _ => trivial), by rw [hU]; exact hZ.go hW.alike hFc (fun a h1 h2 => hS.2.1 a h1 h2)⟩
  refine va_calll (va_runV (As := As) (rest := st) ⟨hx, hb, hml, hown, hts⟩ (hc H.size) (cwV n hts hG hw hrc hrs hd hR) ⟨ii_blind, va_recv hK hP hcl (by rw [List.getElem?_append_left (List.getElem?_eq_some_iff.mp he).1]; exact he), hpre⟩ rfl hn hl.1 hsk (lv_room hst) d ⟨hcs, hss⟩) hS (fun q _ h => hFc q h) hFc (fun x u t H1 locs1 ht hvm hw hB hz1 hk1 hS1 => ?_)
  subst hw
  have hP1 : va_P D vwCl wc' H1 := by rw [← ht]; exact hB
  have hlen : B'.length = B.length := by
    have a := congrArg List.length h3
    simpa using a
  have hP2 := ii_covP hP hD isC isR hC hC' hRr hlen (hnB ▸ hcov) hdis hk1 hP1
  exact kk C H1 locs1 ls hP2 (ii_D hD (by rw [List.map_append, List.map_append, h3])) hS1 hl
theorem ii_callGv {y : MethodName} {wy wy' : List Cond} {bytes : ByteArray} {maxL n idx : Nat} {ret : Option FieldType} {rm : Room} {b ci N : Nat} {C : String} {T : u_T} {fs : List Value} {As sk : List Value} {B B' tl wc wc' : va_W} (hc : CTv l y wy rm D tys (.ref b :: As) wc  wc') (hG : GoodIn Ts (wsV own idx C y wy)) (hw : wy = Cond.code y bytes maxL ret :: wy') (hrc : rm.cells = 0) (hrs : rm.slots = 0) (hd : y.cls = C ∧ y.cls ≠ "java/lang/invoke/MethodHandle" ∧ y.cls ≠ "java/lang/invoke/VarHandle" ∧ (parseMethodDescriptor y.desc).map (fun d => d.parameters.length) = some n) (hR : rm.frames + 1 ≤ R.frames ∧ 8 + (maxL + 11) + rm.locals ≤ R.locals) (hn : As.length = n) (q0 : Nat) (he : B[q0]? = some (b, .inr (ci, fs))) (hcl : vwCl[ci]? = some (C, T, N))
    (isC isR : List Nat) (hC : isC.map (fun i => B[i]?) = wc.map some) (hC' : isC.map (fun i => B'[i]?) = wc'.map some) (hnd : va_nd isC = true) {wr : va_W} {al : List Nat} (hR1 : isR.map (fun i => B[i]?) = wr.map some) (hR2 : isR.map (fun i => B'[i]?) = wr.map some) (h31 : B.map (fun q => q.1) = al) (h32 : B'.map (fun q => q.1) = al) {nB : Nat} (hnB : B.length = nB) (hcov : (List.range nB).all (fun k => decide (k ∈ isC) || decide (k ∈ isR)) = true) (hdis : isR.all (fun k => decide (k ∉ isC)) = true) (hst : (st.map fun v => v.category).sum ≤ 8) (hcs : cells ≤ R.cells) (hss : slots ≤ R.slots) (hsk : sk = As.reverse ++ .ref b :: st) (d : decode cc pc = .ok (.invokevirtual idx, 3)) (hws : B ++ tl = ws) (hws2 : B' ++ tl = ws') (kk : WX p l e R s m args below meth c cc own Ts D tys A nL cells slots Q ws' (pc + 3) lv st) : WX p l e R s m args below meth c cc own Ts D tys A nL cells slots Q ws pc lv sk := by
  subst hws; subst hws2
  have hRr := hR1.trans hR2.symm
  have h3 := h32.trans h31.symm
  intro C H locs ls hP hD hS hl
  obtain ⟨hx, hb, hml, hown, hts, hK, hlk, hA, hZ⟩ := id C
  have hC2 : isC.map (fun i => (B ++ tl)[i]?) = wc.map some := by
    rw [← hC]
    refine List.map_congr_left (fun i hi => ?_)
    obtain ⟨j, hj⟩ := List.getElem?_of_mem hi
    have h9 : (isC.map (fun i => B[i]?))[j]? = some (B[i]?) := by rw [List.getElem?_map, hj]; rfl
    rw [hC, List.getElem?_map] at h9
    cases hw9 : wc[j]? with
    | none => rw [hw9] at h9; cases h9
    | some x =>
      rw [hw9] at h9
      have h8 : B[i]? = some x := (Option.some.inj h9).symm
      exact List.getElem?_append_left (List.getElem?_eq_some_iff.mp h8).1
  have hPc := hP.sub (ws' := wc) isC (by
    have h9 := congrArg (fun (z : List (Option (Nat × va_E))) => z.filterMap id) hC2
    simpa [List.filterMap_map, Function.comp_def] using h9)
  have hDc := hD.sub isC hnd hC2
  have hFc := va_free (wc := wc) hD hS hA isC hC2
  have hpre : ∀ U : State, U.heap = H → s.WarmedH U.vm → ii_Pre D tys (.ref b :: As) wc H.size (.ref b :: As).toArray U := fun U hU hW => ⟨rfl, by rw [hU], by rw [hU]; exact hPc, va_K.moved hW.alike hK, hDc.weaken (fun _ _ _ _ => trivial), by rw [hU]; exact hZ.go hW.alike hFc (fun a h1 h2 => hS.2.1 a h1 h2)⟩
  refine va_callv (va_runV (As := As) (rest := st) ⟨hx, hb, hml, hown, hts⟩ (hc H.size) (cwV n hts hG hw hrc hrs hd hR) ⟨ii_blind, va_recv hK hP hcl (by rw [List.getElem?_append_left (List.getElem?_eq_some_iff.mp he).1]; exact he), hpre⟩ rfl hn hl.1 hsk (lv_room hst) d ⟨hcs, hss⟩) hS (fun q _ h => hFc q h) hFc (fun u t H1 locs1 ht hvm hw hB hz1 hk1 hS1 => ?_)
  have hP1 : va_P D vwCl wc' H1 := by rw [← ht]; exact hB
  have hlen : B'.length = B.length := by
    have a := congrArg List.length h3
    simpa using a
  have hP2 := ii_covP hP hD isC isR hC hC' hRr hlen (hnB ▸ hcov) hdis hk1 hP1
  exact kk C H1 locs1 ls hP2 (ii_D hD (by rw [List.map_append, List.map_append, h3])) hS1 hl
theorem ii_callHi {y : MethodName} {wy wy' : List Cond} {bytes : ByteArray} {maxL n idx : Nat} {ret : Option FieldType} {rm : Room} {b ci N : Nat} {C : String} {T : u_T} {fs : List Value} {As sk : List Value} {wc wc' : va_W} {r0 : Int32} (hc : CTi l y wy rm D tys (.ref b :: As) wc r0 wc') (hG : GoodIn Ts (wsV own idx C y wy)) (hw : wy = Cond.code y bytes maxL ret :: wy') (hrc : rm.cells = 0) (hrs : rm.slots = 0) (hd : y.cls = C ∧ y.cls ≠ "java/lang/invoke/MethodHandle" ∧ y.cls ≠ "java/lang/invoke/VarHandle" ∧ (parseMethodDescriptor y.desc).map (fun d => d.parameters.length) = some n) (hR : rm.frames + 1 ≤ R.frames ∧ 8 + (maxL + 11) + rm.locals ≤ R.locals) (hn : As.length = n) (q0 : Nat) (he : ws[q0]? = some (b, .inr (ci, fs))) (hcl : vwCl[ci]? = some (C, T, N))
    (isC isR : List Nat) (hC : isC.map (fun i => ws[i]?) = wc.map some) (hC' : isC.map (fun i => ws'[i]?) = wc'.map some) (hnd : va_nd isC = true) {wr : va_W} {al : List Nat} (hR1 : isR.map (fun i => ws[i]?) = wr.map some) (hR2 : isR.map (fun i => ws'[i]?) = wr.map some) (h31 : ws.map (fun q => q.1) = al) (h32 : ws'.map (fun q => q.1) = al) {nB : Nat} (hnB : ws.length = nB) (hcov : (List.range nB).all (fun k => decide (k ∈ isC) || decide (k ∈ isR)) = true) (hdis : isR.all (fun k => decide (k ∉ isC)) = true) (hst : (st.map fun v => v.category).sum ≤ 8) (hcs : cells ≤ R.cells) (hss : slots ≤ R.slots) (hsk : sk = As.reverse ++ .ref b :: st) (d : decode cc pc = .ok (.invokevirtual idx, 3)) (kk : WX p l e R s m args below meth c cc own Ts D tys A nL cells slots Q ws' (pc + 3) lv (.int r0 :: st)) : WX p l e R s m args below meth c cc own Ts D tys A nL cells slots Q ws pc lv sk := ii_callGi (B := ws) (B' := ws') (tl := []) hc hG hw hrc hrs hd hR hn q0 he hcl isC isR hC hC' hnd hR1 hR2 h31 h32 hnB hcov hdis hst hcs hss hsk d (List.append_nil ws) (List.append_nil ws') kk
theorem ii_callHl {y : MethodName} {wy wy' : List Cond} {bytes : ByteArray} {maxL n idx : Nat} {ret : Option FieldType} {rm : Room} {b ci N : Nat} {C : String} {T : u_T} {fs : List Value} {As sk : List Value} {wc wc' : va_W} {r0 : Int64} (hc : CTl l y wy rm D tys (.ref b :: As) wc r0 wc') (hG : GoodIn Ts (wsV own idx C y wy)) (hw : wy = Cond.code y bytes maxL ret :: wy') (hrc : rm.cells = 0) (hrs : rm.slots = 0) (hd : y.cls = C ∧ y.cls ≠ "java/lang/invoke/MethodHandle" ∧ y.cls ≠ "java/lang/invoke/VarHandle" ∧ (parseMethodDescriptor y.desc).map (fun d => d.parameters.length) = some n) (hR : rm.frames + 1 ≤ R.frames ∧ 8 + (maxL + 11) + rm.locals ≤ R.locals) (hn : As.length = n) (q0 : Nat) (he : ws[q0]? = some (b, .inr (ci, fs))) (hcl : vwCl[ci]? = some (C, T, N))
    (isC isR : List Nat) (hC : isC.map (fun i => ws[i]?) = wc.map some) (hC' : isC.map (fun i => ws'[i]?) = wc'.map some) (hnd : va_nd isC = true) {wr : va_W} {al : List Nat} (hR1 : isR.map (fun i => ws[i]?) = wr.map some) (hR2 : isR.map (fun i => ws'[i]?) = wr.map some) (h31 : ws.map (fun q => q.1) = al) (h32 : ws'.map (fun q => q.1) = al) {nB : Nat} (hnB : ws.length = nB) (hcov : (List.range nB).all (fun k => decide (k ∈ isC) || decide (k ∈ isR)) = true) (hdis : isR.all (fun k => decide (k ∉ isC)) = true) (hst : (st.map fun v => v.category).sum ≤ 8) (hcs : cells ≤ R.cells) (hss : slots ≤ R.slots) (hsk : sk = As.reverse ++ .ref b :: st) (d : decode cc pc = .ok (.invokevirtual idx, 3)) (kk : WX p l e R s m args below meth c cc own Ts D tys A nL cells slots Q ws' (pc + 3) lv (.long r0 :: st)) : WX p l e R s m args below meth c cc own Ts D tys A nL cells slots Q ws pc lv sk := ii_callGl (B := ws) (B' := ws') (tl := []) hc hG hw hrc hrs hd hR hn q0 he hcl isC isR hC hC' hnd hR1 hR2 h31 h32 hnB hcov hdis hst hcs hss hsk d (List.append_nil ws) (List.append_nil ws') kk
theorem ii_callHv {y : MethodName} {wy wy' : List Cond} {bytes : ByteArray} {maxL n idx : Nat} {ret : Option FieldType} {rm : Room} {b ci N : Nat} {C : String} {T : u_T} {fs : List Value} {As sk : List Value} {wc wc' : va_W} (hc : CTv l y wy rm D tys (.ref b :: As) wc  wc') (hG : GoodIn Ts (wsV own idx C y wy)) (hw : wy = Cond.code y bytes maxL ret :: wy') (hrc : rm.cells = 0) (hrs : rm.slots = 0) (hd : y.cls = C ∧ y.cls ≠ "java/lang/invoke/MethodHandle" ∧ y.cls ≠ "java/lang/invoke/VarHandle" ∧ (parseMethodDescriptor y.desc).map (fun d => d.parameters.length) = some n) (hR : rm.frames + 1 ≤ R.frames ∧ 8 + (maxL + 11) + rm.locals ≤ R.locals) (hn : As.length = n) (q0 : Nat) (he : ws[q0]? = some (b, .inr (ci, fs))) (hcl : vwCl[ci]? = some (C, T, N))
    (isC isR : List Nat) (hC : isC.map (fun i => ws[i]?) = wc.map some) (hC' : isC.map (fun i => ws'[i]?) = wc'.map some) (hnd : va_nd isC = true) {wr : va_W} {al : List Nat} (hR1 : isR.map (fun i => ws[i]?) = wr.map some) (hR2 : isR.map (fun i => ws'[i]?) = wr.map some) (h31 : ws.map (fun q => q.1) = al) (h32 : ws'.map (fun q => q.1) = al) {nB : Nat} (hnB : ws.length = nB) (hcov : (List.range nB).all (fun k => decide (k ∈ isC) || decide (k ∈ isR)) = true) (hdis : isR.all (fun k => decide (k ∉ isC)) = true) (hst : (st.map fun v => v.category).sum ≤ 8) (hcs : cells ≤ R.cells) (hss : slots ≤ R.slots) (hsk : sk = As.reverse ++ .ref b :: st) (d : decode cc pc = .ok (.invokevirtual idx, 3)) (kk : WX p l e R s m args below meth c cc own Ts D tys A nL cells slots Q ws' (pc + 3) lv st) : WX p l e R s m args below meth c cc own Ts D tys A nL cells slots Q ws pc lv sk := ii_callGv (B := ws) (B' := ws') (tl := []) hc hG hw hrc hrs hd hR hn q0 he hcl isC isR hC hC' hnd hR1 hR2 h31 h32 hnB hcov hdis hst hcs hss hsk d (List.append_nil ws) (List.append_nil ws') kk
end II
