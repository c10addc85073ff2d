/-! THE LAW: images -/
def cat {α : Type} (f g : Nat → α) : Nat → α := fun k => if k < 79 then f k else g (k - 79)
theorem wz_cat {ad hd : Nat → Nat} {Z Y : Nat → va_E} {T : va_W} : WZ 79 ad Z ++ (WZ 27 hd Y ++ T) = WZ 106 (cat ad hd) (cat Z Y) ++ T := by
  have h : WZ 79 ad Z ++ WZ 27 hd Y = WZ 106 (cat ad hd) (cat Z Y) := by
    refine List.ext_getElem? (fun k => ?_)
    by_cases h : k < 79
    · rw [List.getElem?_append_left (by rw [wz_len]; exact h), wz_k h, wz_k (by omega)]
      unfold cat
      rw [if_pos h, if_pos h]
    · rw [List.getElem?_append_right (by rw [wz_len]; omega), wz_len]
      by_cases h2 : k < 106
      · rw [wz_k (by omega), wz_k h2]
        unfold cat
        rw [if_neg h, if_neg h]
      · rw [List.getElem?_eq_none (by rw [wz_len]; omega), List.getElem?_eq_none (by rw [wz_len]; omega)]
  rw [← List.append_assoc, h]
theorem cat_out {Z Y Y' : Nat → va_E} {is : List Nat} (h : (List.range 27).all (fun j => decide (79 + j ∈ is)) = true) (hY : ∀ j, 27 ≤ j → Y' j = Y j) : ∀ k, k ∉ is → cat Z Y' k = cat Z Y k := by
  intro k hk
  unfold cat
  by_cases h1 : k < 79
  · rw [if_pos h1, if_pos h1]
  · rw [if_neg h1, if_neg h1]
    by_cases h2 : k - 79 < 27
    · refine absurd (of_decide_eq_true (List.all_eq_true.mp h (k - 79) (List.mem_range.mpr h2))) ?_
      rw [show 79 + (k - 79) = k by omega]
      exact hk
    · exact hY _ (by omega)
theorem cat_in {Z Z' Y : Nat → va_E} {is : List Nat} (h : ∀ k, k ∉ is → Z' k = Z k) : ∀ k, k ∉ is → cat Z' Y k = cat Z Y k := by
  intro k hk
  unfold cat
  by_cases h1 : k < 79
  · rw [if_pos h1, if_pos h1]; exact h k hk
  · rw [if_neg h1, if_neg h1]
theorem HZ_out {cI : ClassId} {hd : Nat → Nat} {tc tc2 : Nat → Nat → Int32} {tr tr2 : Nat → Int32} {a b a2 b2 : Int32} : ∀ j, 27 ≤ j → HZ cI hd tc tr a b j = HZ cI hd tc2 tr2 a2 b2 j := by
  intro j hj
  unfold HZ
  rw [List.getElem?_eq_none (Nat.le_trans (Nat.le_of_eq rfl) hj), List.getElem?_eq_none (Nat.le_trans (Nat.le_of_eq rfl) hj)]
theorem zc_app {n1 n2 : List Nat} {a1 a2 : Nat → Nat} {Z1 Z2 : Nat → va_E} {w1 w2 : va_W} (h1 : n1.map (fun k => (a1 k, Z1 k)) = w1) (h2 : n2.map (fun k => (a2 k, Z2 k)) = w2) : n1.map (fun k => (a1 k, Z1 k)) ++ n2.map (fun k => (a2 k, Z2 k)) = w1 ++ w2 := by
  rw [h1, h2]
theorem D_iff {A : Nat → Prop} {ws : va_W} : va_D A ws ↔ (ws.map (fun q => q.1)).Nodup ∧ ∀ q ∈ ws, A q.1 := by
  constructor
  · intro h
    refine ⟨List.pairwise_map.mpr (List.pairwise_iff_getElem.mpr (fun i j hi hj hij e => ?_)), fun q hq => ?_⟩
    · have h3 := h.1 i j _ _ (List.getElem?_eq_getElem hi) (List.getElem?_eq_getElem hj) e
      omega
    · obtain ⟨k, hk⟩ := List.getElem?_of_mem hq
      exact h.2 k q hk
  · intro h
    have h3 := List.pairwise_iff_getElem.mp (List.pairwise_map.mp h.1)
    refine ⟨fun i j p q hi hj e => ?_, fun k q hk => h.2 q (List.mem_of_getElem? hk)⟩
    obtain ⟨hi1, hi2⟩ := List.getElem?_eq_some_iff.mp hi
    obtain ⟨hj1, hj2⟩ := List.getElem?_eq_some_iff.mp hj
    subst hi2
    subst hj2
    rcases Nat.lt_trichotomy i j with a | a | a
    · exact absurd e (h3 i j _ _ a)
    · exact a
    · exact absurd e.symm (h3 j i _ _ a)
theorem D_perm {A : Nat → Prop} {ws ws' : va_W} (hp : ws'.Perm ws) (h : va_D A ws) : va_D A ws' := by
  rw [D_iff] at h ⊢
  exact ⟨(hp.map (fun q => q.1)).nodup_iff.mpr h.1, fun q hq => h.2 q (hp.mem_iff.mp hq)⟩
theorem P_mem {D : va_G} {cl : List vw_C} {ws ws' : va_W} {H : Heap} (h : ∀ q ∈ ws', q ∈ ws) (hP : va_P D cl ws H) : va_P D cl ws' H := fun k q hk => by
  obtain ⟨j, hj⟩ := List.getElem?_of_mem (h q (List.mem_of_getElem? hk))
  exact hP j q hj
section II
variable {p : Program} {l : Launch} {e : Env} {R : Room} {s : State} {m : MethodId} {args : Array Value} {below : List Frame} {meth : Method} {c : Code} {cc : ByteArray} {own : String} {Ts : List Cond} {D : va_G} {tys : List (ClassId × FieldType)} {A : Nat → Prop} {nL cells slots : Nat} {Q : State → Prop} {ws ws' : va_W} {pc : Nat} {lv lv' : List (Nat × Value)} {st : List Value}
theorem ii_perm (hp : ws'.Perm ws) (k : WX p l e R s m args below meth c cc own Ts D tys A nL cells slots Q ws' pc lv st) : WX p l e R s m args below meth c cc own Ts D tys A nL cells slots Q ws pc lv st := fun C H locs ls hP hD hS hl => k C H locs ls (P_mem (fun q hq => hp.mem_iff.mp hq) hP) (D_perm hp hD) hS hl
theorem ii_callZn {y : MethodName} {wy wy' : List Cond} {bytes : ByteArray} {maxL n idx nW nN : Nat} {ret : Option FieldType} {rm : Room} {b ci N : Nat} {C : String} {T : u_T} {fs : List Value} {As sk : List Value} {ad : Nat → Nat} {Z : Nat → va_E} (Z' Y : (Nat → Nat) → Nat → va_E) {tl wc : va_W} {wf : (Nat → Nat) → va_W} {r0 : Int32} (hcn : CTn l y wy rm D tys (.ref b :: As) wc r0 wf) (hG : GoodIn Ts (wsV own idx C y wy)) (hw : wy = Cond.code y bytes maxL ret :: wy') (hd : y.cls = C ∧ y.cls ≠ "java/lang/invoke/MethodHandle" ∧ y.cls ≠ "java/lang/invoke/VarHandle" ∧ (parseMethodDescriptor y.desc).map (fun d => d.parameters.length) = some n) (hR : rm.frames + 1 ≤ R.frames ∧ 8 + (maxL + 11) + rm.locals ≤ R.locals) (hn : As.length = n) (q0 : Nat) (hq0 : q0 < nW) (hb0 : ad q0 = b) (he : Z q0 = .inr (ci, fs)) (hcl : vwCl[ci]? = some (C, T, N))
    (isC isN : List Nat) (hC : isC.map (fun k => (ad k, Z k)) = wc) (hN : ∀ u, isC.map (fun k => (ad k, Z' u k)) ++ isN.map (fun k => (u k, Y u k)) = wf u) (hZ : ∀ u k, k ∉ isC → Z' u k = Z k) (hnd : va_nd isC = true) (hlt : isC.all (fun k => decide (k < nW)) = true) (hin : ∀ k, k < nN → k ∈ isN) (hst : (st.map fun v => v.category).sum ≤ 8) (hcs : cells + rm.cells ≤ R.cells) (hss : slots + rm.slots ≤ R.slots) (hsk : sk = As.reverse ++ .ref b :: st) (d : decode cc pc = .ok (.invokevirtual idx, 3)) (kk : ∀ u, WX p l e R s m args below meth c cc own Ts D tys A nL (cells + rm.cells) (slots + rm.slots) Q (WZ nW ad (Z' u) ++ (WZ nN u (Y u) ++ tl)) (pc + 3) lv (.int r0 :: st)) : WX p l e R s m args below meth c cc own Ts D tys A nL cells slots Q (WZ nW ad Z ++ tl) pc lv sk := by
  intro C H locs ls hP hD hS hl
  obtain ⟨hx, hb, hml, hown, hts, hK, hlk, hA, hZ0⟩ := id C
  have hlt' := wz_lt hlt
  have hC2 := wz_Ct (tl := tl) hlt' hC
  have hPc := hP.sub (ws' := wc) isC (by
    have h9 := congrArg (fun (z : List (Option (Nat × va_E))) => z.filterMap id) hC2
    simpa [List.filterMap_map, Function.comp_def] using h9)
  have hDc := hD.sub isC hnd hC2
  have hFc := va_free (wc := wc) hD hS hA isC hC2
  have hpre : ∀ U : State, U.heap = H → s.WarmedH U.vm → ii_Pre D tys (.ref b :: As) wc H.size (.ref b :: As).toArray U := fun U hU hW => ⟨rfl, by rw [hU], by rw [hU]; exact hPc, va_K.moved hW.alike hK, hDc.weaken (fun _ _ _ _ => trivial), by rw [hU]; exact hZ0.go hW.alike hFc (fun a h1 h2 => hS.2.1 a h1 h2)⟩
  refine va_calli (va_runV (As := As) (rest := st) ⟨hx, hb, hml, hown, hts⟩ (hcn H.size) (cwV n hts hG hw rfl rfl hd hR) ⟨ii_blind, va_recv hK hP hcl (by rw [List.getElem?_append_left (by rw [wz_len]; exact hq0), wz_k hq0, hb0, he]), hpre⟩ rfl hn hl.1 hsk (lv_room hst) d ⟨hcs, hss⟩) hS (fun q _ h => hFc q h) hFc (fun x u t H1 locs1 ht hvm hw hB hz1 hk1 hS1 => ?_)
  subst hw
  obtain ⟨hP1, hD1⟩ := hB
  rw [ht] at hP1
  rw [← hN u] at hP1 hD1
  have hPa : va_P D vwCl (isC.map (fun k => (ad k, Z' u k))) H1 := P_mem (fun q hq => List.mem_append_left _ hq) hP1
  have hP2 : va_P D vwCl (WZ nW ad (Z' u) ++ tl) H1 := ii_covP hP hD isC (wzr nW isC) (wz_C hlt' hC) (wz_C hlt' rfl) ((wz_C wz_r rfl).trans (wz_C wz_r (wz_Z (hZ u))).symm) (by rw [wz_len, wz_len]) (by rw [wz_len]; exact wz_cov) wz_dis hk1 hPa
  have hadr : (WZ nW ad (Z' u) ++ tl).map (fun q => q.1) = (WZ nW ad Z ++ tl).map (fun q => q.1) := by rw [List.map_append, List.map_append, wz_al, wz_al]
  have hD2 : va_D A (WZ nW ad (Z' u) ++ tl) := ii_D hD hadr
  have pos : ∀ k, k < nN → ∃ j, (isC.map (fun k => (ad k, Z' u k)) ++ isN.map (fun k => (u k, Y u k)))[isC.length + j]? = some (u k, Y u k) ∧ isN[j]? = some k := by
    intro k hk
    obtain ⟨j, hj⟩ := List.getElem?_of_mem (hin k hk)
    refine ⟨j, ?_, hj⟩
    rw [List.getElem?_append_right (by rw [List.length_map]; omega), List.length_map, Nat.add_sub_cancel_left, List.getElem?_map, hj]
    rfl
  have inN : ∀ {k : Nat} {q : Nat × va_E}, (WZ nN u (Y u))[k]? = some q → k < nN ∧ q = (u k, Y u k) := by
    intro k q hk
    have hk' : k < nN := by
      have h9 := (List.getElem?_eq_some_iff.mp hk).1
      rw [wz_len] at h9
      exact h9
    rw [wz_k hk'] at hk
    exact ⟨hk', (Option.some.inj hk).symm⟩
  have hP3 : va_P D vwCl (WZ nN u (Y u)) H1 := by
    intro k q hk
    obtain ⟨hk', rfl⟩ := inN hk
    obtain ⟨j, h1, -⟩ := pos k hk'
    exact hP1 _ _ h1
  have hD3 : va_D A (WZ nN u (Y u)) := by
    refine ⟨fun i j x y hi hj hxy => ?_, fun k q hk => ?_⟩
    · obtain ⟨hi', rfl⟩ := inN hi
      obtain ⟨hj', rfl⟩ := inN hj
      obtain ⟨a1, g1, g2⟩ := pos i hi'
      obtain ⟨a2, g3, g4⟩ := pos j hj'
      have h9 := hD1.1 _ _ _ _ g1 g3 hxy
      have h8 : a1 = a2 := by omega
      subst h8
      rw [g2] at g4
      exact Option.some.inj g4
    · obtain ⟨hk', rfl⟩ := inN hk
      obtain ⟨a1, g1, -⟩ := pos k hk'
      exact hFc _ (hD1.2 _ _ g1)
  have hap : ∀ (i j : Nat) (x y : Nat × va_E), (WZ nW ad (Z' u) ++ tl)[i]? = some x → (WZ nN u (Y u))[j]? = some y → x.1 ≠ y.1 := by
    intro i j x y hi hj hxy
    obtain ⟨hj', rfl⟩ := inN hj
    obtain ⟨a1, g1, -⟩ := pos j hj'
    have hm : ((WZ nW ad Z ++ tl).map (fun q => q.1))[i]? = some x.1 := by rw [← hadr, List.getElem?_map, hi]; rfl
    rw [List.getElem?_map] at hm
    have hold : x.1 < H.size := by
      cases hz : (WZ nW ad Z ++ tl)[i]? with
      | none => rw [hz] at hm; cases hm
      | some x0 =>
        rw [hz] at hm
        have h8 : x0.1 = x.1 := Option.some.inj hm
        rw [← h8]
        exact (hP i x0 hz).lt
    rcases hD1.2 _ _ g1 with ⟨k2, e2, h2⟩ | h2
    · rw [← hC, List.getElem?_map] at h2
      cases hci : isC[k2]? with
      | none => rw [hci] at h2; cases h2
      | some c0 =>
        rw [hci] at h2
        have h5 : ad c0 = u j := congrArg Prod.fst (Option.some.inj h2)
        have h7 := (List.getElem?_eq_some_iff.mp hci).1
        have h6 : (isC.map (fun k => (ad k, Z' u k)) ++ isN.map (fun k => (u k, Y u k)))[k2]? = some (ad c0, Z' u c0) := by
          rw [List.getElem?_append_left (by rw [List.length_map]; exact h7), List.getElem?_map, hci]
          rfl
        have h8 := hD1.1 _ _ _ _ h6 g1 h5
        omega
    · have h8 : H.size ≤ u j := h2
      have h9 : x.1 = u j := hxy
      omega
  have pm : (WZ nW ad (Z' u) ++ (WZ nN u (Y u) ++ tl)).Perm ((WZ nW ad (Z' u) ++ tl) ++ WZ nN u (Y u)) := by
    rw [List.append_assoc]
    exact List.perm_append_comm.append_left _
  exact kk u C H1 locs1 ls (P_mem (fun q hq => pm.mem_iff.mp hq) (hP2.app hP3)) (D_perm pm (hD2.app hD3 hap)) hS1 hl
theorem ii_img {cI : ClassId} {ad : Nat → Nat} {Z : Nat → va_E} {tl : va_W} {imgs : Nat → Option Nat} {im kp : Nat → Int32} {z : Nat} (hz : z < 2) (him : IMG cI tl imgs im kp) (k : ∀ o : Nat → HO, (∀ k, k < 2 → IMp k (o k) imgs im kp) → WX p l e R s m args below meth c cc own Ts D tys A nL cells slots Q (WZ 79 ad Z ++ (HBo cI (o z) ++ HBo cI (o (1 - z)))) pc lv st) : WX p l e R s m args below meth c cc own Ts D tys A nL cells slots Q (WZ 79 ad Z ++ tl) pc lv st := by
  obtain ⟨o, q, hq, rfl, h⟩ := him
  by_cases hqz : q = z
  · subst hqz
    exact k o h
  · have h1 : 1 - q = z := by omega
    have h2 : q = 1 - z := by omega
    have h3 := k o h
    rw [h1, h2]
    exact ii_perm (List.perm_append_comm.append_left _) h3
end II
theorem IMG_new {cI : ClassId} {o : Nat → HO} {z : Nat} {hd : Nat → Nat} {tc : Nat → Nat → Int32} {tr : Nat → Int32} {nar nam : Int32} {st : Nat → Int32} {imgs imgs' : Nat → Option Nat} {im im' kp kp' : Nat → Int32} {tl : va_W} (hz : z < 2) (ho : ∀ k, k < 2 → IMp k (o k) imgs im kp) (hR : Rel actK tc tr nar nam st) (g0 : imgs' z = some (hd 0)) (g00 : ∀ k, k ≠ z → imgs' k = imgs k) (g1 : ∀ k, k < 1951 → im' (1951 * z + k) = st k) (g2 : ∀ j, ¬ (1951 * z ≤ j ∧ j < 1951 * z + 1951) → im' j = im j) (g3 : kp' = upd kp z 1) (hT : tl = WZ 27 hd (HZ cI hd tc tr nar nam) ++ HBo cI (o (1 - z))) : IMG cI tl imgs' im' kp' := by
  refine ⟨fun k => if k = z then some (hd, tc, tr, nar, nam) else o k, z, hz, ?_, fun k hk => ?_⟩
  · show tl = HBo cI (if z = z then some (hd, tc, tr, nar, nam) else o z) ++ HBo cI (if 1 - z = z then some (hd, tc, tr, nar, nam) else o (1 - z))
    rw [if_pos rfl, if_neg (by omega)]
    exact hT
  · show IMp k (if k = z then some (hd, tc, tr, nar, nam) else o k) imgs' im' kp'
    by_cases hkz : k = z
    · subst hkz
      rw [if_pos rfl]
      refine ⟨g0, by rw [g3]; exact if_pos rfl, Rel_st hR g1⟩
    · rw [if_neg hkz]
      have h1 := ho k hk
      have hkp : kp' k = kp k := by rw [g3]; exact if_neg hkz
      cases hk2 : o k with
      | none =>
        rw [hk2] at h1
        exact ⟨(g00 k hkz).trans h1.1, hkp.trans h1.2⟩
      | some a =>
        obtain ⟨hd1, tc1, tr1, a1, b1⟩ := a
        rw [hk2] at h1
        refine ⟨(g00 k hkz).trans h1.1, hkp.trans h1.2.1, Rel_st h1.2.2 (fun j hj => g2 _ ?_)⟩
        rcases Nat.lt_or_ge k z with q | q
        · have h5 : k = 0 := by omega
          have h6 : z = 1 := by omega
          subst h5; subst h6
          omega
        · have h5 : z = 0 := by omega
          have h6 : k = 1 := by omega
          subst h5; subst h6
          omega
theorem fr_one {imgs : Nat → Option Nat} {z : Nat} (hz : z < 2) (h : imgs z = none) : 1 ≤ fr imgs 0 + fr imgs 1 := by
  have h1 : fr imgs z = 1 := by unfold fr; rw [h]
  rcases (show z = 0 ∨ z = 1 by omega) with rfl | rfl
  · omega
  · omega
theorem fr_new {imgs imgs' : Nat → Option Nat} {z a : Nat} (hz : z < 2) (h : imgs z = none) (h' : imgs' z = some a) (g : ∀ k, k ≠ z → imgs' k = imgs k) : fr imgs 0 + fr imgs 1 = fr imgs' 0 + fr imgs' 1 + 1 := by
  have h1 : fr imgs z = 1 := by unfold fr; rw [h]
  have h2 : fr imgs' z = 0 := by unfold fr; rw [h']
  have h3 : ∀ k, k ≠ z → fr imgs' k = fr imgs k := fun k hk => by unfold fr; rw [g k hk]
  rcases (show z = 0 ∨ z = 1 by omega) with rfl | rfl
  · have := h3 1 (by omega); omega
  · have := h3 0 (by omega); omega
theorem Rel_tab {AK : (Nat → Int32) → (Nat → Int32) → Prop} {tc tc' : Nat → Nat → Int32} {tr tr' : Nat → Int32} {nar nam : Int32} {st : Nat → Int32} (h : Rel AK tc tr nar nam st) (e0 : tc' 0 = tc 0) (e1 : tc' 1 = tc 1) (e2 : tc' 2 = tc 2) (e3 : tc' 3 = tc 3) (e4 : tc' 4 = tc 4) (e5 : tc' 5 = tc 5) (e6 : tc' 6 = tc 6) (e7 : tc' 7 = tc 7) (e8 : tc' 8 = tc 8) (e9 : tc' 9 = tc 9) (e10 : tc' 10 = tc 10) (e11 : tc' 11 = tc 11) (e12 : tc' 12 = tc 12)
    (f0 : tr' 0 = tr 0) (f1 : tr' 1 = tr 1) (f2 : tr' 2 = tr 2) (f3 : tr' 3 = tr 3) (f4 : tr' 4 = tr 4) (f5 : tr' 5 = tr 5) (f6 : tr' 6 = tr 6) (f7 : tr' 7 = tr 7) (f8 : tr' 8 = tr 8) (f9 : tr' 9 = tr 9) (f10 : tr' 10 = tr 10) (f11 : tr' 11 = tr 11) (f12 : tr' 12 = tr 12) : Rel AK tc' tr' nar nam st := by
  obtain ⟨n, a, b, h⟩ := h
  refine ⟨n, a, b, ?_⟩
  unfold RelN at h ⊢
  rw [e0, e1, e2, e3, e4, e5, e6, e7, e8, e9, e10, e11, e12, f0, f1, f2, f3, f4, f5, f6, f7, f8, f9, f10, f11, f12]
  exact h
theorem dL_law_1730 : decode cL_law 1730 = .ok (.aload_n 1, 1) := by decide +kernel
theorem dL_law_1731 : decode cL_law 1731 = .ok (.aload_n 0, 1) := by decide +kernel
theorem dL_law_1732 : decode cL_law 1732 = .ok (.iload_n 3, 1) := by decide +kernel
theorem dL_law_1733 : decode cL_law 1733 = .ok (.iconst 1, 1) := by decide +kernel
theorem dL_law_1734 : decode cL_law 1734 = .ok (.iadd, 1) := by decide +kernel
theorem dL_law_1735 : decode cL_law 1735 = .ok (.iaload, 1) := by decide +kernel
theorem dL_law_1736 : decode cL_law 1736 = .ok (.invokevirtual 187, 3) := by decide +kernel
theorem dL_law_1739 : decode cL_law 1739 = .ok (.aload_n 2, 1) := by decide +kernel
theorem dL_law_1740 : decode cL_law 1740 = .ok (.aload_n 0, 1) := by decide +kernel
theorem dL_law_1741 : decode cL_law 1741 = .ok (.iload_n 3, 1) := by decide +kernel
theorem dL_law_1742 : decode cL_law 1742 = .ok (.iconst 1, 1) := by decide +kernel
theorem dL_law_1743 : decode cL_law 1743 = .ok (.iadd, 1) := by decide +kernel
theorem dL_law_1744 : decode cL_law 1744 = .ok (.iaload, 1) := by decide +kernel
theorem dL_law_1745 : decode cL_law 1745 = .ok (.invokevirtual 190, 3) := by decide +kernel
theorem dL_law_1748 : decode cL_law 1748 = .ok (.if_icmp .eq 65, 3) := by decide +kernel
theorem dL_law_1751 : decode cL_law 1751 = .ok (.iconst 0, 1) := by decide +kernel
theorem dL_law_1752 : decode cL_law 1752 = .ok (.ireturn, 1) := by decide +kernel
theorem eL_X11_image : yX11_image.cls = RX11 ∧ yX11_image.cls ≠ "java/lang/invoke/MethodHandle" ∧ yX11_image.cls ≠ "java/lang/invoke/VarHandle" ∧ (parseMethodDescriptor yX11_image.desc).map (fun d => d.parameters.length) = some 1 := by decide +kernel
theorem eL_X12_image : yX12_image.cls = RX12 ∧ yX12_image.cls ≠ "java/lang/invoke/MethodHandle" ∧ yX12_image.cls ≠ "java/lang/invoke/VarHandle" ∧ (parseMethodDescriptor yX12_image.desc).map (fun d => d.parameters.length) = some 1 := by decide +kernel
set_option maxHeartbeats 4000000 in
set_option maxRecDepth 100000 in
theorem law_41 {l : Launch} {p : Program} {e : Env} {s : State} {m : MethodId} {below : List Frame} {meth : Method} {c : Code} {D : va_G} {A : Nat → Prop} {cells slots : Nat} {Q : State → Prop} {b L : Nat} {xs : Nat → Int32} {i : Int32} {cI cJ cZ cH : ClassId} {ad : Nat → Nat} {ws : va_W} (hX : va_X b L xs s s.heap) (hbl : b < s.heap.size) (hbA : ¬ A b) (hin : ∀ j : Nat, j < 8 → vp_in (i + nI j) L) (hL : LawS cI cJ cZ cH ad cells slots ws) (kk : ∀ cells slots ws, LawS cI cJ cZ cH ad cells slots ws → WX p l e room_1 s m #[.ref b] below meth c code RL lwG D [(cI, .int), (cJ, .long), (cZ, .boolean), (cH, .object "TinHouse$House")] A 4 cells slots Q ws 1813 [(3, .int i), (2, .ref (ad 57)), (1, .ref (ad 0)), (0, .ref b)] []) : WX p l e room_1 s m #[.ref b] below meth c code RL lwG D [(cI, .int), (cJ, .long), (cZ, .boolean), (cH, .object "TinHouse$House")] A 4 cells slots Q ws 1730 [(3, .int i), (2, .ref (ad 57)), (1, .ref (ad 0)), (0, .ref b)] [] := by
  obtain ⟨Z, tl, rfl, ⟨hS, h, hs1, hs2, hs3, ha1, ha2, him⟩, hb1, hb2⟩ := hL
  have hcs : cells ≤ room_1.cells := Nat.le_trans (Nat.le_add_right _ _) hb1
  have hss : slots ≤ room_1.slots := Nat.le_trans (Nat.le_add_right _ _) hb2
  refine ii_aload_n 2 dL_law_1730 rfl ?_
  refine ii_aload_n 3 dL_law_1731 rfl ?_
  refine ii_iload_n 0 dL_law_1732 rfl ?_
  refine ii_iconst dL_law_1733 kc1 ?_
  refine ii_iadd dL_law_1734 ?_
  refine ii_sld hX hbl hbA (hin 1 (by decide)) dL_law_1735 ?_
  rcases inR_dec (xs (i + 1).toNatClampNeg) 0 1 with hr | hr
  · obtain ⟨z, hz1, hz2, hz3⟩ := inR_nat (b := 1) hr
    have hz : z < 2 := by omega
    have hcl : (xs (i + 1).toNatClampNeg).toNatClampNeg = z := by rw [hz3]; exact nI_clamp hz2
    refine ii_img hz him (fun o ho => ?_)
    have hoz := ho z hz
    rcases hoe : o z with _ | ⟨hd, td, tdr, dnar, dnam⟩
    · rw [hoe] at hoz
      obtain ⟨tc', e1, g0⟩ := C_image_none h hz
      rw [← hz3] at e1
      obtain ⟨im', e2, g1, g2⟩ := M_image_t (st := (arI (Z 58))) (im := (arI (Z 59))) (kp := (arI (Z 60))) hz
      rw [← hz3] at e2
      have hb3 := fr_one hz hoz.1
      have hcs0 : cells + 27 ≤ room_1.cells := Nat.le_trans (show cells + 27 ≤ cells + 27 * (fr (arR (Z 28)) 0 + fr (arR (Z 28)) 1) by omega) hb1
      have hss0 : slots + 2817 ≤ room_1.slots := Nat.le_trans (show slots + 2817 ≤ slots + 2817 * (fr (arR (Z 28)) 0 + fr (arR (Z 28)) 1) by omega) hb2
      refine ii_callZn (nW := 79) (nN := 27) (ad := ad) (Z := Z) (fun u => setl Z [(28, .inl (cH, 2, .inr (.inr (.inr (.inr (va_up (arR (Z 28)) (xs (i + 1).toNatClampNeg).toNatClampNeg (some (u 0))))))))]) (fun u => HZ cI u tc' (trZ Z) (flI 13 (Z 1)) (flI 14 (Z 1))) (tl := (HBo cI none ++ HBo cI (o (1 - z)))) (As := [.int (xs (i + 1).toNatClampNeg)]) (st := []) (c_X11_image_none l D cI cJ cZ cH (ad 0) (ad 28) (ad 32) (ad 34) (ad 36) (ad 1) (ad 6) (ad 7) (ad 8) (ad 9) (ad 14) (ad 15) (ad 20) (ad 21) (ad 24) (ad 25) (ad 22) (ad 23) (ad 2) (ad 3) (ad 10) (ad 11) (ad 26) (ad 27) (ad 12) (ad 13) (ad 16) (ad 17) (ad 4) (ad 5) (ad 18) (ad 19) (ad 51) (ad 55) (ad 49) (ad 29) (ad 44) (ad 45) (flL 11 (Z 0)) (flL 12 (Z 0)) (arR (Z 28)) (tcZ Z 2) (trZ Z 2) (tcZ Z 3) (trZ Z 3) (tcZ Z 6) (trZ Z 6) (tcZ Z 9) (trZ Z 9) (tcZ Z 11) (trZ Z 11) (tcZ Z 10) (trZ Z 10) (tcZ Z 0) (trZ Z 0) (flI 14 (Z 1)) (flI 13 (Z 1)) (tcZ Z 4) (trZ Z 4) (tcZ Z 12) (trZ Z 12) (tcZ Z 5) (trZ Z 5) (tcZ Z 7) (trZ Z 7) (tcZ Z 1) (trZ Z 1) (tcZ Z 8) (trZ Z 8) (xs (i + 1).toNatClampNeg) (fun _ => by rw [hcl]; exact hoz.1) e1) gzL_187 rfl eL_X11_image ⟨Nat.le_of_ble_eq_true rfl, Nat.le_of_ble_eq_true rfl⟩ rfl 0 (by decide) rfl (sh_0 hS) rfl [0, 28, 1, 6, 7, 8, 9, 14, 15, 20, 21, 24, 25, 22, 23, 2, 3, 10, 11, 26, 27, 12, 13, 16, 17, 4, 5, 18, 19] [0, 5, 6, 7, 8, 13, 14, 19, 20, 23, 24, 21, 22, 1, 2, 9, 10, 25, 26, 11, 12, 15, 16, 3, 4, 17, 18] (zc_cons rfl (sh_0 hS) (zc_cons rfl (sh_28 hS) (zc_cons rfl (sh_1 hS) (zc_cons rfl (sh_6 hS) (zc_cons rfl (sh_7 hS) (zc_cons rfl (sh_8 hS) (zc_cons rfl (sh_9 hS) (zc_cons rfl (sh_14 hS) (zc_cons rfl (sh_15 hS) (zc_cons rfl (sh_20 hS) (zc_cons rfl (sh_21 hS) (zc_cons rfl (sh_24 hS) (zc_cons rfl (sh_25 hS) (zc_cons rfl (sh_22 hS) (zc_cons rfl (sh_23 hS) (zc_cons rfl (sh_2 hS) (zc_cons rfl (sh_3 hS) (zc_cons rfl (sh_10 hS) (zc_cons rfl (sh_11 hS) (zc_cons rfl (sh_26 hS) (zc_cons rfl (sh_27 hS) (zc_cons rfl (sh_12 hS) (zc_cons rfl (sh_13 hS) (zc_cons rfl (sh_16 hS) (zc_cons rfl (sh_17 hS) (zc_cons rfl (sh_4 hS) (zc_cons rfl (sh_5 hS) (zc_cons rfl (sh_18 hS) (zc_cons rfl (sh_19 hS) zc_nil))))))))))))))))))))))))))))) (fun u => zc_app (w1 := [((ad 0), .inr (11, [.ref (ad 1), .ref (ad 28), .ref (ad 29), .ref (ad 32), .ref (ad 34), .ref (ad 36), .ref (ad 44), .ref (ad 45), .ref (ad 49), .ref (ad 51), .ref (ad 55), .long (flL 11 (Z 0)), .long (flL 12 (Z 0))])), ((ad 28), .inl (cH, 2, .inr (.inr (.inr (.inr ((va_up (arR (Z 28)) (xs (i + 1).toNatClampNeg).toNatClampNeg (some (u 0))))))))), ((ad 1), .inr (0, [.ref (ad 2), .ref (ad 4), .ref (ad 6), .ref (ad 8), .ref (ad 10), .ref (ad 12), .ref (ad 14), .ref (ad 16), .ref (ad 18), .ref (ad 20), .ref (ad 22), .ref (ad 24), .ref (ad 26), .int (flI 13 (Z 1)), .int (flI 14 (Z 1))])), ((ad 6), .inr (8, [.int (104 : Int32), .int (16 : Int32), .ref (ad 7), .int (trZ Z 2)])), ((ad 7), .inl (cI, 1664, .inl (tcZ Z 2))), ((ad 8), .inr (8, [.int (7 : Int32), .int (40 : Int32), .ref (ad 9), .int (trZ Z 3)])), ((ad 9), .inl (cI, 280, .inl (tcZ Z 3))), ((ad 14), .inr (8, [.int (1 : Int32), .int (6 : Int32), .ref (ad 15), .int (trZ Z 6)])), ((ad 15), .inl (cI, 6, .inl (tcZ Z 6))), ((ad 20), .inr (8, [.int (5 : Int32), .int (30 : Int32), .ref (ad 21), .int (trZ Z 9)])), ((ad 21), .inl (cI, 150, .inl (tcZ Z 9))), ((ad 24), .inr (8, [.int (3 : Int32), .int (6 : Int32), .ref (ad 25), .int (trZ Z 11)])), ((ad 25), .inl (cI, 18, .inl (tcZ Z 11))), ((ad 22), .inr (8, [.int (3 : Int32), .int (10 : Int32), .ref (ad 23), .int (trZ Z 10)])), ((ad 23), .inl (cI, 30, .inl (tcZ Z 10))), ((ad 2), .inr (8, [.int (2 : Int32), .int (10 : Int32), .ref (ad 3), .int (trZ Z 0)])), ((ad 3), .inl (cI, 20, .inl (tcZ Z 0))), ((ad 10), .inr (8, [.int (3 : Int32), .int (60 : Int32), .ref (ad 11), .int (trZ Z 4)])), ((ad 11), .inl (cI, 180, .inl (tcZ Z 4))), ((ad 26), .inr (8, [.int (3 : Int32), .int (1 : Int32), .ref (ad 27), .int (trZ Z 12)])), ((ad 27), .inl (cI, 3, .inl (tcZ Z 12))), ((ad 12), .inr (8, [.int (13 : Int32), .int (3 : Int32), .ref (ad 13), .int (trZ Z 5)])), ((ad 13), .inl (cI, 39, .inl (tcZ Z 5))), ((ad 16), .inr (8, [.int (3 : Int32), .int (12 : Int32), .ref (ad 17), .int (trZ Z 7)])), ((ad 17), .inl (cI, 36, .inl (tcZ Z 7))), ((ad 4), .inr (8, [.int (51 : Int32), .int (4 : Int32), .ref (ad 5), .int (trZ Z 1)])), ((ad 5), .inl (cI, 204, .inl (tcZ Z 1))), ((ad 18), .inr (8, [.int (3 : Int32), .int (40 : Int32), .ref (ad 19), .int (trZ Z 8)])), ((ad 19), .inl (cI, 120, .inl (tcZ Z 8)))]) (w2 := [((u 0), .inr (0, [.ref (u 1), .ref (u 3), .ref (u 5), .ref (u 7), .ref (u 9), .ref (u 11), .ref (u 13), .ref (u 15), .ref (u 17), .ref (u 19), .ref (u 21), .ref (u 23), .ref (u 25), .int (flI 13 (Z 1)), .int (flI 14 (Z 1))])), ((u 5), .inr (8, [.int (104 : Int32), .int (16 : Int32), .ref (u 6), .int ((trZ Z) 2)])), ((u 6), .inl (cI, 1664, .inl (tc' 2))), ((u 7), .inr (8, [.int (7 : Int32), .int (40 : Int32), .ref (u 8), .int ((trZ Z) 3)])), ((u 8), .inl (cI, 280, .inl (tc' 3))), ((u 13), .inr (8, [.int (1 : Int32), .int (6 : Int32), .ref (u 14), .int ((trZ Z) 6)])), ((u 14), .inl (cI, 6, .inl (tc' 6))), ((u 19), .inr (8, [.int (5 : Int32), .int (30 : Int32), .ref (u 20), .int ((trZ Z) 9)])), ((u 20), .inl (cI, 150, .inl (tc' 9))), ((u 23), .inr (8, [.int (3 : Int32), .int (6 : Int32), .ref (u 24), .int ((trZ Z) 11)])), ((u 24), .inl (cI, 18, .inl (tc' 11))), ((u 21), .inr (8, [.int (3 : Int32), .int (10 : Int32), .ref (u 22), .int ((trZ Z) 10)])), ((u 22), .inl (cI, 30, .inl (tc' 10))), ((u 1), .inr (8, [.int (2 : Int32), .int (10 : Int32), .ref (u 2), .int ((trZ Z) 0)])), ((u 2), .inl (cI, 20, .inl (tc' 0))), ((u 9), .inr (8, [.int (3 : Int32), .int (60 : Int32), .ref (u 10), .int ((trZ Z) 4)])), ((u 10), .inl (cI, 180, .inl (tc' 4))), ((u 25), .inr (8, [.int (3 : Int32), .int (1 : Int32), .ref (u 26), .int ((trZ Z) 12)])), ((u 26), .inl (cI, 3, .inl (tc' 12))), ((u 11), .inr (8, [.int (13 : Int32), .int (3 : Int32), .ref (u 12), .int ((trZ Z) 5)])), ((u 12), .inl (cI, 39, .inl (tc' 5))), ((u 15), .inr (8, [.int (3 : Int32), .int (12 : Int32), .ref (u 16), .int ((trZ Z) 7)])), ((u 16), .inl (cI, 36, .inl (tc' 7))), ((u 3), .inr (8, [.int (51 : Int32), .int (4 : Int32), .ref (u 4), .int ((trZ Z) 1)])), ((u 4), .inl (cI, 204, .inl (tc' 1))), ((u 17), .inr (8, [.int (3 : Int32), .int (40 : Int32), .ref (u 18), .int ((trZ Z) 8)])), ((u 18), .inl (cI, 120, .inl (tc' 8)))]) (zc_cons rfl (zs (sh_0 hS) rfl) (zc_cons rfl rfl (zc_cons rfl (zs (sh_1 hS) rfl) (zc_cons rfl (zs (sh_6 hS) rfl) (zc_cons rfl (zs (sh_7 hS) rfl) (zc_cons rfl (zs (sh_8 hS) rfl) (zc_cons rfl (zs (sh_9 hS) rfl) (zc_cons rfl (zs (sh_14 hS) rfl) (zc_cons rfl (zs (sh_15 hS) rfl) (zc_cons rfl (zs (sh_20 hS) rfl) (zc_cons rfl (zs (sh_21 hS) rfl) (zc_cons rfl (zs (sh_24 hS) rfl) (zc_cons rfl (zs (sh_25 hS) rfl) (zc_cons rfl (zs (sh_22 hS) rfl) (zc_cons rfl (zs (sh_23 hS) rfl) (zc_cons rfl (zs (sh_2 hS) rfl) (zc_cons rfl (zs (sh_3 hS) rfl) (zc_cons rfl (zs (sh_10 hS) rfl) (zc_cons rfl (zs (sh_11 hS) rfl) (zc_cons rfl (zs (sh_26 hS) rfl) (zc_cons rfl (zs (sh_27 hS) rfl) (zc_cons rfl (zs (sh_12 hS) rfl) (zc_cons rfl (zs (sh_13 hS) rfl) (zc_cons rfl (zs (sh_16 hS) rfl) (zc_cons rfl (zs (sh_17 hS) rfl) (zc_cons rfl (zs (sh_4 hS) rfl) (zc_cons rfl (zs (sh_5 hS) rfl) (zc_cons rfl (zs (sh_18 hS) rfl) (zc_cons rfl (zs (sh_19 hS) rfl) zc_nil))))))))))))))))))))))))))))) (zc_cons rfl rfl (zc_cons rfl rfl (zc_cons rfl rfl (zc_cons rfl rfl (zc_cons rfl rfl (zc_cons rfl rfl (zc_cons rfl rfl (zc_cons rfl rfl (zc_cons rfl rfl (zc_cons rfl rfl (zc_cons rfl rfl (zc_cons rfl rfl (zc_cons rfl rfl (zc_cons rfl rfl (zc_cons rfl rfl (zc_cons rfl rfl (zc_cons rfl rfl (zc_cons rfl rfl (zc_cons rfl rfl (zc_cons rfl rfl (zc_cons rfl rfl (zc_cons rfl rfl (zc_cons rfl rfl (zc_cons rfl rfl (zc_cons rfl rfl (zc_cons rfl rfl (zc_cons rfl rfl zc_nil)))))))))))))))))))))))))))) (fun u => setl_out rfl) rfl rfl (by decide) (Nat.le_of_ble_eq_true rfl) hcs0 hss0 rfl dL_law_1736 (fun u => ?_)
      refine ii_aload_n 1 dL_law_1739 rfl ?_
      refine ii_aload_n 3 dL_law_1740 rfl ?_
      refine ii_iload_n 0 dL_law_1741 rfl ?_
      refine ii_iconst dL_law_1742 kc1 ?_
      refine ii_iadd dL_law_1743 ?_
      refine ii_sld hX hbl hbA (hin 1 (by decide)) dL_law_1744 ?_
      have hcs2 : cells + 27 ≤ room_1.cells := hcs0
      have hss2 : slots + 2817 ≤ room_1.slots := hss0
      refine ii_callZi (nW := 79) (ad := ad) (Z := (setl Z [(28, .inl (cH, 2, .inr (.inr (.inr (.inr (va_up (arR (Z 28)) (xs (i + 1).toNatClampNeg).toNatClampNeg (some (u 0))))))))])) (setl (setl Z [(28, .inl (cH, 2, .inr (.inr (.inr (.inr (va_up (arR (Z 28)) (xs (i + 1).toNatClampNeg).toNatClampNeg (some (u 0))))))))]) [(60, .inl (cZ, 2, .inl (upd (arI (Z 60)) z 1))), (59, .inl (cI, 3902, .inl im'))]) (tl := (WZ 27 u (HZ cI u tc' (trZ Z) (flI 13 (Z 1)) (flI 14 (Z 1))) ++ (HBo cI none ++ HBo cI (o (1 - z))))) (As := [.int (xs (i + 1).toNatClampNeg)]) (st := [.int 1]) (c_X12_image l D cI cJ cZ cH (ad 57) (ad 72) (ad 77) (ad 70) (ad 65) (ad 59) (ad 60) (ad 76) (ad 75) (ad 68) (ad 66) (ad 74) (ad 69) (ad 71) (ad 78) (ad 58) (ad 61) (ad 73) (ad 67) (ad 64) (ad 63) (ad 62) (flL 11 (Z 0)) (flL 12 (Z 0)) (arI (Z 59)) (arI (Z 60)) (arI (Z 58)) (flI 5 (Z 57)) (flI 8 (Z 57)) (xs (i + 1).toNatClampNeg) e2) gzL_190 rfl rfl rfl eL_X12_image ⟨Nat.le_of_ble_eq_true rfl, Nat.le_of_ble_eq_true rfl⟩ rfl 57 (by decide) rfl (zs (sh_57a hS ha1 ha2) rfl) rfl [57, 59, 60, 58] (zc_cons rfl (zs (sh_57a hS ha1 ha2) rfl) (zc_cons rfl (zs (sh_59 hS) rfl) (zc_cons rfl (zs (sh_60 hS) rfl) (zc_cons rfl (zs (sh_58 hS) rfl) zc_nil)))) (zc_cons rfl (zs (sh_57a hS ha1 ha2) rfl) (zc_cons rfl rfl (zc_cons rfl rfl (zc_cons rfl (zs (sh_58 hS) rfl) zc_nil)))) (setl_out rfl) rfl rfl (Nat.le_of_ble_eq_true rfl) hcs2 hss2 rfl dL_law_1745 ?_
      have k0 : (va_up (arR (Z 28)) (xs (i + 1).toNatClampNeg).toNatClampNeg (some (u 0))) z = some (u 0) := by rw [hcl]; exact vu_s
      have k1 : ∀ k, k ≠ z → (va_up (arR (Z 28)) (xs (i + 1).toNatClampNeg).toNatClampNeg (some (u 0))) k = (arR (Z 28)) k := fun k hk => by rw [hcl]; exact vu_n hk
      have k2 := fr_new hz hoz.1 k0 k1
      refine ii_icmp_eq (tgt := 1813) (r := ()) (ET := some ()) (EF := none) (if_pos rfl) dL_law_1748 (by decide) (fun _ => ?_) (fun z => absurd z (by simp))
      exact kk _ _ _ ⟨setl (setl Z [(28, .inl (cH, 2, .inr (.inr (.inr (.inr (va_up (arR (Z 28)) (xs (i + 1).toNatClampNeg).toNatClampNeg (some (u 0))))))))]) [(60, .inl (cZ, 2, .inl (upd (arI (Z 60)) z 1))), (59, .inl (cI, 3902, .inl im'))], (WZ 27 u (HZ cI u tc' (trZ Z) (flI 13 (Z 1)) (flI 14 (Z 1))) ++ (HBo cI none ++ HBo cI (o (1 - z)))), rfl, law_fin (tc' := plist jT arI (plist jT arI (tcZ Z) [(28, .inl (cH, 2, .inr (.inr (.inr (.inr (va_up (arR (Z 28)) (xs (i + 1).toNatClampNeg).toNatClampNeg (some (u 0))))))))]) [(60, .inl (cZ, 2, .inl (upd (arI (Z 60)) z 1))), (59, .inl (cI, 3902, .inl im'))]) (tr' := plist jR (flI 3) (plist jR (flI 3) (trZ Z) [(28, .inl (cH, 2, .inr (.inr (.inr (.inr (va_up (arR (Z 28)) (xs (i + 1).toNatClampNeg).toNatClampNeg (some (u 0))))))))]) [(60, .inl (cZ, 2, .inl (upd (arI (Z 60)) z 1))), (59, .inl (cI, 3902, .inl im'))]) (nar' := (flI 13 (Z 1))) (nam' := (flI 14 (Z 1))) (st' := (arI (Z 58))) hS (ok_cons ok_28 ok_nil) (ok_cons ok_60 (ok_cons ok_59 ok_nil)) rfl rfl rfl rfl rfl rfl rfl h hs1 hs2 hs3 ha1 ha2 (IMG_new hz ho g0 k0 k1 g1 g2 rfl rfl), (show cells + 27 + 27 * (fr (va_up (arR (Z 28)) (xs (i + 1).toNatClampNeg).toNatClampNeg (some (u 0))) 0 + fr (va_up (arR (Z 28)) (xs (i + 1).toNatClampNeg).toNatClampNeg (some (u 0))) 1) ≤ 600000 by omega), (show slots + 2817 + 2817 * (fr (va_up (arR (Z 28)) (xs (i + 1).toNatClampNeg).toNatClampNeg (some (u 0))) 0 + fr (va_up (arR (Z 28)) (xs (i + 1).toNatClampNeg).toNatClampNeg (some (u 0))) 1) ≤ 7302250 by omega)⟩
    · rw [hoe] at hoz
      obtain ⟨tc', e1, g0⟩ := C_image_have h td tdr dnar dnam hz
      rw [← hz3] at e1
      obtain ⟨im', e2, g1, g2⟩ := M_image_t (st := (arI (Z 58))) (im := (arI (Z 59))) (kp := (arI (Z 60))) hz
      rw [← hz3] at e2
      show WX p l e room_1 s m #[.ref b] below meth c code RL lwG D [(cI, .int), (cJ, .long), (cZ, .boolean), (cH, .object "TinHouse$House")] A 4 cells slots Q (WZ 79 ad Z ++ (WZ 27 hd (HZ cI hd td tdr dnar dnam) ++ (HBo cI (o (1 - z))))) 1736 [(3, .int i), (2, .ref (ad 57)), (1, .ref (ad 0)), (0, .ref b)] [.int (xs (i + 1).toNatClampNeg), .ref (ad 0)]
      rw [wz_cat]
      refine ii_callZi (nW := 106) (ad := (cat ad hd)) (Z := (cat Z (HZ cI hd td tdr dnar dnam))) (cat Z (HZ cI hd tc' (trZ Z) (flI 13 (Z 1)) (flI 14 (Z 1)))) (tl := (HBo cI (o (1 - z)))) (As := [.int (xs (i + 1).toNatClampNeg)]) (st := []) (c_X11_image_have l D cI cJ cZ cH (hd 0) (hd 5) (hd 6) (hd 7) (hd 8) (hd 13) (hd 14) (hd 19) (hd 20) (hd 23) (hd 24) (hd 21) (hd 22) (hd 1) (hd 2) (hd 9) (hd 10) (hd 25) (hd 26) (hd 11) (hd 12) (hd 15) (hd 16) (hd 3) (hd 4) (hd 17) (hd 18) (ad 0) (ad 28) (ad 32) (ad 34) (ad 36) (ad 1) (ad 6) (ad 7) (ad 8) (ad 9) (ad 14) (ad 15) (ad 20) (ad 21) (ad 24) (ad 25) (ad 22) (ad 23) (ad 2) (ad 3) (ad 10) (ad 11) (ad 26) (ad 27) (ad 12) (ad 13) (ad 16) (ad 17) (ad 4) (ad 5) (ad 18) (ad 19) (ad 51) (ad 55) (ad 49) (ad 29) (ad 44) (ad 45) (td 2) (tdr 2) (td 3) (tdr 3) (td 6) (tdr 6) (td 9) (tdr 9) (td 11) (tdr 11) (td 10) (tdr 10) (td 0) (tdr 0) dnam dnar (td 4) (tdr 4) (td 12) (tdr 12) (td 5) (tdr 5) (td 7) (tdr 7) (td 1) (tdr 1) (td 8) (tdr 8) (flL 11 (Z 0)) (flL 12 (Z 0)) (arR (Z 28)) (tcZ Z 2) (trZ Z 2) (tcZ Z 3) (trZ Z 3) (tcZ Z 6) (trZ Z 6) (tcZ Z 9) (trZ Z 9) (tcZ Z 11) (trZ Z 11) (tcZ Z 10) (trZ Z 10) (tcZ Z 0) (trZ Z 0) (flI 14 (Z 1)) (flI 13 (Z 1)) (tcZ Z 4) (trZ Z 4) (tcZ Z 12) (trZ Z 12) (tcZ Z 5) (trZ Z 5) (tcZ Z 7) (trZ Z 7) (tcZ Z 1) (trZ Z 1) (tcZ Z 8) (trZ Z 8) (xs (i + 1).toNatClampNeg) (fun _ => by rw [hcl]; exact hoz.1) e1) gzL_187 rfl rfl rfl eL_X11_image ⟨Nat.le_of_ble_eq_true rfl, Nat.le_of_ble_eq_true rfl⟩ rfl 0 (by decide) rfl (zs (sh_0 hS) rfl) rfl [0, 28, 1, 6, 7, 8, 9, 14, 15, 20, 21, 24, 25, 22, 23, 2, 3, 10, 11, 26, 27, 12, 13, 16, 17, 4, 5, 18, 19, 79, 84, 85, 86, 87, 92, 93, 98, 99, 102, 103, 100, 101, 80, 81, 88, 89, 104, 105, 90, 91, 94, 95, 82, 83, 96, 97] (zc_cons rfl (zs (sh_0 hS) rfl) (zc_cons rfl (zs (sh_28 hS) rfl) (zc_cons rfl (zs (sh_1 hS) rfl) (zc_cons rfl (zs (sh_6 hS) rfl) (zc_cons rfl (zs (sh_7 hS) rfl) (zc_cons rfl (zs (sh_8 hS) rfl) (zc_cons rfl (zs (sh_9 hS) rfl) (zc_cons rfl (zs (sh_14 hS) rfl) (zc_cons rfl (zs (sh_15 hS) rfl) (zc_cons rfl (zs (sh_20 hS) rfl) (zc_cons rfl (zs (sh_21 hS) rfl) (zc_cons rfl (zs (sh_24 hS) rfl) (zc_cons rfl (zs (sh_25 hS) rfl) (zc_cons rfl (zs (sh_22 hS) rfl) (zc_cons rfl (zs (sh_23 hS) rfl) (zc_cons rfl (zs (sh_2 hS) rfl) (zc_cons rfl (zs (sh_3 hS) rfl) (zc_cons rfl (zs (sh_10 hS) rfl) (zc_cons rfl (zs (sh_11 hS) rfl) (zc_cons rfl (zs (sh_26 hS) rfl) (zc_cons rfl (zs (sh_27 hS) rfl) (zc_cons rfl (zs (sh_12 hS) rfl) (zc_cons rfl (zs (sh_13 hS) rfl) (zc_cons rfl (zs (sh_16 hS) rfl) (zc_cons rfl (zs (sh_17 hS) rfl) (zc_cons rfl (zs (sh_4 hS) rfl) (zc_cons rfl (zs (sh_5 hS) rfl) (zc_cons rfl (zs (sh_18 hS) rfl) (zc_cons rfl (zs (sh_19 hS) rfl) (zc_cons rfl rfl (zc_cons rfl rfl (zc_cons rfl rfl (zc_cons rfl rfl (zc_cons rfl rfl (zc_cons rfl rfl (zc_cons rfl rfl (zc_cons rfl rfl (zc_cons rfl rfl (zc_cons rfl rfl (zc_cons rfl rfl (zc_cons rfl rfl (zc_cons rfl rfl (zc_cons rfl rfl (zc_cons rfl rfl (zc_cons rfl rfl (zc_cons rfl rfl (zc_cons rfl rfl (zc_cons rfl rfl (zc_cons rfl rfl (zc_cons rfl rfl (zc_cons rfl rfl (zc_cons rfl rfl (zc_cons rfl rfl (zc_cons rfl rfl (zc_cons rfl rfl (zc_cons rfl rfl zc_nil)))))))))))))))))))))))))))))))))))))))))))))))))))))))) (zc_cons rfl (zs (sh_0 hS) rfl) (zc_cons rfl (zs (sh_28 hS) rfl) (zc_cons rfl (zs (sh_1 hS) rfl) (zc_cons rfl (zs (sh_6 hS) rfl) (zc_cons rfl (zs (sh_7 hS) rfl) (zc_cons rfl (zs (sh_8 hS) rfl) (zc_cons rfl (zs (sh_9 hS) rfl) (zc_cons rfl (zs (sh_14 hS) rfl) (zc_cons rfl (zs (sh_15 hS) rfl) (zc_cons rfl (zs (sh_20 hS) rfl) (zc_cons rfl (zs (sh_21 hS) rfl) (zc_cons rfl (zs (sh_24 hS) rfl) (zc_cons rfl (zs (sh_25 hS) rfl) (zc_cons rfl (zs (sh_22 hS) rfl) (zc_cons rfl (zs (sh_23 hS) rfl) (zc_cons rfl (zs (sh_2 hS) rfl) (zc_cons rfl (zs (sh_3 hS) rfl) (zc_cons rfl (zs (sh_10 hS) rfl) (zc_cons rfl (zs (sh_11 hS) rfl) (zc_cons rfl (zs (sh_26 hS) rfl) (zc_cons rfl (zs (sh_27 hS) rfl) (zc_cons rfl (zs (sh_12 hS) rfl) (zc_cons rfl (zs (sh_13 hS) rfl) (zc_cons rfl (zs (sh_16 hS) rfl) (zc_cons rfl (zs (sh_17 hS) rfl) (zc_cons rfl (zs (sh_4 hS) rfl) (zc_cons rfl (zs (sh_5 hS) rfl) (zc_cons rfl (zs (sh_18 hS) rfl) (zc_cons rfl (zs (sh_19 hS) rfl) (zc_cons rfl rfl (zc_cons rfl rfl (zc_cons rfl rfl (zc_cons rfl rfl (zc_cons rfl rfl (zc_cons rfl rfl (zc_cons rfl rfl (zc_cons rfl rfl (zc_cons rfl rfl (zc_cons rfl rfl (zc_cons rfl rfl (zc_cons rfl rfl (zc_cons rfl rfl (zc_cons rfl rfl (zc_cons rfl rfl (zc_cons rfl rfl (zc_cons rfl rfl (zc_cons rfl rfl (zc_cons rfl rfl (zc_cons rfl rfl (zc_cons rfl rfl (zc_cons rfl rfl (zc_cons rfl rfl (zc_cons rfl rfl (zc_cons rfl rfl (zc_cons rfl rfl (zc_cons rfl rfl zc_nil)))))))))))))))))))))))))))))))))))))))))))))))))))))))) (cat_out rfl HZ_out) rfl rfl (Nat.le_of_ble_eq_true rfl) hcs hss rfl dL_law_1736 ?_
      rw [← wz_cat]
      refine ii_aload_n 1 dL_law_1739 rfl ?_
      refine ii_aload_n 3 dL_law_1740 rfl ?_
      refine ii_iload_n 0 dL_law_1741 rfl ?_
      refine ii_iconst dL_law_1742 kc1 ?_
      refine ii_iadd dL_law_1743 ?_
      refine ii_sld hX hbl hbA (hin 1 (by decide)) dL_law_1744 ?_
      refine ii_callZi (nW := 79) (ad := ad) (Z := (setl Z [])) (setl (setl Z []) [(60, .inl (cZ, 2, .inl (upd (arI (Z 60)) z 1))), (59, .inl (cI, 3902, .inl im'))]) (tl := (WZ 27 hd (HZ cI hd tc' (trZ Z) (flI 13 (Z 1)) (flI 14 (Z 1))) ++ (HBo cI (o (1 - z))))) (As := [.int (xs (i + 1).toNatClampNeg)]) (st := [.int 1]) (c_X12_image l D cI cJ cZ cH (ad 57) (ad 72) (ad 77) (ad 70) (ad 65) (ad 59) (ad 60) (ad 76) (ad 75) (ad 68) (ad 66) (ad 74) (ad 69) (ad 71) (ad 78) (ad 58) (ad 61) (ad 73) (ad 67) (ad 64) (ad 63) (ad 62) (flL 11 (Z 0)) (flL 12 (Z 0)) (arI (Z 59)) (arI (Z 60)) (arI (Z 58)) (flI 5 (Z 57)) (flI 8 (Z 57)) (xs (i + 1).toNatClampNeg) e2) gzL_190 rfl rfl rfl eL_X12_image ⟨Nat.le_of_ble_eq_true rfl, Nat.le_of_ble_eq_true rfl⟩ rfl 57 (by decide) rfl (zs (sh_57a hS ha1 ha2) rfl) rfl [57, 59, 60, 58] (zc_cons rfl (zs (sh_57a hS ha1 ha2) rfl) (zc_cons rfl (zs (sh_59 hS) rfl) (zc_cons rfl (zs (sh_60 hS) rfl) (zc_cons rfl (zs (sh_58 hS) rfl) zc_nil)))) (zc_cons rfl (zs (sh_57a hS ha1 ha2) rfl) (zc_cons rfl rfl (zc_cons rfl rfl (zc_cons rfl (zs (sh_58 hS) rfl) zc_nil)))) (setl_out rfl) rfl rfl (Nat.le_of_ble_eq_true rfl) hcs hss rfl dL_law_1745 ?_
      refine ii_icmp_eq (tgt := 1813) (r := ()) (ET := some ()) (EF := none) (if_pos rfl) dL_law_1748 (by decide) (fun _ => ?_) (fun z => absurd z (by simp))
      exact kk _ _ _ ⟨setl (setl Z []) [(60, .inl (cZ, 2, .inl (upd (arI (Z 60)) z 1))), (59, .inl (cI, 3902, .inl im'))], (WZ 27 hd (HZ cI hd tc' (trZ Z) (flI 13 (Z 1)) (flI 14 (Z 1))) ++ (HBo cI (o (1 - z)))), rfl, law_fin (tc' := plist jT arI (plist jT arI (tcZ Z) []) [(60, .inl (cZ, 2, .inl (upd (arI (Z 60)) z 1))), (59, .inl (cI, 3902, .inl im'))]) (tr' := plist jR (flI 3) (plist jR (flI 3) (trZ Z) []) [(60, .inl (cZ, 2, .inl (upd (arI (Z 60)) z 1))), (59, .inl (cI, 3902, .inl im'))]) (nar' := (flI 13 (Z 1))) (nam' := (flI 14 (Z 1))) (st' := (arI (Z 58))) hS ok_nil (ok_cons ok_60 (ok_cons ok_59 ok_nil)) rfl rfl rfl rfl rfl rfl rfl h hs1 hs2 hs3 ha1 ha2 (IMG_new hz ho g0 hoz.1 (fun _ _ => rfl) g1 g2 rfl rfl), hb1, hb2⟩
  · have e1 := C_image_bad hr
    have e2 := M_image_f (st := (arI (Z 58))) (im := (arI (Z 59))) (kp := (arI (Z 60))) hr
    refine ii_callZi (nW := 79) (ad := ad) (Z := Z) (setl Z []) (tl := tl) (As := [.int (xs (i + 1).toNatClampNeg)]) (st := []) (c_X11_image_bad l D cI cJ cZ cH (ad 0) (ad 28) (ad 32) (ad 34) (ad 36) (ad 1) (ad 51) (ad 55) (ad 49) (ad 29) (ad 44) (ad 45) (flL 11 (Z 0)) (flL 12 (Z 0)) (arR (Z 28)) (xs (i + 1).toNatClampNeg) e1) gzL_187 rfl rfl rfl eL_X11_image ⟨Nat.le_of_ble_eq_true rfl, Nat.le_of_ble_eq_true rfl⟩ rfl 0 (by decide) rfl (sh_0 hS) rfl [0, 28] (zc_cons rfl (sh_0 hS) (zc_cons rfl (sh_28 hS) zc_nil)) (zc_cons rfl (zs (sh_0 hS) rfl) (zc_cons rfl (zs (sh_28 hS) rfl) zc_nil)) (setl_out rfl) rfl rfl (Nat.le_of_ble_eq_true rfl) hcs hss rfl dL_law_1736 ?_
    refine ii_aload_n 1 dL_law_1739 rfl ?_
    refine ii_aload_n 3 dL_law_1740 rfl ?_
    refine ii_iload_n 0 dL_law_1741 rfl ?_
    refine ii_iconst dL_law_1742 kc1 ?_
    refine ii_iadd dL_law_1743 ?_
    refine ii_sld hX hbl hbA (hin 1 (by decide)) dL_law_1744 ?_
    refine ii_callZi (nW := 79) (ad := ad) (Z := (setl Z [])) (setl (setl Z []) [(60, .inl (cZ, 2, .inl (arI (Z 60)))), (59, .inl (cI, 3902, .inl (arI (Z 59))))]) (tl := tl) (As := [.int (xs (i + 1).toNatClampNeg)]) (st := [.int (-2)]) (c_X12_image l D cI cJ cZ cH (ad 57) (ad 72) (ad 77) (ad 70) (ad 65) (ad 59) (ad 60) (ad 76) (ad 75) (ad 68) (ad 66) (ad 74) (ad 69) (ad 71) (ad 78) (ad 58) (ad 61) (ad 73) (ad 67) (ad 64) (ad 63) (ad 62) (flL 11 (Z 0)) (flL 12 (Z 0)) (arI (Z 59)) (arI (Z 60)) (arI (Z 58)) (flI 5 (Z 57)) (flI 8 (Z 57)) (xs (i + 1).toNatClampNeg) e2) gzL_190 rfl rfl rfl eL_X12_image ⟨Nat.le_of_ble_eq_true rfl, Nat.le_of_ble_eq_true rfl⟩ rfl 57 (by decide) rfl (zs (sh_57a hS ha1 ha2) rfl) rfl [57, 59, 60, 58] (zc_cons rfl (zs (sh_57a hS ha1 ha2) rfl) (zc_cons rfl (zs (sh_59 hS) rfl) (zc_cons rfl (zs (sh_60 hS) rfl) (zc_cons rfl (zs (sh_58 hS) rfl) zc_nil)))) (zc_cons rfl (zs (sh_57a hS ha1 ha2) rfl) (zc_cons rfl rfl (zc_cons rfl rfl (zc_cons rfl (zs (sh_58 hS) rfl) zc_nil)))) (setl_out rfl) rfl rfl (Nat.le_of_ble_eq_true rfl) hcs hss rfl dL_law_1745 ?_
    refine ii_icmp_eq (tgt := 1813) (r := ()) (ET := some ()) (EF := none) (if_pos rfl) dL_law_1748 (by decide) (fun _ => ?_) (fun z => absurd z (by simp))
    exact kk _ _ _ ⟨setl (setl Z []) [(60, .inl (cZ, 2, .inl (arI (Z 60)))), (59, .inl (cI, 3902, .inl (arI (Z 59))))], tl, rfl, law_fin (tc' := plist jT arI (plist jT arI (tcZ Z) []) [(60, .inl (cZ, 2, .inl (arI (Z 60)))), (59, .inl (cI, 3902, .inl (arI (Z 59))))]) (tr' := plist jR (flI 3) (plist jR (flI 3) (trZ Z) []) [(60, .inl (cZ, 2, .inl (arI (Z 60)))), (59, .inl (cI, 3902, .inl (arI (Z 59))))]) (nar' := (flI 13 (Z 1))) (nam' := (flI 14 (Z 1))) (st' := (arI (Z 58))) hS ok_nil (ok_cons ok_60 (ok_cons ok_59 ok_nil)) rfl rfl rfl rfl rfl rfl rfl h hs1 hs2 hs3 ha1 ha2 him, hb1, hb2⟩
theorem dL_law_1753 : decode cL_law 1753 = .ok (.aload_n 1, 1) := by decide +kernel
theorem dL_law_1754 : decode cL_law 1754 = .ok (.aload_n 0, 1) := by decide +kernel
theorem dL_law_1755 : decode cL_law 1755 = .ok (.iload_n 3, 1) := by decide +kernel
theorem dL_law_1756 : decode cL_law 1756 = .ok (.iconst 1, 1) := by decide +kernel
theorem dL_law_1757 : decode cL_law 1757 = .ok (.iadd, 1) := by decide +kernel
theorem dL_law_1758 : decode cL_law 1758 = .ok (.iaload, 1) := by decide +kernel
theorem dL_law_1759 : decode cL_law 1759 = .ok (.invokevirtual 191, 3) := by decide +kernel
theorem dL_law_1762 : decode cL_law 1762 = .ok (.aload_n 2, 1) := by decide +kernel
theorem dL_law_1763 : decode cL_law 1763 = .ok (.aload_n 0, 1) := by decide +kernel
theorem dL_law_1764 : decode cL_law 1764 = .ok (.iload_n 3, 1) := by decide +kernel
theorem dL_law_1765 : decode cL_law 1765 = .ok (.iconst 1, 1) := by decide +kernel
theorem dL_law_1766 : decode cL_law 1766 = .ok (.iadd, 1) := by decide +kernel
theorem dL_law_1767 : decode cL_law 1767 = .ok (.iaload, 1) := by decide +kernel
theorem dL_law_1768 : decode cL_law 1768 = .ok (.invokevirtual 194, 3) := by decide +kernel
theorem dL_law_1771 : decode cL_law 1771 = .ok (.if_icmp .eq 42, 3) := by decide +kernel
theorem dL_law_1774 : decode cL_law 1774 = .ok (.iconst 0, 1) := by decide +kernel
theorem dL_law_1775 : decode cL_law 1775 = .ok (.ireturn, 1) := by decide +kernel
theorem eL_X11_from : yX11_from.cls = RX11 ∧ yX11_from.cls ≠ "java/lang/invoke/MethodHandle" ∧ yX11_from.cls ≠ "java/lang/invoke/VarHandle" ∧ (parseMethodDescriptor yX11_from.desc).map (fun d => d.parameters.length) = some 1 := by decide +kernel
theorem eL_X12_from : yX12_from.cls = RX12 ∧ yX12_from.cls ≠ "java/lang/invoke/MethodHandle" ∧ yX12_from.cls ≠ "java/lang/invoke/VarHandle" ∧ (parseMethodDescriptor yX12_from.desc).map (fun d => d.parameters.length) = some 1 := by decide +kernel
set_option maxHeartbeats 4000000 in
set_option maxRecDepth 100000 in
theorem law_42 {l : Launch} {p : Program} {e : Env} {s : State} {m : MethodId} {below : List Frame} {meth : Method} {c : Code} {D : va_G} {A : Nat → Prop} {cells slots : Nat} {Q : State → Prop} {b L : Nat} {xs : Nat → Int32} {i : Int32} {cI cJ cZ cH : ClassId} {ad : Nat → Nat} {ws : va_W} (hX : va_X b L xs s s.heap) (hbl : b < s.heap.size) (hbA : ¬ A b) (hin : ∀ j : Nat, j < 8 → vp_in (i + nI j) L) (hL : LawS cI cJ cZ cH ad cells slots ws) (kk : ∀ cells slots ws, LawS cI cJ cZ cH ad cells slots ws → WX p l e room_1 s m #[.ref b] below meth c code RL lwG D [(cI, .int), (cJ, .long), (cZ, .boolean), (cH, .object "TinHouse$House")] A 4 cells slots Q ws 1813 [(3, .int i), (2, .ref (ad 57)), (1, .ref (ad 0)), (0, .ref b)] []) : WX p l e room_1 s m #[.ref b] below meth c code RL lwG D [(cI, .int), (cJ, .long), (cZ, .boolean), (cH, .object "TinHouse$House")] A 4 cells slots Q ws 1753 [(3, .int i), (2, .ref (ad 57)), (1, .ref (ad 0)), (0, .ref b)] [] := by
  obtain ⟨Z, tl, rfl, ⟨hS, h, hs1, hs2, hs3, ha1, ha2, him⟩, hb1, hb2⟩ := hL
  have hcs : cells ≤ room_1.cells := Nat.le_trans (Nat.le_add_right _ _) hb1
  have hss : slots ≤ room_1.slots := Nat.le_trans (Nat.le_add_right _ _) hb2
  refine ii_aload_n 2 dL_law_1753 rfl ?_
  refine ii_aload_n 3 dL_law_1754 rfl ?_
  refine ii_iload_n 0 dL_law_1755 rfl ?_
  refine ii_iconst dL_law_1756 kc1 ?_
  refine ii_iadd dL_law_1757 ?_
  refine ii_sld hX hbl hbA (hin 1 (by decide)) dL_law_1758 ?_
  rcases inR_dec (xs (i + 1).toNatClampNeg) 0 1 with hr | hr
  · obtain ⟨z, hz1, hz2, hz3⟩ := inR_nat (b := 1) hr
    have hz : z < 2 := by omega
    have hcl : (xs (i + 1).toNatClampNeg).toNatClampNeg = z := by rw [hz3]; exact nI_clamp hz2
    refine ii_img hz him (fun o ho => ?_)
    have hoz := ho z hz
    rcases hoe : o z with _ | ⟨hd, td, tdr, dnar, dnam⟩
    · rw [hoe] at hoz
      have e1 := C_from_none (p := z) hz
      rw [← hz3] at e1
      have e2 := M_from_n (st := (arI (Z 58))) (im := (arI (Z 59))) (kp := (arI (Z 60))) hz hoz.2
      rw [← hz3] at e2
      refine ii_callZi (nW := 79) (ad := ad) (Z := Z) (setl Z []) (tl := (HBo cI none ++ HBo cI (o (1 - z)))) (As := [.int (xs (i + 1).toNatClampNeg)]) (st := []) (c_X11_from_none l D cI cJ cZ cH (ad 0) (ad 28) (ad 32) (ad 34) (ad 36) (ad 1) (ad 51) (ad 55) (ad 49) (ad 29) (ad 44) (ad 45) (flL 11 (Z 0)) (flL 12 (Z 0)) (arR (Z 28)) (xs (i + 1).toNatClampNeg) (fun _ => by rw [hcl]; exact hoz.1) e1) gzL_191 rfl rfl rfl eL_X11_from ⟨Nat.le_of_ble_eq_true rfl, Nat.le_of_ble_eq_true rfl⟩ rfl 0 (by decide) rfl (sh_0 hS) rfl [0, 28] (zc_cons rfl (sh_0 hS) (zc_cons rfl (sh_28 hS) zc_nil)) (zc_cons rfl (zs (sh_0 hS) rfl) (zc_cons rfl (zs (sh_28 hS) rfl) zc_nil)) (setl_out rfl) rfl rfl (Nat.le_of_ble_eq_true rfl) hcs hss rfl dL_law_1759 ?_
      refine ii_aload_n 1 dL_law_1762 rfl ?_
      refine ii_aload_n 3 dL_law_1763 rfl ?_
      refine ii_iload_n 0 dL_law_1764 rfl ?_
      refine ii_iconst dL_law_1765 kc1 ?_
      refine ii_iadd dL_law_1766 ?_
      refine ii_sld hX hbl hbA (hin 1 (by decide)) dL_law_1767 ?_
      refine ii_callZi (nW := 79) (ad := ad) (Z := (setl Z [])) (setl (setl Z []) [(58, .inl (cI, 1951, .inl (arI (Z 58))))]) (tl := (HBo cI none ++ HBo cI (o (1 - z)))) (As := [.int (xs (i + 1).toNatClampNeg)]) (st := [.int (-3)]) (c_X12_from l D cI cJ cZ cH (ad 57) (ad 72) (ad 77) (ad 70) (ad 65) (ad 59) (ad 60) (ad 76) (ad 75) (ad 68) (ad 66) (ad 74) (ad 69) (ad 71) (ad 78) (ad 58) (ad 61) (ad 73) (ad 67) (ad 64) (ad 63) (ad 62) (flL 11 (Z 0)) (flL 12 (Z 0)) (arI (Z 59)) (arI (Z 60)) (arI (Z 58)) (flI 5 (Z 57)) (flI 8 (Z 57)) (xs (i + 1).toNatClampNeg) e2) gzL_194 rfl rfl rfl eL_X12_from ⟨Nat.le_of_ble_eq_true rfl, Nat.le_of_ble_eq_true rfl⟩ rfl 57 (by decide) rfl (zs (sh_57a hS ha1 ha2) rfl) rfl [57, 59, 60, 58] (zc_cons rfl (zs (sh_57a hS ha1 ha2) rfl) (zc_cons rfl (zs (sh_59 hS) rfl) (zc_cons rfl (zs (sh_60 hS) rfl) (zc_cons rfl (zs (sh_58 hS) rfl) zc_nil)))) (zc_cons rfl (zs (sh_57a hS ha1 ha2) rfl) (zc_cons rfl (zs (sh_59 hS) rfl) (zc_cons rfl (zs (sh_60 hS) rfl) (zc_cons rfl rfl zc_nil)))) (setl_out rfl) rfl rfl (Nat.le_of_ble_eq_true rfl) hcs hss rfl dL_law_1768 ?_
      refine ii_icmp_eq (tgt := 1813) (r := ()) (ET := some ()) (EF := none) (if_pos rfl) dL_law_1771 (by decide) (fun _ => ?_) (fun z => absurd z (by simp))
      exact kk _ _ _ ⟨setl (setl Z []) [(58, .inl (cI, 1951, .inl (arI (Z 58))))], (HBo cI none ++ HBo cI (o (1 - z))), rfl, law_fin (tc' := plist jT arI (plist jT arI (tcZ Z) []) [(58, .inl (cI, 1951, .inl (arI (Z 58))))]) (tr' := plist jR (flI 3) (plist jR (flI 3) (trZ Z) []) [(58, .inl (cI, 1951, .inl (arI (Z 58))))]) (nar' := (flI 13 (Z 1))) (nam' := (flI 14 (Z 1))) (st' := (arI (Z 58))) hS ok_nil (ok_cons ok_58 ok_nil) rfl rfl rfl rfl rfl rfl rfl h hs1 hs2 hs3 ha1 ha2 ⟨o, z, hz, by rw [hoe], ho⟩, hb1, hb2⟩
    · rw [hoe] at hoz
      obtain ⟨tc', e1, g0⟩ := C_from_have hoz.2.2 (tcZ Z) (trZ Z) (flI 13 (Z 1)) (flI 14 (Z 1)) hz
      rw [← hz3] at e1
      obtain ⟨st', e2, g1⟩ := M_from_t (st := (arI (Z 58))) (im := (arI (Z 59))) (kp := (arI (Z 60))) hz hoz.2.1
      rw [← hz3] at e2
      show WX p l e room_1 s m #[.ref b] below meth c code RL lwG D [(cI, .int), (cJ, .long), (cZ, .boolean), (cH, .object "TinHouse$House")] A 4 cells slots Q (WZ 79 ad Z ++ (WZ 27 hd (HZ cI hd td tdr dnar dnam) ++ (HBo cI (o (1 - z))))) 1759 [(3, .int i), (2, .ref (ad 57)), (1, .ref (ad 0)), (0, .ref b)] [.int (xs (i + 1).toNatClampNeg), .ref (ad 0)]
      rw [wz_cat]
      refine ii_callZi (nW := 106) (ad := (cat ad hd)) (Z := (cat Z (HZ cI hd td tdr dnar dnam))) (cat (setl Z [(27, .inl (cI, 3, .inl (tc' 12))), (26, .inr (8, [.int (3 : Int32), .int (1 : Int32), .ref (ad 27), .int (tdr 12)])), (25, .inl (cI, 18, .inl (tc' 11))), (24, .inr (8, [.int (3 : Int32), .int (6 : Int32), .ref (ad 25), .int (tdr 11)])), (23, .inl (cI, 30, .inl (tc' 10))), (22, .inr (8, [.int (3 : Int32), .int (10 : Int32), .ref (ad 23), .int (tdr 10)])), (21, .inl (cI, 150, .inl (tc' 9))), (20, .inr (8, [.int (5 : Int32), .int (30 : Int32), .ref (ad 21), .int (tdr 9)])), (19, .inl (cI, 120, .inl (tc' 8))), (18, .inr (8, [.int (3 : Int32), .int (40 : Int32), .ref (ad 19), .int (tdr 8)])), (17, .inl (cI, 36, .inl (tc' 7))), (16, .inr (8, [.int (3 : Int32), .int (12 : Int32), .ref (ad 17), .int (tdr 7)])), (15, .inl (cI, 6, .inl (tc' 6))), (14, .inr (8, [.int (1 : Int32), .int (6 : Int32), .ref (ad 15), .int (tdr 6)])), (13, .inl (cI, 39, .inl (tc' 5))), (12, .inr (8, [.int (13 : Int32), .int (3 : Int32), .ref (ad 13), .int (tdr 5)])), (11, .inl (cI, 180, .inl (tc' 4))), (10, .inr (8, [.int (3 : Int32), .int (60 : Int32), .ref (ad 11), .int (tdr 4)])), (9, .inl (cI, 280, .inl (tc' 3))), (8, .inr (8, [.int (7 : Int32), .int (40 : Int32), .ref (ad 9), .int (tdr 3)])), (7, .inl (cI, 1664, .inl (tc' 2))), (6, .inr (8, [.int (104 : Int32), .int (16 : Int32), .ref (ad 7), .int (tdr 2)])), (5, .inl (cI, 204, .inl (tc' 1))), (4, .inr (8, [.int (51 : Int32), .int (4 : Int32), .ref (ad 5), .int (tdr 1)])), (3, .inl (cI, 20, .inl (tc' 0))), (2, .inr (8, [.int (2 : Int32), .int (10 : Int32), .ref (ad 3), .int (tdr 0)])), (1, .inr (0, [.ref (ad 2), .ref (ad 4), .ref (ad 6), .ref (ad 8), .ref (ad 10), .ref (ad 12), .ref (ad 14), .ref (ad 16), .ref (ad 18), .ref (ad 20), .ref (ad 22), .ref (ad 24), .ref (ad 26), .int dnar, .int dnam]))]) (HZ cI hd td tdr dnar dnam)) (tl := (HBo cI (o (1 - z)))) (As := [.int (xs (i + 1).toNatClampNeg)]) (st := []) (c_X11_from_have l D cI cJ cZ cH (hd 0) (hd 5) (hd 6) (hd 7) (hd 8) (hd 13) (hd 14) (hd 19) (hd 20) (hd 23) (hd 24) (hd 21) (hd 22) (hd 1) (hd 2) (hd 9) (hd 10) (hd 25) (hd 26) (hd 11) (hd 12) (hd 15) (hd 16) (hd 3) (hd 4) (hd 17) (hd 18) (ad 0) (ad 28) (ad 32) (ad 34) (ad 36) (ad 1) (ad 6) (ad 7) (ad 8) (ad 9) (ad 14) (ad 15) (ad 20) (ad 21) (ad 24) (ad 25) (ad 22) (ad 23) (ad 2) (ad 3) (ad 10) (ad 11) (ad 26) (ad 27) (ad 12) (ad 13) (ad 16) (ad 17) (ad 4) (ad 5) (ad 18) (ad 19) (ad 51) (ad 55) (ad 49) (ad 29) (ad 44) (ad 45) (td 2) (tdr 2) (td 3) (tdr 3) (td 6) (tdr 6) (td 9) (tdr 9) (td 11) (tdr 11) (td 10) (tdr 10) (td 0) (tdr 0) dnam dnar (td 4) (tdr 4) (td 12) (tdr 12) (td 5) (tdr 5) (td 7) (tdr 7) (td 1) (tdr 1) (td 8) (tdr 8) (flL 11 (Z 0)) (flL 12 (Z 0)) (arR (Z 28)) (tcZ Z 2) (trZ Z 2) (tcZ Z 3) (trZ Z 3) (tcZ Z 6) (trZ Z 6) (tcZ Z 9) (trZ Z 9) (tcZ Z 11) (trZ Z 11) (tcZ Z 10) (trZ Z 10) (tcZ Z 0) (trZ Z 0) (flI 14 (Z 1)) (flI 13 (Z 1)) (tcZ Z 4) (trZ Z 4) (tcZ Z 12) (trZ Z 12) (tcZ Z 5) (trZ Z 5) (tcZ Z 7) (trZ Z 7) (tcZ Z 1) (trZ Z 1) (tcZ Z 8) (trZ Z 8) (xs (i + 1).toNatClampNeg) (fun _ => by rw [hcl]; exact hoz.1) e1) gzL_191 rfl rfl rfl eL_X11_from ⟨Nat.le_of_ble_eq_true rfl, Nat.le_of_ble_eq_true rfl⟩ rfl 0 (by decide) rfl (zs (sh_0 hS) rfl) rfl [0, 28, 1, 6, 7, 8, 9, 14, 15, 20, 21, 24, 25, 22, 23, 2, 3, 10, 11, 26, 27, 12, 13, 16, 17, 4, 5, 18, 19, 79, 84, 85, 86, 87, 92, 93, 98, 99, 102, 103, 100, 101, 80, 81, 88, 89, 104, 105, 90, 91, 94, 95, 82, 83, 96, 97] (zc_cons rfl (zs (sh_0 hS) rfl) (zc_cons rfl (zs (sh_28 hS) rfl) (zc_cons rfl (zs (sh_1 hS) rfl) (zc_cons rfl (zs (sh_6 hS) rfl) (zc_cons rfl (zs (sh_7 hS) rfl) (zc_cons rfl (zs (sh_8 hS) rfl) (zc_cons rfl (zs (sh_9 hS) rfl) (zc_cons rfl (zs (sh_14 hS) rfl) (zc_cons rfl (zs (sh_15 hS) rfl) (zc_cons rfl (zs (sh_20 hS) rfl) (zc_cons rfl (zs (sh_21 hS) rfl) (zc_cons rfl (zs (sh_24 hS) rfl) (zc_cons rfl (zs (sh_25 hS) rfl) (zc_cons rfl (zs (sh_22 hS) rfl) (zc_cons rfl (zs (sh_23 hS) rfl) (zc_cons rfl (zs (sh_2 hS) rfl) (zc_cons rfl (zs (sh_3 hS) rfl) (zc_cons rfl (zs (sh_10 hS) rfl) (zc_cons rfl (zs (sh_11 hS) rfl) (zc_cons rfl (zs (sh_26 hS) rfl) (zc_cons rfl (zs (sh_27 hS) rfl) (zc_cons rfl (zs (sh_12 hS) rfl) (zc_cons rfl (zs (sh_13 hS) rfl) (zc_cons rfl (zs (sh_16 hS) rfl) (zc_cons rfl (zs (sh_17 hS) rfl) (zc_cons rfl (zs (sh_4 hS) rfl) (zc_cons rfl (zs (sh_5 hS) rfl) (zc_cons rfl (zs (sh_18 hS) rfl) (zc_cons rfl (zs (sh_19 hS) rfl) (zc_cons rfl rfl (zc_cons rfl rfl (zc_cons rfl rfl (zc_cons rfl rfl (zc_cons rfl rfl (zc_cons rfl rfl (zc_cons rfl rfl (zc_cons rfl rfl (zc_cons rfl rfl (zc_cons rfl rfl (zc_cons rfl rfl (zc_cons rfl rfl (zc_cons rfl rfl (zc_cons rfl rfl (zc_cons rfl rfl (zc_cons rfl rfl (zc_cons rfl rfl (zc_cons rfl rfl (zc_cons rfl rfl (zc_cons rfl rfl (zc_cons rfl rfl (zc_cons rfl rfl (zc_cons rfl rfl (zc_cons rfl rfl (zc_cons rfl rfl (zc_cons rfl rfl (zc_cons rfl rfl zc_nil)))))))))))))))))))))))))))))))))))))))))))))))))))))))) (zc_cons rfl (zs (sh_0 hS) rfl) (zc_cons rfl (zs (sh_28 hS) rfl) (zc_cons rfl rfl (zc_cons rfl rfl (zc_cons rfl rfl (zc_cons rfl rfl (zc_cons rfl rfl (zc_cons rfl rfl (zc_cons rfl rfl (zc_cons rfl rfl (zc_cons rfl rfl (zc_cons rfl rfl (zc_cons rfl rfl (zc_cons rfl rfl (zc_cons rfl rfl (zc_cons rfl rfl (zc_cons rfl rfl (zc_cons rfl rfl (zc_cons rfl rfl (zc_cons rfl rfl (zc_cons rfl rfl (zc_cons rfl rfl (zc_cons rfl rfl (zc_cons rfl rfl (zc_cons rfl rfl (zc_cons rfl rfl (zc_cons rfl rfl (zc_cons rfl rfl (zc_cons rfl rfl (zc_cons rfl rfl (zc_cons rfl rfl (zc_cons rfl rfl (zc_cons rfl rfl (zc_cons rfl rfl (zc_cons rfl rfl (zc_cons rfl rfl (zc_cons rfl rfl (zc_cons rfl rfl (zc_cons rfl rfl (zc_cons rfl rfl (zc_cons rfl rfl (zc_cons rfl rfl (zc_cons rfl rfl (zc_cons rfl rfl (zc_cons rfl rfl (zc_cons rfl rfl (zc_cons rfl rfl (zc_cons rfl rfl (zc_cons rfl rfl (zc_cons rfl rfl (zc_cons rfl rfl (zc_cons rfl rfl (zc_cons rfl rfl (zc_cons rfl rfl (zc_cons rfl rfl (zc_cons rfl rfl zc_nil)))))))))))))))))))))))))))))))))))))))))))))))))))))))) (cat_in (setl_out rfl)) rfl rfl (Nat.le_of_ble_eq_true rfl) hcs hss rfl dL_law_1759 ?_
      rw [← wz_cat]
      refine ii_aload_n 1 dL_law_1762 rfl ?_
      refine ii_aload_n 3 dL_law_1763 rfl ?_
      refine ii_iload_n 0 dL_law_1764 rfl ?_
      refine ii_iconst dL_law_1765 kc1 ?_
      refine ii_iadd dL_law_1766 ?_
      refine ii_sld hX hbl hbA (hin 1 (by decide)) dL_law_1767 ?_
      refine ii_callZi (nW := 79) (ad := ad) (Z := (setl Z [(27, .inl (cI, 3, .inl (tc' 12))), (26, .inr (8, [.int (3 : Int32), .int (1 : Int32), .ref (ad 27), .int (tdr 12)])), (25, .inl (cI, 18, .inl (tc' 11))), (24, .inr (8, [.int (3 : Int32), .int (6 : Int32), .ref (ad 25), .int (tdr 11)])), (23, .inl (cI, 30, .inl (tc' 10))), (22, .inr (8, [.int (3 : Int32), .int (10 : Int32), .ref (ad 23), .int (tdr 10)])), (21, .inl (cI, 150, .inl (tc' 9))), (20, .inr (8, [.int (5 : Int32), .int (30 : Int32), .ref (ad 21), .int (tdr 9)])), (19, .inl (cI, 120, .inl (tc' 8))), (18, .inr (8, [.int (3 : Int32), .int (40 : Int32), .ref (ad 19), .int (tdr 8)])), (17, .inl (cI, 36, .inl (tc' 7))), (16, .inr (8, [.int (3 : Int32), .int (12 : Int32), .ref (ad 17), .int (tdr 7)])), (15, .inl (cI, 6, .inl (tc' 6))), (14, .inr (8, [.int (1 : Int32), .int (6 : Int32), .ref (ad 15), .int (tdr 6)])), (13, .inl (cI, 39, .inl (tc' 5))), (12, .inr (8, [.int (13 : Int32), .int (3 : Int32), .ref (ad 13), .int (tdr 5)])), (11, .inl (cI, 180, .inl (tc' 4))), (10, .inr (8, [.int (3 : Int32), .int (60 : Int32), .ref (ad 11), .int (tdr 4)])), (9, .inl (cI, 280, .inl (tc' 3))), (8, .inr (8, [.int (7 : Int32), .int (40 : Int32), .ref (ad 9), .int (tdr 3)])), (7, .inl (cI, 1664, .inl (tc' 2))), (6, .inr (8, [.int (104 : Int32), .int (16 : Int32), .ref (ad 7), .int (tdr 2)])), (5, .inl (cI, 204, .inl (tc' 1))), (4, .inr (8, [.int (51 : Int32), .int (4 : Int32), .ref (ad 5), .int (tdr 1)])), (3, .inl (cI, 20, .inl (tc' 0))), (2, .inr (8, [.int (2 : Int32), .int (10 : Int32), .ref (ad 3), .int (tdr 0)])), (1, .inr (0, [.ref (ad 2), .ref (ad 4), .ref (ad 6), .ref (ad 8), .ref (ad 10), .ref (ad 12), .ref (ad 14), .ref (ad 16), .ref (ad 18), .ref (ad 20), .ref (ad 22), .ref (ad 24), .ref (ad 26), .int dnar, .int dnam]))])) (setl (setl Z [(27, .inl (cI, 3, .inl (tc' 12))), (26, .inr (8, [.int (3 : Int32), .int (1 : Int32), .ref (ad 27), .int (tdr 12)])), (25, .inl (cI, 18, .inl (tc' 11))), (24, .inr (8, [.int (3 : Int32), .int (6 : Int32), .ref (ad 25), .int (tdr 11)])), (23, .inl (cI, 30, .inl (tc' 10))), (22, .inr (8, [.int (3 : Int32), .int (10 : Int32), .ref (ad 23), .int (tdr 10)])), (21, .inl (cI, 150, .inl (tc' 9))), (20, .inr (8, [.int (5 : Int32), .int (30 : Int32), .ref (ad 21), .int (tdr 9)])), (19, .inl (cI, 120, .inl (tc' 8))), (18, .inr (8, [.int (3 : Int32), .int (40 : Int32), .ref (ad 19), .int (tdr 8)])), (17, .inl (cI, 36, .inl (tc' 7))), (16, .inr (8, [.int (3 : Int32), .int (12 : Int32), .ref (ad 17), .int (tdr 7)])), (15, .inl (cI, 6, .inl (tc' 6))), (14, .inr (8, [.int (1 : Int32), .int (6 : Int32), .ref (ad 15), .int (tdr 6)])), (13, .inl (cI, 39, .inl (tc' 5))), (12, .inr (8, [.int (13 : Int32), .int (3 : Int32), .ref (ad 13), .int (tdr 5)])), (11, .inl (cI, 180, .inl (tc' 4))), (10, .inr (8, [.int (3 : Int32), .int (60 : Int32), .ref (ad 11), .int (tdr 4)])), (9, .inl (cI, 280, .inl (tc' 3))), (8, .inr (8, [.int (7 : Int32), .int (40 : Int32), .ref (ad 9), .int (tdr 3)])), (7, .inl (cI, 1664, .inl (tc' 2))), (6, .inr (8, [.int (104 : Int32), .int (16 : Int32), .ref (ad 7), .int (tdr 2)])), (5, .inl (cI, 204, .inl (tc' 1))), (4, .inr (8, [.int (51 : Int32), .int (4 : Int32), .ref (ad 5), .int (tdr 1)])), (3, .inl (cI, 20, .inl (tc' 0))), (2, .inr (8, [.int (2 : Int32), .int (10 : Int32), .ref (ad 3), .int (tdr 0)])), (1, .inr (0, [.ref (ad 2), .ref (ad 4), .ref (ad 6), .ref (ad 8), .ref (ad 10), .ref (ad 12), .ref (ad 14), .ref (ad 16), .ref (ad 18), .ref (ad 20), .ref (ad 22), .ref (ad 24), .ref (ad 26), .int dnar, .int dnam]))]) [(58, .inl (cI, 1951, .inl st'))]) (tl := (WZ 27 hd (HZ cI hd td tdr dnar dnam) ++ (HBo cI (o (1 - z))))) (As := [.int (xs (i + 1).toNatClampNeg)]) (st := [.int 1]) (c_X12_from l D cI cJ cZ cH (ad 57) (ad 72) (ad 77) (ad 70) (ad 65) (ad 59) (ad 60) (ad 76) (ad 75) (ad 68) (ad 66) (ad 74) (ad 69) (ad 71) (ad 78) (ad 58) (ad 61) (ad 73) (ad 67) (ad 64) (ad 63) (ad 62) (flL 11 (Z 0)) (flL 12 (Z 0)) (arI (Z 59)) (arI (Z 60)) (arI (Z 58)) (flI 5 (Z 57)) (flI 8 (Z 57)) (xs (i + 1).toNatClampNeg) e2) gzL_194 rfl rfl rfl eL_X12_from ⟨Nat.le_of_ble_eq_true rfl, Nat.le_of_ble_eq_true rfl⟩ rfl 57 (by decide) rfl (zs (sh_57a hS ha1 ha2) rfl) rfl [57, 59, 60, 58] (zc_cons rfl (zs (sh_57a hS ha1 ha2) rfl) (zc_cons rfl (zs (sh_59 hS) rfl) (zc_cons rfl (zs (sh_60 hS) rfl) (zc_cons rfl (zs (sh_58 hS) rfl) zc_nil)))) (zc_cons rfl (zs (sh_57a hS ha1 ha2) rfl) (zc_cons rfl (zs (sh_59 hS) rfl) (zc_cons rfl (zs (sh_60 hS) rfl) (zc_cons rfl rfl zc_nil)))) (setl_out rfl) rfl rfl (Nat.le_of_ble_eq_true rfl) hcs hss rfl dL_law_1768 ?_
      refine ii_icmp_eq (tgt := 1813) (r := ()) (ET := some ()) (EF := none) (if_pos rfl) dL_law_1771 (by decide) (fun _ => ?_) (fun z => absurd z (by simp))
      exact kk _ _ _ ⟨setl (setl Z [(27, .inl (cI, 3, .inl (tc' 12))), (26, .inr (8, [.int (3 : Int32), .int (1 : Int32), .ref (ad 27), .int (tdr 12)])), (25, .inl (cI, 18, .inl (tc' 11))), (24, .inr (8, [.int (3 : Int32), .int (6 : Int32), .ref (ad 25), .int (tdr 11)])), (23, .inl (cI, 30, .inl (tc' 10))), (22, .inr (8, [.int (3 : Int32), .int (10 : Int32), .ref (ad 23), .int (tdr 10)])), (21, .inl (cI, 150, .inl (tc' 9))), (20, .inr (8, [.int (5 : Int32), .int (30 : Int32), .ref (ad 21), .int (tdr 9)])), (19, .inl (cI, 120, .inl (tc' 8))), (18, .inr (8, [.int (3 : Int32), .int (40 : Int32), .ref (ad 19), .int (tdr 8)])), (17, .inl (cI, 36, .inl (tc' 7))), (16, .inr (8, [.int (3 : Int32), .int (12 : Int32), .ref (ad 17), .int (tdr 7)])), (15, .inl (cI, 6, .inl (tc' 6))), (14, .inr (8, [.int (1 : Int32), .int (6 : Int32), .ref (ad 15), .int (tdr 6)])), (13, .inl (cI, 39, .inl (tc' 5))), (12, .inr (8, [.int (13 : Int32), .int (3 : Int32), .ref (ad 13), .int (tdr 5)])), (11, .inl (cI, 180, .inl (tc' 4))), (10, .inr (8, [.int (3 : Int32), .int (60 : Int32), .ref (ad 11), .int (tdr 4)])), (9, .inl (cI, 280, .inl (tc' 3))), (8, .inr (8, [.int (7 : Int32), .int (40 : Int32), .ref (ad 9), .int (tdr 3)])), (7, .inl (cI, 1664, .inl (tc' 2))), (6, .inr (8, [.int (104 : Int32), .int (16 : Int32), .ref (ad 7), .int (tdr 2)])), (5, .inl (cI, 204, .inl (tc' 1))), (4, .inr (8, [.int (51 : Int32), .int (4 : Int32), .ref (ad 5), .int (tdr 1)])), (3, .inl (cI, 20, .inl (tc' 0))), (2, .inr (8, [.int (2 : Int32), .int (10 : Int32), .ref (ad 3), .int (tdr 0)])), (1, .inr (0, [.ref (ad 2), .ref (ad 4), .ref (ad 6), .ref (ad 8), .ref (ad 10), .ref (ad 12), .ref (ad 14), .ref (ad 16), .ref (ad 18), .ref (ad 20), .ref (ad 22), .ref (ad 24), .ref (ad 26), .int dnar, .int dnam]))]) [(58, .inl (cI, 1951, .inl st'))], (WZ 27 hd (HZ cI hd td tdr dnar dnam) ++ (HBo cI (o (1 - z)))), rfl, law_fin (tc' := plist jT arI (plist jT arI (tcZ Z) [(27, .inl (cI, 3, .inl (tc' 12))), (26, .inr (8, [.int (3 : Int32), .int (1 : Int32), .ref (ad 27), .int (tdr 12)])), (25, .inl (cI, 18, .inl (tc' 11))), (24, .inr (8, [.int (3 : Int32), .int (6 : Int32), .ref (ad 25), .int (tdr 11)])), (23, .inl (cI, 30, .inl (tc' 10))), (22, .inr (8, [.int (3 : Int32), .int (10 : Int32), .ref (ad 23), .int (tdr 10)])), (21, .inl (cI, 150, .inl (tc' 9))), (20, .inr (8, [.int (5 : Int32), .int (30 : Int32), .ref (ad 21), .int (tdr 9)])), (19, .inl (cI, 120, .inl (tc' 8))), (18, .inr (8, [.int (3 : Int32), .int (40 : Int32), .ref (ad 19), .int (tdr 8)])), (17, .inl (cI, 36, .inl (tc' 7))), (16, .inr (8, [.int (3 : Int32), .int (12 : Int32), .ref (ad 17), .int (tdr 7)])), (15, .inl (cI, 6, .inl (tc' 6))), (14, .inr (8, [.int (1 : Int32), .int (6 : Int32), .ref (ad 15), .int (tdr 6)])), (13, .inl (cI, 39, .inl (tc' 5))), (12, .inr (8, [.int (13 : Int32), .int (3 : Int32), .ref (ad 13), .int (tdr 5)])), (11, .inl (cI, 180, .inl (tc' 4))), (10, .inr (8, [.int (3 : Int32), .int (60 : Int32), .ref (ad 11), .int (tdr 4)])), (9, .inl (cI, 280, .inl (tc' 3))), (8, .inr (8, [.int (7 : Int32), .int (40 : Int32), .ref (ad 9), .int (tdr 3)])), (7, .inl (cI, 1664, .inl (tc' 2))), (6, .inr (8, [.int (104 : Int32), .int (16 : Int32), .ref (ad 7), .int (tdr 2)])), (5, .inl (cI, 204, .inl (tc' 1))), (4, .inr (8, [.int (51 : Int32), .int (4 : Int32), .ref (ad 5), .int (tdr 1)])), (3, .inl (cI, 20, .inl (tc' 0))), (2, .inr (8, [.int (2 : Int32), .int (10 : Int32), .ref (ad 3), .int (tdr 0)])), (1, .inr (0, [.ref (ad 2), .ref (ad 4), .ref (ad 6), .ref (ad 8), .ref (ad 10), .ref (ad 12), .ref (ad 14), .ref (ad 16), .ref (ad 18), .ref (ad 20), .ref (ad 22), .ref (ad 24), .ref (ad 26), .int dnar, .int dnam]))]) [(58, .inl (cI, 1951, .inl st'))]) (tr' := plist jR (flI 3) (plist jR (flI 3) (trZ Z) [(27, .inl (cI, 3, .inl (tc' 12))), (26, .inr (8, [.int (3 : Int32), .int (1 : Int32), .ref (ad 27), .int (tdr 12)])), (25, .inl (cI, 18, .inl (tc' 11))), (24, .inr (8, [.int (3 : Int32), .int (6 : Int32), .ref (ad 25), .int (tdr 11)])), (23, .inl (cI, 30, .inl (tc' 10))), (22, .inr (8, [.int (3 : Int32), .int (10 : Int32), .ref (ad 23), .int (tdr 10)])), (21, .inl (cI, 150, .inl (tc' 9))), (20, .inr (8, [.int (5 : Int32), .int (30 : Int32), .ref (ad 21), .int (tdr 9)])), (19, .inl (cI, 120, .inl (tc' 8))), (18, .inr (8, [.int (3 : Int32), .int (40 : Int32), .ref (ad 19), .int (tdr 8)])), (17, .inl (cI, 36, .inl (tc' 7))), (16, .inr (8, [.int (3 : Int32), .int (12 : Int32), .ref (ad 17), .int (tdr 7)])), (15, .inl (cI, 6, .inl (tc' 6))), (14, .inr (8, [.int (1 : Int32), .int (6 : Int32), .ref (ad 15), .int (tdr 6)])), (13, .inl (cI, 39, .inl (tc' 5))), (12, .inr (8, [.int (13 : Int32), .int (3 : Int32), .ref (ad 13), .int (tdr 5)])), (11, .inl (cI, 180, .inl (tc' 4))), (10, .inr (8, [.int (3 : Int32), .int (60 : Int32), .ref (ad 11), .int (tdr 4)])), (9, .inl (cI, 280, .inl (tc' 3))), (8, .inr (8, [.int (7 : Int32), .int (40 : Int32), .ref (ad 9), .int (tdr 3)])), (7, .inl (cI, 1664, .inl (tc' 2))), (6, .inr (8, [.int (104 : Int32), .int (16 : Int32), .ref (ad 7), .int (tdr 2)])), (5, .inl (cI, 204, .inl (tc' 1))), (4, .inr (8, [.int (51 : Int32), .int (4 : Int32), .ref (ad 5), .int (tdr 1)])), (3, .inl (cI, 20, .inl (tc' 0))), (2, .inr (8, [.int (2 : Int32), .int (10 : Int32), .ref (ad 3), .int (tdr 0)])), (1, .inr (0, [.ref (ad 2), .ref (ad 4), .ref (ad 6), .ref (ad 8), .ref (ad 10), .ref (ad 12), .ref (ad 14), .ref (ad 16), .ref (ad 18), .ref (ad 20), .ref (ad 22), .ref (ad 24), .ref (ad 26), .int dnar, .int dnam]))]) [(58, .inl (cI, 1951, .inl st'))]) (nar' := dnar) (nam' := dnam) (st' := st') hS (ok_cons ok_27 (ok_cons ok_26 (ok_cons ok_25 (ok_cons ok_24 (ok_cons ok_23 (ok_cons ok_22 (ok_cons ok_21 (ok_cons ok_20 (ok_cons ok_19 (ok_cons ok_18 (ok_cons ok_17 (ok_cons ok_16 (ok_cons ok_15 (ok_cons ok_14 (ok_cons ok_13 (ok_cons ok_12 (ok_cons ok_11 (ok_cons ok_10 (ok_cons ok_9 (ok_cons ok_8 (ok_cons ok_7 (ok_cons ok_6 (ok_cons ok_5 (ok_cons ok_4 (ok_cons ok_3 (ok_cons ok_2 (ok_cons ok_1 ok_nil))))))))))))))))))))))))))) (ok_cons ok_58 ok_nil) rfl rfl rfl rfl rfl rfl rfl (Rel_tab (Rel_st g0 g1) rfl rfl rfl rfl rfl rfl rfl rfl rfl rfl rfl rfl rfl rfl rfl rfl rfl rfl rfl rfl rfl rfl rfl rfl rfl rfl) hs1 hs2 hs3 ha1 ha2 ⟨o, z, hz, by rw [hoe]; rfl, ho⟩, hb1, hb2⟩
  · have e1 := C_from_bad hr
    have e2 := M_from_f (st := (arI (Z 58))) (im := (arI (Z 59))) (kp := (arI (Z 60))) hr
    refine ii_callZi (nW := 79) (ad := ad) (Z := Z) (setl Z []) (tl := tl) (As := [.int (xs (i + 1).toNatClampNeg)]) (st := []) (c_X11_from_bad l D cI cJ cZ cH (ad 0) (ad 28) (ad 32) (ad 34) (ad 36) (ad 1) (ad 51) (ad 55) (ad 49) (ad 29) (ad 44) (ad 45) (flL 11 (Z 0)) (flL 12 (Z 0)) (arR (Z 28)) (xs (i + 1).toNatClampNeg) e1) gzL_191 rfl rfl rfl eL_X11_from ⟨Nat.le_of_ble_eq_true rfl, Nat.le_of_ble_eq_true rfl⟩ rfl 0 (by decide) rfl (sh_0 hS) rfl [0, 28] (zc_cons rfl (sh_0 hS) (zc_cons rfl (sh_28 hS) zc_nil)) (zc_cons rfl (zs (sh_0 hS) rfl) (zc_cons rfl (zs (sh_28 hS) rfl) zc_nil)) (setl_out rfl) rfl rfl (Nat.le_of_ble_eq_true rfl) hcs hss rfl dL_law_1759 ?_
    refine ii_aload_n 1 dL_law_1762 rfl ?_
    refine ii_aload_n 3 dL_law_1763 rfl ?_
    refine ii_iload_n 0 dL_law_1764 rfl ?_
    refine ii_iconst dL_law_1765 kc1 ?_
    refine ii_iadd dL_law_1766 ?_
    refine ii_sld hX hbl hbA (hin 1 (by decide)) dL_law_1767 ?_
    refine ii_callZi (nW := 79) (ad := ad) (Z := (setl Z [])) (setl (setl Z []) [(58, .inl (cI, 1951, .inl (arI (Z 58))))]) (tl := tl) (As := [.int (xs (i + 1).toNatClampNeg)]) (st := [.int (-2)]) (c_X12_from l D cI cJ cZ cH (ad 57) (ad 72) (ad 77) (ad 70) (ad 65) (ad 59) (ad 60) (ad 76) (ad 75) (ad 68) (ad 66) (ad 74) (ad 69) (ad 71) (ad 78) (ad 58) (ad 61) (ad 73) (ad 67) (ad 64) (ad 63) (ad 62) (flL 11 (Z 0)) (flL 12 (Z 0)) (arI (Z 59)) (arI (Z 60)) (arI (Z 58)) (flI 5 (Z 57)) (flI 8 (Z 57)) (xs (i + 1).toNatClampNeg) e2) gzL_194 rfl rfl rfl eL_X12_from ⟨Nat.le_of_ble_eq_true rfl, Nat.le_of_ble_eq_true rfl⟩ rfl 57 (by decide) rfl (zs (sh_57a hS ha1 ha2) rfl) rfl [57, 59, 60, 58] (zc_cons rfl (zs (sh_57a hS ha1 ha2) rfl) (zc_cons rfl (zs (sh_59 hS) rfl) (zc_cons rfl (zs (sh_60 hS) rfl) (zc_cons rfl (zs (sh_58 hS) rfl) zc_nil)))) (zc_cons rfl (zs (sh_57a hS ha1 ha2) rfl) (zc_cons rfl (zs (sh_59 hS) rfl) (zc_cons rfl (zs (sh_60 hS) rfl) (zc_cons rfl rfl zc_nil)))) (setl_out rfl) rfl rfl (Nat.le_of_ble_eq_true rfl) hcs hss rfl dL_law_1768 ?_
    refine ii_icmp_eq (tgt := 1813) (r := ()) (ET := some ()) (EF := none) (if_pos rfl) dL_law_1771 (by decide) (fun _ => ?_) (fun z => absurd z (by simp))
    exact kk _ _ _ ⟨setl (setl Z []) [(58, .inl (cI, 1951, .inl (arI (Z 58))))], tl, rfl, law_fin (tc' := plist jT arI (plist jT arI (tcZ Z) []) [(58, .inl (cI, 1951, .inl (arI (Z 58))))]) (tr' := plist jR (flI 3) (plist jR (flI 3) (trZ Z) []) [(58, .inl (cI, 1951, .inl (arI (Z 58))))]) (nar' := (flI 13 (Z 1))) (nam' := (flI 14 (Z 1))) (st' := (arI (Z 58))) hS ok_nil (ok_cons ok_58 ok_nil) rfl rfl rfl rfl rfl rfl rfl h hs1 hs2 hs3 ha1 ha2 him, hb1, hb2⟩
