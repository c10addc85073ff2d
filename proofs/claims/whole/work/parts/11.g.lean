/-! THE LAW: its loop (the statements up to lw_At are the kit's) -/
/-! THE CLAIM OUT OF ONE WALK OF THE LAW'S BODY. Your part is whole_start (and what it stands on); all else here is the same for every law, but numbers. -/
def R_law : String := "TinHouseLaw"
def lw_P (b : Addr) (xs : List Int32) (args : Array Value) (s : State) : Prop := args = #[.ref b] ∧ s.IntsAt b xs ∧ xs.length ≤ 4096 ∧ (Jvm.Cond.and given_1 narrow_1).before args s = true
def lw_Q (_ : Array Value) (s : State) (o : Outcome) (t : State) : Prop := o = .returned (some (.int 1)) ∧ Framed s o t [] 600000 7302250
def lw_Z (below : List Frame) (a : Array Value) (s : State) : State → Prop := fun t => ∃ o, t.status = .running ∧ Ended t below o ∧ lw_Q a s o t
/-- the law's own end, with 1 on the stack, nothing written that was there before, its room as the claim has it -/
theorem lw_ret {p : Program} {l : Launch} {e : Env} {s : State} {m : MethodId} {below : List Frame} {meth : Method} {c : Code} {b : Nat} (hx : p.tables.exec = Jvm.exec) (hb : c.code = code) (hr : meth.sig.returnType = ret) (hlocks : meth.locks = false) {pc : Nat} {H : Heap} {ls : Array Slot} (hdg : decode code pc = .ok (.ireturn, 1)) : W p l e room_1 s m #[Value.ref b] below meth c H [] 600000 7302250 (lw_Z below #[Value.ref b] s) (F0 m pc ls [.int 1]) := by
  intro T hT X
  obtain ⟨fs, hret, hrun, hended, hW, hframe⟩ := X.leave (v := some (.int 1)) (hlocks := hlocks) (fun h => by rw [hr] at h; cases h)
  have hmeth' : T.vm.method? m = some meth := X.method'
  refine ⟨T.setFrames fs, ?_, .returned (some (.int 1)), hrun, hended, rfl, ⟨_, rfl⟩, hW, hframe⟩
  jvm_step X.here [X.here.top, hx, hb, hdg, hmeth', hr, ret, narrow_b1]
  (try refine ⟨rfl, ?_⟩); (try refine ⟨rfl, ?_⟩)
  first | (intro acts; rw [hret _ acts rfl rfl rfl]) | rw [hret _ _ rfl rfl rfl]
  exact Steps.refl _
/-- what holds at the law's entry: the machine, the code, the tables' words (any of lw_tbl by 'hts w (by decide +kernel)'), the script of L ints xs at the cell b, what the Statement gives of the start (any of its parts by flat_of_before) -/
def lw_At (p : Program) (s : State) (m : MethodId) (meth : Method) (c : Code) (b L : Nat) (xs : Nat → Int32) : Prop :=
  p.tables.exec = Jvm.exec ∧ c.code = code ∧ meth.sig.returnType = ret ∧ c.maxLocals = 4 ∧ s.vm.findClass R_law = some m.cls ∧ (∀ w ∈ lw_tbl, w.before #[Value.ref b] s = true) ∧ va_X b L xs s s.heap ∧ b < s.heap.size ∧ meth.locks = false ∧ (Jvm.Cond.and given_1 narrow_1).before #[Value.ref b] s = true
theorem dL_law_18 : decode cL_law 18 = .ok (.iload_n 3, 1) := by decide +kernel
theorem dL_law_19 : decode cL_law 19 = .ok (.aload_n 0, 1) := by decide +kernel
theorem dL_law_20 : decode cL_law 20 = .ok (.arraylength, 1) := by decide +kernel
theorem dL_law_21 : decode cL_law 21 = .ok (.bipush 8, 2) := by decide +kernel
theorem dL_law_23 : decode cL_law 23 = .ok (.isub, 1) := by decide +kernel
theorem dL_law_24 : decode cL_law 24 = .ok (.if_icmp .gt 1795, 3) := by decide +kernel
theorem dL_law_27 : decode cL_law 27 = .ok (.aload_n 0, 1) := by decide +kernel
theorem dL_law_28 : decode cL_law 28 = .ok (.iload_n 3, 1) := by decide +kernel
theorem dL_law_29 : decode cL_law 29 = .ok (.iaload, 1) := by decide +kernel
theorem dL_law_30 : decode cL_law 30 = .ok (.bipush 63, 2) := by decide +kernel
theorem dL_law_32 : decode cL_law 32 = .ok (.iand, 1) := by decide +kernel
theorem dL_law_33 : decode cL_law 33 = .ok (.tableswitch 1780 0 44 #[195, 228, 261, 284, 307, 415, 458, 491, 554, 597, 630, 663, 697, 740, 783, 826, 869, 892, 935, 958, 981, 1024, 1067, 1100, 1134, 1157, 1190, 1213, 1256, 1279, 1322, 1355, 1418, 1461, 1484, 1527, 1550, 1593, 1606, 1639, 1673, 1697, 1720, 1743, 1766], 195) := by decide +kernel
theorem dL_law_1813 : decode cL_law 1813 = .ok (.iinc 3 8, 3) := by decide +kernel
theorem dL_law_1816 : decode cL_law 1816 = .ok (.goto (-1798), 3) := by decide +kernel
theorem dL_law_1819 : decode cL_law 1819 = .ok (.iconst 1, 1) := by decide +kernel
theorem dL_law_1820 : decode cL_law 1820 = .ok (.ireturn, 1) := by decide +kernel
theorem nI_m8 {n : Nat} (h : n < 2 ^ 31) : (nI n - 8).toInt = (n : Int) - 8 := by
  rw [show (8 : Int32) = nI 8 from rfl, Int32.toInt_sub, nI_toInt h, nI_toInt (by decide)]
  rw [Int.bmod_def]
  split <;> omega
set_option maxHeartbeats 4000000 in
set_option maxRecDepth 100000 in
theorem law_switch {p : Program} {l : Launch} {e : Env} {s : State} {m : MethodId} {below : List Frame} {meth : Method} {c : Code} {D : va_G} {b L : Nat} {xs : Nat → Int32} {cI cJ cZ cH : ClassId} {ad : Nat → Nat} {i v : Int32} {cells slots : Nat} {ws : va_W} (hX : va_X b L xs s s.heap) (hbl : b < s.heap.size) (hin : ∀ j : Nat, j < 8 → vp_in (i + nI j) L) (hL : LawS cI cJ cZ cH ad cells slots ws) (kk : ∀ cells slots ws, LawS cI cJ cZ cH ad cells slots ws → WX p l e room_1 s m #[.ref b] below meth c code RL lwG D [(cI, .int), (cJ, .long), (cZ, .boolean), (cH, .object "TinHouse$House")] (fun q : Nat => s.heap.size ≤ q) 4 cells slots (lw_Z below #[.ref b] s) ws 1813 [(3, .int i), (2, .ref (ad 57)), (1, .ref (ad 0)), (0, .ref b)] []) : WX p l e room_1 s m #[.ref b] below meth c code RL lwG D [(cI, .int), (cJ, .long), (cZ, .boolean), (cH, .object "TinHouse$House")] (fun q : Nat => s.heap.size ≤ q) 4 cells slots (lw_Z below #[.ref b] s) ws 33 [(3, .int i), (2, .ref (ad 57)), (1, .ref (ad 0)), (0, .ref b)] [.int v] := by
  have hbA : ¬ (fun q : Nat => s.heap.size ≤ q) b := Nat.not_le.mpr hbl
  by_cases hv : 0 ≤ v.toInt ∧ v.toInt ≤ 44
  · obtain ⟨k, hk1, hk2, hk3⟩ := inR_nat (b := 44) hv
    rcases (show k = 0 ∨ k = 1 ∨ k = 2 ∨ k = 3 ∨ k = 4 ∨ k = 5 ∨ k = 6 ∨ k = 7 ∨ k = 8 ∨ k = 9 ∨ k = 10 ∨ k = 11 ∨ k = 12 ∨ k = 13 ∨ k = 14 ∨ k = 15 ∨ k = 16 ∨ k = 17 ∨ k = 18 ∨ k = 19 ∨ k = 20 ∨ k = 21 ∨ k = 22 ∨ k = 23 ∨ k = 24 ∨ k = 25 ∨ k = 26 ∨ k = 27 ∨ k = 28 ∨ k = 29 ∨ k = 30 ∨ k = 31 ∨ k = 32 ∨ k = 33 ∨ k = 34 ∨ k = 35 ∨ k = 36 ∨ k = 37 ∨ k = 38 ∨ k = 39 ∨ k = 40 ∨ k = 41 ∨ k = 42 ∨ k = 43 ∨ k = 44 by omega) with rfl | rfl | rfl | rfl | rfl | rfl | rfl | rfl | rfl | rfl | rfl | rfl | rfl | rfl | rfl | rfl | rfl | rfl | rfl | rfl | rfl | rfl | rfl | rfl | rfl | rfl | rfl | rfl | rfl | rfl | rfl | rfl | rfl | rfl | rfl | rfl | rfl | rfl | rfl | rfl | rfl | rfl | rfl | rfl | rfl
    · exact ii_tableIn (tgt := 228) (k0 := nI 0) (a := 0) dL_law_33 hk3 (by decide) (by decide) (by decide) rfl (by decide) (law_0 hX hbl hbA hin hL kk)
    · exact ii_tableIn (tgt := 261) (k0 := nI 1) (a := 1) dL_law_33 hk3 (by decide) (by decide) (by decide) rfl (by decide) (law_1 hX hbl hbA hin hL kk)
    · exact ii_tableIn (tgt := 294) (k0 := nI 2) (a := 2) dL_law_33 hk3 (by decide) (by decide) (by decide) rfl (by decide) (law_2 hX hbl hbA hin hL kk)
    · exact ii_tableIn (tgt := 317) (k0 := nI 3) (a := 3) dL_law_33 hk3 (by decide) (by decide) (by decide) rfl (by decide) (law_3 hX hbl hbA hin hL kk)
    · exact ii_tableIn (tgt := 340) (k0 := nI 4) (a := 4) dL_law_33 hk3 (by decide) (by decide) (by decide) rfl (by decide) (law_4 hX hbl hbA hin hL kk)
    · exact ii_tableIn (tgt := 448) (k0 := nI 5) (a := 5) dL_law_33 hk3 (by decide) (by decide) (by decide) rfl (by decide) (law_5 hX hbl hbA hin hL kk)
    · exact ii_tableIn (tgt := 491) (k0 := nI 6) (a := 6) dL_law_33 hk3 (by decide) (by decide) (by decide) rfl (by decide) (law_6 hX hbl hbA hin hL kk)
    · exact ii_tableIn (tgt := 524) (k0 := nI 7) (a := 7) dL_law_33 hk3 (by decide) (by decide) (by decide) rfl (by decide) (law_7 hX hbl hbA hin hL kk)
    · exact ii_tableIn (tgt := 587) (k0 := nI 8) (a := 8) dL_law_33 hk3 (by decide) (by decide) (by decide) rfl (by decide) (law_8 hX hbl hbA hin hL kk)
    · exact ii_tableIn (tgt := 630) (k0 := nI 9) (a := 9) dL_law_33 hk3 (by decide) (by decide) (by decide) rfl (by decide) (law_9 hX hbl hbA hin hL kk)
    · exact ii_tableIn (tgt := 663) (k0 := nI 10) (a := 10) dL_law_33 hk3 (by decide) (by decide) (by decide) rfl (by decide) (law_10 hX hbl hbA hin hL kk)
    · exact ii_tableIn (tgt := 696) (k0 := nI 11) (a := 11) dL_law_33 hk3 (by decide) (by decide) (by decide) rfl (by decide) (law_11 hX hbl hbA hin hL kk)
    · exact ii_tableIn (tgt := 730) (k0 := nI 12) (a := 12) dL_law_33 hk3 (by decide) (by decide) (by decide) rfl (by decide) (law_12 hX hbl hbA hin hL kk)
    · exact ii_tableIn (tgt := 773) (k0 := nI 13) (a := 13) dL_law_33 hk3 (by decide) (by decide) (by decide) rfl (by decide) (law_13 hX hbl hbA hin hL kk)
    · exact ii_tableIn (tgt := 816) (k0 := nI 14) (a := 14) dL_law_33 hk3 (by decide) (by decide) (by decide) rfl (by decide) (law_14 hX hbl hbA hin hL kk)
    · exact ii_tableIn (tgt := 859) (k0 := nI 15) (a := 15) dL_law_33 hk3 (by decide) (by decide) (by decide) rfl (by decide) (law_15 hX hbl hbA hin hL kk)
    · exact ii_tableIn (tgt := 902) (k0 := nI 16) (a := 16) dL_law_33 hk3 (by decide) (by decide) (by decide) rfl (by decide) (law_16 hX hbl hbA hin hL kk)
    · exact ii_tableIn (tgt := 925) (k0 := nI 17) (a := 17) dL_law_33 hk3 (by decide) (by decide) (by decide) rfl (by decide) (law_17 hX hbl hbA hin hL kk)
    · exact ii_tableIn (tgt := 968) (k0 := nI 18) (a := 18) dL_law_33 hk3 (by decide) (by decide) (by decide) rfl (by decide) (law_18 hX hbl hbA hin hL kk)
    · exact ii_tableIn (tgt := 991) (k0 := nI 19) (a := 19) dL_law_33 hk3 (by decide) (by decide) (by decide) rfl (by decide) (law_19 hX hbl hbA hin hL kk)
    · exact ii_tableIn (tgt := 1014) (k0 := nI 20) (a := 20) dL_law_33 hk3 (by decide) (by decide) (by decide) rfl (by decide) (law_20 hX hbl hbA hin hL kk)
    · exact ii_tableIn (tgt := 1057) (k0 := nI 21) (a := 21) dL_law_33 hk3 (by decide) (by decide) (by decide) rfl (by decide) (law_21 hX hbl hbA hin hL kk)
    · exact ii_tableIn (tgt := 1100) (k0 := nI 22) (a := 22) dL_law_33 hk3 (by decide) (by decide) (by decide) rfl (by decide) (law_22 hX hbl hbA hin hL kk)
    · exact ii_tableIn (tgt := 1133) (k0 := nI 23) (a := 23) dL_law_33 hk3 (by decide) (by decide) (by decide) rfl (by decide) (law_23 hX hbl hbA hin hL kk)
    · exact ii_tableIn (tgt := 1167) (k0 := nI 24) (a := 24) dL_law_33 hk3 (by decide) (by decide) (by decide) rfl (by decide) (law_24 hX hbl hbA hin hL kk)
    · exact ii_tableIn (tgt := 1190) (k0 := nI 25) (a := 25) dL_law_33 hk3 (by decide) (by decide) (by decide) rfl (by decide) (law_25 hX hbl hbA hin hL kk)
    · exact ii_tableIn (tgt := 1223) (k0 := nI 26) (a := 26) dL_law_33 hk3 (by decide) (by decide) (by decide) rfl (by decide) (law_26 hX hbl hbA hin hL kk)
    · exact ii_tableIn (tgt := 1246) (k0 := nI 27) (a := 27) dL_law_33 hk3 (by decide) (by decide) (by decide) rfl (by decide) (law_27 hX hbl hbA hin hL kk)
    · exact ii_tableIn (tgt := 1289) (k0 := nI 28) (a := 28) dL_law_33 hk3 (by decide) (by decide) (by decide) rfl (by decide) (law_28 hX hbl hbA hin hL kk)
    · exact ii_tableIn (tgt := 1312) (k0 := nI 29) (a := 29) dL_law_33 hk3 (by decide) (by decide) (by decide) rfl (by decide) (law_29 hX hbl hbA hin hL kk)
    · exact ii_tableIn (tgt := 1355) (k0 := nI 30) (a := 30) dL_law_33 hk3 (by decide) (by decide) (by decide) rfl (by decide) (law_30 hX hbl hbA hin hL kk)
    · exact ii_tableIn (tgt := 1388) (k0 := nI 31) (a := 31) dL_law_33 hk3 (by decide) (by decide) (by decide) rfl (by decide) (law_31 hX hbl hbA hin hL kk)
    · exact ii_tableIn (tgt := 1451) (k0 := nI 32) (a := 32) dL_law_33 hk3 (by decide) (by decide) (by decide) rfl (by decide) (law_32 hX hbl hbA hin hL kk)
    · exact ii_tableIn (tgt := 1494) (k0 := nI 33) (a := 33) dL_law_33 hk3 (by decide) (by decide) (by decide) rfl (by decide) (law_33 hX hbl hbA hin hL kk)
    · exact ii_tableIn (tgt := 1517) (k0 := nI 34) (a := 34) dL_law_33 hk3 (by decide) (by decide) (by decide) rfl (by decide) (law_34 hX hbl hbA hin hL kk)
    · exact ii_tableIn (tgt := 1560) (k0 := nI 35) (a := 35) dL_law_33 hk3 (by decide) (by decide) (by decide) rfl (by decide) (law_35 hX hbl hbA hin hL kk)
    · exact ii_tableIn (tgt := 1583) (k0 := nI 36) (a := 36) dL_law_33 hk3 (by decide) (by decide) (by decide) rfl (by decide) (law_36 hX hbl hbA hin hL kk)
    · exact ii_tableIn (tgt := 1626) (k0 := nI 37) (a := 37) dL_law_33 hk3 (by decide) (by decide) (by decide) rfl (by decide) (law_37 hX hbl hbA hin hL kk)
    · exact ii_tableIn (tgt := 1639) (k0 := nI 38) (a := 38) dL_law_33 hk3 (by decide) (by decide) (by decide) rfl (by decide) (law_38 hX hbl hbA hin hL kk)
    · exact ii_tableIn (tgt := 1672) (k0 := nI 39) (a := 39) dL_law_33 hk3 (by decide) (by decide) (by decide) rfl (by decide) (law_39 hX hbl hbA hin hL kk)
    · exact ii_tableIn (tgt := 1706) (k0 := nI 40) (a := 40) dL_law_33 hk3 (by decide) (by decide) (by decide) rfl (by decide) (law_40 hX hbl hbA hin hL kk)
    · exact ii_tableIn (tgt := 1730) (k0 := nI 41) (a := 41) dL_law_33 hk3 (by decide) (by decide) (by decide) rfl (by decide) (law_41 hX hbl hbA hin hL kk)
    · exact ii_tableIn (tgt := 1753) (k0 := nI 42) (a := 42) dL_law_33 hk3 (by decide) (by decide) (by decide) rfl (by decide) (law_42 hX hbl hbA hin hL kk)
    · exact ii_tableIn (tgt := 1776) (k0 := nI 43) (a := 43) dL_law_33 hk3 (by decide) (by decide) (by decide) rfl (by decide) (law_43 hX hbl hbA hin hL kk)
    · exact ii_tableIn (tgt := 1799) (k0 := nI 44) (a := 44) dL_law_33 hk3 (by decide) (by decide) (by decide) rfl (by decide) (law_44 hX hbl hbA hin hL kk)
  · exact ii_tableOut (tgt := 1813) dL_law_33 (by omega) (by decide) (kk _ _ _ hL)
set_option maxHeartbeats 4000000 in
set_option maxRecDepth 100000 in
theorem law_loop {p : Program} {l : Launch} {e : Env} {s : State} {m : MethodId} {below : List Frame} {meth : Method} {c : Code} {D : va_G} {b L : Nat} {xs : Nat → Int32} {cI cJ cZ cH : ClassId} {ad : Nat → Nat} (hX : va_X b L xs s s.heap) (hbl : b < s.heap.size) (hLL : L ≤ 4096) (hr : meth.sig.returnType = ret) : ∀ (n i : Nat), i ≤ L + 8 → L < i + n → ∀ (cells slots : Nat) (ws : va_W), LawS cI cJ cZ cH ad cells slots ws → WX p l e room_1 s m #[.ref b] below meth c code RL lwG D [(cI, .int), (cJ, .long), (cZ, .boolean), (cH, .object "TinHouse$House")] (fun q : Nat => s.heap.size ≤ q) 4 cells slots (lw_Z below #[.ref b] s) ws 18 [(3, .int (nI i)), (2, .ref (ad 57)), (1, .ref (ad 0)), (0, .ref b)] [] := by
  have hbA : ¬ (fun q : Nat => s.heap.size ≤ q) b := Nat.not_le.mpr hbl
  have ex : ∀ (i : Nat), i ≤ L + 8 → ¬ i + 8 ≤ L → ∀ (cells slots : Nat) (ws : va_W), LawS cI cJ cZ cH ad cells slots ws → WX p l e room_1 s m #[.ref b] below meth c code RL lwG D [(cI, .int), (cJ, .long), (cZ, .boolean), (cH, .object "TinHouse$House")] (fun q : Nat => s.heap.size ≤ q) 4 cells slots (lw_Z below #[.ref b] s) ws 18 [(3, .int (nI i)), (2, .ref (ad 57)), (1, .ref (ad 0)), (0, .ref b)] [] := by
    intro i hi h8 cells slots ws hL
    obtain ⟨Z, tl, -, -, hb1, hb2⟩ := hL
    refine ii_iload_n 0 dL_law_18 rfl ?_
    refine ii_aload_n 3 dL_law_19 rfl ?_
    refine ii_slen hX hbl hbA dL_law_20 ?_
    refine ii_bipush dL_law_21 kb8 ?_
    refine ii_isub dL_law_23 ?_
    have hlt : nI L - 8 < nI i := by
      rw [Int32.lt_iff_toInt_lt, nI_m8 (by omega), nI_toInt (by omega)]
      omega
    refine ii_icmp_gt (tgt := 1819) (r := ()) (ET := some ()) (EF := none) (if_pos hlt) dL_law_24 (by decide) (fun _ => ?_) (fun z => absurd z (by simp))
    refine ii_iconst dL_law_1819 kc1 ?_
    intro C H locs ls hP hD hS hl
    obtain ⟨hx, hb, hml, hown, hts, hK, hlk, hA, hZ⟩ := C
    exact va_forget (fun q hq => hS.2.2 q hq) (W.widen (Nat.le_trans (Nat.le_add_right _ _) hb1) (Nat.le_trans (Nat.le_add_right _ _) hb2) (lw_ret hx hb hr hlk dL_law_1820))
  intro n
  induction n with
  | zero =>
    intro i hi hn cells slots ws hL
    exact ex i hi (by omega) cells slots ws hL
  | succ n ih =>
    intro i hi hn cells slots ws hL
    by_cases h8 : i + 8 ≤ L
    · refine ii_iload_n 0 dL_law_18 rfl ?_
      refine ii_aload_n 3 dL_law_19 rfl ?_
      refine ii_slen hX hbl hbA dL_law_20 ?_
      refine ii_bipush dL_law_21 kb8 ?_
      refine ii_isub dL_law_23 ?_
      have hlt : ¬ nI L - 8 < nI i := by
        rw [Int32.lt_iff_toInt_lt, nI_m8 (by omega), nI_toInt (by omega)]
        omega
      refine ii_icmp_gt (tgt := 1819) (r := ()) (ET := none) (EF := some ()) (if_neg hlt) dL_law_24 (by decide) (fun z => absurd z (by simp)) (fun _ => ?_)
      refine ii_aload_n 3 dL_law_27 rfl ?_
      refine ii_iload_n 0 dL_law_28 rfl ?_
      refine ii_sld hX hbl hbA (vp_in_nI (by omega) (by omega)) dL_law_29 ?_
      refine ii_bipush dL_law_30 kb63 ?_
      refine ii_iand dL_law_32 ?_
      refine law_switch hX hbl (fun j hj => by rw [nI_add]; exact vp_in_nI (by omega) (by omega)) hL (fun cells slots ws hL => ?_)
      refine ii_iinc (x := nI i) (w := 8) (K := fun z => if z = nI i + 8 then some () else none) (r := ()) (fun z => [(3, .int z), (2, .ref (ad 57)), (1, .ref (ad 0)), (0, .ref b)]) (by rw [lt_eq]; exact if_pos rfl) 0 dL_law_1813 rfl rfl (by decide) (fun z => rfl) (fun z hz => ?_)
      have hz2 : z = nI (i + 8) := by
        by_cases q : z = nI i + 8
        · rw [q]; exact nI_add _ 8
        · rw [if_neg q] at hz; cases hz
      subst hz2
      refine ii_goto (tgt := 18) dL_law_1816 (by decide) ?_
      exact ih (i + 8) (by omega) (by omega) cells slots ws hL
    · exact ex i hi h8 cells slots ws hL
