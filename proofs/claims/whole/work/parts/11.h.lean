/-! THE LAW: its start; what stands behind whole_start is the kit's -/
theorem dL_law_0 : decode cL_law 0 = .ok (.new 7, 3) := by decide +kernel
theorem dL_law_3 : decode cL_law 3 = .ok (.dup, 1) := by decide +kernel
theorem dL_law_4 : decode cL_law 4 = .ok (.invokespecial 9, 3) := by decide +kernel
theorem dL_law_7 : decode cL_law 7 = .ok (.astore_n 1, 1) := by decide +kernel
theorem dL_law_8 : decode cL_law 8 = .ok (.new 10, 3) := by decide +kernel
theorem dL_law_11 : decode cL_law 11 = .ok (.dup, 1) := by decide +kernel
theorem dL_law_12 : decode cL_law 12 = .ok (.invokespecial 12, 3) := by decide +kernel
theorem dL_law_15 : decode cL_law 15 = .ok (.astore_n 2, 1) := by decide +kernel
theorem dL_law_16 : decode cL_law 16 = .ok (.iconst 0, 1) := by decide +kernel
theorem dL_law_17 : decode cL_law 17 = .ok (.istore_n 3, 1) := by decide +kernel
def adW (w : va_W) (k : Nat) : Nat := match w[k]? with
  | some q => q.1
  | none => 0
def zW (w : va_W) (k : Nat) : va_E := match w[k]? with
  | some q => q.2
  | none => .inr (0, [])
theorem wz_of (w : va_W) : WZ w.length (adW w) (zW w) = w := by
  refine List.ext_getElem? (fun k => ?_)
  by_cases h : k < w.length
  · rw [wz_k h, List.getElem?_eq_getElem h]
    unfold adW zW
    rw [List.getElem?_eq_getElem h]
  · rw [List.getElem?_eq_none (by rw [wz_len]; omega), List.getElem?_eq_none (by omega)]
theorem okS_big {cI cJ cZ cH : ClassId} {ad : Nat → Nat} {k : Nat} {c : va_E} (h : 79 ≤ k) : okS cI cJ cZ cH ad k c := by
  unfold okS
  rw [List.getElem?_eq_none (Nat.le_trans (Nat.le_of_eq rfl) h)]
  exact trivial
theorem law_arr {U : State} {args : Array Value} {ty : FieldType} (hn : ∀ C, ty ≠ .object C) (h : (Cond.arrayClass ty).before args U = true) : ∃ cA, ArrOfT U cA ty ∧ va_RA U cA ty := by
  obtain ⟨cA, k, comp, h1, h2, h3⟩ := Cond.arrayClass_spec h
  refine ⟨cA, fun n z => ⟨fun k h => (by cases h), k, h2, comp, h3⟩, ?_⟩
  cases ty <;> first | exact h1 | exact absurd rfl (hn _)
theorem law_arrO {U : State} {args : Array Value} {C : String} (h : (Cond.arrayOver (.object C)).before args U = true) : ∃ cA, ArrOfT U cA (.object C) ∧ va_RA U cA (.object C) := by
  obtain ⟨comp, cA, k, h1, h2, h3, h4, h5⟩ := Cond.arrayOver_spec h
  exact ⟨cA, fun n z => ⟨fun k h => (by cases h), k, h3, comp, h4⟩, k, comp, h3, h4, h1, h5⟩
theorem law_usual {s : State} {b : Nat} {A : Nat → Prop} (hl : (Cond.laysStatic "TinHouse$Law" "USUAL" "[I").before #[Value.ref b] s = true) (hi : (Cond.initialized "TinHouse$Law").before #[Value.ref b] s = true) (hg : (Jvm.Cond.and given_1 narrow_1).before #[Value.ref b] s = true) (hA : ∀ a : Nat, a < s.heap.size → ¬ A a) : ∃ t : Nat, va_Z "TinHouse$Law" "USUAL" "[I" (.ref t) A s s.heap ∧ va_T .int t 3 (fun k => .int (ii_usual k)) A s s.heap := by
  have hs := flat_of_before _ hg
  have h0 : (Cond.arrayOf (Term.static "TinHouse$Law" "USUAL" "[I") .int).before #[Value.ref b] s = true := hs _ (by decide +kernel)
  have h1 : (Cond.eq (.length (Term.static "TinHouse$Law" "USUAL" "[I")) (.int 3)).before #[Value.ref b] s = true := hs _ (by decide +kernel)
  have e0 : (Cond.eq (.elem (Term.static "TinHouse$Law" "USUAL" "[I") (.int 0)) (.int 5)).before #[Value.ref b] s = true := hs _ (by decide +kernel)
  have e1 : (Cond.eq (.elem (Term.static "TinHouse$Law" "USUAL" "[I") (.int 1)) (.int 30)).before #[Value.ref b] s = true := hs _ (by decide +kernel)
  have e2 : (Cond.eq (.elem (Term.static "TinHouse$Law" "USUAL" "[I") (.int 2)) (.int 100)).before #[Value.ref b] s = true := hs _ (by decide +kernel)
  obtain ⟨t, ht, hT⟩ := va_Tof (A := A) (N := 3) (f := fun k => .int (ii_usual k)) (by decide) h0 (va_eqt h1) (fun j hj => by
    rcases (show j = 0 ∨ j = 1 ∨ j = 2 by omega) with rfl | rfl | rfl
    · exact va_eqt e0
    · exact va_eqt e1
    · exact va_eqt e2) hA
  exact ⟨t, va_Zof hl hi ht hA, hT⟩
theorem law_most {s : State} {b : Nat} {A : Nat → Prop} (hl : (Cond.laysStatic "TinHouse$Law" "MOST" "[I").before #[Value.ref b] s = true) (hi : (Cond.initialized "TinHouse$Law").before #[Value.ref b] s = true) (hg : (Jvm.Cond.and given_1 narrow_1).before #[Value.ref b] s = true) (hA : ∀ a : Nat, a < s.heap.size → ¬ A a) : ∃ t : Nat, va_Z "TinHouse$Law" "MOST" "[I" (.ref t) A s s.heap ∧ va_T .int t 3 (fun k => .int (ii_most k)) A s s.heap := by
  have hs := flat_of_before _ hg
  have h0 : (Cond.arrayOf (Term.static "TinHouse$Law" "MOST" "[I") .int).before #[Value.ref b] s = true := hs _ (by decide +kernel)
  have h1 : (Cond.eq (.length (Term.static "TinHouse$Law" "MOST" "[I")) (.int 3)).before #[Value.ref b] s = true := hs _ (by decide +kernel)
  have e0 : (Cond.eq (.elem (Term.static "TinHouse$Law" "MOST" "[I") (.int 0)) (.int 100)).before #[Value.ref b] s = true := hs _ (by decide +kernel)
  have e1 : (Cond.eq (.elem (Term.static "TinHouse$Law" "MOST" "[I") (.int 1)) (.int 1000)).before #[Value.ref b] s = true := hs _ (by decide +kernel)
  have e2 : (Cond.eq (.elem (Term.static "TinHouse$Law" "MOST" "[I") (.int 2)) (.int 200)).before #[Value.ref b] s = true := hs _ (by decide +kernel)
  obtain ⟨t, ht, hT⟩ := va_Tof (A := A) (N := 3) (f := fun k => .int (ii_most k)) (by decide) h0 (va_eqt h1) (fun j hj => by
    rcases (show j = 0 ∨ j = 1 ∨ j = 2 by omega) with rfl | rfl | rfl
    · exact va_eqt e0
    · exact va_eqt e1
    · exact va_eqt e2) hA
  exact ⟨t, va_Zof hl hi ht hA, hT⟩
theorem law_K {s : State} {args : Array Value} (hts : ∀ w ∈ lw_tbl, w.before args s = true) (htsG : ∀ w ∈ lwG, w.before args s = true) : ∃ (D : va_G) (cI cJ cZ cH : ClassId), va_K D vwCl [(cI, .int), (cJ, .long), (cZ, .boolean), (cH, .object "TinHouse$House")] s := by
  obtain ⟨c0, i0, k0⟩ := u_known (C := RX0) (T := TX0) (N := 15) (n := 15) htsG inX0 (htsG _ v_1_27)
  obtain ⟨c1, i1, k1⟩ := u_known (C := RX1) (T := TX1) (N := 8) (n := 8) htsG inX1 (htsG _ v_1_204)
  obtain ⟨c2, i2, k2⟩ := u_known (C := RX2) (T := TX2) (N := 3) (n := 3) htsG inX2 (htsG _ v_1_236)
  obtain ⟨c3, i3, k3⟩ := u_known (C := RX3) (T := TX3) (N := 4) (n := 4) htsG inX3 (htsG _ v_2_91)
  obtain ⟨c4, i4, k4⟩ := u_known (C := RX4) (T := TX4) (N := 9) (n := 9) htsG inX4 (htsG _ v_2_12)
  obtain ⟨c5, i5, k5⟩ := u_known (C := RX5) (T := TX5) (N := 5) (n := 5) htsG inX5 (htsG _ v_2_110)
  obtain ⟨c6, i6, k6⟩ := u_known (C := RX6) (T := TX6) (N := 2) (n := 2) htsG inX6 (htsG _ v_2_78)
  obtain ⟨c7, i7, k7⟩ := u_known (C := RX7) (T := TX7) (N := 10) (n := 10) htsG inX7 (htsG _ v_1_163)
  obtain ⟨c8, i8, k8⟩ := u_known (C := RX8) (T := TX8) (N := 4) (n := 4) htsG inX8 (htsG _ v_1_33)
  obtain ⟨c9, i9, k9⟩ := u_known (C := RX9) (T := TX9) (N := 2) (n := 2) htsG inX9 (htsG _ v_2_46)
  obtain ⟨c10, i10, k10⟩ := u_known (C := RX10) (T := TX10) (N := 4) (n := 4) htsG inX10 (htsG _ v_2_59)
  obtain ⟨c11, i11, k11⟩ := u_known (C := RX11) (T := TX11) (N := 13) (n := 13) htsG inX11 (htsG _ v_1_19)
  obtain ⟨c12, i12, k12⟩ := u_known (C := RX12) (T := TX12) (N := 25) (n := 25) htsG inX12 (htsG _ v_5_110)
  obtain ⟨cI, aI, bI⟩ := law_arr (fun C h => by cases h) (htsG _ v_1_65)
  obtain ⟨cJ, aJ, bJ⟩ := law_arr (fun C h => by cases h) (htsG _ v_1_234)
  obtain ⟨cZ, aZ, bZ⟩ := law_arr (fun C h => by cases h) (htsG _ v_5_191)
  obtain ⟨cH, aH, bH⟩ := law_arrO (C := "TinHouse$House") (hts _ (mt_1 (List.mem_of_getElem? (i := 161) (by decide +kernel))))
  refine ⟨(fun k => [c0, c1, c2, c3, c4, c5, c6, c7, c8, c9, c10, c11, c12].getD k c0, fun k => [i0, i1, i2, i3, i4, i5, i6, i7, i8, i9, i10, i11, i12].getD k i0), cI, cJ, cZ, cH, ⟨fun k q hq => ?_, fun k q hq => ?_⟩⟩
  · match k, hq with
    | 0, hq => cases hq; exact k0
    | 1, hq => cases hq; exact k1
    | 2, hq => cases hq; exact k2
    | 3, hq => cases hq; exact k3
    | 4, hq => cases hq; exact k4
    | 5, hq => cases hq; exact k5
    | 6, hq => cases hq; exact k6
    | 7, hq => cases hq; exact k7
    | 8, hq => cases hq; exact k8
    | 9, hq => cases hq; exact k9
    | 10, hq => cases hq; exact k10
    | 11, hq => cases hq; exact k11
    | 12, hq => cases hq; exact k12
    | k + 13, hq => simp [vwCl] at hq
  · match k, hq with
    | 0, hq => cases hq; exact ⟨aI, bI⟩
    | 1, hq => cases hq; exact ⟨aJ, bJ⟩
    | 2, hq => cases hq; exact ⟨aZ, bZ⟩
    | 3, hq => cases hq; exact ⟨aH, bH⟩
    | k + 4, hq => simp at hq
def law_W0 (cI cJ cZ cH : ClassId) (x y : Nat) (u v : Nat → Nat) (z1 z2 : Nat → Int32) : va_W :=
  (x, .inr (11, [.ref (u 0), .ref (u 27), .ref (u 28), .ref (u 31), .ref (u 33), .ref (u 35), .ref (u 43), .ref (u 44), .ref (u 48), .ref (u 50), .ref (u 54), .long (0 : Int64), .long (1 : Int64)])) :: ((u 0), .inr (0, [.ref (u 1), .ref (u 3), .ref (u 5), .ref (u 7), .ref (u 9), .ref (u 11), .ref (u 13), .ref (u 15), .ref (u 17), .ref (u 19), .ref (u 21), .ref (u 23), .ref (u 25), .int (10 : Int32), .int (9 : Int32)])) :: ((u 1), .inr (8, [.int (2 : Int32), .int (10 : Int32), .ref (u 2), .int 0])) :: ((u 2), .inl (cI, 20, .inl (fun _ => 0))) :: ((u 3), .inr (8, [.int (51 : Int32), .int (4 : Int32), .ref (u 4), .int (nI 4)])) :: ((u 4), .inl (cI, 204, .inl z2)) :: ((u 5), .inr (8, [.int (104 : Int32), .int (16 : Int32), .ref (u 6), .int 0])) :: ((u 6), .inl (cI, 1664, .inl (fun _ => 0))) :: ((u 7), .inr (8, [.int (7 : Int32), .int (40 : Int32), .ref (u 8), .int 0])) :: ((u 8), .inl (cI, 280, .inl (fun _ => 0))) :: ((u 9), .inr (8, [.int (3 : Int32), .int (60 : Int32), .ref (u 10), .int 0])) :: ((u 10), .inl (cI, 180, .inl (fun _ => 0))) :: ((u 11), .inr (8, [.int (13 : Int32), .int (3 : Int32), .ref (u 12), .int 0])) :: ((u 12), .inl (cI, 39, .inl (fun _ => 0))) :: ((u 13), .inr (8, [.int (1 : Int32), .int (6 : Int32), .ref (u 14), .int 0])) :: ((u 14), .inl (cI, 6, .inl (fun _ => 0))) :: ((u 15), .inr (8, [.int (3 : Int32), .int (12 : Int32), .ref (u 16), .int 0])) :: ((u 16), .inl (cI, 36, .inl (fun _ => 0))) :: ((u 17), .inr (8, [.int (3 : Int32), .int (40 : Int32), .ref (u 18), .int 0])) :: ((u 18), .inl (cI, 120, .inl (fun _ => 0))) :: ((u 19), .inr (8, [.int (5 : Int32), .int (30 : Int32), .ref (u 20), .int 0])) :: ((u 20), .inl (cI, 150, .inl (fun _ => 0))) :: ((u 21), .inr (8, [.int (3 : Int32), .int (10 : Int32), .ref (u 22), .int 0])) :: ((u 22), .inl (cI, 30, .inl (fun _ => 0))) :: ((u 23), .inr (8, [.int (3 : Int32), .int (6 : Int32), .ref (u 24), .int 0])) :: ((u 24), .inl (cI, 18, .inl (fun _ => 0))) :: ((u 25), .inr (8, [.int (3 : Int32), .int (1 : Int32), .ref (u 26), .int (nI 1)])) :: ((u 26), .inl (cI, 3, .inl z1)) :: ((u 27), .inl (cH, 2, .inr (.inr (.inr (.inr (fun _ => none)))))) :: ((u 28), .inr (7, [.ref (u 29), .int 0, .ref (u 30), .int 0, .int 0, .int 0, .int 0, .int 0, .int 0, .int 0])) :: ((u 29), .inl (cI, 50, .inl (fun _ => 0))) :: ((u 30), .inl (cI, 50, .inl (fun _ => 0))) :: ((u 31), .inr (1, [.ref (u 0), .ref (u 32), .int 0, .int 0, .int 0, .int 0, .int 0, .long 0])) :: ((u 32), .inl (cJ, 50, .inr (.inl (fun _ => 0)))) :: ((u 33), .inr (2, [.ref (u 0), .ref (u 31), .ref (u 34)])) :: ((u 34), .inl (cJ, 100, .inr (.inl (fun _ => 0)))) :: ((u 35), .inr (4, [.ref (u 0), .ref (u 33), .ref (u 36), .ref (u 37), .ref (u 38), .ref (u 39), .ref (u 40), .ref (u 41), .ref (u 42)])) :: ((u 36), .inl (cJ, 10, .inr (.inl (fun _ => 0)))) :: ((u 37), .inl (cJ, 100, .inr (.inl (fun _ => 0)))) :: ((u 38), .inl (cJ, 10, .inr (.inl (fun _ => 0)))) :: ((u 39), .inl (cJ, 1024, .inr (.inl (fun _ => 0)))) :: ((u 40), .inl (cI, 1024, .inl (fun _ => 0))) :: ((u 41), .inl (cI, 10, .inl (fun _ => 0))) :: ((u 42), .inl (cI, 10, .inl (fun _ => 0))) :: ((u 43), .inr (9, [.ref (u 0), .ref (u 31)])) :: ((u 44), .inr (10, [.ref (u 0), .ref (u 45), .ref (u 46), .ref (u 47)])) :: ((u 45), .inl (cI, 9, .inl (fun _ => 0))) :: ((u 46), .inl (cI, 9, .inl (fun _ => 0))) :: ((u 47), .inl (cI, 512, .inl (fun _ => 0))) :: ((u 48), .inr (6, [.ref (u 0), .ref (u 49)])) :: ((u 49), .inl (cI, 30, .inl (fun _ => 0))) :: ((u 50), .inr (3, [.ref (u 0), .ref (u 51), .ref (u 52), .ref (u 53)])) :: ((u 51), .inl (cI, 10, .inl (fun _ => 0))) :: ((u 52), .inl (cI, 10, .inl (fun _ => 0))) :: ((u 53), .inl (cI, 10, .inl (fun _ => 0))) :: ((u 54), .inr (5, [.long 0, .int 0, .ref (u 0), .ref (u 43), .ref (u 55)])) :: ((u 55), .inl (cJ, 54, .inr (.inl (fun _ => 0)))) :: (y, .inr (12, [.ref (v 0), .ref (v 1), .ref (v 2), .long 0, .long (1 : Int64), .int 0, .ref (v 3), .ref (v 4), .int 0, .ref (v 5), .ref (v 6), .ref (v 7), .ref (v 8), .ref (v 9), .ref (v 10), .ref (v 11), .ref (v 12), .ref (v 13), .ref (v 14), .ref (v 15), .ref (v 16), .ref (v 17), .ref (v 18), .ref (v 19), .ref (v 20)])) :: ((v 0), .inl (cI, 1951, .inl (upd (upd (fun _ => 0) ((11 : Int32) : Int32).toNatClampNeg (10 : Int32)) ((12 : Int32) : Int32).toNatClampNeg (9 : Int32)))) :: ((v 1), .inl (cI, 3902, .inl (fun _ => 0))) :: ((v 2), .inl (cZ, 2, .inl (fun _ => 0))) :: ((v 3), .inl (cI, 70, .inl (fun _ => 0))) :: ((v 4), .inl (cI, 70, .inl (fun _ => 0))) :: ((v 5), .inl (cI, 70, .inl (fun _ => 0))) :: ((v 6), .inl (cJ, 70, .inr (.inl (fun _ => 0)))) :: ((v 7), .inl (cJ, 5, .inr (.inl (fun _ => 0)))) :: ((v 8), .inl (cJ, 10, .inr (.inl (fun _ => 0)))) :: ((v 9), .inl (cJ, 1024, .inr (.inl (fun _ => 0)))) :: ((v 10), .inl (cI, 1024, .inl (fun _ => 0))) :: ((v 11), .inl (cZ, 100, .inl (fun _ => 0))) :: ((v 12), .inl (cZ, 110, .inl (fun _ => 0))) :: ((v 13), .inl (cI, 10, .inl (fun _ => 0))) :: ((v 14), .inl (cI, 9, .inl (fun _ => 0))) :: ((v 15), .inl (cJ, 512, .inr (.inl (fun _ => 0)))) :: ((v 16), .inl (cJ, 512, .inr (.inl (fun _ => 0)))) :: ((v 17), .inl (cI, 30, .inl (fun _ => 0))) :: ((v 18), .inl (cI, 10, .inl (fun _ => 0))) :: ((v 19), .inl (cI, 10, .inl (fun _ => 0))) :: ((v 20), .inl (cJ, 54, .inr (.inl (fun _ => 0)))) :: []
set_option maxHeartbeats 4000000 in
set_option maxRecDepth 100000 in
theorem law_first {cI cJ cZ cH : ClassId} {x y : Nat} {u v : Nat → Nat} {z1 z2 : Nat → Int32} (h1 : ∀ k, z1 k = 0) (h2 : ∀ k, z2 k = 0) : LawS cI cJ cZ cH (adW (law_W0 cI cJ cZ cH x y u v z1 z2)) 79 15541 (law_W0 cI cJ cZ cH x y u v z1 z2) := by
  have hst : upd (upd (fun _ => 0) ((11 : Int32) : Int32).toNatClampNeg (10 : Int32)) ((12 : Int32) : Int32).toNatClampNeg (9 : Int32) = newS := by
    rw [show ((11 : Int32) : Int32).toNatClampNeg = 11 by decide, show ((12 : Int32) : Int32).toNatClampNeg = 12 by decide]
    rfl
  have hr : Rel actK (tcZ (zW (law_W0 cI cJ cZ cH x y u v z1 z2))) (trZ (zW (law_W0 cI cJ cZ cH x y u v z1 z2))) 10 9 (upd (upd (fun _ => 0) ((11 : Int32) : Int32).toNatClampNeg (10 : Int32)) ((12 : Int32) : Int32).toNatClampNeg (9 : Int32)) := by
    rw [hst]
    exact Rel_tab (REL_NEW h1 h2) rfl rfl rfl rfl rfl rfl rfl rfl rfl rfl rfl rfl rfl rfl rfl rfl rfl rfl rfl rfl rfl rfl rfl rfl rfl rfl
  refine ⟨zW (law_W0 cI cJ cZ cH x y u v z1 z2), [], ?_, ⟨?_, hr, rfl, rfl, rfl, rfl, rfl, ⟨fun _ => none, 0, by decide, rfl, fun k hk => ⟨rfl, rfl⟩⟩⟩, ?_, ?_⟩
  · rw [List.append_nil]; exact (wz_of (law_W0 cI cJ cZ cH x y u v z1 z2)).symm
  · intro k
    match k with
    | 0 => rfl
    | 1 => rfl
    | 2 => rfl
    | 3 => rfl
    | 4 => rfl
    | 5 => rfl
    | 6 => rfl
    | 7 => rfl
    | 8 => rfl
    | 9 => rfl
    | 10 => rfl
    | 11 => rfl
    | 12 => rfl
    | 13 => rfl
    | 14 => rfl
    | 15 => rfl
    | 16 => rfl
    | 17 => rfl
    | 18 => rfl
    | 19 => rfl
    | 20 => rfl
    | 21 => rfl
    | 22 => rfl
    | 23 => rfl
    | 24 => rfl
    | 25 => rfl
    | 26 => rfl
    | 27 => rfl
    | 28 => rfl
    | 29 => rfl
    | 30 => rfl
    | 31 => rfl
    | 32 => rfl
    | 33 => rfl
    | 34 => rfl
    | 35 => rfl
    | 36 => rfl
    | 37 => rfl
    | 38 => rfl
    | 39 => rfl
    | 40 => rfl
    | 41 => rfl
    | 42 => rfl
    | 43 => rfl
    | 44 => rfl
    | 45 => rfl
    | 46 => rfl
    | 47 => rfl
    | 48 => rfl
    | 49 => rfl
    | 50 => rfl
    | 51 => rfl
    | 52 => rfl
    | 53 => rfl
    | 54 => rfl
    | 55 => rfl
    | 56 => rfl
    | 57 => rfl
    | 58 => rfl
    | 59 => rfl
    | 60 => rfl
    | 61 => rfl
    | 62 => rfl
    | 63 => rfl
    | 64 => rfl
    | 65 => rfl
    | 66 => rfl
    | 67 => rfl
    | 68 => rfl
    | 69 => rfl
    | 70 => rfl
    | 71 => rfl
    | 72 => rfl
    | 73 => rfl
    | 74 => rfl
    | 75 => rfl
    | 76 => rfl
    | 77 => rfl
    | 78 => rfl
    | k + 79 => exact okS_big (by omega)
  · show (79 : Nat) + 27 * (1 + 1) ≤ 600000
    exact Nat.le_of_ble_eq_true rfl
  · show (15541 : Nat) + 2817 * (1 + 1) ≤ 7302250
    exact Nat.le_of_ble_eq_true rfl
set_option maxHeartbeats 4000000 in
set_option maxRecDepth 100000 in
theorem whole_start {p : Program} {e : Env} {s : State} {m : MethodId} {below : List Frame} {meth : Method} {c : Code} (l : Launch) (hflags : l.flags = flags0) {b L : Nat} {xs : Nat → Int32} (hL : L ≤ 4096) (C0 : lw_At p s m meth c b L xs) : W p l e room_1 s m #[Value.ref b] below meth c s.heap [] 0 0 (lw_Z below #[Value.ref b] s) (entryFrame m ([Value.ref b] : List Value).toArray 4) := by
  obtain ⟨hx, hb, hr, hml, hown, hts, hX, hbl, hlocks, hgv⟩ := id C0
  have htsG : ∀ w ∈ lwG, w.before #[Value.ref b] s = true := fun w hw => hts w (List.mem_filter.mp hw).1
  have hA : ∀ q : Nat, s.heap.size ≤ q → (fun q : Nat => s.heap.size ≤ q) q := fun _ h => h
  have hA2 : ∀ a : Nat, a < s.heap.size → ¬ (fun q : Nat => s.heap.size ≤ q) a := fun a h => Nat.not_le.mpr h
  have hini : (Cond.initialized "TinHouse$Law").before #[Value.ref b] s = true := hts _ (mt_1 (List.mem_of_getElem? (i := 6) (by decide +kernel)))
  obtain ⟨t1, hz1, hz2⟩ := law_usual (hts _ (mt_3 (List.mem_of_getElem? (i := 133) (by decide +kernel)))) hini hgv hA2
  obtain ⟨t2, hz3, hz4⟩ := law_most (hts _ (mt_3 (List.mem_of_getElem? (i := 135) (by decide +kernel)))) hini hgv hA2
  have hZ : ii_Z (fun q : Nat => s.heap.size ≤ q) s s.heap := ⟨t1, t2, hz1, hz2, hz3, hz4⟩
  obtain ⟨D, cI, cJ, cZ, cH, hK⟩ := law_K hts htsG
  have hao : va_AO "TinHouse$House" s := va_AO.of (hts (.arrayOver (.object "TinHouse$House")) (mt_1 (List.mem_of_getElem? (i := 161) (by decide +kernel))))
  have hnw : va_Nw (.methodLinkNest RX11 22 yX7_init RX11) s := va_Nw.of rfl (hts (.methodLinkNest RX11 22 yX7_init RX11) (mt_1 (List.mem_of_getElem? (i := 164) (by decide +kernel))))
  obtain ⟨z1, z2, e0, hz1', hz2'⟩ := C_tail
  have K : WX p l e room_1 s m #[.ref b] below meth c code RL lwG D [(cI, .int), (cJ, .long), (cZ, .boolean), (cH, .object "TinHouse$House")] (fun q : Nat => s.heap.size ≤ q) 4 0 0 (lw_Z below #[.ref b] s) [] 0 [(0, .ref b)] [] := by
    refine ii_new (C := RX11) (T := TX11) (N := 13) (ci := 11) (fs := [.null, .null, .null, .null, .null, .null, .null, .null, .null, .null, .null, .long 0, .long 0]) (ty := tyX11) inX11 tyX11_ok v_1_18 v_1_19 v_1_1 rfl (fun j hj => by rcases (show j = 0 ∨ j = 1 ∨ j = 2 ∨ j = 3 ∨ j = 4 ∨ j = 5 ∨ j = 6 ∨ j = 7 ∨ j = 8 ∨ j = 9 ∨ j = 10 ∨ j = 11 ∨ j = 12 by omega) with rfl | rfl | rfl | rfl | rfl | rfl | rfl | rfl | rfl | rfl | rfl | rfl | rfl <;> rfl) (Nat.le_of_ble_eq_true rfl) (Nat.le_of_ble_eq_true rfl) dL_law_0 (fun x => ?_)
    refine ii_dup dL_law_3 rfl ?_
    refine ii_callCX (As := []) (wr := []) (st := [.ref x]) hao hnw (c_X11_init l D cI cJ cZ cH x e0) (goodGL azX11_init) rfl w_1_20 w_1_21 v_1_1 rfl eC_X11_init ⟨Nat.le_of_ble_eq_true rfl, Nat.le_of_ble_eq_true rfl⟩ rfl [0] [] rfl rfl rfl rfl (by decide) (fun _ => rfl) (Nat.le_of_ble_eq_true rfl) (Nat.le_of_ble_eq_true rfl) (Nat.le_of_ble_eq_true rfl) rfl dL_law_4 (fun u => ?_)
    refine ii_astore_n (x := x) (lv' := [(1, .ref x), (0, .ref b)]) dL_law_7 rfl (by decide) rfl ?_
    refine ii_new (C := RX12) (T := TX12) (N := 25) (ci := 12) (fs := [.null, .null, .null, .long 0, .long 0, .int 0, .null, .null, .int 0, .null, .null, .null, .null, .null, .null, .null, .null, .null, .null, .null, .null, .null, .null, .null, .null]) (ty := tyX12) inX12 tyX12_ok v_5_109 v_5_110 v_1_14 rfl (fun j hj => by rcases (show j = 0 ∨ j = 1 ∨ j = 2 ∨ j = 3 ∨ j = 4 ∨ j = 5 ∨ j = 6 ∨ j = 7 ∨ j = 8 ∨ j = 9 ∨ j = 10 ∨ j = 11 ∨ j = 12 ∨ j = 13 ∨ j = 14 ∨ j = 15 ∨ j = 16 ∨ j = 17 ∨ j = 18 ∨ j = 19 ∨ j = 20 ∨ j = 21 ∨ j = 22 ∨ j = 23 ∨ j = 24 by omega) with rfl | rfl | rfl | rfl | rfl | rfl | rfl | rfl | rfl | rfl | rfl | rfl | rfl | rfl | rfl | rfl | rfl | rfl | rfl | rfl | rfl | rfl | rfl | rfl | rfl <;> rfl) (Nat.le_of_ble_eq_true rfl) (Nat.le_of_ble_eq_true rfl) dL_law_8 (fun y => ?_)
    refine ii_dup dL_law_11 rfl ?_
    refine ii_callCI (As := []) (wr := [(x, .inr (11, [.ref (u 0), .ref (u 27), .ref (u 28), .ref (u 31), .ref (u 33), .ref (u 35), .ref (u 43), .ref (u 44), .ref (u 48), .ref (u 50), .ref (u 54), .long (0 : Int64), .long (1 : Int64)])), ((u 0), .inr (0, [.ref (u 1), .ref (u 3), .ref (u 5), .ref (u 7), .ref (u 9), .ref (u 11), .ref (u 13), .ref (u 15), .ref (u 17), .ref (u 19), .ref (u 21), .ref (u 23), .ref (u 25), .int (10 : Int32), .int (9 : Int32)])), ((u 1), .inr (8, [.int (2 : Int32), .int (10 : Int32), .ref (u 2), .int 0])), ((u 2), .inl (cI, 20, .inl (fun _ => 0))), ((u 3), .inr (8, [.int (51 : Int32), .int (4 : Int32), .ref (u 4), .int (nI 4)])), ((u 4), .inl (cI, 204, .inl z2)), ((u 5), .inr (8, [.int (104 : Int32), .int (16 : Int32), .ref (u 6), .int 0])), ((u 6), .inl (cI, 1664, .inl (fun _ => 0))), ((u 7), .inr (8, [.int (7 : Int32), .int (40 : Int32), .ref (u 8), .int 0])), ((u 8), .inl (cI, 280, .inl (fun _ => 0))), ((u 9), .inr (8, [.int (3 : Int32), .int (60 : Int32), .ref (u 10), .int 0])), ((u 10), .inl (cI, 180, .inl (fun _ => 0))), ((u 11), .inr (8, [.int (13 : Int32), .int (3 : Int32), .ref (u 12), .int 0])), ((u 12), .inl (cI, 39, .inl (fun _ => 0))), ((u 13), .inr (8, [.int (1 : Int32), .int (6 : Int32), .ref (u 14), .int 0])), ((u 14), .inl (cI, 6, .inl (fun _ => 0))), ((u 15), .inr (8, [.int (3 : Int32), .int (12 : Int32), .ref (u 16), .int 0])), ((u 16), .inl (cI, 36, .inl (fun _ => 0))), ((u 17), .inr (8, [.int (3 : Int32), .int (40 : Int32), .ref (u 18), .int 0])), ((u 18), .inl (cI, 120, .inl (fun _ => 0))), ((u 19), .inr (8, [.int (5 : Int32), .int (30 : Int32), .ref (u 20), .int 0])), ((u 20), .inl (cI, 150, .inl (fun _ => 0))), ((u 21), .inr (8, [.int (3 : Int32), .int (10 : Int32), .ref (u 22), .int 0])), ((u 22), .inl (cI, 30, .inl (fun _ => 0))), ((u 23), .inr (8, [.int (3 : Int32), .int (6 : Int32), .ref (u 24), .int 0])), ((u 24), .inl (cI, 18, .inl (fun _ => 0))), ((u 25), .inr (8, [.int (3 : Int32), .int (1 : Int32), .ref (u 26), .int (nI 1)])), ((u 26), .inl (cI, 3, .inl z1)), ((u 27), .inl (cH, 2, .inr (.inr (.inr (.inr (fun _ => none)))))), ((u 28), .inr (7, [.ref (u 29), .int 0, .ref (u 30), .int 0, .int 0, .int 0, .int 0, .int 0, .int 0, .int 0])), ((u 29), .inl (cI, 50, .inl (fun _ => 0))), ((u 30), .inl (cI, 50, .inl (fun _ => 0))), ((u 31), .inr (1, [.ref (u 0), .ref (u 32), .int 0, .int 0, .int 0, .int 0, .int 0, .long 0])), ((u 32), .inl (cJ, 50, .inr (.inl (fun _ => 0)))), ((u 33), .inr (2, [.ref (u 0), .ref (u 31), .ref (u 34)])), ((u 34), .inl (cJ, 100, .inr (.inl (fun _ => 0)))), ((u 35), .inr (4, [.ref (u 0), .ref (u 33), .ref (u 36), .ref (u 37), .ref (u 38), .ref (u 39), .ref (u 40), .ref (u 41), .ref (u 42)])), ((u 36), .inl (cJ, 10, .inr (.inl (fun _ => 0)))), ((u 37), .inl (cJ, 100, .inr (.inl (fun _ => 0)))), ((u 38), .inl (cJ, 10, .inr (.inl (fun _ => 0)))), ((u 39), .inl (cJ, 1024, .inr (.inl (fun _ => 0)))), ((u 40), .inl (cI, 1024, .inl (fun _ => 0))), ((u 41), .inl (cI, 10, .inl (fun _ => 0))), ((u 42), .inl (cI, 10, .inl (fun _ => 0))), ((u 43), .inr (9, [.ref (u 0), .ref (u 31)])), ((u 44), .inr (10, [.ref (u 0), .ref (u 45), .ref (u 46), .ref (u 47)])), ((u 45), .inl (cI, 9, .inl (fun _ => 0))), ((u 46), .inl (cI, 9, .inl (fun _ => 0))), ((u 47), .inl (cI, 512, .inl (fun _ => 0))), ((u 48), .inr (6, [.ref (u 0), .ref (u 49)])), ((u 49), .inl (cI, 30, .inl (fun _ => 0))), ((u 50), .inr (3, [.ref (u 0), .ref (u 51), .ref (u 52), .ref (u 53)])), ((u 51), .inl (cI, 10, .inl (fun _ => 0))), ((u 52), .inl (cI, 10, .inl (fun _ => 0))), ((u 53), .inl (cI, 10, .inl (fun _ => 0))), ((u 54), .inr (5, [.long 0, .int 0, .ref (u 0), .ref (u 43), .ref (u 55)])), ((u 55), .inl (cJ, 54, .inr (.inl (fun _ => 0))))]) (st := [.ref y]) (wN := fun v => law_W0 cI cJ cZ cH x y u v z1 z2) (c_X12_init l D cI cJ cZ cH y) (goodGL azX12_init) rfl w_5_111 w_5_112 v_1_14 rfl eC_X12_init ⟨Nat.le_of_ble_eq_true rfl, Nat.le_of_ble_eq_true rfl⟩ rfl [57] [0, 1, 2, 3, 4, 5, 6, 7, 8, 9, 10, 11, 12, 13, 14, 15, 16, 17, 18, 19, 20, 21, 22, 23, 24, 25, 26, 27, 28, 29, 30, 31, 32, 33, 34, 35, 36, 37, 38, 39, 40, 41, 42, 43, 44, 45, 46, 47, 48, 49, 50, 51, 52, 53, 54, 55, 56] rfl rfl rfl rfl (by decide) (fun _ => rfl) (Nat.le_of_ble_eq_true rfl) (Nat.le_of_ble_eq_true rfl) (Nat.le_of_ble_eq_true rfl) rfl dL_law_12 (fun v => ?_)
    refine ii_astore_n (x := y) (lv' := [(2, .ref y), (1, .ref x), (0, .ref b)]) dL_law_15 rfl (by decide) rfl ?_
    refine ii_iconst dL_law_16 kc0 ?_
    refine ii_istore_n (lv' := [(3, .int 0), (2, .ref y), (1, .ref x), (0, .ref b)]) dL_law_17 rfl (by decide) rfl ?_
    exact law_loop hX hbl hL hr (L + 1) 0 (by omega) (by omega) 79 15541 _ (law_first hz1' hz2')
  have hS : va_S (fun q : Nat => s.heap.size ≤ q) s.heap s.heap [] := va_S.rf
  have hP : va_P D vwCl [] s.heap := fun k q h => by simp at h
  have hD : va_D (fun q : Nat => s.heap.size ≤ q) [] := ⟨fun i j p q h => by simp at h, fun k q h => by simp at h⟩
  have hl := lv_entry ([.ref b]) (n := 4) (Nat.le_of_ble_eq_true rfl)
  rw [lg_entry_eq]
  generalize (lg_sl ([.ref b]) ++ List.replicate (4 - (lg_sl ([.ref b])).length) Slot.unset).toArray = ls at hl ⊢
  have hl : lv_has ls 4 [(0, .ref b)] := hl
  exact K ⟨hx, hb, hml, hown, htsG, hK, hlocks, hA, hZ⟩ s.heap [] ls hP hD hS hl
