/-! THE LAW: cases -/
theorem dL_law_696 : decode cL_law 696 = .ok (.aload_n 1, 1) := by decide +kernel
theorem dL_law_697 : decode cL_law 697 = .ok (.aload_n 0, 1) := by decide +kernel
theorem dL_law_698 : decode cL_law 698 = .ok (.iload_n 3, 1) := by decide +kernel
theorem dL_law_699 : decode cL_law 699 = .ok (.iconst 1, 1) := by decide +kernel
theorem dL_law_700 : decode cL_law 700 = .ok (.iadd, 1) := by decide +kernel
theorem dL_law_701 : decode cL_law 701 = .ok (.iaload, 1) := by decide +kernel
theorem dL_law_702 : decode cL_law 702 = .ok (.aload_n 0, 1) := by decide +kernel
theorem dL_law_703 : decode cL_law 703 = .ok (.iload_n 3, 1) := by decide +kernel
theorem dL_law_704 : decode cL_law 704 = .ok (.iconst 2, 1) := by decide +kernel
theorem dL_law_705 : decode cL_law 705 = .ok (.iadd, 1) := by decide +kernel
theorem dL_law_706 : decode cL_law 706 = .ok (.iaload, 1) := by decide +kernel
theorem dL_law_707 : decode cL_law 707 = .ok (.invokevirtual 64, 3) := by decide +kernel
theorem dL_law_710 : decode cL_law 710 = .ok (.aload_n 2, 1) := by decide +kernel
theorem dL_law_711 : decode cL_law 711 = .ok (.aload_n 0, 1) := by decide +kernel
theorem dL_law_712 : decode cL_law 712 = .ok (.iload_n 3, 1) := by decide +kernel
theorem dL_law_713 : decode cL_law 713 = .ok (.iconst 1, 1) := by decide +kernel
theorem dL_law_714 : decode cL_law 714 = .ok (.iadd, 1) := by decide +kernel
theorem dL_law_715 : decode cL_law 715 = .ok (.iaload, 1) := by decide +kernel
theorem dL_law_716 : decode cL_law 716 = .ok (.aload_n 0, 1) := by decide +kernel
theorem dL_law_717 : decode cL_law 717 = .ok (.iload_n 3, 1) := by decide +kernel
theorem dL_law_718 : decode cL_law 718 = .ok (.iconst 2, 1) := by decide +kernel
theorem dL_law_719 : decode cL_law 719 = .ok (.iadd, 1) := by decide +kernel
theorem dL_law_720 : decode cL_law 720 = .ok (.iaload, 1) := by decide +kernel
theorem dL_law_721 : decode cL_law 721 = .ok (.invokevirtual 68, 3) := by decide +kernel
theorem dL_law_724 : decode cL_law 724 = .ok (.lcmp, 1) := by decide +kernel
theorem dL_law_725 : decode cL_law 725 = .ok (.ifCond .eq 1088, 3) := by decide +kernel
theorem eL_X11_owed : yX11_owed.cls = RX11 ∧ yX11_owed.cls ≠ "java/lang/invoke/MethodHandle" ∧ yX11_owed.cls ≠ "java/lang/invoke/VarHandle" ∧ (parseMethodDescriptor yX11_owed.desc).map (fun d => d.parameters.length) = some 2 := by decide +kernel
theorem eL_X12_owed : yX12_owed.cls = RX12 ∧ yX12_owed.cls ≠ "java/lang/invoke/MethodHandle" ∧ yX12_owed.cls ≠ "java/lang/invoke/VarHandle" ∧ (parseMethodDescriptor yX12_owed.desc).map (fun d => d.parameters.length) = some 2 := by decide +kernel
set_option maxHeartbeats 4000000 in
set_option maxRecDepth 100000 in
theorem law_11 {l : Launch} {p : Program} {e : Env} {s : State} {m : MethodId} {below : List Frame} {meth : Method} {c : Code} {D : va_G} {A : Nat → Prop} {cells slots : Nat} {Q : State → Prop} {b L : Nat} {xs : Nat → Int32} {i : Int32} {cI cJ cZ cH : ClassId} {ad : Nat → Nat} {ws : va_W} (hX : va_X b L xs s s.heap) (hbl : b < s.heap.size) (hbA : ¬ A b) (hin : ∀ j : Nat, j < 8 → vp_in (i + nI j) L) (hL : LawS cI cJ cZ cH ad cells slots ws) (kk : ∀ cells slots ws, LawS cI cJ cZ cH ad cells slots ws → WX p l e room_1 s m #[.ref b] below meth c code RL lwG D [(cI, .int), (cJ, .long), (cZ, .boolean), (cH, .object "TinHouse$House")] A 4 cells slots Q ws 1813 [(3, .int i), (2, .ref (ad 57)), (1, .ref (ad 0)), (0, .ref b)] []) : WX p l e room_1 s m #[.ref b] below meth c code RL lwG D [(cI, .int), (cJ, .long), (cZ, .boolean), (cH, .object "TinHouse$House")] A 4 cells slots Q ws 696 [(3, .int i), (2, .ref (ad 57)), (1, .ref (ad 0)), (0, .ref b)] [] := by
  obtain ⟨Z, tl, rfl, ⟨hS, h, hs1, hs2, hs3, ha1, ha2, him⟩, hb1, hb2⟩ := hL
  have hcs : cells ≤ room_1.cells := Nat.le_trans (Nat.le_add_right _ _) hb1
  have hss : slots ≤ room_1.slots := Nat.le_trans (Nat.le_add_right _ _) hb2
  refine ii_aload_n 2 dL_law_696 rfl ?_
  refine ii_aload_n 3 dL_law_697 rfl ?_
  refine ii_iload_n 0 dL_law_698 rfl ?_
  refine ii_iconst dL_law_699 kc1 ?_
  refine ii_iadd dL_law_700 ?_
  refine ii_sld hX hbl hbA (hin 1 (by decide)) dL_law_701 ?_
  refine ii_aload_n 3 dL_law_702 rfl ?_
  refine ii_iload_n 0 dL_law_703 rfl ?_
  refine ii_iconst dL_law_704 kc2 ?_
  refine ii_iadd dL_law_705 ?_
  refine ii_sld hX hbl hbA (hin 2 (by decide)) dL_law_706 ?_
  obtain ⟨o1, o2, e1, e2, q1⟩ := (P_owed h _ _ _ _ _ _ _ _ _ _ _ _ _ _ _ _ _ : Two (F_X11_owed (flL 7 (Z 32)) (flI 3 (Z 32)) (flI 2 (Z 32)) (flI 4 (Z 32)) (flI 6 (Z 32)) (arL (Z 33)) (flI 5 (Z 32)) (arL (Z 35)) (tcZ Z 2) (trZ Z 2) (tcZ Z 3) (trZ Z 3) (tcZ Z 0) (trZ Z 0) (tcZ Z 4) (trZ Z 4) (xs (i + 1).toNatClampNeg) (xs (i + 2).toNatClampNeg)) (F_X12_owed (arL (Z 65)) (arI (Z 58)) (arI (Z 61)) (flI 5 (Z 57)) (arL (Z 64)) (flI 8 (Z 57)) (arI (Z 63)) (arI (Z 62)) (xs (i + 1).toNatClampNeg) (xs (i + 2).toNatClampNeg)) _)
  refine ii_callZl (nW := 79) (ad := ad) (Z := Z) (setl Z [(35, .inl (cJ, 100, .inr (.inl o1.2.2.2.2.2.2.2.2))), (33, .inl (cJ, 50, .inr (.inl o1.2.2.2.2.2.2.1))), (32, .inr (1, [.ref (ad 1), .ref (ad 33), .int o1.2.2.2.1, .int o1.2.2.1, .int o1.2.2.2.2.1, .int o1.2.2.2.2.2.2.2.1, .int o1.2.2.2.2.2.1, .long o1.2.1]))]) (tl := tl) (As := [.int (xs (i + 1).toNatClampNeg), .int (xs (i + 2).toNatClampNeg)]) (st := []) (c_X11_owed l D cI cJ cZ cH (ad 0) (ad 28) (ad 32) (ad 33) (ad 34) (ad 35) (ad 36) (ad 1) (ad 6) (ad 7) (ad 8) (ad 9) (ad 14) (ad 20) (ad 24) (ad 22) (ad 2) (ad 3) (ad 10) (ad 11) (ad 26) (ad 12) (ad 16) (ad 4) (ad 18) (ad 51) (ad 55) (ad 49) (ad 29) (ad 44) (ad 45) (flL 11 (Z 0)) (flL 12 (Z 0)) (flL 7 (Z 32)) (flI 3 (Z 32)) (flI 2 (Z 32)) (flI 4 (Z 32)) (flI 6 (Z 32)) (arL (Z 33)) (flI 5 (Z 32)) (arL (Z 35)) (tcZ Z 2) (trZ Z 2) (tcZ Z 3) (trZ Z 3) (tcZ Z 0) (trZ Z 0) (flI 14 (Z 1)) (flI 13 (Z 1)) (tcZ Z 4) (trZ Z 4) (xs (i + 1).toNatClampNeg) (xs (i + 2).toNatClampNeg) e1) gzL_64 rfl rfl rfl eL_X11_owed ⟨Nat.le_of_ble_eq_true rfl, Nat.le_of_ble_eq_true rfl⟩ rfl 0 (by decide) rfl (sh_0 hS) rfl [0, 32, 33, 34, 35, 1, 6, 7, 8, 9, 2, 3, 10, 11] (zc_cons rfl (sh_0 hS) (zc_cons rfl (sh_32 hS) (zc_cons rfl (sh_33 hS) (zc_cons rfl (sh_34 hS) (zc_cons rfl (sh_35 hS) (zc_cons rfl (sh_1 hS) (zc_cons rfl (sh_6 hS) (zc_cons rfl (sh_7 hS) (zc_cons rfl (sh_8 hS) (zc_cons rfl (sh_9 hS) (zc_cons rfl (sh_2 hS) (zc_cons rfl (sh_3 hS) (zc_cons rfl (sh_10 hS) (zc_cons rfl (sh_11 hS) zc_nil)))))))))))))) (zc_cons rfl (zs (sh_0 hS) rfl) (zc_cons rfl rfl (zc_cons rfl rfl (zc_cons rfl (zs (sh_34 hS) rfl) (zc_cons rfl rfl (zc_cons rfl (zs (sh_1 hS) rfl) (zc_cons rfl (zs (sh_6 hS) rfl) (zc_cons rfl (zs (sh_7 hS) rfl) (zc_cons rfl (zs (sh_8 hS) rfl) (zc_cons rfl (zs (sh_9 hS) rfl) (zc_cons rfl (zs (sh_2 hS) rfl) (zc_cons rfl (zs (sh_3 hS) rfl) (zc_cons rfl (zs (sh_10 hS) rfl) (zc_cons rfl (zs (sh_11 hS) rfl) zc_nil)))))))))))))) (setl_out rfl) rfl rfl (Nat.le_of_ble_eq_true rfl) hcs hss rfl dL_law_707 ?_
  refine ii_aload_n 1 dL_law_710 rfl ?_
  refine ii_aload_n 3 dL_law_711 rfl ?_
  refine ii_iload_n 0 dL_law_712 rfl ?_
  refine ii_iconst dL_law_713 kc1 ?_
  refine ii_iadd dL_law_714 ?_
  refine ii_sld hX hbl hbA (hin 1 (by decide)) dL_law_715 ?_
  refine ii_aload_n 3 dL_law_716 rfl ?_
  refine ii_iload_n 0 dL_law_717 rfl ?_
  refine ii_iconst dL_law_718 kc2 ?_
  refine ii_iadd dL_law_719 ?_
  refine ii_sld hX hbl hbA (hin 2 (by decide)) dL_law_720 ?_
  refine ii_callZl (nW := 79) (ad := ad) (Z := (setl Z [(35, .inl (cJ, 100, .inr (.inl o1.2.2.2.2.2.2.2.2))), (33, .inl (cJ, 50, .inr (.inl o1.2.2.2.2.2.2.1))), (32, .inr (1, [.ref (ad 1), .ref (ad 33), .int o1.2.2.2.1, .int o1.2.2.1, .int o1.2.2.2.2.1, .int o1.2.2.2.2.2.2.2.1, .int o1.2.2.2.2.2.1, .long o1.2.1]))])) (setl (setl Z [(35, .inl (cJ, 100, .inr (.inl o1.2.2.2.2.2.2.2.2))), (33, .inl (cJ, 50, .inr (.inl o1.2.2.2.2.2.2.1))), (32, .inr (1, [.ref (ad 1), .ref (ad 33), .int o1.2.2.2.1, .int o1.2.2.1, .int o1.2.2.2.2.1, .int o1.2.2.2.2.2.2.2.1, .int o1.2.2.2.2.2.1, .long o1.2.1]))]) [(65, .inl (cJ, 5, .inr (.inl o2.2.1))), (64, .inl (cJ, 70, .inr (.inl o2.2.2.2.2.1))), (63, .inl (cI, 70, .inl o2.2.2.2.2.2.2.1)), (62, .inl (cI, 70, .inl o2.2.2.2.2.2.2.2)), (61, .inl (cI, 70, .inl o2.2.2.1)), (57, .inr (12, [.ref (ad 58), .ref (ad 59), .ref (ad 60), .long (flL 11 (Z 0)), .long (flL 12 (Z 0)), .int o2.2.2.2.1, .ref (ad 61), .ref (ad 62), .int o2.2.2.2.2.2.1, .ref (ad 63), .ref (ad 64), .ref (ad 65), .ref (ad 66), .ref (ad 67), .ref (ad 68), .ref (ad 69), .ref (ad 70), .ref (ad 71), .ref (ad 72), .ref (ad 73), .ref (ad 74), .ref (ad 75), .ref (ad 76), .ref (ad 77), .ref (ad 78)]))]) (tl := tl) (As := [.int (xs (i + 1).toNatClampNeg), .int (xs (i + 2).toNatClampNeg)]) (st := [.long o1.1]) (c_X12_owed l D cI cJ cZ cH (ad 57) (ad 72) (ad 77) (ad 70) (ad 65) (ad 59) (ad 60) (ad 76) (ad 75) (ad 68) (ad 66) (ad 74) (ad 69) (ad 71) (ad 78) (ad 58) (ad 61) (ad 73) (ad 67) (ad 64) (ad 63) (ad 62) (flL 11 (Z 0)) (flL 12 (Z 0)) (arL (Z 65)) (arI (Z 58)) (arI (Z 61)) (flI 5 (Z 57)) (arL (Z 64)) (flI 8 (Z 57)) (arI (Z 63)) (arI (Z 62)) (xs (i + 1).toNatClampNeg) (xs (i + 2).toNatClampNeg) e2) gzL_68 rfl rfl rfl eL_X12_owed ⟨Nat.le_of_ble_eq_true rfl, Nat.le_of_ble_eq_true rfl⟩ rfl 57 (by decide) rfl (zs (sh_57a hS ha1 ha2) rfl) rfl [57, 65, 58, 61, 64, 63, 62] (zc_cons rfl (zs (sh_57a hS ha1 ha2) rfl) (zc_cons rfl (zs (sh_65 hS) rfl) (zc_cons rfl (zs (sh_58 hS) rfl) (zc_cons rfl (zs (sh_61 hS) rfl) (zc_cons rfl (zs (sh_64 hS) rfl) (zc_cons rfl (zs (sh_63 hS) rfl) (zc_cons rfl (zs (sh_62 hS) rfl) zc_nil))))))) (zc_cons rfl rfl (zc_cons rfl rfl (zc_cons rfl (zs (sh_58 hS) rfl) (zc_cons rfl rfl (zc_cons rfl rfl (zc_cons rfl rfl (zc_cons rfl rfl zc_nil))))))) (setl_out rfl) rfl rfl (Nat.le_of_ble_eq_true rfl) hcs hss rfl dL_law_721 ?_
  refine ii_lcmp_eq (tgt := 1813) (r := ()) (ET := some ()) (EF := none) (if_pos q1) dL_law_724 dL_law_725 (by decide) (fun _ => ?_) (fun z => absurd z (by simp))
  exact kk _ _ _ ⟨setl (setl Z [(35, .inl (cJ, 100, .inr (.inl o1.2.2.2.2.2.2.2.2))), (33, .inl (cJ, 50, .inr (.inl o1.2.2.2.2.2.2.1))), (32, .inr (1, [.ref (ad 1), .ref (ad 33), .int o1.2.2.2.1, .int o1.2.2.1, .int o1.2.2.2.2.1, .int o1.2.2.2.2.2.2.2.1, .int o1.2.2.2.2.2.1, .long o1.2.1]))]) [(65, .inl (cJ, 5, .inr (.inl o2.2.1))), (64, .inl (cJ, 70, .inr (.inl o2.2.2.2.2.1))), (63, .inl (cI, 70, .inl o2.2.2.2.2.2.2.1)), (62, .inl (cI, 70, .inl o2.2.2.2.2.2.2.2)), (61, .inl (cI, 70, .inl o2.2.2.1)), (57, .inr (12, [.ref (ad 58), .ref (ad 59), .ref (ad 60), .long (flL 11 (Z 0)), .long (flL 12 (Z 0)), .int o2.2.2.2.1, .ref (ad 61), .ref (ad 62), .int o2.2.2.2.2.2.1, .ref (ad 63), .ref (ad 64), .ref (ad 65), .ref (ad 66), .ref (ad 67), .ref (ad 68), .ref (ad 69), .ref (ad 70), .ref (ad 71), .ref (ad 72), .ref (ad 73), .ref (ad 74), .ref (ad 75), .ref (ad 76), .ref (ad 77), .ref (ad 78)]))], tl, rfl, law_fin (tc' := (tcZ Z)) (tr' := (trZ Z)) (nar' := (flI 13 (Z 1))) (nam' := (flI 14 (Z 1))) (st' := (arI (Z 58))) hS (ok_cons ok_35 (ok_cons ok_33 (ok_cons ok_32 ok_nil))) (ok_cons ok_65 (ok_cons ok_64 (ok_cons ok_63 (ok_cons ok_62 (ok_cons ok_61 (ok_cons ok_57 ok_nil)))))) rfl rfl rfl rfl rfl rfl rfl h hs1 hs2 hs3 rfl rfl him, hb1, hb2⟩

theorem dL_law_730 : decode cL_law 730 = .ok (.aload_n 1, 1) := by decide +kernel
theorem dL_law_731 : decode cL_law 731 = .ok (.aload_n 0, 1) := by decide +kernel
theorem dL_law_732 : decode cL_law 732 = .ok (.iload_n 3, 1) := by decide +kernel
theorem dL_law_733 : decode cL_law 733 = .ok (.iconst 1, 1) := by decide +kernel
theorem dL_law_734 : decode cL_law 734 = .ok (.iadd, 1) := by decide +kernel
theorem dL_law_735 : decode cL_law 735 = .ok (.iaload, 1) := by decide +kernel
theorem dL_law_736 : decode cL_law 736 = .ok (.aload_n 0, 1) := by decide +kernel
theorem dL_law_737 : decode cL_law 737 = .ok (.iload_n 3, 1) := by decide +kernel
theorem dL_law_738 : decode cL_law 738 = .ok (.iconst 2, 1) := by decide +kernel
theorem dL_law_739 : decode cL_law 739 = .ok (.iadd, 1) := by decide +kernel
theorem dL_law_740 : decode cL_law 740 = .ok (.iaload, 1) := by decide +kernel
theorem dL_law_741 : decode cL_law 741 = .ok (.aload_n 0, 1) := by decide +kernel
theorem dL_law_742 : decode cL_law 742 = .ok (.iload_n 3, 1) := by decide +kernel
theorem dL_law_743 : decode cL_law 743 = .ok (.iconst 3, 1) := by decide +kernel
theorem dL_law_744 : decode cL_law 744 = .ok (.iadd, 1) := by decide +kernel
theorem dL_law_745 : decode cL_law 745 = .ok (.iaload, 1) := by decide +kernel
theorem dL_law_746 : decode cL_law 746 = .ok (.invokevirtual 69, 3) := by decide +kernel
theorem dL_law_749 : decode cL_law 749 = .ok (.aload_n 2, 1) := by decide +kernel
theorem dL_law_750 : decode cL_law 750 = .ok (.aload_n 0, 1) := by decide +kernel
theorem dL_law_751 : decode cL_law 751 = .ok (.iload_n 3, 1) := by decide +kernel
theorem dL_law_752 : decode cL_law 752 = .ok (.iconst 1, 1) := by decide +kernel
theorem dL_law_753 : decode cL_law 753 = .ok (.iadd, 1) := by decide +kernel
theorem dL_law_754 : decode cL_law 754 = .ok (.iaload, 1) := by decide +kernel
theorem dL_law_755 : decode cL_law 755 = .ok (.aload_n 0, 1) := by decide +kernel
theorem dL_law_756 : decode cL_law 756 = .ok (.iload_n 3, 1) := by decide +kernel
theorem dL_law_757 : decode cL_law 757 = .ok (.iconst 2, 1) := by decide +kernel
theorem dL_law_758 : decode cL_law 758 = .ok (.iadd, 1) := by decide +kernel
theorem dL_law_759 : decode cL_law 759 = .ok (.iaload, 1) := by decide +kernel
theorem dL_law_760 : decode cL_law 760 = .ok (.aload_n 0, 1) := by decide +kernel
theorem dL_law_761 : decode cL_law 761 = .ok (.iload_n 3, 1) := by decide +kernel
theorem dL_law_762 : decode cL_law 762 = .ok (.iconst 3, 1) := by decide +kernel
theorem dL_law_763 : decode cL_law 763 = .ok (.iadd, 1) := by decide +kernel
theorem dL_law_764 : decode cL_law 764 = .ok (.iaload, 1) := by decide +kernel
theorem dL_law_765 : decode cL_law 765 = .ok (.invokevirtual 72, 3) := by decide +kernel
theorem dL_law_768 : decode cL_law 768 = .ok (.if_icmp .eq 1045, 3) := by decide +kernel
theorem eL_X11_purse : yX11_purse.cls = RX11 ∧ yX11_purse.cls ≠ "java/lang/invoke/MethodHandle" ∧ yX11_purse.cls ≠ "java/lang/invoke/VarHandle" ∧ (parseMethodDescriptor yX11_purse.desc).map (fun d => d.parameters.length) = some 3 := by decide +kernel
theorem eL_X12_purse : yX12_purse.cls = RX12 ∧ yX12_purse.cls ≠ "java/lang/invoke/MethodHandle" ∧ yX12_purse.cls ≠ "java/lang/invoke/VarHandle" ∧ (parseMethodDescriptor yX12_purse.desc).map (fun d => d.parameters.length) = some 3 := by decide +kernel
set_option maxHeartbeats 4000000 in
set_option maxRecDepth 100000 in
theorem law_12 {l : Launch} {p : Program} {e : Env} {s : State} {m : MethodId} {below : List Frame} {meth : Method} {c : Code} {D : va_G} {A : Nat → Prop} {cells slots : Nat} {Q : State → Prop} {b L : Nat} {xs : Nat → Int32} {i : Int32} {cI cJ cZ cH : ClassId} {ad : Nat → Nat} {ws : va_W} (hX : va_X b L xs s s.heap) (hbl : b < s.heap.size) (hbA : ¬ A b) (hin : ∀ j : Nat, j < 8 → vp_in (i + nI j) L) (hL : LawS cI cJ cZ cH ad cells slots ws) (kk : ∀ cells slots ws, LawS cI cJ cZ cH ad cells slots ws → WX p l e room_1 s m #[.ref b] below meth c code RL lwG D [(cI, .int), (cJ, .long), (cZ, .boolean), (cH, .object "TinHouse$House")] A 4 cells slots Q ws 1813 [(3, .int i), (2, .ref (ad 57)), (1, .ref (ad 0)), (0, .ref b)] []) : WX p l e room_1 s m #[.ref b] below meth c code RL lwG D [(cI, .int), (cJ, .long), (cZ, .boolean), (cH, .object "TinHouse$House")] A 4 cells slots Q ws 730 [(3, .int i), (2, .ref (ad 57)), (1, .ref (ad 0)), (0, .ref b)] [] := by
  obtain ⟨Z, tl, rfl, ⟨hS, h, hs1, hs2, hs3, ha1, ha2, him⟩, hb1, hb2⟩ := hL
  have hcs : cells ≤ room_1.cells := Nat.le_trans (Nat.le_add_right _ _) hb1
  have hss : slots ≤ room_1.slots := Nat.le_trans (Nat.le_add_right _ _) hb2
  refine ii_aload_n 2 dL_law_730 rfl ?_
  refine ii_aload_n 3 dL_law_731 rfl ?_
  refine ii_iload_n 0 dL_law_732 rfl ?_
  refine ii_iconst dL_law_733 kc1 ?_
  refine ii_iadd dL_law_734 ?_
  refine ii_sld hX hbl hbA (hin 1 (by decide)) dL_law_735 ?_
  refine ii_aload_n 3 dL_law_736 rfl ?_
  refine ii_iload_n 0 dL_law_737 rfl ?_
  refine ii_iconst dL_law_738 kc2 ?_
  refine ii_iadd dL_law_739 ?_
  refine ii_sld hX hbl hbA (hin 2 (by decide)) dL_law_740 ?_
  refine ii_aload_n 3 dL_law_741 rfl ?_
  refine ii_iload_n 0 dL_law_742 rfl ?_
  refine ii_iconst dL_law_743 kc3 ?_
  refine ii_iadd dL_law_744 ?_
  refine ii_sld hX hbl hbA (hin 3 (by decide)) dL_law_745 ?_
  obtain ⟨o1, o2, e1, e2, q1, q2⟩ := (P_purse h _ _ _ : Two (F_X11_purse (trZ Z 0) (tcZ Z 5) (trZ Z 5) (xs (i + 1).toNatClampNeg) (xs (i + 2).toNatClampNeg) (xs (i + 3).toNatClampNeg)) (F_X12_purse (arI (Z 58)) (xs (i + 1).toNatClampNeg) (xs (i + 2).toNatClampNeg) (xs (i + 3).toNatClampNeg)) _)
  refine ii_callZi (nW := 79) (ad := ad) (Z := Z) (setl Z [(13, .inl (cI, 39, .inl o1.2.1)), (12, .inr (8, [.int (13 : Int32), .int (3 : Int32), .ref (ad 13), .int o1.2.2]))]) (tl := tl) (As := [.int (xs (i + 1).toNatClampNeg), .int (xs (i + 2).toNatClampNeg), .int (xs (i + 3).toNatClampNeg)]) (st := []) (c_X11_purse l D cI cJ cZ cH (ad 0) (ad 28) (ad 32) (ad 34) (ad 36) (ad 1) (ad 6) (ad 8) (ad 14) (ad 20) (ad 24) (ad 22) (ad 2) (ad 3) (ad 10) (ad 26) (ad 12) (ad 13) (ad 16) (ad 4) (ad 18) (ad 51) (ad 55) (ad 49) (ad 29) (ad 44) (ad 45) (flL 11 (Z 0)) (flL 12 (Z 0)) (trZ Z 0) (flI 14 (Z 1)) (flI 13 (Z 1)) (tcZ Z 5) (trZ Z 5) (xs (i + 1).toNatClampNeg) (xs (i + 2).toNatClampNeg) (xs (i + 3).toNatClampNeg) e1) gzL_69 rfl rfl rfl eL_X11_purse ⟨Nat.le_of_ble_eq_true rfl, Nat.le_of_ble_eq_true rfl⟩ rfl 0 (by decide) rfl (sh_0 hS) rfl [0, 1, 2, 12, 13] (zc_cons rfl (sh_0 hS) (zc_cons rfl (sh_1 hS) (zc_cons rfl (sh_2 hS) (zc_cons rfl (sh_12 hS) (zc_cons rfl (sh_13 hS) zc_nil))))) (zc_cons rfl (zs (sh_0 hS) rfl) (zc_cons rfl (zs (sh_1 hS) rfl) (zc_cons rfl (zs (sh_2 hS) rfl) (zc_cons rfl rfl (zc_cons rfl rfl zc_nil))))) (setl_out rfl) rfl rfl (Nat.le_of_ble_eq_true rfl) hcs hss rfl dL_law_746 ?_
  refine ii_aload_n 1 dL_law_749 rfl ?_
  refine ii_aload_n 3 dL_law_750 rfl ?_
  refine ii_iload_n 0 dL_law_751 rfl ?_
  refine ii_iconst dL_law_752 kc1 ?_
  refine ii_iadd dL_law_753 ?_
  refine ii_sld hX hbl hbA (hin 1 (by decide)) dL_law_754 ?_
  refine ii_aload_n 3 dL_law_755 rfl ?_
  refine ii_iload_n 0 dL_law_756 rfl ?_
  refine ii_iconst dL_law_757 kc2 ?_
  refine ii_iadd dL_law_758 ?_
  refine ii_sld hX hbl hbA (hin 2 (by decide)) dL_law_759 ?_
  refine ii_aload_n 3 dL_law_760 rfl ?_
  refine ii_iload_n 0 dL_law_761 rfl ?_
  refine ii_iconst dL_law_762 kc3 ?_
  refine ii_iadd dL_law_763 ?_
  refine ii_sld hX hbl hbA (hin 3 (by decide)) dL_law_764 ?_
  refine ii_callZi (nW := 79) (ad := ad) (Z := (setl Z [(13, .inl (cI, 39, .inl o1.2.1)), (12, .inr (8, [.int (13 : Int32), .int (3 : Int32), .ref (ad 13), .int o1.2.2]))])) (setl (setl Z [(13, .inl (cI, 39, .inl o1.2.1)), (12, .inr (8, [.int (13 : Int32), .int (3 : Int32), .ref (ad 13), .int o1.2.2]))]) [(58, .inl (cI, 1951, .inl o2.2))]) (tl := tl) (As := [.int (xs (i + 1).toNatClampNeg), .int (xs (i + 2).toNatClampNeg), .int (xs (i + 3).toNatClampNeg)]) (st := [.int o1.1]) (c_X12_purse l D cI cJ cZ cH (ad 57) (ad 72) (ad 77) (ad 70) (ad 65) (ad 59) (ad 60) (ad 76) (ad 75) (ad 68) (ad 66) (ad 74) (ad 69) (ad 71) (ad 78) (ad 58) (ad 61) (ad 73) (ad 67) (ad 64) (ad 63) (ad 62) (flL 11 (Z 0)) (flL 12 (Z 0)) (arI (Z 58)) (flI 5 (Z 57)) (flI 8 (Z 57)) (xs (i + 1).toNatClampNeg) (xs (i + 2).toNatClampNeg) (xs (i + 3).toNatClampNeg) e2) gzL_72 rfl rfl rfl eL_X12_purse ⟨Nat.le_of_ble_eq_true rfl, Nat.le_of_ble_eq_true rfl⟩ rfl 57 (by decide) rfl (zs (sh_57a hS ha1 ha2) rfl) rfl [57, 58] (zc_cons rfl (zs (sh_57a hS ha1 ha2) rfl) (zc_cons rfl (zs (sh_58 hS) rfl) zc_nil)) (zc_cons rfl (zs (sh_57a hS ha1 ha2) rfl) (zc_cons rfl rfl zc_nil)) (setl_out rfl) rfl rfl (Nat.le_of_ble_eq_true rfl) hcs hss rfl dL_law_765 ?_
  refine ii_icmp_eq (tgt := 1813) (r := ()) (ET := some ()) (EF := none) (if_pos q1) dL_law_768 (by decide) (fun _ => ?_) (fun z => absurd z (by simp))
  exact kk _ _ _ ⟨setl (setl Z [(13, .inl (cI, 39, .inl o1.2.1)), (12, .inr (8, [.int (13 : Int32), .int (3 : Int32), .ref (ad 13), .int o1.2.2]))]) [(58, .inl (cI, 1951, .inl o2.2))], tl, rfl, law_fin (tc' := (va_up (tcZ Z) 5 o1.2.1)) (tr' := (va_up (trZ Z) 5 o1.2.2)) (nar' := (flI 13 (Z 1))) (nam' := (flI 14 (Z 1))) (st' := o2.2) hS (ok_cons ok_13 (ok_cons ok_12 ok_nil)) (ok_cons ok_58 ok_nil) rfl rfl rfl rfl rfl rfl rfl q2 hs1 hs2 hs3 ha1 ha2 him, hb1, hb2⟩

theorem dL_law_773 : decode cL_law 773 = .ok (.aload_n 1, 1) := by decide +kernel
theorem dL_law_774 : decode cL_law 774 = .ok (.aload_n 0, 1) := by decide +kernel
theorem dL_law_775 : decode cL_law 775 = .ok (.iload_n 3, 1) := by decide +kernel
theorem dL_law_776 : decode cL_law 776 = .ok (.iconst 1, 1) := by decide +kernel
theorem dL_law_777 : decode cL_law 777 = .ok (.iadd, 1) := by decide +kernel
theorem dL_law_778 : decode cL_law 778 = .ok (.iaload, 1) := by decide +kernel
theorem dL_law_779 : decode cL_law 779 = .ok (.aload_n 0, 1) := by decide +kernel
theorem dL_law_780 : decode cL_law 780 = .ok (.iload_n 3, 1) := by decide +kernel
theorem dL_law_781 : decode cL_law 781 = .ok (.iconst 2, 1) := by decide +kernel
theorem dL_law_782 : decode cL_law 782 = .ok (.iadd, 1) := by decide +kernel
theorem dL_law_783 : decode cL_law 783 = .ok (.iaload, 1) := by decide +kernel
theorem dL_law_784 : decode cL_law 784 = .ok (.aload_n 0, 1) := by decide +kernel
theorem dL_law_785 : decode cL_law 785 = .ok (.iload_n 3, 1) := by decide +kernel
theorem dL_law_786 : decode cL_law 786 = .ok (.iconst 3, 1) := by decide +kernel
theorem dL_law_787 : decode cL_law 787 = .ok (.iadd, 1) := by decide +kernel
theorem dL_law_788 : decode cL_law 788 = .ok (.iaload, 1) := by decide +kernel
theorem dL_law_789 : decode cL_law 789 = .ok (.invokevirtual 73, 3) := by decide +kernel
theorem dL_law_792 : decode cL_law 792 = .ok (.aload_n 2, 1) := by decide +kernel
theorem dL_law_793 : decode cL_law 793 = .ok (.aload_n 0, 1) := by decide +kernel
theorem dL_law_794 : decode cL_law 794 = .ok (.iload_n 3, 1) := by decide +kernel
theorem dL_law_795 : decode cL_law 795 = .ok (.iconst 1, 1) := by decide +kernel
theorem dL_law_796 : decode cL_law 796 = .ok (.iadd, 1) := by decide +kernel
theorem dL_law_797 : decode cL_law 797 = .ok (.iaload, 1) := by decide +kernel
theorem dL_law_798 : decode cL_law 798 = .ok (.aload_n 0, 1) := by decide +kernel
theorem dL_law_799 : decode cL_law 799 = .ok (.iload_n 3, 1) := by decide +kernel
theorem dL_law_800 : decode cL_law 800 = .ok (.iconst 2, 1) := by decide +kernel
theorem dL_law_801 : decode cL_law 801 = .ok (.iadd, 1) := by decide +kernel
theorem dL_law_802 : decode cL_law 802 = .ok (.iaload, 1) := by decide +kernel
theorem dL_law_803 : decode cL_law 803 = .ok (.aload_n 0, 1) := by decide +kernel
theorem dL_law_804 : decode cL_law 804 = .ok (.iload_n 3, 1) := by decide +kernel
theorem dL_law_805 : decode cL_law 805 = .ok (.iconst 3, 1) := by decide +kernel
theorem dL_law_806 : decode cL_law 806 = .ok (.iadd, 1) := by decide +kernel
theorem dL_law_807 : decode cL_law 807 = .ok (.iaload, 1) := by decide +kernel
theorem dL_law_808 : decode cL_law 808 = .ok (.invokevirtual 76, 3) := by decide +kernel
theorem dL_law_811 : decode cL_law 811 = .ok (.if_icmp .eq 1002, 3) := by decide +kernel
theorem eL_X11_share : yX11_share.cls = RX11 ∧ yX11_share.cls ≠ "java/lang/invoke/MethodHandle" ∧ yX11_share.cls ≠ "java/lang/invoke/VarHandle" ∧ (parseMethodDescriptor yX11_share.desc).map (fun d => d.parameters.length) = some 3 := by decide +kernel
theorem eL_X12_share : yX12_share.cls = RX12 ∧ yX12_share.cls ≠ "java/lang/invoke/MethodHandle" ∧ yX12_share.cls ≠ "java/lang/invoke/VarHandle" ∧ (parseMethodDescriptor yX12_share.desc).map (fun d => d.parameters.length) = some 3 := by decide +kernel
set_option maxHeartbeats 4000000 in
set_option maxRecDepth 100000 in
theorem law_13 {l : Launch} {p : Program} {e : Env} {s : State} {m : MethodId} {below : List Frame} {meth : Method} {c : Code} {D : va_G} {A : Nat → Prop} {cells slots : Nat} {Q : State → Prop} {b L : Nat} {xs : Nat → Int32} {i : Int32} {cI cJ cZ cH : ClassId} {ad : Nat → Nat} {ws : va_W} (hX : va_X b L xs s s.heap) (hbl : b < s.heap.size) (hbA : ¬ A b) (hin : ∀ j : Nat, j < 8 → vp_in (i + nI j) L) (hL : LawS cI cJ cZ cH ad cells slots ws) (kk : ∀ cells slots ws, LawS cI cJ cZ cH ad cells slots ws → WX p l e room_1 s m #[.ref b] below meth c code RL lwG D [(cI, .int), (cJ, .long), (cZ, .boolean), (cH, .object "TinHouse$House")] A 4 cells slots Q ws 1813 [(3, .int i), (2, .ref (ad 57)), (1, .ref (ad 0)), (0, .ref b)] []) : WX p l e room_1 s m #[.ref b] below meth c code RL lwG D [(cI, .int), (cJ, .long), (cZ, .boolean), (cH, .object "TinHouse$House")] A 4 cells slots Q ws 773 [(3, .int i), (2, .ref (ad 57)), (1, .ref (ad 0)), (0, .ref b)] [] := by
  obtain ⟨Z, tl, rfl, ⟨hS, h, hs1, hs2, hs3, ha1, ha2, him⟩, hb1, hb2⟩ := hL
  have hcs : cells ≤ room_1.cells := Nat.le_trans (Nat.le_add_right _ _) hb1
  have hss : slots ≤ room_1.slots := Nat.le_trans (Nat.le_add_right _ _) hb2
  refine ii_aload_n 2 dL_law_773 rfl ?_
  refine ii_aload_n 3 dL_law_774 rfl ?_
  refine ii_iload_n 0 dL_law_775 rfl ?_
  refine ii_iconst dL_law_776 kc1 ?_
  refine ii_iadd dL_law_777 ?_
  refine ii_sld hX hbl hbA (hin 1 (by decide)) dL_law_778 ?_
  refine ii_aload_n 3 dL_law_779 rfl ?_
  refine ii_iload_n 0 dL_law_780 rfl ?_
  refine ii_iconst dL_law_781 kc2 ?_
  refine ii_iadd dL_law_782 ?_
  refine ii_sld hX hbl hbA (hin 2 (by decide)) dL_law_783 ?_
  refine ii_aload_n 3 dL_law_784 rfl ?_
  refine ii_iload_n 0 dL_law_785 rfl ?_
  refine ii_iconst dL_law_786 kc3 ?_
  refine ii_iadd dL_law_787 ?_
  refine ii_sld hX hbl hbA (hin 3 (by decide)) dL_law_788 ?_
  obtain ⟨o1, o2, e1, e2, q1, q2⟩ := (P_share h _ _ _ : Two (F_X11_share (trZ Z 0) (tcZ Z 5) (trZ Z 5) (xs (i + 1).toNatClampNeg) (xs (i + 2).toNatClampNeg) (xs (i + 3).toNatClampNeg)) (F_X12_share (arI (Z 58)) (xs (i + 1).toNatClampNeg) (xs (i + 2).toNatClampNeg) (xs (i + 3).toNatClampNeg)) _)
  refine ii_callZi (nW := 79) (ad := ad) (Z := Z) (setl Z [(13, .inl (cI, 39, .inl o1.2))]) (tl := tl) (As := [.int (xs (i + 1).toNatClampNeg), .int (xs (i + 2).toNatClampNeg), .int (xs (i + 3).toNatClampNeg)]) (st := []) (c_X11_share l D cI cJ cZ cH (ad 0) (ad 28) (ad 32) (ad 34) (ad 35) (ad 36) (ad 1) (ad 6) (ad 8) (ad 14) (ad 20) (ad 24) (ad 22) (ad 2) (ad 3) (ad 10) (ad 26) (ad 12) (ad 13) (ad 16) (ad 4) (ad 18) (ad 51) (ad 55) (ad 49) (ad 29) (ad 44) (ad 45) (flL 11 (Z 0)) (flL 12 (Z 0)) (trZ Z 0) (flI 14 (Z 1)) (flI 13 (Z 1)) (tcZ Z 5) (trZ Z 5) (xs (i + 1).toNatClampNeg) (xs (i + 2).toNatClampNeg) (xs (i + 3).toNatClampNeg) e1) gzL_73 rfl rfl rfl eL_X11_share ⟨Nat.le_of_ble_eq_true rfl, Nat.le_of_ble_eq_true rfl⟩ rfl 0 (by decide) rfl (sh_0 hS) rfl [0, 34, 1, 2, 12, 13] (zc_cons rfl (sh_0 hS) (zc_cons rfl (sh_34 hS) (zc_cons rfl (sh_1 hS) (zc_cons rfl (sh_2 hS) (zc_cons rfl (sh_12 hS) (zc_cons rfl (sh_13 hS) zc_nil)))))) (zc_cons rfl (zs (sh_0 hS) rfl) (zc_cons rfl (zs (sh_34 hS) rfl) (zc_cons rfl (zs (sh_1 hS) rfl) (zc_cons rfl (zs (sh_2 hS) rfl) (zc_cons rfl (zs (sh_12 hS) rfl) (zc_cons rfl rfl zc_nil)))))) (setl_out rfl) rfl rfl (Nat.le_of_ble_eq_true rfl) hcs hss rfl dL_law_789 ?_
  refine ii_aload_n 1 dL_law_792 rfl ?_
  refine ii_aload_n 3 dL_law_793 rfl ?_
  refine ii_iload_n 0 dL_law_794 rfl ?_
  refine ii_iconst dL_law_795 kc1 ?_
  refine ii_iadd dL_law_796 ?_
  refine ii_sld hX hbl hbA (hin 1 (by decide)) dL_law_797 ?_
  refine ii_aload_n 3 dL_law_798 rfl ?_
  refine ii_iload_n 0 dL_law_799 rfl ?_
  refine ii_iconst dL_law_800 kc2 ?_
  refine ii_iadd dL_law_801 ?_
  refine ii_sld hX hbl hbA (hin 2 (by decide)) dL_law_802 ?_
  refine ii_aload_n 3 dL_law_803 rfl ?_
  refine ii_iload_n 0 dL_law_804 rfl ?_
  refine ii_iconst dL_law_805 kc3 ?_
  refine ii_iadd dL_law_806 ?_
  refine ii_sld hX hbl hbA (hin 3 (by decide)) dL_law_807 ?_
  refine ii_callZi (nW := 79) (ad := ad) (Z := (setl Z [(13, .inl (cI, 39, .inl o1.2))])) (setl (setl Z [(13, .inl (cI, 39, .inl o1.2))]) [(58, .inl (cI, 1951, .inl o2.2))]) (tl := tl) (As := [.int (xs (i + 1).toNatClampNeg), .int (xs (i + 2).toNatClampNeg), .int (xs (i + 3).toNatClampNeg)]) (st := [.int o1.1]) (c_X12_share l D cI cJ cZ cH (ad 57) (ad 72) (ad 77) (ad 70) (ad 65) (ad 59) (ad 60) (ad 76) (ad 75) (ad 68) (ad 66) (ad 74) (ad 69) (ad 71) (ad 78) (ad 58) (ad 61) (ad 73) (ad 67) (ad 64) (ad 63) (ad 62) (flL 11 (Z 0)) (flL 12 (Z 0)) (arI (Z 58)) (flI 5 (Z 57)) (flI 8 (Z 57)) (xs (i + 1).toNatClampNeg) (xs (i + 2).toNatClampNeg) (xs (i + 3).toNatClampNeg) e2) gzL_76 rfl rfl rfl eL_X12_share ⟨Nat.le_of_ble_eq_true rfl, Nat.le_of_ble_eq_true rfl⟩ rfl 57 (by decide) rfl (zs (sh_57a hS ha1 ha2) rfl) rfl [57, 58] (zc_cons rfl (zs (sh_57a hS ha1 ha2) rfl) (zc_cons rfl (zs (sh_58 hS) rfl) zc_nil)) (zc_cons rfl (zs (sh_57a hS ha1 ha2) rfl) (zc_cons rfl rfl zc_nil)) (setl_out rfl) rfl rfl (Nat.le_of_ble_eq_true rfl) hcs hss rfl dL_law_808 ?_
  refine ii_icmp_eq (tgt := 1813) (r := ()) (ET := some ()) (EF := none) (if_pos q1) dL_law_811 (by decide) (fun _ => ?_) (fun z => absurd z (by simp))
  exact kk _ _ _ ⟨setl (setl Z [(13, .inl (cI, 39, .inl o1.2))]) [(58, .inl (cI, 1951, .inl o2.2))], tl, rfl, law_fin (tc' := (va_up (tcZ Z) 5 o1.2)) (tr' := (trZ Z)) (nar' := (flI 13 (Z 1))) (nam' := (flI 14 (Z 1))) (st' := o2.2) hS (ok_cons ok_13 ok_nil) (ok_cons ok_58 ok_nil) rfl rfl rfl rfl rfl rfl rfl q2 hs1 hs2 hs3 ha1 ha2 him, hb1, hb2⟩

theorem dL_law_816 : decode cL_law 816 = .ok (.aload_n 1, 1) := by decide +kernel
theorem dL_law_817 : decode cL_law 817 = .ok (.aload_n 0, 1) := by decide +kernel
theorem dL_law_818 : decode cL_law 818 = .ok (.iload_n 3, 1) := by decide +kernel
theorem dL_law_819 : decode cL_law 819 = .ok (.iconst 1, 1) := by decide +kernel
theorem dL_law_820 : decode cL_law 820 = .ok (.iadd, 1) := by decide +kernel
theorem dL_law_821 : decode cL_law 821 = .ok (.iaload, 1) := by decide +kernel
theorem dL_law_822 : decode cL_law 822 = .ok (.aload_n 0, 1) := by decide +kernel
theorem dL_law_823 : decode cL_law 823 = .ok (.iload_n 3, 1) := by decide +kernel
theorem dL_law_824 : decode cL_law 824 = .ok (.iconst 2, 1) := by decide +kernel
theorem dL_law_825 : decode cL_law 825 = .ok (.iadd, 1) := by decide +kernel
theorem dL_law_826 : decode cL_law 826 = .ok (.iaload, 1) := by decide +kernel
theorem dL_law_827 : decode cL_law 827 = .ok (.aload_n 0, 1) := by decide +kernel
theorem dL_law_828 : decode cL_law 828 = .ok (.iload_n 3, 1) := by decide +kernel
theorem dL_law_829 : decode cL_law 829 = .ok (.iconst 3, 1) := by decide +kernel
theorem dL_law_830 : decode cL_law 830 = .ok (.iadd, 1) := by decide +kernel
theorem dL_law_831 : decode cL_law 831 = .ok (.iaload, 1) := by decide +kernel
theorem dL_law_832 : decode cL_law 832 = .ok (.invokevirtual 77, 3) := by decide +kernel
theorem dL_law_835 : decode cL_law 835 = .ok (.aload_n 2, 1) := by decide +kernel
theorem dL_law_836 : decode cL_law 836 = .ok (.aload_n 0, 1) := by decide +kernel
theorem dL_law_837 : decode cL_law 837 = .ok (.iload_n 3, 1) := by decide +kernel
theorem dL_law_838 : decode cL_law 838 = .ok (.iconst 1, 1) := by decide +kernel
theorem dL_law_839 : decode cL_law 839 = .ok (.iadd, 1) := by decide +kernel
theorem dL_law_840 : decode cL_law 840 = .ok (.iaload, 1) := by decide +kernel
theorem dL_law_841 : decode cL_law 841 = .ok (.aload_n 0, 1) := by decide +kernel
theorem dL_law_842 : decode cL_law 842 = .ok (.iload_n 3, 1) := by decide +kernel
theorem dL_law_843 : decode cL_law 843 = .ok (.iconst 2, 1) := by decide +kernel
theorem dL_law_844 : decode cL_law 844 = .ok (.iadd, 1) := by decide +kernel
theorem dL_law_845 : decode cL_law 845 = .ok (.iaload, 1) := by decide +kernel
theorem dL_law_846 : decode cL_law 846 = .ok (.aload_n 0, 1) := by decide +kernel
theorem dL_law_847 : decode cL_law 847 = .ok (.iload_n 3, 1) := by decide +kernel
theorem dL_law_848 : decode cL_law 848 = .ok (.iconst 3, 1) := by decide +kernel
theorem dL_law_849 : decode cL_law 849 = .ok (.iadd, 1) := by decide +kernel
theorem dL_law_850 : decode cL_law 850 = .ok (.iaload, 1) := by decide +kernel
theorem dL_law_851 : decode cL_law 851 = .ok (.invokevirtual 80, 3) := by decide +kernel
theorem dL_law_854 : decode cL_law 854 = .ok (.if_icmp .eq 959, 3) := by decide +kernel
theorem eL_X11_leave : yX11_leave.cls = RX11 ∧ yX11_leave.cls ≠ "java/lang/invoke/MethodHandle" ∧ yX11_leave.cls ≠ "java/lang/invoke/VarHandle" ∧ (parseMethodDescriptor yX11_leave.desc).map (fun d => d.parameters.length) = some 3 := by decide +kernel
theorem eL_X12_leave : yX12_leave.cls = RX12 ∧ yX12_leave.cls ≠ "java/lang/invoke/MethodHandle" ∧ yX12_leave.cls ≠ "java/lang/invoke/VarHandle" ∧ (parseMethodDescriptor yX12_leave.desc).map (fun d => d.parameters.length) = some 3 := by decide +kernel
set_option maxHeartbeats 4000000 in
set_option maxRecDepth 100000 in
theorem law_14 {l : Launch} {p : Program} {e : Env} {s : State} {m : MethodId} {below : List Frame} {meth : Method} {c : Code} {D : va_G} {A : Nat → Prop} {cells slots : Nat} {Q : State → Prop} {b L : Nat} {xs : Nat → Int32} {i : Int32} {cI cJ cZ cH : ClassId} {ad : Nat → Nat} {ws : va_W} (hX : va_X b L xs s s.heap) (hbl : b < s.heap.size) (hbA : ¬ A b) (hin : ∀ j : Nat, j < 8 → vp_in (i + nI j) L) (hL : LawS cI cJ cZ cH ad cells slots ws) (kk : ∀ cells slots ws, LawS cI cJ cZ cH ad cells slots ws → WX p l e room_1 s m #[.ref b] below meth c code RL lwG D [(cI, .int), (cJ, .long), (cZ, .boolean), (cH, .object "TinHouse$House")] A 4 cells slots Q ws 1813 [(3, .int i), (2, .ref (ad 57)), (1, .ref (ad 0)), (0, .ref b)] []) : WX p l e room_1 s m #[.ref b] below meth c code RL lwG D [(cI, .int), (cJ, .long), (cZ, .boolean), (cH, .object "TinHouse$House")] A 4 cells slots Q ws 816 [(3, .int i), (2, .ref (ad 57)), (1, .ref (ad 0)), (0, .ref b)] [] := by
  obtain ⟨Z, tl, rfl, ⟨hS, h, hs1, hs2, hs3, ha1, ha2, him⟩, hb1, hb2⟩ := hL
  have hcs : cells ≤ room_1.cells := Nat.le_trans (Nat.le_add_right _ _) hb1
  have hss : slots ≤ room_1.slots := Nat.le_trans (Nat.le_add_right _ _) hb2
  refine ii_aload_n 2 dL_law_816 rfl ?_
  refine ii_aload_n 3 dL_law_817 rfl ?_
  refine ii_iload_n 0 dL_law_818 rfl ?_
  refine ii_iconst dL_law_819 kc1 ?_
  refine ii_iadd dL_law_820 ?_
  refine ii_sld hX hbl hbA (hin 1 (by decide)) dL_law_821 ?_
  refine ii_aload_n 3 dL_law_822 rfl ?_
  refine ii_iload_n 0 dL_law_823 rfl ?_
  refine ii_iconst dL_law_824 kc2 ?_
  refine ii_iadd dL_law_825 ?_
  refine ii_sld hX hbl hbA (hin 2 (by decide)) dL_law_826 ?_
  refine ii_aload_n 3 dL_law_827 rfl ?_
  refine ii_iload_n 0 dL_law_828 rfl ?_
  refine ii_iconst dL_law_829 kc3 ?_
  refine ii_iadd dL_law_830 ?_
  refine ii_sld hX hbl hbA (hin 3 (by decide)) dL_law_831 ?_
  obtain ⟨o1, o2, e1, e2, q1, q2⟩ := (P_leave h _ _ _ _ _ _ _ _ _ _ _ _ _ _ _ _ _ : Two (F_X11_leave (flL 7 (Z 32)) (flI 3 (Z 32)) (flI 2 (Z 32)) (flI 4 (Z 32)) (flI 6 (Z 32)) (arL (Z 33)) (flI 5 (Z 32)) (tcZ Z 2) (trZ Z 2) (tcZ Z 0) (trZ Z 0) (tcZ Z 5) (trZ Z 5) (xs (i + 1).toNatClampNeg) (xs (i + 2).toNatClampNeg) (xs (i + 3).toNatClampNeg)) (F_X12_leave (arL (Z 65)) (arI (Z 58)) (arI (Z 61)) (flI 5 (Z 57)) (arL (Z 64)) (flI 8 (Z 57)) (arI (Z 63)) (arI (Z 62)) (xs (i + 1).toNatClampNeg) (xs (i + 2).toNatClampNeg) (xs (i + 3).toNatClampNeg)) _)
  refine ii_callZi (nW := 79) (ad := ad) (Z := Z) (setl Z [(33, .inl (cJ, 50, .inr (.inl o1.2.2.2.2.2.2.1))), (32, .inr (1, [.ref (ad 1), .ref (ad 33), .int o1.2.2.2.1, .int o1.2.2.1, .int o1.2.2.2.2.1, .int o1.2.2.2.2.2.2.2.1, .int o1.2.2.2.2.2.1, .long o1.2.1])), (13, .inl (cI, 39, .inl o1.2.2.2.2.2.2.2.2))]) (tl := tl) (As := [.int (xs (i + 1).toNatClampNeg), .int (xs (i + 2).toNatClampNeg), .int (xs (i + 3).toNatClampNeg)]) (st := []) (c_X11_leave l D cI cJ cZ cH (ad 0) (ad 28) (ad 32) (ad 33) (ad 34) (ad 35) (ad 36) (ad 1) (ad 6) (ad 7) (ad 8) (ad 14) (ad 20) (ad 24) (ad 22) (ad 2) (ad 3) (ad 10) (ad 26) (ad 12) (ad 13) (ad 16) (ad 4) (ad 18) (ad 51) (ad 55) (ad 49) (ad 29) (ad 44) (ad 45) (flL 11 (Z 0)) (flL 12 (Z 0)) (flL 7 (Z 32)) (flI 3 (Z 32)) (flI 2 (Z 32)) (flI 4 (Z 32)) (flI 6 (Z 32)) (arL (Z 33)) (flI 5 (Z 32)) (tcZ Z 2) (trZ Z 2) (tcZ Z 0) (trZ Z 0) (flI 14 (Z 1)) (flI 13 (Z 1)) (tcZ Z 5) (trZ Z 5) (xs (i + 1).toNatClampNeg) (xs (i + 2).toNatClampNeg) (xs (i + 3).toNatClampNeg) e1) gzL_77 rfl rfl rfl eL_X11_leave ⟨Nat.le_of_ble_eq_true rfl, Nat.le_of_ble_eq_true rfl⟩ rfl 0 (by decide) rfl (sh_0 hS) rfl [0, 32, 33, 34, 1, 6, 7, 2, 3, 12, 13] (zc_cons rfl (sh_0 hS) (zc_cons rfl (sh_32 hS) (zc_cons rfl (sh_33 hS) (zc_cons rfl (sh_34 hS) (zc_cons rfl (sh_1 hS) (zc_cons rfl (sh_6 hS) (zc_cons rfl (sh_7 hS) (zc_cons rfl (sh_2 hS) (zc_cons rfl (sh_3 hS) (zc_cons rfl (sh_12 hS) (zc_cons rfl (sh_13 hS) zc_nil))))))))))) (zc_cons rfl (zs (sh_0 hS) rfl) (zc_cons rfl rfl (zc_cons rfl rfl (zc_cons rfl (zs (sh_34 hS) rfl) (zc_cons rfl (zs (sh_1 hS) rfl) (zc_cons rfl (zs (sh_6 hS) rfl) (zc_cons rfl (zs (sh_7 hS) rfl) (zc_cons rfl (zs (sh_2 hS) rfl) (zc_cons rfl (zs (sh_3 hS) rfl) (zc_cons rfl (zs (sh_12 hS) rfl) (zc_cons rfl rfl zc_nil))))))))))) (setl_out rfl) rfl rfl (Nat.le_of_ble_eq_true rfl) hcs hss rfl dL_law_832 ?_
  refine ii_aload_n 1 dL_law_835 rfl ?_
  refine ii_aload_n 3 dL_law_836 rfl ?_
  refine ii_iload_n 0 dL_law_837 rfl ?_
  refine ii_iconst dL_law_838 kc1 ?_
  refine ii_iadd dL_law_839 ?_
  refine ii_sld hX hbl hbA (hin 1 (by decide)) dL_law_840 ?_
  refine ii_aload_n 3 dL_law_841 rfl ?_
  refine ii_iload_n 0 dL_law_842 rfl ?_
  refine ii_iconst dL_law_843 kc2 ?_
  refine ii_iadd dL_law_844 ?_
  refine ii_sld hX hbl hbA (hin 2 (by decide)) dL_law_845 ?_
  refine ii_aload_n 3 dL_law_846 rfl ?_
  refine ii_iload_n 0 dL_law_847 rfl ?_
  refine ii_iconst dL_law_848 kc3 ?_
  refine ii_iadd dL_law_849 ?_
  refine ii_sld hX hbl hbA (hin 3 (by decide)) dL_law_850 ?_
  refine ii_callZi (nW := 79) (ad := ad) (Z := (setl Z [(33, .inl (cJ, 50, .inr (.inl o1.2.2.2.2.2.2.1))), (32, .inr (1, [.ref (ad 1), .ref (ad 33), .int o1.2.2.2.1, .int o1.2.2.1, .int o1.2.2.2.2.1, .int o1.2.2.2.2.2.2.2.1, .int o1.2.2.2.2.2.1, .long o1.2.1])), (13, .inl (cI, 39, .inl o1.2.2.2.2.2.2.2.2))])) (setl (setl Z [(33, .inl (cJ, 50, .inr (.inl o1.2.2.2.2.2.2.1))), (32, .inr (1, [.ref (ad 1), .ref (ad 33), .int o1.2.2.2.1, .int o1.2.2.1, .int o1.2.2.2.2.1, .int o1.2.2.2.2.2.2.2.1, .int o1.2.2.2.2.2.1, .long o1.2.1])), (13, .inl (cI, 39, .inl o1.2.2.2.2.2.2.2.2))]) [(65, .inl (cJ, 5, .inr (.inl o2.2.1))), (64, .inl (cJ, 70, .inr (.inl o2.2.2.2.2.2.1))), (63, .inl (cI, 70, .inl o2.2.2.2.2.2.2.2.1)), (62, .inl (cI, 70, .inl o2.2.2.2.2.2.2.2.2)), (61, .inl (cI, 70, .inl o2.2.2.2.1)), (58, .inl (cI, 1951, .inl o2.2.2.1)), (57, .inr (12, [.ref (ad 58), .ref (ad 59), .ref (ad 60), .long (flL 11 (Z 0)), .long (flL 12 (Z 0)), .int o2.2.2.2.2.1, .ref (ad 61), .ref (ad 62), .int o2.2.2.2.2.2.2.1, .ref (ad 63), .ref (ad 64), .ref (ad 65), .ref (ad 66), .ref (ad 67), .ref (ad 68), .ref (ad 69), .ref (ad 70), .ref (ad 71), .ref (ad 72), .ref (ad 73), .ref (ad 74), .ref (ad 75), .ref (ad 76), .ref (ad 77), .ref (ad 78)]))]) (tl := tl) (As := [.int (xs (i + 1).toNatClampNeg), .int (xs (i + 2).toNatClampNeg), .int (xs (i + 3).toNatClampNeg)]) (st := [.int o1.1]) (c_X12_leave l D cI cJ cZ cH (ad 57) (ad 72) (ad 77) (ad 70) (ad 65) (ad 59) (ad 60) (ad 76) (ad 75) (ad 68) (ad 66) (ad 74) (ad 69) (ad 71) (ad 78) (ad 58) (ad 61) (ad 73) (ad 67) (ad 64) (ad 63) (ad 62) (flL 11 (Z 0)) (flL 12 (Z 0)) (arL (Z 65)) (arI (Z 58)) (arI (Z 61)) (flI 5 (Z 57)) (arL (Z 64)) (flI 8 (Z 57)) (arI (Z 63)) (arI (Z 62)) (xs (i + 1).toNatClampNeg) (xs (i + 2).toNatClampNeg) (xs (i + 3).toNatClampNeg) e2) gzL_80 rfl rfl rfl eL_X12_leave ⟨Nat.le_of_ble_eq_true rfl, Nat.le_of_ble_eq_true rfl⟩ rfl 57 (by decide) rfl (zs (sh_57a hS ha1 ha2) rfl) rfl [57, 65, 58, 61, 64, 63, 62] (zc_cons rfl (zs (sh_57a hS ha1 ha2) rfl) (zc_cons rfl (zs (sh_65 hS) rfl) (zc_cons rfl (zs (sh_58 hS) rfl) (zc_cons rfl (zs (sh_61 hS) rfl) (zc_cons rfl (zs (sh_64 hS) rfl) (zc_cons rfl (zs (sh_63 hS) rfl) (zc_cons rfl (zs (sh_62 hS) rfl) zc_nil))))))) (zc_cons rfl rfl (zc_cons rfl rfl (zc_cons rfl rfl (zc_cons rfl rfl (zc_cons rfl rfl (zc_cons rfl rfl (zc_cons rfl rfl zc_nil))))))) (setl_out rfl) rfl rfl (Nat.le_of_ble_eq_true rfl) hcs hss rfl dL_law_851 ?_
  refine ii_icmp_eq (tgt := 1813) (r := ()) (ET := some ()) (EF := none) (if_pos q1) dL_law_854 (by decide) (fun _ => ?_) (fun z => absurd z (by simp))
  exact kk _ _ _ ⟨setl (setl Z [(33, .inl (cJ, 50, .inr (.inl o1.2.2.2.2.2.2.1))), (32, .inr (1, [.ref (ad 1), .ref (ad 33), .int o1.2.2.2.1, .int o1.2.2.1, .int o1.2.2.2.2.1, .int o1.2.2.2.2.2.2.2.1, .int o1.2.2.2.2.2.1, .long o1.2.1])), (13, .inl (cI, 39, .inl o1.2.2.2.2.2.2.2.2))]) [(65, .inl (cJ, 5, .inr (.inl o2.2.1))), (64, .inl (cJ, 70, .inr (.inl o2.2.2.2.2.2.1))), (63, .inl (cI, 70, .inl o2.2.2.2.2.2.2.2.1)), (62, .inl (cI, 70, .inl o2.2.2.2.2.2.2.2.2)), (61, .inl (cI, 70, .inl o2.2.2.2.1)), (58, .inl (cI, 1951, .inl o2.2.2.1)), (57, .inr (12, [.ref (ad 58), .ref (ad 59), .ref (ad 60), .long (flL 11 (Z 0)), .long (flL 12 (Z 0)), .int o2.2.2.2.2.1, .ref (ad 61), .ref (ad 62), .int o2.2.2.2.2.2.2.1, .ref (ad 63), .ref (ad 64), .ref (ad 65), .ref (ad 66), .ref (ad 67), .ref (ad 68), .ref (ad 69), .ref (ad 70), .ref (ad 71), .ref (ad 72), .ref (ad 73), .ref (ad 74), .ref (ad 75), .ref (ad 76), .ref (ad 77), .ref (ad 78)]))], tl, rfl, law_fin (tc' := (va_up (tcZ Z) 5 o1.2.2.2.2.2.2.2.2)) (tr' := (trZ Z)) (nar' := (flI 13 (Z 1))) (nam' := (flI 14 (Z 1))) (st' := o2.2.2.1) hS (ok_cons ok_33 (ok_cons ok_32 (ok_cons ok_13 ok_nil))) (ok_cons ok_65 (ok_cons ok_64 (ok_cons ok_63 (ok_cons ok_62 (ok_cons ok_61 (ok_cons ok_58 (ok_cons ok_57 ok_nil))))))) rfl rfl rfl rfl rfl rfl rfl q2 hs1 hs2 hs3 rfl rfl him, hb1, hb2⟩

theorem dL_law_859 : decode cL_law 859 = .ok (.aload_n 1, 1) := by decide +kernel
theorem dL_law_860 : decode cL_law 860 = .ok (.aload_n 0, 1) := by decide +kernel
theorem dL_law_861 : decode cL_law 861 = .ok (.iload_n 3, 1) := by decide +kernel
theorem dL_law_862 : decode cL_law 862 = .ok (.iconst 1, 1) := by decide +kernel
theorem dL_law_863 : decode cL_law 863 = .ok (.iadd, 1) := by decide +kernel
theorem dL_law_864 : decode cL_law 864 = .ok (.iaload, 1) := by decide +kernel
theorem dL_law_865 : decode cL_law 865 = .ok (.aload_n 0, 1) := by decide +kernel
theorem dL_law_866 : decode cL_law 866 = .ok (.iload_n 3, 1) := by decide +kernel
theorem dL_law_867 : decode cL_law 867 = .ok (.iconst 2, 1) := by decide +kernel
theorem dL_law_868 : decode cL_law 868 = .ok (.iadd, 1) := by decide +kernel
theorem dL_law_869 : decode cL_law 869 = .ok (.iaload, 1) := by decide +kernel
theorem dL_law_870 : decode cL_law 870 = .ok (.aload_n 0, 1) := by decide +kernel
theorem dL_law_871 : decode cL_law 871 = .ok (.iload_n 3, 1) := by decide +kernel
theorem dL_law_872 : decode cL_law 872 = .ok (.iconst 3, 1) := by decide +kernel
theorem dL_law_873 : decode cL_law 873 = .ok (.iadd, 1) := by decide +kernel
theorem dL_law_874 : decode cL_law 874 = .ok (.iaload, 1) := by decide +kernel
theorem dL_law_875 : decode cL_law 875 = .ok (.invokevirtual 81, 3) := by decide +kernel
theorem dL_law_878 : decode cL_law 878 = .ok (.aload_n 2, 1) := by decide +kernel
theorem dL_law_879 : decode cL_law 879 = .ok (.aload_n 0, 1) := by decide +kernel
theorem dL_law_880 : decode cL_law 880 = .ok (.iload_n 3, 1) := by decide +kernel
theorem dL_law_881 : decode cL_law 881 = .ok (.iconst 1, 1) := by decide +kernel
theorem dL_law_882 : decode cL_law 882 = .ok (.iadd, 1) := by decide +kernel
theorem dL_law_883 : decode cL_law 883 = .ok (.iaload, 1) := by decide +kernel
theorem dL_law_884 : decode cL_law 884 = .ok (.aload_n 0, 1) := by decide +kernel
theorem dL_law_885 : decode cL_law 885 = .ok (.iload_n 3, 1) := by decide +kernel
theorem dL_law_886 : decode cL_law 886 = .ok (.iconst 2, 1) := by decide +kernel
theorem dL_law_887 : decode cL_law 887 = .ok (.iadd, 1) := by decide +kernel
theorem dL_law_888 : decode cL_law 888 = .ok (.iaload, 1) := by decide +kernel
theorem dL_law_889 : decode cL_law 889 = .ok (.aload_n 0, 1) := by decide +kernel
theorem dL_law_890 : decode cL_law 890 = .ok (.iload_n 3, 1) := by decide +kernel
theorem dL_law_891 : decode cL_law 891 = .ok (.iconst 3, 1) := by decide +kernel
theorem dL_law_892 : decode cL_law 892 = .ok (.iadd, 1) := by decide +kernel
theorem dL_law_893 : decode cL_law 893 = .ok (.iaload, 1) := by decide +kernel
theorem dL_law_894 : decode cL_law 894 = .ok (.invokevirtual 84, 3) := by decide +kernel
theorem dL_law_897 : decode cL_law 897 = .ok (.if_icmp .eq 916, 3) := by decide +kernel
theorem eL_X11_parted : yX11_parted.cls = RX11 ∧ yX11_parted.cls ≠ "java/lang/invoke/MethodHandle" ∧ yX11_parted.cls ≠ "java/lang/invoke/VarHandle" ∧ (parseMethodDescriptor yX11_parted.desc).map (fun d => d.parameters.length) = some 3 := by decide +kernel
theorem eL_X12_parted : yX12_parted.cls = RX12 ∧ yX12_parted.cls ≠ "java/lang/invoke/MethodHandle" ∧ yX12_parted.cls ≠ "java/lang/invoke/VarHandle" ∧ (parseMethodDescriptor yX12_parted.desc).map (fun d => d.parameters.length) = some 3 := by decide +kernel
set_option maxHeartbeats 4000000 in
set_option maxRecDepth 100000 in
theorem law_15 {l : Launch} {p : Program} {e : Env} {s : State} {m : MethodId} {below : List Frame} {meth : Method} {c : Code} {D : va_G} {A : Nat → Prop} {cells slots : Nat} {Q : State → Prop} {b L : Nat} {xs : Nat → Int32} {i : Int32} {cI cJ cZ cH : ClassId} {ad : Nat → Nat} {ws : va_W} (hX : va_X b L xs s s.heap) (hbl : b < s.heap.size) (hbA : ¬ A b) (hin : ∀ j : Nat, j < 8 → vp_in (i + nI j) L) (hL : LawS cI cJ cZ cH ad cells slots ws) (kk : ∀ cells slots ws, LawS cI cJ cZ cH ad cells slots ws → WX p l e room_1 s m #[.ref b] below meth c code RL lwG D [(cI, .int), (cJ, .long), (cZ, .boolean), (cH, .object "TinHouse$House")] A 4 cells slots Q ws 1813 [(3, .int i), (2, .ref (ad 57)), (1, .ref (ad 0)), (0, .ref b)] []) : WX p l e room_1 s m #[.ref b] below meth c code RL lwG D [(cI, .int), (cJ, .long), (cZ, .boolean), (cH, .object "TinHouse$House")] A 4 cells slots Q ws 859 [(3, .int i), (2, .ref (ad 57)), (1, .ref (ad 0)), (0, .ref b)] [] := by
  obtain ⟨Z, tl, rfl, ⟨hS, h, hs1, hs2, hs3, ha1, ha2, him⟩, hb1, hb2⟩ := hL
  have hcs : cells ≤ room_1.cells := Nat.le_trans (Nat.le_add_right _ _) hb1
  have hss : slots ≤ room_1.slots := Nat.le_trans (Nat.le_add_right _ _) hb2
  refine ii_aload_n 2 dL_law_859 rfl ?_
  refine ii_aload_n 3 dL_law_860 rfl ?_
  refine ii_iload_n 0 dL_law_861 rfl ?_
  refine ii_iconst dL_law_862 kc1 ?_
  refine ii_iadd dL_law_863 ?_
  refine ii_sld hX hbl hbA (hin 1 (by decide)) dL_law_864 ?_
  refine ii_aload_n 3 dL_law_865 rfl ?_
  refine ii_iload_n 0 dL_law_866 rfl ?_
  refine ii_iconst dL_law_867 kc2 ?_
  refine ii_iadd dL_law_868 ?_
  refine ii_sld hX hbl hbA (hin 2 (by decide)) dL_law_869 ?_
  refine ii_aload_n 3 dL_law_870 rfl ?_
  refine ii_iload_n 0 dL_law_871 rfl ?_
  refine ii_iconst dL_law_872 kc3 ?_
  refine ii_iadd dL_law_873 ?_
  refine ii_sld hX hbl hbA (hin 3 (by decide)) dL_law_874 ?_
  obtain ⟨o1, o2, e1, e2, q1⟩ := (P_parted h _ _ _ : Two (F_X11_parted (trZ Z 0) (tcZ Z 5) (trZ Z 5) (xs (i + 1).toNatClampNeg) (xs (i + 2).toNatClampNeg) (xs (i + 3).toNatClampNeg)) (F_X12_parted (arI (Z 58)) (xs (i + 1).toNatClampNeg) (xs (i + 2).toNatClampNeg) (xs (i + 3).toNatClampNeg)) _)
  refine ii_callZi (nW := 79) (ad := ad) (Z := Z) (setl Z []) (tl := tl) (As := [.int (xs (i + 1).toNatClampNeg), .int (xs (i + 2).toNatClampNeg), .int (xs (i + 3).toNatClampNeg)]) (st := []) (c_X11_parted l D cI cJ cZ cH (ad 0) (ad 28) (ad 32) (ad 34) (ad 35) (ad 36) (ad 1) (ad 6) (ad 8) (ad 14) (ad 20) (ad 24) (ad 22) (ad 2) (ad 3) (ad 10) (ad 26) (ad 12) (ad 13) (ad 16) (ad 4) (ad 18) (ad 51) (ad 55) (ad 49) (ad 29) (ad 44) (ad 45) (flL 11 (Z 0)) (flL 12 (Z 0)) (trZ Z 0) (flI 14 (Z 1)) (flI 13 (Z 1)) (tcZ Z 5) (trZ Z 5) (xs (i + 1).toNatClampNeg) (xs (i + 2).toNatClampNeg) (xs (i + 3).toNatClampNeg) e1) gzL_81 rfl rfl rfl eL_X11_parted ⟨Nat.le_of_ble_eq_true rfl, Nat.le_of_ble_eq_true rfl⟩ rfl 0 (by decide) rfl (sh_0 hS) rfl [0, 34, 1, 2, 12, 13] (zc_cons rfl (sh_0 hS) (zc_cons rfl (sh_34 hS) (zc_cons rfl (sh_1 hS) (zc_cons rfl (sh_2 hS) (zc_cons rfl (sh_12 hS) (zc_cons rfl (sh_13 hS) zc_nil)))))) (zc_cons rfl (zs (sh_0 hS) rfl) (zc_cons rfl (zs (sh_34 hS) rfl) (zc_cons rfl (zs (sh_1 hS) rfl) (zc_cons rfl (zs (sh_2 hS) rfl) (zc_cons rfl (zs (sh_12 hS) rfl) (zc_cons rfl (zs (sh_13 hS) rfl) zc_nil)))))) (setl_out rfl) rfl rfl (Nat.le_of_ble_eq_true rfl) hcs hss rfl dL_law_875 ?_
  refine ii_aload_n 1 dL_law_878 rfl ?_
  refine ii_aload_n 3 dL_law_879 rfl ?_
  refine ii_iload_n 0 dL_law_880 rfl ?_
  refine ii_iconst dL_law_881 kc1 ?_
  refine ii_iadd dL_law_882 ?_
  refine ii_sld hX hbl hbA (hin 1 (by decide)) dL_law_883 ?_
  refine ii_aload_n 3 dL_law_884 rfl ?_
  refine ii_iload_n 0 dL_law_885 rfl ?_
  refine ii_iconst dL_law_886 kc2 ?_
  refine ii_iadd dL_law_887 ?_
  refine ii_sld hX hbl hbA (hin 2 (by decide)) dL_law_888 ?_
  refine ii_aload_n 3 dL_law_889 rfl ?_
  refine ii_iload_n 0 dL_law_890 rfl ?_
  refine ii_iconst dL_law_891 kc3 ?_
  refine ii_iadd dL_law_892 ?_
  refine ii_sld hX hbl hbA (hin 3 (by decide)) dL_law_893 ?_
  refine ii_callZi (nW := 79) (ad := ad) (Z := (setl Z [])) (setl (setl Z []) []) (tl := tl) (As := [.int (xs (i + 1).toNatClampNeg), .int (xs (i + 2).toNatClampNeg), .int (xs (i + 3).toNatClampNeg)]) (st := [.int o1]) (c_X12_parted l D cI cJ cZ cH (ad 57) (ad 72) (ad 77) (ad 70) (ad 65) (ad 59) (ad 60) (ad 76) (ad 75) (ad 68) (ad 66) (ad 74) (ad 69) (ad 71) (ad 78) (ad 58) (ad 61) (ad 73) (ad 67) (ad 64) (ad 63) (ad 62) (flL 11 (Z 0)) (flL 12 (Z 0)) (arI (Z 58)) (flI 5 (Z 57)) (flI 8 (Z 57)) (xs (i + 1).toNatClampNeg) (xs (i + 2).toNatClampNeg) (xs (i + 3).toNatClampNeg) e2) gzL_84 rfl rfl rfl eL_X12_parted ⟨Nat.le_of_ble_eq_true rfl, Nat.le_of_ble_eq_true rfl⟩ rfl 57 (by decide) rfl (zs (sh_57a hS ha1 ha2) rfl) rfl [57, 58] (zc_cons rfl (zs (sh_57a hS ha1 ha2) rfl) (zc_cons rfl (zs (sh_58 hS) rfl) zc_nil)) (zc_cons rfl (zs (sh_57a hS ha1 ha2) rfl) (zc_cons rfl (zs (sh_58 hS) rfl) zc_nil)) (setl_out rfl) rfl rfl (Nat.le_of_ble_eq_true rfl) hcs hss rfl dL_law_894 ?_
  refine ii_icmp_eq (tgt := 1813) (r := ()) (ET := some ()) (EF := none) (if_pos q1) dL_law_897 (by decide) (fun _ => ?_) (fun z => absurd z (by simp))
  exact kk _ _ _ ⟨setl (setl Z []) [], tl, rfl, law_fin (tc' := (tcZ Z)) (tr' := (trZ Z)) (nar' := (flI 13 (Z 1))) (nam' := (flI 14 (Z 1))) (st' := (arI (Z 58))) hS ok_nil ok_nil rfl rfl rfl rfl rfl rfl rfl h hs1 hs2 hs3 ha1 ha2 him, hb1, hb2⟩

theorem dL_law_902 : decode cL_law 902 = .ok (.aload_n 1, 1) := by decide +kernel
theorem dL_law_903 : decode cL_law 903 = .ok (.aload_n 0, 1) := by decide +kernel
theorem dL_law_904 : decode cL_law 904 = .ok (.iload_n 3, 1) := by decide +kernel
theorem dL_law_905 : decode cL_law 905 = .ok (.iconst 1, 1) := by decide +kernel
theorem dL_law_906 : decode cL_law 906 = .ok (.iadd, 1) := by decide +kernel
theorem dL_law_907 : decode cL_law 907 = .ok (.iaload, 1) := by decide +kernel
theorem dL_law_908 : decode cL_law 908 = .ok (.invokevirtual 85, 3) := by decide +kernel
theorem dL_law_911 : decode cL_law 911 = .ok (.aload_n 2, 1) := by decide +kernel
theorem dL_law_912 : decode cL_law 912 = .ok (.aload_n 0, 1) := by decide +kernel
theorem dL_law_913 : decode cL_law 913 = .ok (.iload_n 3, 1) := by decide +kernel
theorem dL_law_914 : decode cL_law 914 = .ok (.iconst 1, 1) := by decide +kernel
theorem dL_law_915 : decode cL_law 915 = .ok (.iadd, 1) := by decide +kernel
theorem dL_law_916 : decode cL_law 916 = .ok (.iaload, 1) := by decide +kernel
theorem dL_law_917 : decode cL_law 917 = .ok (.invokevirtual 88, 3) := by decide +kernel
theorem dL_law_920 : decode cL_law 920 = .ok (.if_icmp .eq 893, 3) := by decide +kernel
theorem eL_X11_gate : yX11_gate.cls = RX11 ∧ yX11_gate.cls ≠ "java/lang/invoke/MethodHandle" ∧ yX11_gate.cls ≠ "java/lang/invoke/VarHandle" ∧ (parseMethodDescriptor yX11_gate.desc).map (fun d => d.parameters.length) = some 1 := by decide +kernel
theorem eL_X12_gate : yX12_gate.cls = RX12 ∧ yX12_gate.cls ≠ "java/lang/invoke/MethodHandle" ∧ yX12_gate.cls ≠ "java/lang/invoke/VarHandle" ∧ (parseMethodDescriptor yX12_gate.desc).map (fun d => d.parameters.length) = some 1 := by decide +kernel
set_option maxHeartbeats 4000000 in
set_option maxRecDepth 100000 in
theorem law_16 {l : Launch} {p : Program} {e : Env} {s : State} {m : MethodId} {below : List Frame} {meth : Method} {c : Code} {D : va_G} {A : Nat → Prop} {cells slots : Nat} {Q : State → Prop} {b L : Nat} {xs : Nat → Int32} {i : Int32} {cI cJ cZ cH : ClassId} {ad : Nat → Nat} {ws : va_W} (hX : va_X b L xs s s.heap) (hbl : b < s.heap.size) (hbA : ¬ A b) (hin : ∀ j : Nat, j < 8 → vp_in (i + nI j) L) (hL : LawS cI cJ cZ cH ad cells slots ws) (kk : ∀ cells slots ws, LawS cI cJ cZ cH ad cells slots ws → WX p l e room_1 s m #[.ref b] below meth c code RL lwG D [(cI, .int), (cJ, .long), (cZ, .boolean), (cH, .object "TinHouse$House")] A 4 cells slots Q ws 1813 [(3, .int i), (2, .ref (ad 57)), (1, .ref (ad 0)), (0, .ref b)] []) : WX p l e room_1 s m #[.ref b] below meth c code RL lwG D [(cI, .int), (cJ, .long), (cZ, .boolean), (cH, .object "TinHouse$House")] A 4 cells slots Q ws 902 [(3, .int i), (2, .ref (ad 57)), (1, .ref (ad 0)), (0, .ref b)] [] := by
  obtain ⟨Z, tl, rfl, ⟨hS, h, hs1, hs2, hs3, ha1, ha2, him⟩, hb1, hb2⟩ := hL
  have hcs : cells ≤ room_1.cells := Nat.le_trans (Nat.le_add_right _ _) hb1
  have hss : slots ≤ room_1.slots := Nat.le_trans (Nat.le_add_right _ _) hb2
  refine ii_aload_n 2 dL_law_902 rfl ?_
  refine ii_aload_n 3 dL_law_903 rfl ?_
  refine ii_iload_n 0 dL_law_904 rfl ?_
  refine ii_iconst dL_law_905 kc1 ?_
  refine ii_iadd dL_law_906 ?_
  refine ii_sld hX hbl hbA (hin 1 (by decide)) dL_law_907 ?_
  obtain ⟨o1, o2, e1, e2, q1, q2⟩ := (P_gate h _ : Two (F_X11_gate (tcZ Z 6) (trZ Z 6) (xs (i + 1).toNatClampNeg)) (F_X12_gate (arI (Z 58)) (xs (i + 1).toNatClampNeg)) _)
  refine ii_callZi (nW := 79) (ad := ad) (Z := Z) (setl Z [(15, .inl (cI, 6, .inl o1.2.1)), (14, .inr (8, [.int (1 : Int32), .int (6 : Int32), .ref (ad 15), .int o1.2.2]))]) (tl := tl) (As := [.int (xs (i + 1).toNatClampNeg)]) (st := []) (c_X11_gate l D cI cJ cZ cH (ad 0) (ad 28) (ad 32) (ad 34) (ad 36) (ad 1) (ad 6) (ad 8) (ad 14) (ad 15) (ad 20) (ad 24) (ad 22) (ad 2) (ad 10) (ad 26) (ad 12) (ad 16) (ad 4) (ad 18) (ad 51) (ad 55) (ad 49) (ad 29) (ad 44) (ad 45) (flL 11 (Z 0)) (flL 12 (Z 0)) (tcZ Z 6) (trZ Z 6) (flI 14 (Z 1)) (flI 13 (Z 1)) (xs (i + 1).toNatClampNeg) e1) gzL_85 rfl rfl rfl eL_X11_gate ⟨Nat.le_of_ble_eq_true rfl, Nat.le_of_ble_eq_true rfl⟩ rfl 0 (by decide) rfl (sh_0 hS) rfl [0, 1, 14, 15] (zc_cons rfl (sh_0 hS) (zc_cons rfl (sh_1 hS) (zc_cons rfl (sh_14 hS) (zc_cons rfl (sh_15 hS) zc_nil)))) (zc_cons rfl (zs (sh_0 hS) rfl) (zc_cons rfl (zs (sh_1 hS) rfl) (zc_cons rfl rfl (zc_cons rfl rfl zc_nil)))) (setl_out rfl) rfl rfl (Nat.le_of_ble_eq_true rfl) hcs hss rfl dL_law_908 ?_
  refine ii_aload_n 1 dL_law_911 rfl ?_
  refine ii_aload_n 3 dL_law_912 rfl ?_
  refine ii_iload_n 0 dL_law_913 rfl ?_
  refine ii_iconst dL_law_914 kc1 ?_
  refine ii_iadd dL_law_915 ?_
  refine ii_sld hX hbl hbA (hin 1 (by decide)) dL_law_916 ?_
  refine ii_callZi (nW := 79) (ad := ad) (Z := (setl Z [(15, .inl (cI, 6, .inl o1.2.1)), (14, .inr (8, [.int (1 : Int32), .int (6 : Int32), .ref (ad 15), .int o1.2.2]))])) (setl (setl Z [(15, .inl (cI, 6, .inl o1.2.1)), (14, .inr (8, [.int (1 : Int32), .int (6 : Int32), .ref (ad 15), .int o1.2.2]))]) [(58, .inl (cI, 1951, .inl o2.2))]) (tl := tl) (As := [.int (xs (i + 1).toNatClampNeg)]) (st := [.int o1.1]) (c_X12_gate l D cI cJ cZ cH (ad 57) (ad 72) (ad 77) (ad 70) (ad 65) (ad 59) (ad 60) (ad 76) (ad 75) (ad 68) (ad 66) (ad 74) (ad 69) (ad 71) (ad 78) (ad 58) (ad 61) (ad 73) (ad 67) (ad 64) (ad 63) (ad 62) (flL 11 (Z 0)) (flL 12 (Z 0)) (arI (Z 58)) (flI 5 (Z 57)) (flI 8 (Z 57)) (xs (i + 1).toNatClampNeg) e2) gzL_88 rfl rfl rfl eL_X12_gate ⟨Nat.le_of_ble_eq_true rfl, Nat.le_of_ble_eq_true rfl⟩ rfl 57 (by decide) rfl (zs (sh_57a hS ha1 ha2) rfl) rfl [57, 58] (zc_cons rfl (zs (sh_57a hS ha1 ha2) rfl) (zc_cons rfl (zs (sh_58 hS) rfl) zc_nil)) (zc_cons rfl (zs (sh_57a hS ha1 ha2) rfl) (zc_cons rfl rfl zc_nil)) (setl_out rfl) rfl rfl (Nat.le_of_ble_eq_true rfl) hcs hss rfl dL_law_917 ?_
  refine ii_icmp_eq (tgt := 1813) (r := ()) (ET := some ()) (EF := none) (if_pos q1) dL_law_920 (by decide) (fun _ => ?_) (fun z => absurd z (by simp))
  exact kk _ _ _ ⟨setl (setl Z [(15, .inl (cI, 6, .inl o1.2.1)), (14, .inr (8, [.int (1 : Int32), .int (6 : Int32), .ref (ad 15), .int o1.2.2]))]) [(58, .inl (cI, 1951, .inl o2.2))], tl, rfl, law_fin (tc' := (va_up (tcZ Z) 6 o1.2.1)) (tr' := (va_up (trZ Z) 6 o1.2.2)) (nar' := (flI 13 (Z 1))) (nam' := (flI 14 (Z 1))) (st' := o2.2) hS (ok_cons ok_15 (ok_cons ok_14 ok_nil)) (ok_cons ok_58 ok_nil) rfl rfl rfl rfl rfl rfl rfl q2 hs1 hs2 hs3 ha1 ha2 him, hb1, hb2⟩

theorem dL_law_925 : decode cL_law 925 = .ok (.aload_n 1, 1) := by decide +kernel
theorem dL_law_926 : decode cL_law 926 = .ok (.aload_n 0, 1) := by decide +kernel
theorem dL_law_927 : decode cL_law 927 = .ok (.iload_n 3, 1) := by decide +kernel
theorem dL_law_928 : decode cL_law 928 = .ok (.iconst 1, 1) := by decide +kernel
theorem dL_law_929 : decode cL_law 929 = .ok (.iadd, 1) := by decide +kernel
theorem dL_law_930 : decode cL_law 930 = .ok (.iaload, 1) := by decide +kernel
theorem dL_law_931 : decode cL_law 931 = .ok (.aload_n 0, 1) := by decide +kernel
theorem dL_law_932 : decode cL_law 932 = .ok (.iload_n 3, 1) := by decide +kernel
theorem dL_law_933 : decode cL_law 933 = .ok (.iconst 2, 1) := by decide +kernel
theorem dL_law_934 : decode cL_law 934 = .ok (.iadd, 1) := by decide +kernel
theorem dL_law_935 : decode cL_law 935 = .ok (.iaload, 1) := by decide +kernel
theorem dL_law_936 : decode cL_law 936 = .ok (.aload_n 0, 1) := by decide +kernel
theorem dL_law_937 : decode cL_law 937 = .ok (.iload_n 3, 1) := by decide +kernel
theorem dL_law_938 : decode cL_law 938 = .ok (.iconst 3, 1) := by decide +kernel
theorem dL_law_939 : decode cL_law 939 = .ok (.iadd, 1) := by decide +kernel
theorem dL_law_940 : decode cL_law 940 = .ok (.iaload, 1) := by decide +kernel
theorem dL_law_941 : decode cL_law 941 = .ok (.invokevirtual 89, 3) := by decide +kernel
theorem dL_law_944 : decode cL_law 944 = .ok (.aload_n 2, 1) := by decide +kernel
theorem dL_law_945 : decode cL_law 945 = .ok (.aload_n 0, 1) := by decide +kernel
theorem dL_law_946 : decode cL_law 946 = .ok (.iload_n 3, 1) := by decide +kernel
theorem dL_law_947 : decode cL_law 947 = .ok (.iconst 1, 1) := by decide +kernel
theorem dL_law_948 : decode cL_law 948 = .ok (.iadd, 1) := by decide +kernel
theorem dL_law_949 : decode cL_law 949 = .ok (.iaload, 1) := by decide +kernel
theorem dL_law_950 : decode cL_law 950 = .ok (.aload_n 0, 1) := by decide +kernel
theorem dL_law_951 : decode cL_law 951 = .ok (.iload_n 3, 1) := by decide +kernel
theorem dL_law_952 : decode cL_law 952 = .ok (.iconst 2, 1) := by decide +kernel
theorem dL_law_953 : decode cL_law 953 = .ok (.iadd, 1) := by decide +kernel
theorem dL_law_954 : decode cL_law 954 = .ok (.iaload, 1) := by decide +kernel
theorem dL_law_955 : decode cL_law 955 = .ok (.aload_n 0, 1) := by decide +kernel
theorem dL_law_956 : decode cL_law 956 = .ok (.iload_n 3, 1) := by decide +kernel
theorem dL_law_957 : decode cL_law 957 = .ok (.iconst 3, 1) := by decide +kernel
theorem dL_law_958 : decode cL_law 958 = .ok (.iadd, 1) := by decide +kernel
theorem dL_law_959 : decode cL_law 959 = .ok (.iaload, 1) := by decide +kernel
theorem dL_law_960 : decode cL_law 960 = .ok (.invokevirtual 92, 3) := by decide +kernel
theorem dL_law_963 : decode cL_law 963 = .ok (.if_icmp .eq 850, 3) := by decide +kernel
theorem eL_X11_wide : yX11_wide.cls = RX11 ∧ yX11_wide.cls ≠ "java/lang/invoke/MethodHandle" ∧ yX11_wide.cls ≠ "java/lang/invoke/VarHandle" ∧ (parseMethodDescriptor yX11_wide.desc).map (fun d => d.parameters.length) = some 3 := by decide +kernel
theorem eL_X12_wide : yX12_wide.cls = RX12 ∧ yX12_wide.cls ≠ "java/lang/invoke/MethodHandle" ∧ yX12_wide.cls ≠ "java/lang/invoke/VarHandle" ∧ (parseMethodDescriptor yX12_wide.desc).map (fun d => d.parameters.length) = some 3 := by decide +kernel
set_option maxHeartbeats 4000000 in
set_option maxRecDepth 100000 in
theorem law_17 {l : Launch} {p : Program} {e : Env} {s : State} {m : MethodId} {below : List Frame} {meth : Method} {c : Code} {D : va_G} {A : Nat → Prop} {cells slots : Nat} {Q : State → Prop} {b L : Nat} {xs : Nat → Int32} {i : Int32} {cI cJ cZ cH : ClassId} {ad : Nat → Nat} {ws : va_W} (hX : va_X b L xs s s.heap) (hbl : b < s.heap.size) (hbA : ¬ A b) (hin : ∀ j : Nat, j < 8 → vp_in (i + nI j) L) (hL : LawS cI cJ cZ cH ad cells slots ws) (kk : ∀ cells slots ws, LawS cI cJ cZ cH ad cells slots ws → WX p l e room_1 s m #[.ref b] below meth c code RL lwG D [(cI, .int), (cJ, .long), (cZ, .boolean), (cH, .object "TinHouse$House")] A 4 cells slots Q ws 1813 [(3, .int i), (2, .ref (ad 57)), (1, .ref (ad 0)), (0, .ref b)] []) : WX p l e room_1 s m #[.ref b] below meth c code RL lwG D [(cI, .int), (cJ, .long), (cZ, .boolean), (cH, .object "TinHouse$House")] A 4 cells slots Q ws 925 [(3, .int i), (2, .ref (ad 57)), (1, .ref (ad 0)), (0, .ref b)] [] := by
  obtain ⟨Z, tl, rfl, ⟨hS, h, hs1, hs2, hs3, ha1, ha2, him⟩, hb1, hb2⟩ := hL
  have hcs : cells ≤ room_1.cells := Nat.le_trans (Nat.le_add_right _ _) hb1
  have hss : slots ≤ room_1.slots := Nat.le_trans (Nat.le_add_right _ _) hb2
  refine ii_aload_n 2 dL_law_925 rfl ?_
  refine ii_aload_n 3 dL_law_926 rfl ?_
  refine ii_iload_n 0 dL_law_927 rfl ?_
  refine ii_iconst dL_law_928 kc1 ?_
  refine ii_iadd dL_law_929 ?_
  refine ii_sld hX hbl hbA (hin 1 (by decide)) dL_law_930 ?_
  refine ii_aload_n 3 dL_law_931 rfl ?_
  refine ii_iload_n 0 dL_law_932 rfl ?_
  refine ii_iconst dL_law_933 kc2 ?_
  refine ii_iadd dL_law_934 ?_
  refine ii_sld hX hbl hbA (hin 2 (by decide)) dL_law_935 ?_
  refine ii_aload_n 3 dL_law_936 rfl ?_
  refine ii_iload_n 0 dL_law_937 rfl ?_
  refine ii_iconst dL_law_938 kc3 ?_
  refine ii_iadd dL_law_939 ?_
  refine ii_sld hX hbl hbA (hin 3 (by decide)) dL_law_940 ?_
  obtain ⟨o1, o2, e1, e2, q1⟩ := (P_wide h _ _ _ _ _ _ _ _ _ _ _ _ _ _ _ _ _ : Two (F_X11_wide (flL 7 (Z 32)) (flI 3 (Z 32)) (flI 2 (Z 32)) (flI 4 (Z 32)) (flI 6 (Z 32)) (arL (Z 33)) (flI 5 (Z 32)) (tcZ Z 2) (trZ Z 2) (tcZ Z 6) (trZ Z 6) (tcZ Z 0) (trZ Z 0) (xs (i + 1).toNatClampNeg) (xs (i + 2).toNatClampNeg) (xs (i + 3).toNatClampNeg)) (F_X12_wide (arL (Z 65)) (arI (Z 58)) (arI (Z 61)) (flI 5 (Z 57)) (arL (Z 64)) (flI 8 (Z 57)) (arI (Z 63)) (arI (Z 62)) (xs (i + 1).toNatClampNeg) (xs (i + 2).toNatClampNeg) (xs (i + 3).toNatClampNeg)) _)
  refine ii_callZi (nW := 79) (ad := ad) (Z := Z) (setl Z [(33, .inl (cJ, 50, .inr (.inl o1.2.2.2.2.2.2.1))), (32, .inr (1, [.ref (ad 1), .ref (ad 33), .int o1.2.2.2.1, .int o1.2.2.1, .int o1.2.2.2.2.1, .int o1.2.2.2.2.2.2.2, .int o1.2.2.2.2.2.1, .long o1.2.1]))]) (tl := tl) (As := [.int (xs (i + 1).toNatClampNeg), .int (xs (i + 2).toNatClampNeg), .int (xs (i + 3).toNatClampNeg)]) (st := []) (c_X11_wide l D cI cJ cZ cH (ad 0) (ad 28) (ad 32) (ad 33) (ad 34) (ad 36) (ad 1) (ad 6) (ad 7) (ad 8) (ad 14) (ad 15) (ad 20) (ad 24) (ad 22) (ad 2) (ad 3) (ad 10) (ad 26) (ad 12) (ad 16) (ad 4) (ad 18) (ad 51) (ad 55) (ad 49) (ad 29) (ad 44) (ad 45) (flL 11 (Z 0)) (flL 12 (Z 0)) (flL 7 (Z 32)) (flI 3 (Z 32)) (flI 2 (Z 32)) (flI 4 (Z 32)) (flI 6 (Z 32)) (arL (Z 33)) (flI 5 (Z 32)) (tcZ Z 2) (trZ Z 2) (tcZ Z 6) (trZ Z 6) (tcZ Z 0) (trZ Z 0) (flI 14 (Z 1)) (flI 13 (Z 1)) (xs (i + 1).toNatClampNeg) (xs (i + 2).toNatClampNeg) (xs (i + 3).toNatClampNeg) e1) gzL_89 rfl rfl rfl eL_X11_wide ⟨Nat.le_of_ble_eq_true rfl, Nat.le_of_ble_eq_true rfl⟩ rfl 0 (by decide) rfl (sh_0 hS) rfl [0, 32, 33, 1, 6, 7, 14, 15, 2, 3, 44] (zc_cons rfl (sh_0 hS) (zc_cons rfl (sh_32 hS) (zc_cons rfl (sh_33 hS) (zc_cons rfl (sh_1 hS) (zc_cons rfl (sh_6 hS) (zc_cons rfl (sh_7 hS) (zc_cons rfl (sh_14 hS) (zc_cons rfl (sh_15 hS) (zc_cons rfl (sh_2 hS) (zc_cons rfl (sh_3 hS) (zc_cons rfl (sh_44 hS) zc_nil))))))))))) (zc_cons rfl (zs (sh_0 hS) rfl) (zc_cons rfl rfl (zc_cons rfl rfl (zc_cons rfl (zs (sh_1 hS) rfl) (zc_cons rfl (zs (sh_6 hS) rfl) (zc_cons rfl (zs (sh_7 hS) rfl) (zc_cons rfl (zs (sh_14 hS) rfl) (zc_cons rfl (zs (sh_15 hS) rfl) (zc_cons rfl (zs (sh_2 hS) rfl) (zc_cons rfl (zs (sh_3 hS) rfl) (zc_cons rfl (zs (sh_44 hS) rfl) zc_nil))))))))))) (setl_out rfl) rfl rfl (Nat.le_of_ble_eq_true rfl) hcs hss rfl dL_law_941 ?_
  refine ii_aload_n 1 dL_law_944 rfl ?_
  refine ii_aload_n 3 dL_law_945 rfl ?_
  refine ii_iload_n 0 dL_law_946 rfl ?_
  refine ii_iconst dL_law_947 kc1 ?_
  refine ii_iadd dL_law_948 ?_
  refine ii_sld hX hbl hbA (hin 1 (by decide)) dL_law_949 ?_
  refine ii_aload_n 3 dL_law_950 rfl ?_
  refine ii_iload_n 0 dL_law_951 rfl ?_
  refine ii_iconst dL_law_952 kc2 ?_
  refine ii_iadd dL_law_953 ?_
  refine ii_sld hX hbl hbA (hin 2 (by decide)) dL_law_954 ?_
  refine ii_aload_n 3 dL_law_955 rfl ?_
  refine ii_iload_n 0 dL_law_956 rfl ?_
  refine ii_iconst dL_law_957 kc3 ?_
  refine ii_iadd dL_law_958 ?_
  refine ii_sld hX hbl hbA (hin 3 (by decide)) dL_law_959 ?_
  refine ii_callZi (nW := 79) (ad := ad) (Z := (setl Z [(33, .inl (cJ, 50, .inr (.inl o1.2.2.2.2.2.2.1))), (32, .inr (1, [.ref (ad 1), .ref (ad 33), .int o1.2.2.2.1, .int o1.2.2.1, .int o1.2.2.2.2.1, .int o1.2.2.2.2.2.2.2, .int o1.2.2.2.2.2.1, .long o1.2.1]))])) (setl (setl Z [(33, .inl (cJ, 50, .inr (.inl o1.2.2.2.2.2.2.1))), (32, .inr (1, [.ref (ad 1), .ref (ad 33), .int o1.2.2.2.1, .int o1.2.2.1, .int o1.2.2.2.2.1, .int o1.2.2.2.2.2.2.2, .int o1.2.2.2.2.2.1, .long o1.2.1]))]) [(65, .inl (cJ, 5, .inr (.inl o2.2.1))), (64, .inl (cJ, 70, .inr (.inl o2.2.2.2.2.1))), (63, .inl (cI, 70, .inl o2.2.2.2.2.2.2.1)), (62, .inl (cI, 70, .inl o2.2.2.2.2.2.2.2)), (61, .inl (cI, 70, .inl o2.2.2.1)), (57, .inr (12, [.ref (ad 58), .ref (ad 59), .ref (ad 60), .long (flL 11 (Z 0)), .long (flL 12 (Z 0)), .int o2.2.2.2.1, .ref (ad 61), .ref (ad 62), .int o2.2.2.2.2.2.1, .ref (ad 63), .ref (ad 64), .ref (ad 65), .ref (ad 66), .ref (ad 67), .ref (ad 68), .ref (ad 69), .ref (ad 70), .ref (ad 71), .ref (ad 72), .ref (ad 73), .ref (ad 74), .ref (ad 75), .ref (ad 76), .ref (ad 77), .ref (ad 78)]))]) (tl := tl) (As := [.int (xs (i + 1).toNatClampNeg), .int (xs (i + 2).toNatClampNeg), .int (xs (i + 3).toNatClampNeg)]) (st := [.int o1.1]) (c_X12_wide l D cI cJ cZ cH (ad 57) (ad 72) (ad 77) (ad 70) (ad 65) (ad 59) (ad 60) (ad 76) (ad 75) (ad 68) (ad 66) (ad 74) (ad 69) (ad 71) (ad 78) (ad 58) (ad 61) (ad 73) (ad 67) (ad 64) (ad 63) (ad 62) (flL 11 (Z 0)) (flL 12 (Z 0)) (arL (Z 65)) (arI (Z 58)) (arI (Z 61)) (flI 5 (Z 57)) (arL (Z 64)) (flI 8 (Z 57)) (arI (Z 63)) (arI (Z 62)) (xs (i + 1).toNatClampNeg) (xs (i + 2).toNatClampNeg) (xs (i + 3).toNatClampNeg) e2) gzL_92 rfl rfl rfl eL_X12_wide ⟨Nat.le_of_ble_eq_true rfl, Nat.le_of_ble_eq_true rfl⟩ rfl 57 (by decide) rfl (zs (sh_57a hS ha1 ha2) rfl) rfl [57, 65, 58, 61, 64, 63, 62] (zc_cons rfl (zs (sh_57a hS ha1 ha2) rfl) (zc_cons rfl (zs (sh_65 hS) rfl) (zc_cons rfl (zs (sh_58 hS) rfl) (zc_cons rfl (zs (sh_61 hS) rfl) (zc_cons rfl (zs (sh_64 hS) rfl) (zc_cons rfl (zs (sh_63 hS) rfl) (zc_cons rfl (zs (sh_62 hS) rfl) zc_nil))))))) (zc_cons rfl rfl (zc_cons rfl rfl (zc_cons rfl (zs (sh_58 hS) rfl) (zc_cons rfl rfl (zc_cons rfl rfl (zc_cons rfl rfl (zc_cons rfl rfl zc_nil))))))) (setl_out rfl) rfl rfl (Nat.le_of_ble_eq_true rfl) hcs hss rfl dL_law_960 ?_
  refine ii_icmp_eq (tgt := 1813) (r := ()) (ET := some ()) (EF := none) (if_pos q1) dL_law_963 (by decide) (fun _ => ?_) (fun z => absurd z (by simp))
  exact kk _ _ _ ⟨setl (setl Z [(33, .inl (cJ, 50, .inr (.inl o1.2.2.2.2.2.2.1))), (32, .inr (1, [.ref (ad 1), .ref (ad 33), .int o1.2.2.2.1, .int o1.2.2.1, .int o1.2.2.2.2.1, .int o1.2.2.2.2.2.2.2, .int o1.2.2.2.2.2.1, .long o1.2.1]))]) [(65, .inl (cJ, 5, .inr (.inl o2.2.1))), (64, .inl (cJ, 70, .inr (.inl o2.2.2.2.2.1))), (63, .inl (cI, 70, .inl o2.2.2.2.2.2.2.1)), (62, .inl (cI, 70, .inl o2.2.2.2.2.2.2.2)), (61, .inl (cI, 70, .inl o2.2.2.1)), (57, .inr (12, [.ref (ad 58), .ref (ad 59), .ref (ad 60), .long (flL 11 (Z 0)), .long (flL 12 (Z 0)), .int o2.2.2.2.1, .ref (ad 61), .ref (ad 62), .int o2.2.2.2.2.2.1, .ref (ad 63), .ref (ad 64), .ref (ad 65), .ref (ad 66), .ref (ad 67), .ref (ad 68), .ref (ad 69), .ref (ad 70), .ref (ad 71), .ref (ad 72), .ref (ad 73), .ref (ad 74), .ref (ad 75), .ref (ad 76), .ref (ad 77), .ref (ad 78)]))], tl, rfl, law_fin (tc' := (tcZ Z)) (tr' := (trZ Z)) (nar' := (flI 13 (Z 1))) (nam' := (flI 14 (Z 1))) (st' := (arI (Z 58))) hS (ok_cons ok_33 (ok_cons ok_32 ok_nil)) (ok_cons ok_65 (ok_cons ok_64 (ok_cons ok_63 (ok_cons ok_62 (ok_cons ok_61 (ok_cons ok_57 ok_nil)))))) rfl rfl rfl rfl rfl rfl rfl h hs1 hs2 hs3 rfl rfl him, hb1, hb2⟩

theorem dL_law_968 : decode cL_law 968 = .ok (.aload_n 1, 1) := by decide +kernel
theorem dL_law_969 : decode cL_law 969 = .ok (.aload_n 0, 1) := by decide +kernel
theorem dL_law_970 : decode cL_law 970 = .ok (.iload_n 3, 1) := by decide +kernel
theorem dL_law_971 : decode cL_law 971 = .ok (.iconst 1, 1) := by decide +kernel
theorem dL_law_972 : decode cL_law 972 = .ok (.iadd, 1) := by decide +kernel
theorem dL_law_973 : decode cL_law 973 = .ok (.iaload, 1) := by decide +kernel
theorem dL_law_974 : decode cL_law 974 = .ok (.invokevirtual 93, 3) := by decide +kernel
theorem dL_law_977 : decode cL_law 977 = .ok (.aload_n 2, 1) := by decide +kernel
theorem dL_law_978 : decode cL_law 978 = .ok (.aload_n 0, 1) := by decide +kernel
theorem dL_law_979 : decode cL_law 979 = .ok (.iload_n 3, 1) := by decide +kernel
theorem dL_law_980 : decode cL_law 980 = .ok (.iconst 1, 1) := by decide +kernel
theorem dL_law_981 : decode cL_law 981 = .ok (.iadd, 1) := by decide +kernel
theorem dL_law_982 : decode cL_law 982 = .ok (.iaload, 1) := by decide +kernel
theorem dL_law_983 : decode cL_law 983 = .ok (.invokevirtual 96, 3) := by decide +kernel
theorem dL_law_986 : decode cL_law 986 = .ok (.if_icmp .eq 827, 3) := by decide +kernel
theorem eL_X11_narrow : yX11_narrow.cls = RX11 ∧ yX11_narrow.cls ≠ "java/lang/invoke/MethodHandle" ∧ yX11_narrow.cls ≠ "java/lang/invoke/VarHandle" ∧ (parseMethodDescriptor yX11_narrow.desc).map (fun d => d.parameters.length) = some 1 := by decide +kernel
theorem eL_X12_narrow : yX12_narrow.cls = RX12 ∧ yX12_narrow.cls ≠ "java/lang/invoke/MethodHandle" ∧ yX12_narrow.cls ≠ "java/lang/invoke/VarHandle" ∧ (parseMethodDescriptor yX12_narrow.desc).map (fun d => d.parameters.length) = some 1 := by decide +kernel
set_option maxHeartbeats 4000000 in
set_option maxRecDepth 100000 in
theorem law_18 {l : Launch} {p : Program} {e : Env} {s : State} {m : MethodId} {below : List Frame} {meth : Method} {c : Code} {D : va_G} {A : Nat → Prop} {cells slots : Nat} {Q : State → Prop} {b L : Nat} {xs : Nat → Int32} {i : Int32} {cI cJ cZ cH : ClassId} {ad : Nat → Nat} {ws : va_W} (hX : va_X b L xs s s.heap) (hbl : b < s.heap.size) (hbA : ¬ A b) (hin : ∀ j : Nat, j < 8 → vp_in (i + nI j) L) (hL : LawS cI cJ cZ cH ad cells slots ws) (kk : ∀ cells slots ws, LawS cI cJ cZ cH ad cells slots ws → WX p l e room_1 s m #[.ref b] below meth c code RL lwG D [(cI, .int), (cJ, .long), (cZ, .boolean), (cH, .object "TinHouse$House")] A 4 cells slots Q ws 1813 [(3, .int i), (2, .ref (ad 57)), (1, .ref (ad 0)), (0, .ref b)] []) : WX p l e room_1 s m #[.ref b] below meth c code RL lwG D [(cI, .int), (cJ, .long), (cZ, .boolean), (cH, .object "TinHouse$House")] A 4 cells slots Q ws 968 [(3, .int i), (2, .ref (ad 57)), (1, .ref (ad 0)), (0, .ref b)] [] := by
  obtain ⟨Z, tl, rfl, ⟨hS, h, hs1, hs2, hs3, ha1, ha2, him⟩, hb1, hb2⟩ := hL
  have hcs : cells ≤ room_1.cells := Nat.le_trans (Nat.le_add_right _ _) hb1
  have hss : slots ≤ room_1.slots := Nat.le_trans (Nat.le_add_right _ _) hb2
  refine ii_aload_n 2 dL_law_968 rfl ?_
  refine ii_aload_n 3 dL_law_969 rfl ?_
  refine ii_iload_n 0 dL_law_970 rfl ?_
  refine ii_iconst dL_law_971 kc1 ?_
  refine ii_iadd dL_law_972 ?_
  refine ii_sld hX hbl hbA (hin 1 (by decide)) dL_law_973 ?_
  obtain ⟨o1, o2, e1, e2, q1, q2⟩ := (P_narrow h _ : Two (F_X11_narrow (flI 13 (Z 1)) (xs (i + 1).toNatClampNeg)) (F_X12_narrow (arI (Z 58)) (xs (i + 1).toNatClampNeg)) _)
  refine ii_callZi (nW := 79) (ad := ad) (Z := Z) (setl Z [(1, .inr (0, [.ref (ad 2), .ref (ad 4), .ref (ad 6), .ref (ad 8), .ref (ad 10), .ref (ad 12), .ref (ad 14), .ref (ad 16), .ref (ad 18), .ref (ad 20), .ref (ad 22), .ref (ad 24), .ref (ad 26), .int o1.2, .int (flI 14 (Z 1))]))]) (tl := tl) (As := [.int (xs (i + 1).toNatClampNeg)]) (st := []) (c_X11_narrow l D cI cJ cZ cH (ad 0) (ad 28) (ad 32) (ad 34) (ad 36) (ad 1) (ad 6) (ad 8) (ad 14) (ad 20) (ad 24) (ad 22) (ad 2) (ad 10) (ad 26) (ad 12) (ad 16) (ad 4) (ad 18) (ad 51) (ad 55) (ad 49) (ad 29) (ad 44) (ad 45) (flL 11 (Z 0)) (flL 12 (Z 0)) (flI 14 (Z 1)) (flI 13 (Z 1)) (xs (i + 1).toNatClampNeg) e1) gzL_93 rfl rfl rfl eL_X11_narrow ⟨Nat.le_of_ble_eq_true rfl, Nat.le_of_ble_eq_true rfl⟩ rfl 0 (by decide) rfl (sh_0 hS) rfl [0, 1] (zc_cons rfl (sh_0 hS) (zc_cons rfl (sh_1 hS) zc_nil)) (zc_cons rfl (zs (sh_0 hS) rfl) (zc_cons rfl rfl zc_nil)) (setl_out rfl) rfl rfl (Nat.le_of_ble_eq_true rfl) hcs hss rfl dL_law_974 ?_
  refine ii_aload_n 1 dL_law_977 rfl ?_
  refine ii_aload_n 3 dL_law_978 rfl ?_
  refine ii_iload_n 0 dL_law_979 rfl ?_
  refine ii_iconst dL_law_980 kc1 ?_
  refine ii_iadd dL_law_981 ?_
  refine ii_sld hX hbl hbA (hin 1 (by decide)) dL_law_982 ?_
  refine ii_callZi (nW := 79) (ad := ad) (Z := (setl Z [(1, .inr (0, [.ref (ad 2), .ref (ad 4), .ref (ad 6), .ref (ad 8), .ref (ad 10), .ref (ad 12), .ref (ad 14), .ref (ad 16), .ref (ad 18), .ref (ad 20), .ref (ad 22), .ref (ad 24), .ref (ad 26), .int o1.2, .int (flI 14 (Z 1))]))])) (setl (setl Z [(1, .inr (0, [.ref (ad 2), .ref (ad 4), .ref (ad 6), .ref (ad 8), .ref (ad 10), .ref (ad 12), .ref (ad 14), .ref (ad 16), .ref (ad 18), .ref (ad 20), .ref (ad 22), .ref (ad 24), .ref (ad 26), .int o1.2, .int (flI 14 (Z 1))]))]) [(58, .inl (cI, 1951, .inl o2.2))]) (tl := tl) (As := [.int (xs (i + 1).toNatClampNeg)]) (st := [.int o1.1]) (c_X12_narrow l D cI cJ cZ cH (ad 57) (ad 72) (ad 77) (ad 70) (ad 65) (ad 59) (ad 60) (ad 76) (ad 75) (ad 68) (ad 66) (ad 74) (ad 69) (ad 71) (ad 78) (ad 58) (ad 61) (ad 73) (ad 67) (ad 64) (ad 63) (ad 62) (flL 11 (Z 0)) (flL 12 (Z 0)) (arI (Z 58)) (flI 5 (Z 57)) (flI 8 (Z 57)) (xs (i + 1).toNatClampNeg) e2) gzL_96 rfl rfl rfl eL_X12_narrow ⟨Nat.le_of_ble_eq_true rfl, Nat.le_of_ble_eq_true rfl⟩ rfl 57 (by decide) rfl (zs (sh_57a hS ha1 ha2) rfl) rfl [57, 58] (zc_cons rfl (zs (sh_57a hS ha1 ha2) rfl) (zc_cons rfl (zs (sh_58 hS) rfl) zc_nil)) (zc_cons rfl (zs (sh_57a hS ha1 ha2) rfl) (zc_cons rfl rfl zc_nil)) (setl_out rfl) rfl rfl (Nat.le_of_ble_eq_true rfl) hcs hss rfl dL_law_983 ?_
  refine ii_icmp_eq (tgt := 1813) (r := ()) (ET := some ()) (EF := none) (if_pos q1) dL_law_986 (by decide) (fun _ => ?_) (fun z => absurd z (by simp))
  exact kk _ _ _ ⟨setl (setl Z [(1, .inr (0, [.ref (ad 2), .ref (ad 4), .ref (ad 6), .ref (ad 8), .ref (ad 10), .ref (ad 12), .ref (ad 14), .ref (ad 16), .ref (ad 18), .ref (ad 20), .ref (ad 22), .ref (ad 24), .ref (ad 26), .int o1.2, .int (flI 14 (Z 1))]))]) [(58, .inl (cI, 1951, .inl o2.2))], tl, rfl, law_fin (tc' := (tcZ Z)) (tr' := (trZ Z)) (nar' := o1.2) (nam' := (flI 14 (Z 1))) (st' := o2.2) hS (ok_cons ok_1 ok_nil) (ok_cons ok_58 ok_nil) rfl rfl rfl rfl rfl rfl rfl q2 hs1 hs2 hs3 ha1 ha2 him, hb1, hb2⟩

theorem dL_law_991 : decode cL_law 991 = .ok (.aload_n 1, 1) := by decide +kernel
theorem dL_law_992 : decode cL_law 992 = .ok (.aload_n 0, 1) := by decide +kernel
theorem dL_law_993 : decode cL_law 993 = .ok (.iload_n 3, 1) := by decide +kernel
theorem dL_law_994 : decode cL_law 994 = .ok (.iconst 1, 1) := by decide +kernel
theorem dL_law_995 : decode cL_law 995 = .ok (.iadd, 1) := by decide +kernel
theorem dL_law_996 : decode cL_law 996 = .ok (.iaload, 1) := by decide +kernel
theorem dL_law_997 : decode cL_law 997 = .ok (.invokevirtual 97, 3) := by decide +kernel
theorem dL_law_1000 : decode cL_law 1000 = .ok (.aload_n 2, 1) := by decide +kernel
theorem dL_law_1001 : decode cL_law 1001 = .ok (.aload_n 0, 1) := by decide +kernel
theorem dL_law_1002 : decode cL_law 1002 = .ok (.iload_n 3, 1) := by decide +kernel
theorem dL_law_1003 : decode cL_law 1003 = .ok (.iconst 1, 1) := by decide +kernel
theorem dL_law_1004 : decode cL_law 1004 = .ok (.iadd, 1) := by decide +kernel
theorem dL_law_1005 : decode cL_law 1005 = .ok (.iaload, 1) := by decide +kernel
theorem dL_law_1006 : decode cL_law 1006 = .ok (.invokevirtual 100, 3) := by decide +kernel
theorem dL_law_1009 : decode cL_law 1009 = .ok (.if_icmp .eq 804, 3) := by decide +kernel
theorem eL_X11_mean : yX11_mean.cls = RX11 ∧ yX11_mean.cls ≠ "java/lang/invoke/MethodHandle" ∧ yX11_mean.cls ≠ "java/lang/invoke/VarHandle" ∧ (parseMethodDescriptor yX11_mean.desc).map (fun d => d.parameters.length) = some 1 := by decide +kernel
theorem eL_X12_mean : yX12_mean.cls = RX12 ∧ yX12_mean.cls ≠ "java/lang/invoke/MethodHandle" ∧ yX12_mean.cls ≠ "java/lang/invoke/VarHandle" ∧ (parseMethodDescriptor yX12_mean.desc).map (fun d => d.parameters.length) = some 1 := by decide +kernel
set_option maxHeartbeats 4000000 in
set_option maxRecDepth 100000 in
theorem law_19 {l : Launch} {p : Program} {e : Env} {s : State} {m : MethodId} {below : List Frame} {meth : Method} {c : Code} {D : va_G} {A : Nat → Prop} {cells slots : Nat} {Q : State → Prop} {b L : Nat} {xs : Nat → Int32} {i : Int32} {cI cJ cZ cH : ClassId} {ad : Nat → Nat} {ws : va_W} (hX : va_X b L xs s s.heap) (hbl : b < s.heap.size) (hbA : ¬ A b) (hin : ∀ j : Nat, j < 8 → vp_in (i + nI j) L) (hL : LawS cI cJ cZ cH ad cells slots ws) (kk : ∀ cells slots ws, LawS cI cJ cZ cH ad cells slots ws → WX p l e room_1 s m #[.ref b] below meth c code RL lwG D [(cI, .int), (cJ, .long), (cZ, .boolean), (cH, .object "TinHouse$House")] A 4 cells slots Q ws 1813 [(3, .int i), (2, .ref (ad 57)), (1, .ref (ad 0)), (0, .ref b)] []) : WX p l e room_1 s m #[.ref b] below meth c code RL lwG D [(cI, .int), (cJ, .long), (cZ, .boolean), (cH, .object "TinHouse$House")] A 4 cells slots Q ws 991 [(3, .int i), (2, .ref (ad 57)), (1, .ref (ad 0)), (0, .ref b)] [] := by
  obtain ⟨Z, tl, rfl, ⟨hS, h, hs1, hs2, hs3, ha1, ha2, him⟩, hb1, hb2⟩ := hL
  have hcs : cells ≤ room_1.cells := Nat.le_trans (Nat.le_add_right _ _) hb1
  have hss : slots ≤ room_1.slots := Nat.le_trans (Nat.le_add_right _ _) hb2
  refine ii_aload_n 2 dL_law_991 rfl ?_
  refine ii_aload_n 3 dL_law_992 rfl ?_
  refine ii_iload_n 0 dL_law_993 rfl ?_
  refine ii_iconst dL_law_994 kc1 ?_
  refine ii_iadd dL_law_995 ?_
  refine ii_sld hX hbl hbA (hin 1 (by decide)) dL_law_996 ?_
  obtain ⟨o1, o2, e1, e2, q⟩ := (P_mean h _ _ _ : Two (F_X11_mean (flL 11 (Z 0)) (flL 12 (Z 0)) (flI 13 (Z 1)) (xs (i + 1).toNatClampNeg)) (F_X12_mean (flL 11 (Z 0)) (flL 12 (Z 0)) (arI (Z 58)) (xs (i + 1).toNatClampNeg)) _)
  have q1 := congrArg Prod.fst q
  refine ii_callZi (nW := 79) (ad := ad) (Z := Z) (setl Z [(0, .inr (11, [.ref (ad 1), .ref (ad 28), .ref (ad 29), .ref (ad 32), .ref (ad 34), .ref (ad 36), .ref (ad 44), .ref (ad 45), .ref (ad 49), .ref (ad 51), .ref (ad 55), .long o1.2.1, .long o1.2.2]))]) (tl := tl) (As := [.int (xs (i + 1).toNatClampNeg)]) (st := []) (c_X11_mean l D cI cJ cZ cH (ad 0) (ad 28) (ad 32) (ad 34) (ad 36) (ad 1) (ad 6) (ad 8) (ad 14) (ad 20) (ad 24) (ad 22) (ad 2) (ad 10) (ad 26) (ad 12) (ad 16) (ad 4) (ad 18) (ad 51) (ad 55) (ad 49) (ad 29) (ad 44) (ad 45) (flL 11 (Z 0)) (flL 12 (Z 0)) (flI 14 (Z 1)) (flI 13 (Z 1)) (xs (i + 1).toNatClampNeg) e1) gzL_97 rfl rfl rfl eL_X11_mean ⟨Nat.le_of_ble_eq_true rfl, Nat.le_of_ble_eq_true rfl⟩ rfl 0 (by decide) rfl (sh_0 hS) rfl [0, 1] (zc_cons rfl (sh_0 hS) (zc_cons rfl (sh_1 hS) zc_nil)) (zc_cons rfl rfl (zc_cons rfl (zs (sh_1 hS) rfl) zc_nil)) (setl_out rfl) rfl rfl (Nat.le_of_ble_eq_true rfl) hcs hss rfl dL_law_997 ?_
  refine ii_aload_n 1 dL_law_1000 rfl ?_
  refine ii_aload_n 3 dL_law_1001 rfl ?_
  refine ii_iload_n 0 dL_law_1002 rfl ?_
  refine ii_iconst dL_law_1003 kc1 ?_
  refine ii_iadd dL_law_1004 ?_
  refine ii_sld hX hbl hbA (hin 1 (by decide)) dL_law_1005 ?_
  refine ii_callZi (nW := 79) (ad := ad) (Z := (setl Z [(0, .inr (11, [.ref (ad 1), .ref (ad 28), .ref (ad 29), .ref (ad 32), .ref (ad 34), .ref (ad 36), .ref (ad 44), .ref (ad 45), .ref (ad 49), .ref (ad 51), .ref (ad 55), .long o1.2.1, .long o1.2.2]))])) (setl (setl Z [(0, .inr (11, [.ref (ad 1), .ref (ad 28), .ref (ad 29), .ref (ad 32), .ref (ad 34), .ref (ad 36), .ref (ad 44), .ref (ad 45), .ref (ad 49), .ref (ad 51), .ref (ad 55), .long o1.2.1, .long o1.2.2]))]) [(57, .inr (12, [.ref (ad 58), .ref (ad 59), .ref (ad 60), .long o2.2.1, .long o2.2.2, .int (flI 5 (Z 57)), .ref (ad 61), .ref (ad 62), .int (flI 8 (Z 57)), .ref (ad 63), .ref (ad 64), .ref (ad 65), .ref (ad 66), .ref (ad 67), .ref (ad 68), .ref (ad 69), .ref (ad 70), .ref (ad 71), .ref (ad 72), .ref (ad 73), .ref (ad 74), .ref (ad 75), .ref (ad 76), .ref (ad 77), .ref (ad 78)]))]) (tl := tl) (As := [.int (xs (i + 1).toNatClampNeg)]) (st := [.int o1.1]) (c_X12_mean l D cI cJ cZ cH (ad 57) (ad 72) (ad 77) (ad 70) (ad 65) (ad 59) (ad 60) (ad 76) (ad 75) (ad 68) (ad 66) (ad 74) (ad 69) (ad 71) (ad 78) (ad 58) (ad 61) (ad 73) (ad 67) (ad 64) (ad 63) (ad 62) (flL 11 (Z 0)) (flL 12 (Z 0)) (arI (Z 58)) (flI 5 (Z 57)) (flI 8 (Z 57)) (xs (i + 1).toNatClampNeg) e2) gzL_100 rfl rfl rfl eL_X12_mean ⟨Nat.le_of_ble_eq_true rfl, Nat.le_of_ble_eq_true rfl⟩ rfl 57 (by decide) rfl (zs (sh_57a hS ha1 ha2) rfl) rfl [57, 58] (zc_cons rfl (zs (sh_57a hS ha1 ha2) rfl) (zc_cons rfl (zs (sh_58 hS) rfl) zc_nil)) (zc_cons rfl rfl (zc_cons rfl (zs (sh_58 hS) rfl) zc_nil)) (setl_out rfl) rfl rfl (Nat.le_of_ble_eq_true rfl) hcs hss rfl dL_law_1006 ?_
  refine ii_icmp_eq (tgt := 1813) (r := ()) (ET := some ()) (EF := none) (if_pos q1) dL_law_1009 (by decide) (fun _ => ?_) (fun z => absurd z (by simp))
  exact kk _ _ _ ⟨setl (setl Z [(0, .inr (11, [.ref (ad 1), .ref (ad 28), .ref (ad 29), .ref (ad 32), .ref (ad 34), .ref (ad 36), .ref (ad 44), .ref (ad 45), .ref (ad 49), .ref (ad 51), .ref (ad 55), .long o1.2.1, .long o1.2.2]))]) [(57, .inr (12, [.ref (ad 58), .ref (ad 59), .ref (ad 60), .long o2.2.1, .long o2.2.2, .int (flI 5 (Z 57)), .ref (ad 61), .ref (ad 62), .int (flI 8 (Z 57)), .ref (ad 63), .ref (ad 64), .ref (ad 65), .ref (ad 66), .ref (ad 67), .ref (ad 68), .ref (ad 69), .ref (ad 70), .ref (ad 71), .ref (ad 72), .ref (ad 73), .ref (ad 74), .ref (ad 75), .ref (ad 76), .ref (ad 77), .ref (ad 78)]))], tl, rfl, law_fin (tc' := (tcZ Z)) (tr' := (trZ Z)) (nar' := (flI 13 (Z 1))) (nam' := (flI 14 (Z 1))) (st' := (arI (Z 58))) hS (ok_cons ok_0 ok_nil) (ok_cons ok_57 ok_nil) rfl rfl rfl rfl rfl rfl rfl h hs1 hs2 hs3 (show o1.2.1 = o2.2.1 by rw [q]) (show o1.2.2 = o2.2.2 by rw [q]) him, hb1, hb2⟩

theorem dL_law_1014 : decode cL_law 1014 = .ok (.aload_n 1, 1) := by decide +kernel
theorem dL_law_1015 : decode cL_law 1015 = .ok (.aload_n 0, 1) := by decide +kernel
theorem dL_law_1016 : decode cL_law 1016 = .ok (.iload_n 3, 1) := by decide +kernel
theorem dL_law_1017 : decode cL_law 1017 = .ok (.iconst 1, 1) := by decide +kernel
theorem dL_law_1018 : decode cL_law 1018 = .ok (.iadd, 1) := by decide +kernel
theorem dL_law_1019 : decode cL_law 1019 = .ok (.iaload, 1) := by decide +kernel
theorem dL_law_1020 : decode cL_law 1020 = .ok (.aload_n 0, 1) := by decide +kernel
theorem dL_law_1021 : decode cL_law 1021 = .ok (.iload_n 3, 1) := by decide +kernel
theorem dL_law_1022 : decode cL_law 1022 = .ok (.iconst 2, 1) := by decide +kernel
theorem dL_law_1023 : decode cL_law 1023 = .ok (.iadd, 1) := by decide +kernel
theorem dL_law_1024 : decode cL_law 1024 = .ok (.iaload, 1) := by decide +kernel
theorem dL_law_1025 : decode cL_law 1025 = .ok (.aload_n 0, 1) := by decide +kernel
theorem dL_law_1026 : decode cL_law 1026 = .ok (.iload_n 3, 1) := by decide +kernel
theorem dL_law_1027 : decode cL_law 1027 = .ok (.iconst 3, 1) := by decide +kernel
theorem dL_law_1028 : decode cL_law 1028 = .ok (.iadd, 1) := by decide +kernel
theorem dL_law_1029 : decode cL_law 1029 = .ok (.iaload, 1) := by decide +kernel
theorem dL_law_1030 : decode cL_law 1030 = .ok (.invokevirtual 101, 3) := by decide +kernel
theorem dL_law_1033 : decode cL_law 1033 = .ok (.aload_n 2, 1) := by decide +kernel
theorem dL_law_1034 : decode cL_law 1034 = .ok (.aload_n 0, 1) := by decide +kernel
theorem dL_law_1035 : decode cL_law 1035 = .ok (.iload_n 3, 1) := by decide +kernel
theorem dL_law_1036 : decode cL_law 1036 = .ok (.iconst 1, 1) := by decide +kernel
theorem dL_law_1037 : decode cL_law 1037 = .ok (.iadd, 1) := by decide +kernel
theorem dL_law_1038 : decode cL_law 1038 = .ok (.iaload, 1) := by decide +kernel
theorem dL_law_1039 : decode cL_law 1039 = .ok (.aload_n 0, 1) := by decide +kernel
theorem dL_law_1040 : decode cL_law 1040 = .ok (.iload_n 3, 1) := by decide +kernel
theorem dL_law_1041 : decode cL_law 1041 = .ok (.iconst 2, 1) := by decide +kernel
theorem dL_law_1042 : decode cL_law 1042 = .ok (.iadd, 1) := by decide +kernel
theorem dL_law_1043 : decode cL_law 1043 = .ok (.iaload, 1) := by decide +kernel
theorem dL_law_1044 : decode cL_law 1044 = .ok (.aload_n 0, 1) := by decide +kernel
theorem dL_law_1045 : decode cL_law 1045 = .ok (.iload_n 3, 1) := by decide +kernel
theorem dL_law_1046 : decode cL_law 1046 = .ok (.iconst 3, 1) := by decide +kernel
theorem dL_law_1047 : decode cL_law 1047 = .ok (.iadd, 1) := by decide +kernel
theorem dL_law_1048 : decode cL_law 1048 = .ok (.iaload, 1) := by decide +kernel
theorem dL_law_1049 : decode cL_law 1049 = .ok (.invokevirtual 104, 3) := by decide +kernel
theorem dL_law_1052 : decode cL_law 1052 = .ok (.if_icmp .eq 761, 3) := by decide +kernel
theorem eL_X11_better : yX11_better.cls = RX11 ∧ yX11_better.cls ≠ "java/lang/invoke/MethodHandle" ∧ yX11_better.cls ≠ "java/lang/invoke/VarHandle" ∧ (parseMethodDescriptor yX11_better.desc).map (fun d => d.parameters.length) = some 3 := by decide +kernel
theorem eL_X12_better : yX12_better.cls = RX12 ∧ yX12_better.cls ≠ "java/lang/invoke/MethodHandle" ∧ yX12_better.cls ≠ "java/lang/invoke/VarHandle" ∧ (parseMethodDescriptor yX12_better.desc).map (fun d => d.parameters.length) = some 3 := by decide +kernel
set_option maxHeartbeats 4000000 in
set_option maxRecDepth 100000 in
theorem law_20 {l : Launch} {p : Program} {e : Env} {s : State} {m : MethodId} {below : List Frame} {meth : Method} {c : Code} {D : va_G} {A : Nat → Prop} {cells slots : Nat} {Q : State → Prop} {b L : Nat} {xs : Nat → Int32} {i : Int32} {cI cJ cZ cH : ClassId} {ad : Nat → Nat} {ws : va_W} (hX : va_X b L xs s s.heap) (hbl : b < s.heap.size) (hbA : ¬ A b) (hin : ∀ j : Nat, j < 8 → vp_in (i + nI j) L) (hL : LawS cI cJ cZ cH ad cells slots ws) (kk : ∀ cells slots ws, LawS cI cJ cZ cH ad cells slots ws → WX p l e room_1 s m #[.ref b] below meth c code RL lwG D [(cI, .int), (cJ, .long), (cZ, .boolean), (cH, .object "TinHouse$House")] A 4 cells slots Q ws 1813 [(3, .int i), (2, .ref (ad 57)), (1, .ref (ad 0)), (0, .ref b)] []) : WX p l e room_1 s m #[.ref b] below meth c code RL lwG D [(cI, .int), (cJ, .long), (cZ, .boolean), (cH, .object "TinHouse$House")] A 4 cells slots Q ws 1014 [(3, .int i), (2, .ref (ad 57)), (1, .ref (ad 0)), (0, .ref b)] [] := by
  obtain ⟨Z, tl, rfl, ⟨hS, h, hs1, hs2, hs3, ha1, ha2, him⟩, hb1, hb2⟩ := hL
  have hcs : cells ≤ room_1.cells := Nat.le_trans (Nat.le_add_right _ _) hb1
  have hss : slots ≤ room_1.slots := Nat.le_trans (Nat.le_add_right _ _) hb2
  refine ii_aload_n 2 dL_law_1014 rfl ?_
  refine ii_aload_n 3 dL_law_1015 rfl ?_
  refine ii_iload_n 0 dL_law_1016 rfl ?_
  refine ii_iconst dL_law_1017 kc1 ?_
  refine ii_iadd dL_law_1018 ?_
  refine ii_sld hX hbl hbA (hin 1 (by decide)) dL_law_1019 ?_
  refine ii_aload_n 3 dL_law_1020 rfl ?_
  refine ii_iload_n 0 dL_law_1021 rfl ?_
  refine ii_iconst dL_law_1022 kc2 ?_
  refine ii_iadd dL_law_1023 ?_
  refine ii_sld hX hbl hbA (hin 2 (by decide)) dL_law_1024 ?_
  refine ii_aload_n 3 dL_law_1025 rfl ?_
  refine ii_iload_n 0 dL_law_1026 rfl ?_
  refine ii_iconst dL_law_1027 kc3 ?_
  refine ii_iadd dL_law_1028 ?_
  refine ii_sld hX hbl hbA (hin 3 (by decide)) dL_law_1029 ?_
  obtain ⟨o1, o2, e1, e2, q1⟩ := (P_better h _ _ _ _ _ _ _ _ _ _ _ _ _ _ _ _ _ : Two (F_X11_better (flL 7 (Z 32)) (flI 3 (Z 32)) (flI 2 (Z 32)) (flI 4 (Z 32)) (flI 6 (Z 32)) (arL (Z 33)) (flI 5 (Z 32)) (tcZ Z 2) (trZ Z 2) (tcZ Z 6) (trZ Z 6) (tcZ Z 0) (trZ Z 0) (flI 13 (Z 1)) (xs (i + 1).toNatClampNeg) (xs (i + 2).toNatClampNeg) (xs (i + 3).toNatClampNeg)) (F_X12_better (arL (Z 65)) (arI (Z 58)) (arI (Z 61)) (flI 5 (Z 57)) (arL (Z 64)) (flI 8 (Z 57)) (arI (Z 63)) (arI (Z 62)) (xs (i + 1).toNatClampNeg) (xs (i + 2).toNatClampNeg) (xs (i + 3).toNatClampNeg)) _)
  refine ii_callZi (nW := 79) (ad := ad) (Z := Z) (setl Z [(33, .inl (cJ, 50, .inr (.inl o1.2.2.2.2.2.2.1))), (32, .inr (1, [.ref (ad 1), .ref (ad 33), .int o1.2.2.2.1, .int o1.2.2.1, .int o1.2.2.2.2.1, .int o1.2.2.2.2.2.2.2, .int o1.2.2.2.2.2.1, .long o1.2.1]))]) (tl := tl) (As := [.int (xs (i + 1).toNatClampNeg), .int (xs (i + 2).toNatClampNeg), .int (xs (i + 3).toNatClampNeg)]) (st := []) (c_X11_better l D cI cJ cZ cH (ad 0) (ad 28) (ad 32) (ad 33) (ad 34) (ad 36) (ad 1) (ad 6) (ad 7) (ad 8) (ad 14) (ad 15) (ad 20) (ad 24) (ad 22) (ad 2) (ad 3) (ad 10) (ad 26) (ad 12) (ad 16) (ad 4) (ad 18) (ad 51) (ad 55) (ad 49) (ad 29) (ad 44) (ad 45) (flL 11 (Z 0)) (flL 12 (Z 0)) (flL 7 (Z 32)) (flI 3 (Z 32)) (flI 2 (Z 32)) (flI 4 (Z 32)) (flI 6 (Z 32)) (arL (Z 33)) (flI 5 (Z 32)) (tcZ Z 2) (trZ Z 2) (tcZ Z 6) (trZ Z 6) (tcZ Z 0) (trZ Z 0) (flI 14 (Z 1)) (flI 13 (Z 1)) (xs (i + 1).toNatClampNeg) (xs (i + 2).toNatClampNeg) (xs (i + 3).toNatClampNeg) e1) gzL_101 rfl rfl rfl eL_X11_better ⟨Nat.le_of_ble_eq_true rfl, Nat.le_of_ble_eq_true rfl⟩ rfl 0 (by decide) rfl (sh_0 hS) rfl [0, 32, 33, 1, 6, 7, 14, 15, 2, 3, 44] (zc_cons rfl (sh_0 hS) (zc_cons rfl (sh_32 hS) (zc_cons rfl (sh_33 hS) (zc_cons rfl (sh_1 hS) (zc_cons rfl (sh_6 hS) (zc_cons rfl (sh_7 hS) (zc_cons rfl (sh_14 hS) (zc_cons rfl (sh_15 hS) (zc_cons rfl (sh_2 hS) (zc_cons rfl (sh_3 hS) (zc_cons rfl (sh_44 hS) zc_nil))))))))))) (zc_cons rfl (zs (sh_0 hS) rfl) (zc_cons rfl rfl (zc_cons rfl rfl (zc_cons rfl (zs (sh_1 hS) rfl) (zc_cons rfl (zs (sh_6 hS) rfl) (zc_cons rfl (zs (sh_7 hS) rfl) (zc_cons rfl (zs (sh_14 hS) rfl) (zc_cons rfl (zs (sh_15 hS) rfl) (zc_cons rfl (zs (sh_2 hS) rfl) (zc_cons rfl (zs (sh_3 hS) rfl) (zc_cons rfl (zs (sh_44 hS) rfl) zc_nil))))))))))) (setl_out rfl) rfl rfl (Nat.le_of_ble_eq_true rfl) hcs hss rfl dL_law_1030 ?_
  refine ii_aload_n 1 dL_law_1033 rfl ?_
  refine ii_aload_n 3 dL_law_1034 rfl ?_
  refine ii_iload_n 0 dL_law_1035 rfl ?_
  refine ii_iconst dL_law_1036 kc1 ?_
  refine ii_iadd dL_law_1037 ?_
  refine ii_sld hX hbl hbA (hin 1 (by decide)) dL_law_1038 ?_
  refine ii_aload_n 3 dL_law_1039 rfl ?_
  refine ii_iload_n 0 dL_law_1040 rfl ?_
  refine ii_iconst dL_law_1041 kc2 ?_
  refine ii_iadd dL_law_1042 ?_
  refine ii_sld hX hbl hbA (hin 2 (by decide)) dL_law_1043 ?_
  refine ii_aload_n 3 dL_law_1044 rfl ?_
  refine ii_iload_n 0 dL_law_1045 rfl ?_
  refine ii_iconst dL_law_1046 kc3 ?_
  refine ii_iadd dL_law_1047 ?_
  refine ii_sld hX hbl hbA (hin 3 (by decide)) dL_law_1048 ?_
  refine ii_callZi (nW := 79) (ad := ad) (Z := (setl Z [(33, .inl (cJ, 50, .inr (.inl o1.2.2.2.2.2.2.1))), (32, .inr (1, [.ref (ad 1), .ref (ad 33), .int o1.2.2.2.1, .int o1.2.2.1, .int o1.2.2.2.2.1, .int o1.2.2.2.2.2.2.2, .int o1.2.2.2.2.2.1, .long o1.2.1]))])) (setl (setl Z [(33, .inl (cJ, 50, .inr (.inl o1.2.2.2.2.2.2.1))), (32, .inr (1, [.ref (ad 1), .ref (ad 33), .int o1.2.2.2.1, .int o1.2.2.1, .int o1.2.2.2.2.1, .int o1.2.2.2.2.2.2.2, .int o1.2.2.2.2.2.1, .long o1.2.1]))]) [(65, .inl (cJ, 5, .inr (.inl o2.2.1))), (64, .inl (cJ, 70, .inr (.inl o2.2.2.2.2.1))), (63, .inl (cI, 70, .inl o2.2.2.2.2.2.2.1)), (62, .inl (cI, 70, .inl o2.2.2.2.2.2.2.2)), (61, .inl (cI, 70, .inl o2.2.2.1)), (57, .inr (12, [.ref (ad 58), .ref (ad 59), .ref (ad 60), .long (flL 11 (Z 0)), .long (flL 12 (Z 0)), .int o2.2.2.2.1, .ref (ad 61), .ref (ad 62), .int o2.2.2.2.2.2.1, .ref (ad 63), .ref (ad 64), .ref (ad 65), .ref (ad 66), .ref (ad 67), .ref (ad 68), .ref (ad 69), .ref (ad 70), .ref (ad 71), .ref (ad 72), .ref (ad 73), .ref (ad 74), .ref (ad 75), .ref (ad 76), .ref (ad 77), .ref (ad 78)]))]) (tl := tl) (As := [.int (xs (i + 1).toNatClampNeg), .int (xs (i + 2).toNatClampNeg), .int (xs (i + 3).toNatClampNeg)]) (st := [.int o1.1]) (c_X12_better l D cI cJ cZ cH (ad 57) (ad 72) (ad 77) (ad 70) (ad 65) (ad 59) (ad 60) (ad 76) (ad 75) (ad 68) (ad 66) (ad 74) (ad 69) (ad 71) (ad 78) (ad 58) (ad 61) (ad 73) (ad 67) (ad 64) (ad 63) (ad 62) (flL 11 (Z 0)) (flL 12 (Z 0)) (arL (Z 65)) (arI (Z 58)) (arI (Z 61)) (flI 5 (Z 57)) (arL (Z 64)) (flI 8 (Z 57)) (arI (Z 63)) (arI (Z 62)) (xs (i + 1).toNatClampNeg) (xs (i + 2).toNatClampNeg) (xs (i + 3).toNatClampNeg) e2) gzL_104 rfl rfl rfl eL_X12_better ⟨Nat.le_of_ble_eq_true rfl, Nat.le_of_ble_eq_true rfl⟩ rfl 57 (by decide) rfl (zs (sh_57a hS ha1 ha2) rfl) rfl [57, 65, 58, 61, 64, 63, 62] (zc_cons rfl (zs (sh_57a hS ha1 ha2) rfl) (zc_cons rfl (zs (sh_65 hS) rfl) (zc_cons rfl (zs (sh_58 hS) rfl) (zc_cons rfl (zs (sh_61 hS) rfl) (zc_cons rfl (zs (sh_64 hS) rfl) (zc_cons rfl (zs (sh_63 hS) rfl) (zc_cons rfl (zs (sh_62 hS) rfl) zc_nil))))))) (zc_cons rfl rfl (zc_cons rfl rfl (zc_cons rfl (zs (sh_58 hS) rfl) (zc_cons rfl rfl (zc_cons rfl rfl (zc_cons rfl rfl (zc_cons rfl rfl zc_nil))))))) (setl_out rfl) rfl rfl (Nat.le_of_ble_eq_true rfl) hcs hss rfl dL_law_1049 ?_
  refine ii_icmp_eq (tgt := 1813) (r := ()) (ET := some ()) (EF := none) (if_pos q1) dL_law_1052 (by decide) (fun _ => ?_) (fun z => absurd z (by simp))
  exact kk _ _ _ ⟨setl (setl Z [(33, .inl (cJ, 50, .inr (.inl o1.2.2.2.2.2.2.1))), (32, .inr (1, [.ref (ad 1), .ref (ad 33), .int o1.2.2.2.1, .int o1.2.2.1, .int o1.2.2.2.2.1, .int o1.2.2.2.2.2.2.2, .int o1.2.2.2.2.2.1, .long o1.2.1]))]) [(65, .inl (cJ, 5, .inr (.inl o2.2.1))), (64, .inl (cJ, 70, .inr (.inl o2.2.2.2.2.1))), (63, .inl (cI, 70, .inl o2.2.2.2.2.2.2.1)), (62, .inl (cI, 70, .inl o2.2.2.2.2.2.2.2)), (61, .inl (cI, 70, .inl o2.2.2.1)), (57, .inr (12, [.ref (ad 58), .ref (ad 59), .ref (ad 60), .long (flL 11 (Z 0)), .long (flL 12 (Z 0)), .int o2.2.2.2.1, .ref (ad 61), .ref (ad 62), .int o2.2.2.2.2.2.1, .ref (ad 63), .ref (ad 64), .ref (ad 65), .ref (ad 66), .ref (ad 67), .ref (ad 68), .ref (ad 69), .ref (ad 70), .ref (ad 71), .ref (ad 72), .ref (ad 73), .ref (ad 74), .ref (ad 75), .ref (ad 76), .ref (ad 77), .ref (ad 78)]))], tl, rfl, law_fin (tc' := (tcZ Z)) (tr' := (trZ Z)) (nar' := (flI 13 (Z 1))) (nam' := (flI 14 (Z 1))) (st' := (arI (Z 58))) hS (ok_cons ok_33 (ok_cons ok_32 ok_nil)) (ok_cons ok_65 (ok_cons ok_64 (ok_cons ok_63 (ok_cons ok_62 (ok_cons ok_61 (ok_cons ok_57 ok_nil)))))) rfl rfl rfl rfl rfl rfl rfl h hs1 hs2 hs3 rfl rfl him, hb1, hb2⟩

theorem dL_law_1057 : decode cL_law 1057 = .ok (.aload_n 1, 1) := by decide +kernel
theorem dL_law_1058 : decode cL_law 1058 = .ok (.aload_n 0, 1) := by decide +kernel
theorem dL_law_1059 : decode cL_law 1059 = .ok (.iload_n 3, 1) := by decide +kernel
theorem dL_law_1060 : decode cL_law 1060 = .ok (.iconst 1, 1) := by decide +kernel
theorem dL_law_1061 : decode cL_law 1061 = .ok (.iadd, 1) := by decide +kernel
theorem dL_law_1062 : decode cL_law 1062 = .ok (.iaload, 1) := by decide +kernel
theorem dL_law_1063 : decode cL_law 1063 = .ok (.aload_n 0, 1) := by decide +kernel
theorem dL_law_1064 : decode cL_law 1064 = .ok (.iload_n 3, 1) := by decide +kernel
theorem dL_law_1065 : decode cL_law 1065 = .ok (.iconst 2, 1) := by decide +kernel
theorem dL_law_1066 : decode cL_law 1066 = .ok (.iadd, 1) := by decide +kernel
theorem dL_law_1067 : decode cL_law 1067 = .ok (.iaload, 1) := by decide +kernel
theorem dL_law_1068 : decode cL_law 1068 = .ok (.aload_n 0, 1) := by decide +kernel
theorem dL_law_1069 : decode cL_law 1069 = .ok (.iload_n 3, 1) := by decide +kernel
theorem dL_law_1070 : decode cL_law 1070 = .ok (.iconst 3, 1) := by decide +kernel
theorem dL_law_1071 : decode cL_law 1071 = .ok (.iadd, 1) := by decide +kernel
theorem dL_law_1072 : decode cL_law 1072 = .ok (.iaload, 1) := by decide +kernel
theorem dL_law_1073 : decode cL_law 1073 = .ok (.invokevirtual 105, 3) := by decide +kernel
theorem dL_law_1076 : decode cL_law 1076 = .ok (.aload_n 2, 1) := by decide +kernel
theorem dL_law_1077 : decode cL_law 1077 = .ok (.aload_n 0, 1) := by decide +kernel
theorem dL_law_1078 : decode cL_law 1078 = .ok (.iload_n 3, 1) := by decide +kernel
theorem dL_law_1079 : decode cL_law 1079 = .ok (.iconst 1, 1) := by decide +kernel
theorem dL_law_1080 : decode cL_law 1080 = .ok (.iadd, 1) := by decide +kernel
theorem dL_law_1081 : decode cL_law 1081 = .ok (.iaload, 1) := by decide +kernel
theorem dL_law_1082 : decode cL_law 1082 = .ok (.aload_n 0, 1) := by decide +kernel
theorem dL_law_1083 : decode cL_law 1083 = .ok (.iload_n 3, 1) := by decide +kernel
theorem dL_law_1084 : decode cL_law 1084 = .ok (.iconst 2, 1) := by decide +kernel
theorem dL_law_1085 : decode cL_law 1085 = .ok (.iadd, 1) := by decide +kernel
theorem dL_law_1086 : decode cL_law 1086 = .ok (.iaload, 1) := by decide +kernel
theorem dL_law_1087 : decode cL_law 1087 = .ok (.aload_n 0, 1) := by decide +kernel
theorem dL_law_1088 : decode cL_law 1088 = .ok (.iload_n 3, 1) := by decide +kernel
theorem dL_law_1089 : decode cL_law 1089 = .ok (.iconst 3, 1) := by decide +kernel
theorem dL_law_1090 : decode cL_law 1090 = .ok (.iadd, 1) := by decide +kernel
theorem dL_law_1091 : decode cL_law 1091 = .ok (.iaload, 1) := by decide +kernel
theorem dL_law_1092 : decode cL_law 1092 = .ok (.invokevirtual 108, 3) := by decide +kernel
theorem dL_law_1095 : decode cL_law 1095 = .ok (.if_icmp .eq 718, 3) := by decide +kernel
theorem eL_X11_stone : yX11_stone.cls = RX11 ∧ yX11_stone.cls ≠ "java/lang/invoke/MethodHandle" ∧ yX11_stone.cls ≠ "java/lang/invoke/VarHandle" ∧ (parseMethodDescriptor yX11_stone.desc).map (fun d => d.parameters.length) = some 3 := by decide +kernel
theorem eL_X12_stone : yX12_stone.cls = RX12 ∧ yX12_stone.cls ≠ "java/lang/invoke/MethodHandle" ∧ yX12_stone.cls ≠ "java/lang/invoke/VarHandle" ∧ (parseMethodDescriptor yX12_stone.desc).map (fun d => d.parameters.length) = some 3 := by decide +kernel
set_option maxHeartbeats 4000000 in
set_option maxRecDepth 100000 in
theorem law_21 {l : Launch} {p : Program} {e : Env} {s : State} {m : MethodId} {below : List Frame} {meth : Method} {c : Code} {D : va_G} {A : Nat → Prop} {cells slots : Nat} {Q : State → Prop} {b L : Nat} {xs : Nat → Int32} {i : Int32} {cI cJ cZ cH : ClassId} {ad : Nat → Nat} {ws : va_W} (hX : va_X b L xs s s.heap) (hbl : b < s.heap.size) (hbA : ¬ A b) (hin : ∀ j : Nat, j < 8 → vp_in (i + nI j) L) (hL : LawS cI cJ cZ cH ad cells slots ws) (kk : ∀ cells slots ws, LawS cI cJ cZ cH ad cells slots ws → WX p l e room_1 s m #[.ref b] below meth c code RL lwG D [(cI, .int), (cJ, .long), (cZ, .boolean), (cH, .object "TinHouse$House")] A 4 cells slots Q ws 1813 [(3, .int i), (2, .ref (ad 57)), (1, .ref (ad 0)), (0, .ref b)] []) : WX p l e room_1 s m #[.ref b] below meth c code RL lwG D [(cI, .int), (cJ, .long), (cZ, .boolean), (cH, .object "TinHouse$House")] A 4 cells slots Q ws 1057 [(3, .int i), (2, .ref (ad 57)), (1, .ref (ad 0)), (0, .ref b)] [] := by
  obtain ⟨Z, tl, rfl, ⟨hS, h, hs1, hs2, hs3, ha1, ha2, him⟩, hb1, hb2⟩ := hL
  have hcs : cells ≤ room_1.cells := Nat.le_trans (Nat.le_add_right _ _) hb1
  have hss : slots ≤ room_1.slots := Nat.le_trans (Nat.le_add_right _ _) hb2
  refine ii_aload_n 2 dL_law_1057 rfl ?_
  refine ii_aload_n 3 dL_law_1058 rfl ?_
  refine ii_iload_n 0 dL_law_1059 rfl ?_
  refine ii_iconst dL_law_1060 kc1 ?_
  refine ii_iadd dL_law_1061 ?_
  refine ii_sld hX hbl hbA (hin 1 (by decide)) dL_law_1062 ?_
  refine ii_aload_n 3 dL_law_1063 rfl ?_
  refine ii_iload_n 0 dL_law_1064 rfl ?_
  refine ii_iconst dL_law_1065 kc2 ?_
  refine ii_iadd dL_law_1066 ?_
  refine ii_sld hX hbl hbA (hin 2 (by decide)) dL_law_1067 ?_
  refine ii_aload_n 3 dL_law_1068 rfl ?_
  refine ii_iload_n 0 dL_law_1069 rfl ?_
  refine ii_iconst dL_law_1070 kc3 ?_
  refine ii_iadd dL_law_1071 ?_
  refine ii_sld hX hbl hbA (hin 3 (by decide)) dL_law_1072 ?_
  obtain ⟨o1, o2, e1, e2, q1, q2⟩ := (P_stone h _ _ _ : Two (F_X11_stone (tcZ Z 7) (trZ Z 7) (xs (i + 1).toNatClampNeg) (xs (i + 2).toNatClampNeg) (xs (i + 3).toNatClampNeg)) (F_X12_stone (arI (Z 58)) (xs (i + 1).toNatClampNeg) (xs (i + 2).toNatClampNeg) (xs (i + 3).toNatClampNeg)) _)
  refine ii_callZi (nW := 79) (ad := ad) (Z := Z) (setl Z [(17, .inl (cI, 36, .inl o1.2.1)), (16, .inr (8, [.int (3 : Int32), .int (12 : Int32), .ref (ad 17), .int o1.2.2]))]) (tl := tl) (As := [.int (xs (i + 1).toNatClampNeg), .int (xs (i + 2).toNatClampNeg), .int (xs (i + 3).toNatClampNeg)]) (st := []) (c_X11_stone l D cI cJ cZ cH (ad 0) (ad 28) (ad 32) (ad 34) (ad 36) (ad 1) (ad 6) (ad 8) (ad 14) (ad 20) (ad 24) (ad 22) (ad 2) (ad 10) (ad 26) (ad 12) (ad 16) (ad 17) (ad 4) (ad 18) (ad 51) (ad 55) (ad 49) (ad 29) (ad 44) (ad 45) (flL 11 (Z 0)) (flL 12 (Z 0)) (flI 14 (Z 1)) (flI 13 (Z 1)) (tcZ Z 7) (trZ Z 7) (xs (i + 1).toNatClampNeg) (xs (i + 2).toNatClampNeg) (xs (i + 3).toNatClampNeg) e1) gzL_105 rfl rfl rfl eL_X11_stone ⟨Nat.le_of_ble_eq_true rfl, Nat.le_of_ble_eq_true rfl⟩ rfl 0 (by decide) rfl (sh_0 hS) rfl [0, 1, 16, 17] (zc_cons rfl (sh_0 hS) (zc_cons rfl (sh_1 hS) (zc_cons rfl (sh_16 hS) (zc_cons rfl (sh_17 hS) zc_nil)))) (zc_cons rfl (zs (sh_0 hS) rfl) (zc_cons rfl (zs (sh_1 hS) rfl) (zc_cons rfl rfl (zc_cons rfl rfl zc_nil)))) (setl_out rfl) rfl rfl (Nat.le_of_ble_eq_true rfl) hcs hss rfl dL_law_1073 ?_
  refine ii_aload_n 1 dL_law_1076 rfl ?_
  refine ii_aload_n 3 dL_law_1077 rfl ?_
  refine ii_iload_n 0 dL_law_1078 rfl ?_
  refine ii_iconst dL_law_1079 kc1 ?_
  refine ii_iadd dL_law_1080 ?_
  refine ii_sld hX hbl hbA (hin 1 (by decide)) dL_law_1081 ?_
  refine ii_aload_n 3 dL_law_1082 rfl ?_
  refine ii_iload_n 0 dL_law_1083 rfl ?_
  refine ii_iconst dL_law_1084 kc2 ?_
  refine ii_iadd dL_law_1085 ?_
  refine ii_sld hX hbl hbA (hin 2 (by decide)) dL_law_1086 ?_
  refine ii_aload_n 3 dL_law_1087 rfl ?_
  refine ii_iload_n 0 dL_law_1088 rfl ?_
  refine ii_iconst dL_law_1089 kc3 ?_
  refine ii_iadd dL_law_1090 ?_
  refine ii_sld hX hbl hbA (hin 3 (by decide)) dL_law_1091 ?_
  refine ii_callZi (nW := 79) (ad := ad) (Z := (setl Z [(17, .inl (cI, 36, .inl o1.2.1)), (16, .inr (8, [.int (3 : Int32), .int (12 : Int32), .ref (ad 17), .int o1.2.2]))])) (setl (setl Z [(17, .inl (cI, 36, .inl o1.2.1)), (16, .inr (8, [.int (3 : Int32), .int (12 : Int32), .ref (ad 17), .int o1.2.2]))]) [(58, .inl (cI, 1951, .inl o2.2))]) (tl := tl) (As := [.int (xs (i + 1).toNatClampNeg), .int (xs (i + 2).toNatClampNeg), .int (xs (i + 3).toNatClampNeg)]) (st := [.int o1.1]) (c_X12_stone l D cI cJ cZ cH (ad 57) (ad 72) (ad 77) (ad 70) (ad 65) (ad 59) (ad 60) (ad 76) (ad 75) (ad 68) (ad 66) (ad 74) (ad 69) (ad 71) (ad 78) (ad 58) (ad 61) (ad 73) (ad 67) (ad 64) (ad 63) (ad 62) (flL 11 (Z 0)) (flL 12 (Z 0)) (arI (Z 58)) (flI 5 (Z 57)) (flI 8 (Z 57)) (xs (i + 1).toNatClampNeg) (xs (i + 2).toNatClampNeg) (xs (i + 3).toNatClampNeg) e2) gzL_108 rfl rfl rfl eL_X12_stone ⟨Nat.le_of_ble_eq_true rfl, Nat.le_of_ble_eq_true rfl⟩ rfl 57 (by decide) rfl (zs (sh_57a hS ha1 ha2) rfl) rfl [57, 58] (zc_cons rfl (zs (sh_57a hS ha1 ha2) rfl) (zc_cons rfl (zs (sh_58 hS) rfl) zc_nil)) (zc_cons rfl (zs (sh_57a hS ha1 ha2) rfl) (zc_cons rfl rfl zc_nil)) (setl_out rfl) rfl rfl (Nat.le_of_ble_eq_true rfl) hcs hss rfl dL_law_1092 ?_
  refine ii_icmp_eq (tgt := 1813) (r := ()) (ET := some ()) (EF := none) (if_pos q1) dL_law_1095 (by decide) (fun _ => ?_) (fun z => absurd z (by simp))
  exact kk _ _ _ ⟨setl (setl Z [(17, .inl (cI, 36, .inl o1.2.1)), (16, .inr (8, [.int (3 : Int32), .int (12 : Int32), .ref (ad 17), .int o1.2.2]))]) [(58, .inl (cI, 1951, .inl o2.2))], tl, rfl, law_fin (tc' := (va_up (tcZ Z) 7 o1.2.1)) (tr' := (va_up (trZ Z) 7 o1.2.2)) (nar' := (flI 13 (Z 1))) (nam' := (flI 14 (Z 1))) (st' := o2.2) hS (ok_cons ok_17 (ok_cons ok_16 ok_nil)) (ok_cons ok_58 ok_nil) rfl rfl rfl rfl rfl rfl rfl q2 hs1 hs2 hs3 ha1 ha2 him, hb1, hb2⟩

theorem dL_law_1100 : decode cL_law 1100 = .ok (.aload_n 1, 1) := by decide +kernel
theorem dL_law_1101 : decode cL_law 1101 = .ok (.aload_n 0, 1) := by decide +kernel
theorem dL_law_1102 : decode cL_law 1102 = .ok (.iload_n 3, 1) := by decide +kernel
theorem dL_law_1103 : decode cL_law 1103 = .ok (.iconst 1, 1) := by decide +kernel
theorem dL_law_1104 : decode cL_law 1104 = .ok (.iadd, 1) := by decide +kernel
theorem dL_law_1105 : decode cL_law 1105 = .ok (.iaload, 1) := by decide +kernel
theorem dL_law_1106 : decode cL_law 1106 = .ok (.aload_n 0, 1) := by decide +kernel
theorem dL_law_1107 : decode cL_law 1107 = .ok (.iload_n 3, 1) := by decide +kernel
theorem dL_law_1108 : decode cL_law 1108 = .ok (.iconst 2, 1) := by decide +kernel
theorem dL_law_1109 : decode cL_law 1109 = .ok (.iadd, 1) := by decide +kernel
theorem dL_law_1110 : decode cL_law 1110 = .ok (.iaload, 1) := by decide +kernel
theorem dL_law_1111 : decode cL_law 1111 = .ok (.invokevirtual 109, 3) := by decide +kernel
theorem dL_law_1114 : decode cL_law 1114 = .ok (.aload_n 2, 1) := by decide +kernel
theorem dL_law_1115 : decode cL_law 1115 = .ok (.aload_n 0, 1) := by decide +kernel
theorem dL_law_1116 : decode cL_law 1116 = .ok (.iload_n 3, 1) := by decide +kernel
theorem dL_law_1117 : decode cL_law 1117 = .ok (.iconst 1, 1) := by decide +kernel
theorem dL_law_1118 : decode cL_law 1118 = .ok (.iadd, 1) := by decide +kernel
theorem dL_law_1119 : decode cL_law 1119 = .ok (.iaload, 1) := by decide +kernel
theorem dL_law_1120 : decode cL_law 1120 = .ok (.aload_n 0, 1) := by decide +kernel
theorem dL_law_1121 : decode cL_law 1121 = .ok (.iload_n 3, 1) := by decide +kernel
theorem dL_law_1122 : decode cL_law 1122 = .ok (.iconst 2, 1) := by decide +kernel
theorem dL_law_1123 : decode cL_law 1123 = .ok (.iadd, 1) := by decide +kernel
theorem dL_law_1124 : decode cL_law 1124 = .ok (.iaload, 1) := by decide +kernel
theorem dL_law_1125 : decode cL_law 1125 = .ok (.invokevirtual 112, 3) := by decide +kernel
theorem dL_law_1128 : decode cL_law 1128 = .ok (.if_icmp .eq 685, 3) := by decide +kernel
theorem eL_X11_span : yX11_span.cls = RX11 ∧ yX11_span.cls ≠ "java/lang/invoke/MethodHandle" ∧ yX11_span.cls ≠ "java/lang/invoke/VarHandle" ∧ (parseMethodDescriptor yX11_span.desc).map (fun d => d.parameters.length) = some 2 := by decide +kernel
theorem eL_X12_span : yX12_span.cls = RX12 ∧ yX12_span.cls ≠ "java/lang/invoke/MethodHandle" ∧ yX12_span.cls ≠ "java/lang/invoke/VarHandle" ∧ (parseMethodDescriptor yX12_span.desc).map (fun d => d.parameters.length) = some 2 := by decide +kernel
set_option maxHeartbeats 4000000 in
set_option maxRecDepth 100000 in
theorem law_22 {l : Launch} {p : Program} {e : Env} {s : State} {m : MethodId} {below : List Frame} {meth : Method} {c : Code} {D : va_G} {A : Nat → Prop} {cells slots : Nat} {Q : State → Prop} {b L : Nat} {xs : Nat → Int32} {i : Int32} {cI cJ cZ cH : ClassId} {ad : Nat → Nat} {ws : va_W} (hX : va_X b L xs s s.heap) (hbl : b < s.heap.size) (hbA : ¬ A b) (hin : ∀ j : Nat, j < 8 → vp_in (i + nI j) L) (hL : LawS cI cJ cZ cH ad cells slots ws) (kk : ∀ cells slots ws, LawS cI cJ cZ cH ad cells slots ws → WX p l e room_1 s m #[.ref b] below meth c code RL lwG D [(cI, .int), (cJ, .long), (cZ, .boolean), (cH, .object "TinHouse$House")] A 4 cells slots Q ws 1813 [(3, .int i), (2, .ref (ad 57)), (1, .ref (ad 0)), (0, .ref b)] []) : WX p l e room_1 s m #[.ref b] below meth c code RL lwG D [(cI, .int), (cJ, .long), (cZ, .boolean), (cH, .object "TinHouse$House")] A 4 cells slots Q ws 1100 [(3, .int i), (2, .ref (ad 57)), (1, .ref (ad 0)), (0, .ref b)] [] := by
  obtain ⟨Z, tl, rfl, ⟨hS, h, hs1, hs2, hs3, ha1, ha2, him⟩, hb1, hb2⟩ := hL
  have hcs : cells ≤ room_1.cells := Nat.le_trans (Nat.le_add_right _ _) hb1
  have hss : slots ≤ room_1.slots := Nat.le_trans (Nat.le_add_right _ _) hb2
  refine ii_aload_n 2 dL_law_1100 rfl ?_
  refine ii_aload_n 3 dL_law_1101 rfl ?_
  refine ii_iload_n 0 dL_law_1102 rfl ?_
  refine ii_iconst dL_law_1103 kc1 ?_
  refine ii_iadd dL_law_1104 ?_
  refine ii_sld hX hbl hbA (hin 1 (by decide)) dL_law_1105 ?_
  refine ii_aload_n 3 dL_law_1106 rfl ?_
  refine ii_iload_n 0 dL_law_1107 rfl ?_
  refine ii_iconst dL_law_1108 kc2 ?_
  refine ii_iadd dL_law_1109 ?_
  refine ii_sld hX hbl hbA (hin 2 (by decide)) dL_law_1110 ?_
  obtain ⟨o1, o2, e1, e2, q⟩ := (P_span h _ _ _ _ : Two (F_X11_span (flL 11 (Z 0)) (flL 12 (Z 0)) (tcZ Z 7) (trZ Z 7) (xs (i + 1).toNatClampNeg) (xs (i + 2).toNatClampNeg)) (F_X12_span (flL 11 (Z 0)) (flL 12 (Z 0)) (arI (Z 58)) (xs (i + 1).toNatClampNeg) (xs (i + 2).toNatClampNeg)) _)
  have q1 := congrArg Prod.fst q
  refine ii_callZi (nW := 79) (ad := ad) (Z := Z) (setl Z [(0, .inr (11, [.ref (ad 1), .ref (ad 28), .ref (ad 29), .ref (ad 32), .ref (ad 34), .ref (ad 36), .ref (ad 44), .ref (ad 45), .ref (ad 49), .ref (ad 51), .ref (ad 55), .long o1.2.1, .long o1.2.2]))]) (tl := tl) (As := [.int (xs (i + 1).toNatClampNeg), .int (xs (i + 2).toNatClampNeg)]) (st := []) (c_X11_span l D cI cJ cZ cH (ad 0) (ad 28) (ad 32) (ad 34) (ad 36) (ad 1) (ad 6) (ad 8) (ad 14) (ad 20) (ad 24) (ad 22) (ad 2) (ad 10) (ad 26) (ad 12) (ad 16) (ad 17) (ad 4) (ad 18) (ad 51) (ad 55) (ad 49) (ad 29) (ad 44) (ad 45) (flL 11 (Z 0)) (flL 12 (Z 0)) (flI 14 (Z 1)) (flI 13 (Z 1)) (tcZ Z 7) (trZ Z 7) (xs (i + 1).toNatClampNeg) (xs (i + 2).toNatClampNeg) e1) gzL_109 rfl rfl rfl eL_X11_span ⟨Nat.le_of_ble_eq_true rfl, Nat.le_of_ble_eq_true rfl⟩ rfl 0 (by decide) rfl (sh_0 hS) rfl [0, 1, 16, 17, 44] (zc_cons rfl (sh_0 hS) (zc_cons rfl (sh_1 hS) (zc_cons rfl (sh_16 hS) (zc_cons rfl (sh_17 hS) (zc_cons rfl (sh_44 hS) zc_nil))))) (zc_cons rfl rfl (zc_cons rfl (zs (sh_1 hS) rfl) (zc_cons rfl (zs (sh_16 hS) rfl) (zc_cons rfl (zs (sh_17 hS) rfl) (zc_cons rfl (zs (sh_44 hS) rfl) zc_nil))))) (setl_out rfl) rfl rfl (Nat.le_of_ble_eq_true rfl) hcs hss rfl dL_law_1111 ?_
  refine ii_aload_n 1 dL_law_1114 rfl ?_
  refine ii_aload_n 3 dL_law_1115 rfl ?_
  refine ii_iload_n 0 dL_law_1116 rfl ?_
  refine ii_iconst dL_law_1117 kc1 ?_
  refine ii_iadd dL_law_1118 ?_
  refine ii_sld hX hbl hbA (hin 1 (by decide)) dL_law_1119 ?_
  refine ii_aload_n 3 dL_law_1120 rfl ?_
  refine ii_iload_n 0 dL_law_1121 rfl ?_
  refine ii_iconst dL_law_1122 kc2 ?_
  refine ii_iadd dL_law_1123 ?_
  refine ii_sld hX hbl hbA (hin 2 (by decide)) dL_law_1124 ?_
  refine ii_callZi (nW := 79) (ad := ad) (Z := (setl Z [(0, .inr (11, [.ref (ad 1), .ref (ad 28), .ref (ad 29), .ref (ad 32), .ref (ad 34), .ref (ad 36), .ref (ad 44), .ref (ad 45), .ref (ad 49), .ref (ad 51), .ref (ad 55), .long o1.2.1, .long o1.2.2]))])) (setl (setl Z [(0, .inr (11, [.ref (ad 1), .ref (ad 28), .ref (ad 29), .ref (ad 32), .ref (ad 34), .ref (ad 36), .ref (ad 44), .ref (ad 45), .ref (ad 49), .ref (ad 51), .ref (ad 55), .long o1.2.1, .long o1.2.2]))]) [(57, .inr (12, [.ref (ad 58), .ref (ad 59), .ref (ad 60), .long o2.2.1, .long o2.2.2, .int (flI 5 (Z 57)), .ref (ad 61), .ref (ad 62), .int (flI 8 (Z 57)), .ref (ad 63), .ref (ad 64), .ref (ad 65), .ref (ad 66), .ref (ad 67), .ref (ad 68), .ref (ad 69), .ref (ad 70), .ref (ad 71), .ref (ad 72), .ref (ad 73), .ref (ad 74), .ref (ad 75), .ref (ad 76), .ref (ad 77), .ref (ad 78)]))]) (tl := tl) (As := [.int (xs (i + 1).toNatClampNeg), .int (xs (i + 2).toNatClampNeg)]) (st := [.int o1.1]) (c_X12_span l D cI cJ cZ cH (ad 57) (ad 72) (ad 77) (ad 70) (ad 65) (ad 59) (ad 60) (ad 76) (ad 75) (ad 68) (ad 66) (ad 74) (ad 69) (ad 71) (ad 78) (ad 58) (ad 61) (ad 73) (ad 67) (ad 64) (ad 63) (ad 62) (flL 11 (Z 0)) (flL 12 (Z 0)) (arI (Z 58)) (flI 5 (Z 57)) (flI 8 (Z 57)) (xs (i + 1).toNatClampNeg) (xs (i + 2).toNatClampNeg) e2) gzL_112 rfl rfl rfl eL_X12_span ⟨Nat.le_of_ble_eq_true rfl, Nat.le_of_ble_eq_true rfl⟩ rfl 57 (by decide) rfl (zs (sh_57a hS ha1 ha2) rfl) rfl [57, 58] (zc_cons rfl (zs (sh_57a hS ha1 ha2) rfl) (zc_cons rfl (zs (sh_58 hS) rfl) zc_nil)) (zc_cons rfl rfl (zc_cons rfl (zs (sh_58 hS) rfl) zc_nil)) (setl_out rfl) rfl rfl (Nat.le_of_ble_eq_true rfl) hcs hss rfl dL_law_1125 ?_
  refine ii_icmp_eq (tgt := 1813) (r := ()) (ET := some ()) (EF := none) (if_pos q1) dL_law_1128 (by decide) (fun _ => ?_) (fun z => absurd z (by simp))
  exact kk _ _ _ ⟨setl (setl Z [(0, .inr (11, [.ref (ad 1), .ref (ad 28), .ref (ad 29), .ref (ad 32), .ref (ad 34), .ref (ad 36), .ref (ad 44), .ref (ad 45), .ref (ad 49), .ref (ad 51), .ref (ad 55), .long o1.2.1, .long o1.2.2]))]) [(57, .inr (12, [.ref (ad 58), .ref (ad 59), .ref (ad 60), .long o2.2.1, .long o2.2.2, .int (flI 5 (Z 57)), .ref (ad 61), .ref (ad 62), .int (flI 8 (Z 57)), .ref (ad 63), .ref (ad 64), .ref (ad 65), .ref (ad 66), .ref (ad 67), .ref (ad 68), .ref (ad 69), .ref (ad 70), .ref (ad 71), .ref (ad 72), .ref (ad 73), .ref (ad 74), .ref (ad 75), .ref (ad 76), .ref (ad 77), .ref (ad 78)]))], tl, rfl, law_fin (tc' := (tcZ Z)) (tr' := (trZ Z)) (nar' := (flI 13 (Z 1))) (nam' := (flI 14 (Z 1))) (st' := (arI (Z 58))) hS (ok_cons ok_0 ok_nil) (ok_cons ok_57 ok_nil) rfl rfl rfl rfl rfl rfl rfl h hs1 hs2 hs3 (show o1.2.1 = o2.2.1 by rw [q]) (show o1.2.2 = o2.2.2 by rw [q]) him, hb1, hb2⟩

