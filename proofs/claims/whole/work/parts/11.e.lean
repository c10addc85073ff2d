/-! THE LAW: cases -/
theorem dL_law_1517 : decode cL_law 1517 = .ok (.aload_n 1, 1) := by decide +kernel
theorem dL_law_1518 : decode cL_law 1518 = .ok (.aload_n 0, 1) := by decide +kernel
theorem dL_law_1519 : decode cL_law 1519 = .ok (.iload_n 3, 1) := by decide +kernel
theorem dL_law_1520 : decode cL_law 1520 = .ok (.iconst 1, 1) := by decide +kernel
theorem dL_law_1521 : decode cL_law 1521 = .ok (.iadd, 1) := by decide +kernel
theorem dL_law_1522 : decode cL_law 1522 = .ok (.iaload, 1) := by decide +kernel
theorem dL_law_1523 : decode cL_law 1523 = .ok (.aload_n 0, 1) := by decide +kernel
theorem dL_law_1524 : decode cL_law 1524 = .ok (.iload_n 3, 1) := by decide +kernel
theorem dL_law_1525 : decode cL_law 1525 = .ok (.iconst 2, 1) := by decide +kernel
theorem dL_law_1526 : decode cL_law 1526 = .ok (.iadd, 1) := by decide +kernel
theorem dL_law_1527 : decode cL_law 1527 = .ok (.iaload, 1) := by decide +kernel
theorem dL_law_1528 : decode cL_law 1528 = .ok (.aload_n 0, 1) := by decide +kernel
theorem dL_law_1529 : decode cL_law 1529 = .ok (.iload_n 3, 1) := by decide +kernel
theorem dL_law_1530 : decode cL_law 1530 = .ok (.iconst 3, 1) := by decide +kernel
theorem dL_law_1531 : decode cL_law 1531 = .ok (.iadd, 1) := by decide +kernel
theorem dL_law_1532 : decode cL_law 1532 = .ok (.iaload, 1) := by decide +kernel
theorem dL_law_1533 : decode cL_law 1533 = .ok (.invokevirtual 157, 3) := by decide +kernel
theorem dL_law_1536 : decode cL_law 1536 = .ok (.aload_n 2, 1) := by decide +kernel
theorem dL_law_1537 : decode cL_law 1537 = .ok (.aload_n 0, 1) := by decide +kernel
theorem dL_law_1538 : decode cL_law 1538 = .ok (.iload_n 3, 1) := by decide +kernel
theorem dL_law_1539 : decode cL_law 1539 = .ok (.iconst 1, 1) := by decide +kernel
theorem dL_law_1540 : decode cL_law 1540 = .ok (.iadd, 1) := by decide +kernel
theorem dL_law_1541 : decode cL_law 1541 = .ok (.iaload, 1) := by decide +kernel
theorem dL_law_1542 : decode cL_law 1542 = .ok (.aload_n 0, 1) := by decide +kernel
theorem dL_law_1543 : decode cL_law 1543 = .ok (.iload_n 3, 1) := by decide +kernel
theorem dL_law_1544 : decode cL_law 1544 = .ok (.iconst 2, 1) := by decide +kernel
theorem dL_law_1545 : decode cL_law 1545 = .ok (.iadd, 1) := by decide +kernel
theorem dL_law_1546 : decode cL_law 1546 = .ok (.iaload, 1) := by decide +kernel
theorem dL_law_1547 : decode cL_law 1547 = .ok (.aload_n 0, 1) := by decide +kernel
theorem dL_law_1548 : decode cL_law 1548 = .ok (.iload_n 3, 1) := by decide +kernel
theorem dL_law_1549 : decode cL_law 1549 = .ok (.iconst 3, 1) := by decide +kernel
theorem dL_law_1550 : decode cL_law 1550 = .ok (.iadd, 1) := by decide +kernel
theorem dL_law_1551 : decode cL_law 1551 = .ok (.iaload, 1) := by decide +kernel
theorem dL_law_1552 : decode cL_law 1552 = .ok (.invokevirtual 160, 3) := by decide +kernel
theorem dL_law_1555 : decode cL_law 1555 = .ok (.if_icmp .eq 258, 3) := by decide +kernel
theorem eL_X11_mention : yX11_mention.cls = RX11 ∧ yX11_mention.cls ≠ "java/lang/invoke/MethodHandle" ∧ yX11_mention.cls ≠ "java/lang/invoke/VarHandle" ∧ (parseMethodDescriptor yX11_mention.desc).map (fun d => d.parameters.length) = some 3 := by decide +kernel
theorem eL_X12_mention : yX12_mention.cls = RX12 ∧ yX12_mention.cls ≠ "java/lang/invoke/MethodHandle" ∧ yX12_mention.cls ≠ "java/lang/invoke/VarHandle" ∧ (parseMethodDescriptor yX12_mention.desc).map (fun d => d.parameters.length) = some 3 := by decide +kernel
set_option maxHeartbeats 4000000 in
set_option maxRecDepth 100000 in
theorem law_34 {l : Launch} {p : Program} {e : Env} {s : State} {m : MethodId} {below : List Frame} {meth : Method} {c : Code} {D : va_G} {A : Nat → Prop} {cells slots : Nat} {Q : State → Prop} {b L : Nat} {xs : Nat → Int32} {i : Int32} {cI cJ cZ cH : ClassId} {ad : Nat → Nat} {ws : va_W} (hX : va_X b L xs s s.heap) (hbl : b < s.heap.size) (hbA : ¬ A b) (hin : ∀ j : Nat, j < 8 → vp_in (i + nI j) L) (hL : LawS cI cJ cZ cH ad cells slots ws) (kk : ∀ cells slots ws, LawS cI cJ cZ cH ad cells slots ws → WX p l e room_1 s m #[.ref b] below meth c code RL lwG D [(cI, .int), (cJ, .long), (cZ, .boolean), (cH, .object "TinHouse$House")] A 4 cells slots Q ws 1813 [(3, .int i), (2, .ref (ad 57)), (1, .ref (ad 0)), (0, .ref b)] []) : WX p l e room_1 s m #[.ref b] below meth c code RL lwG D [(cI, .int), (cJ, .long), (cZ, .boolean), (cH, .object "TinHouse$House")] A 4 cells slots Q ws 1517 [(3, .int i), (2, .ref (ad 57)), (1, .ref (ad 0)), (0, .ref b)] [] := by
  obtain ⟨Z, tl, rfl, ⟨hS, h, hs1, hs2, hs3, ha1, ha2, him⟩, hb1, hb2⟩ := hL
  have hcs : cells ≤ room_1.cells := Nat.le_trans (Nat.le_add_right _ _) hb1
  have hss : slots ≤ room_1.slots := Nat.le_trans (Nat.le_add_right _ _) hb2
  refine ii_aload_n 2 dL_law_1517 rfl ?_
  refine ii_aload_n 3 dL_law_1518 rfl ?_
  refine ii_iload_n 0 dL_law_1519 rfl ?_
  refine ii_iconst dL_law_1520 kc1 ?_
  refine ii_iadd dL_law_1521 ?_
  refine ii_sld hX hbl hbA (hin 1 (by decide)) dL_law_1522 ?_
  refine ii_aload_n 3 dL_law_1523 rfl ?_
  refine ii_iload_n 0 dL_law_1524 rfl ?_
  refine ii_iconst dL_law_1525 kc2 ?_
  refine ii_iadd dL_law_1526 ?_
  refine ii_sld hX hbl hbA (hin 2 (by decide)) dL_law_1527 ?_
  refine ii_aload_n 3 dL_law_1528 rfl ?_
  refine ii_iload_n 0 dL_law_1529 rfl ?_
  refine ii_iconst dL_law_1530 kc3 ?_
  refine ii_iadd dL_law_1531 ?_
  refine ii_sld hX hbl hbA (hin 3 (by decide)) dL_law_1532 ?_
  obtain ⟨o1, o2, e1, e2, q1, q2⟩ := (P_mention h _ _ _ : Two (F_X11_mention (tcZ Z 10) (trZ Z 10) (xs (i + 1).toNatClampNeg) (xs (i + 2).toNatClampNeg) (xs (i + 3).toNatClampNeg)) (F_X12_mention (arI (Z 58)) (xs (i + 1).toNatClampNeg) (xs (i + 2).toNatClampNeg) (xs (i + 3).toNatClampNeg)) _)
  refine ii_callZi (nW := 79) (ad := ad) (Z := Z) (setl Z [(23, .inl (cI, 30, .inl o1.2.1)), (22, .inr (8, [.int (3 : Int32), .int (10 : Int32), .ref (ad 23), .int o1.2.2]))]) (tl := tl) (As := [.int (xs (i + 1).toNatClampNeg), .int (xs (i + 2).toNatClampNeg), .int (xs (i + 3).toNatClampNeg)]) (st := []) (c_X11_mention l D cI cJ cZ cH (ad 0) (ad 28) (ad 32) (ad 34) (ad 36) (ad 1) (ad 6) (ad 8) (ad 14) (ad 20) (ad 24) (ad 22) (ad 23) (ad 2) (ad 10) (ad 26) (ad 12) (ad 16) (ad 4) (ad 18) (ad 51) (ad 55) (ad 49) (ad 29) (ad 44) (ad 45) (flL 11 (Z 0)) (flL 12 (Z 0)) (tcZ Z 10) (trZ Z 10) (flI 14 (Z 1)) (flI 13 (Z 1)) (xs (i + 1).toNatClampNeg) (xs (i + 2).toNatClampNeg) (xs (i + 3).toNatClampNeg) e1) gzL_157 rfl rfl rfl eL_X11_mention ⟨Nat.le_of_ble_eq_true rfl, Nat.le_of_ble_eq_true rfl⟩ rfl 0 (by decide) rfl (sh_0 hS) rfl [0, 1, 22, 23] (zc_cons rfl (sh_0 hS) (zc_cons rfl (sh_1 hS) (zc_cons rfl (sh_22 hS) (zc_cons rfl (sh_23 hS) zc_nil)))) (zc_cons rfl (zs (sh_0 hS) rfl) (zc_cons rfl (zs (sh_1 hS) rfl) (zc_cons rfl rfl (zc_cons rfl rfl zc_nil)))) (setl_out rfl) rfl rfl (Nat.le_of_ble_eq_true rfl) hcs hss rfl dL_law_1533 ?_
  refine ii_aload_n 1 dL_law_1536 rfl ?_
  refine ii_aload_n 3 dL_law_1537 rfl ?_
  refine ii_iload_n 0 dL_law_1538 rfl ?_
  refine ii_iconst dL_law_1539 kc1 ?_
  refine ii_iadd dL_law_1540 ?_
  refine ii_sld hX hbl hbA (hin 1 (by decide)) dL_law_1541 ?_
  refine ii_aload_n 3 dL_law_1542 rfl ?_
  refine ii_iload_n 0 dL_law_1543 rfl ?_
  refine ii_iconst dL_law_1544 kc2 ?_
  refine ii_iadd dL_law_1545 ?_
  refine ii_sld hX hbl hbA (hin 2 (by decide)) dL_law_1546 ?_
  refine ii_aload_n 3 dL_law_1547 rfl ?_
  refine ii_iload_n 0 dL_law_1548 rfl ?_
  refine ii_iconst dL_law_1549 kc3 ?_
  refine ii_iadd dL_law_1550 ?_
  refine ii_sld hX hbl hbA (hin 3 (by decide)) dL_law_1551 ?_
  refine ii_callZi (nW := 79) (ad := ad) (Z := (setl Z [(23, .inl (cI, 30, .inl o1.2.1)), (22, .inr (8, [.int (3 : Int32), .int (10 : Int32), .ref (ad 23), .int o1.2.2]))])) (setl (setl Z [(23, .inl (cI, 30, .inl o1.2.1)), (22, .inr (8, [.int (3 : Int32), .int (10 : Int32), .ref (ad 23), .int o1.2.2]))]) [(58, .inl (cI, 1951, .inl o2.2))]) (tl := tl) (As := [.int (xs (i + 1).toNatClampNeg), .int (xs (i + 2).toNatClampNeg), .int (xs (i + 3).toNatClampNeg)]) (st := [.int o1.1]) (c_X12_mention l D cI cJ cZ cH (ad 57) (ad 72) (ad 77) (ad 70) (ad 65) (ad 59) (ad 60) (ad 76) (ad 75) (ad 68) (ad 66) (ad 74) (ad 69) (ad 71) (ad 78) (ad 58) (ad 61) (ad 73) (ad 67) (ad 64) (ad 63) (ad 62) (flL 11 (Z 0)) (flL 12 (Z 0)) (arI (Z 58)) (flI 5 (Z 57)) (flI 8 (Z 57)) (xs (i + 1).toNatClampNeg) (xs (i + 2).toNatClampNeg) (xs (i + 3).toNatClampNeg) e2) gzL_160 rfl rfl rfl eL_X12_mention ⟨Nat.le_of_ble_eq_true rfl, Nat.le_of_ble_eq_true rfl⟩ rfl 57 (by decide) rfl (zs (sh_57a hS ha1 ha2) rfl) rfl [57, 58] (zc_cons rfl (zs (sh_57a hS ha1 ha2) rfl) (zc_cons rfl (zs (sh_58 hS) rfl) zc_nil)) (zc_cons rfl (zs (sh_57a hS ha1 ha2) rfl) (zc_cons rfl rfl zc_nil)) (setl_out rfl) rfl rfl (Nat.le_of_ble_eq_true rfl) hcs hss rfl dL_law_1552 ?_
  refine ii_icmp_eq (tgt := 1813) (r := ()) (ET := some ()) (EF := none) (if_pos q1) dL_law_1555 (by decide) (fun _ => ?_) (fun z => absurd z (by simp))
  exact kk _ _ _ ⟨setl (setl Z [(23, .inl (cI, 30, .inl o1.2.1)), (22, .inr (8, [.int (3 : Int32), .int (10 : Int32), .ref (ad 23), .int o1.2.2]))]) [(58, .inl (cI, 1951, .inl o2.2))], tl, rfl, law_fin (tc' := (va_up (tcZ Z) 10 o1.2.1)) (tr' := (va_up (trZ Z) 10 o1.2.2)) (nar' := (flI 13 (Z 1))) (nam' := (flI 14 (Z 1))) (st' := o2.2) hS (ok_cons ok_23 (ok_cons ok_22 ok_nil)) (ok_cons ok_58 ok_nil) rfl rfl rfl rfl rfl rfl rfl q2 hs1 hs2 hs3 ha1 ha2 him, hb1, hb2⟩

theorem dL_law_1560 : decode cL_law 1560 = .ok (.aload_n 1, 1) := by decide +kernel
theorem dL_law_1561 : decode cL_law 1561 = .ok (.aload_n 0, 1) := by decide +kernel
theorem dL_law_1562 : decode cL_law 1562 = .ok (.iload_n 3, 1) := by decide +kernel
theorem dL_law_1563 : decode cL_law 1563 = .ok (.iconst 1, 1) := by decide +kernel
theorem dL_law_1564 : decode cL_law 1564 = .ok (.iadd, 1) := by decide +kernel
theorem dL_law_1565 : decode cL_law 1565 = .ok (.iaload, 1) := by decide +kernel
theorem dL_law_1566 : decode cL_law 1566 = .ok (.invokevirtual 161, 3) := by decide +kernel
theorem dL_law_1569 : decode cL_law 1569 = .ok (.aload_n 2, 1) := by decide +kernel
theorem dL_law_1570 : decode cL_law 1570 = .ok (.aload_n 0, 1) := by decide +kernel
theorem dL_law_1571 : decode cL_law 1571 = .ok (.iload_n 3, 1) := by decide +kernel
theorem dL_law_1572 : decode cL_law 1572 = .ok (.iconst 1, 1) := by decide +kernel
theorem dL_law_1573 : decode cL_law 1573 = .ok (.iadd, 1) := by decide +kernel
theorem dL_law_1574 : decode cL_law 1574 = .ok (.iaload, 1) := by decide +kernel
theorem dL_law_1575 : decode cL_law 1575 = .ok (.invokevirtual 164, 3) := by decide +kernel
theorem dL_law_1578 : decode cL_law 1578 = .ok (.if_icmp .eq 235, 3) := by decide +kernel
theorem eL_X11_men : yX11_men.cls = RX11 ∧ yX11_men.cls ≠ "java/lang/invoke/MethodHandle" ∧ yX11_men.cls ≠ "java/lang/invoke/VarHandle" ∧ (parseMethodDescriptor yX11_men.desc).map (fun d => d.parameters.length) = some 1 := by decide +kernel
theorem eL_X12_men : yX12_men.cls = RX12 ∧ yX12_men.cls ≠ "java/lang/invoke/MethodHandle" ∧ yX12_men.cls ≠ "java/lang/invoke/VarHandle" ∧ (parseMethodDescriptor yX12_men.desc).map (fun d => d.parameters.length) = some 1 := by decide +kernel
set_option maxHeartbeats 4000000 in
set_option maxRecDepth 100000 in
theorem law_35 {l : Launch} {p : Program} {e : Env} {s : State} {m : MethodId} {below : List Frame} {meth : Method} {c : Code} {D : va_G} {A : Nat → Prop} {cells slots : Nat} {Q : State → Prop} {b L : Nat} {xs : Nat → Int32} {i : Int32} {cI cJ cZ cH : ClassId} {ad : Nat → Nat} {ws : va_W} (hX : va_X b L xs s s.heap) (hbl : b < s.heap.size) (hbA : ¬ A b) (hin : ∀ j : Nat, j < 8 → vp_in (i + nI j) L) (hL : LawS cI cJ cZ cH ad cells slots ws) (kk : ∀ cells slots ws, LawS cI cJ cZ cH ad cells slots ws → WX p l e room_1 s m #[.ref b] below meth c code RL lwG D [(cI, .int), (cJ, .long), (cZ, .boolean), (cH, .object "TinHouse$House")] A 4 cells slots Q ws 1813 [(3, .int i), (2, .ref (ad 57)), (1, .ref (ad 0)), (0, .ref b)] []) : WX p l e room_1 s m #[.ref b] below meth c code RL lwG D [(cI, .int), (cJ, .long), (cZ, .boolean), (cH, .object "TinHouse$House")] A 4 cells slots Q ws 1560 [(3, .int i), (2, .ref (ad 57)), (1, .ref (ad 0)), (0, .ref b)] [] := by
  obtain ⟨Z, tl, rfl, ⟨hS, h, hs1, hs2, hs3, ha1, ha2, him⟩, hb1, hb2⟩ := hL
  have hcs : cells ≤ room_1.cells := Nat.le_trans (Nat.le_add_right _ _) hb1
  have hss : slots ≤ room_1.slots := Nat.le_trans (Nat.le_add_right _ _) hb2
  refine ii_aload_n 2 dL_law_1560 rfl ?_
  refine ii_aload_n 3 dL_law_1561 rfl ?_
  refine ii_iload_n 0 dL_law_1562 rfl ?_
  refine ii_iconst dL_law_1563 kc1 ?_
  refine ii_iadd dL_law_1564 ?_
  refine ii_sld hX hbl hbA (hin 1 (by decide)) dL_law_1565 ?_
  obtain ⟨o1, o2, e1, e2, q1⟩ := (P_men h _ _ _ _ _ _ : Two (F_X11_men (tcZ Z 10) (trZ Z 10) (arI (Z 52)) (arI (Z 54)) (arI (Z 53)) (xs (i + 1).toNatClampNeg)) (F_X12_men (arI (Z 77)) (arI (Z 76)) (arI (Z 58)) (xs (i + 1).toNatClampNeg)) _)
  refine ii_callZi (nW := 79) (ad := ad) (Z := Z) (setl Z [(54, .inl (cI, 10, .inl o1.2.2.1)), (53, .inl (cI, 10, .inl o1.2.2.2)), (52, .inl (cI, 10, .inl o1.2.1))]) (tl := tl) (As := [.int (xs (i + 1).toNatClampNeg)]) (st := []) (c_X11_men l D cI cJ cZ cH (ad 0) (ad 28) (ad 32) (ad 34) (ad 36) (ad 1) (ad 6) (ad 8) (ad 14) (ad 20) (ad 24) (ad 22) (ad 23) (ad 2) (ad 10) (ad 26) (ad 12) (ad 16) (ad 4) (ad 18) (ad 51) (ad 52) (ad 54) (ad 53) (ad 55) (ad 49) (ad 29) (ad 44) (ad 45) (flL 11 (Z 0)) (flL 12 (Z 0)) (tcZ Z 10) (trZ Z 10) (flI 14 (Z 1)) (flI 13 (Z 1)) (arI (Z 52)) (arI (Z 54)) (arI (Z 53)) (xs (i + 1).toNatClampNeg) e1) gzL_161 rfl rfl rfl eL_X11_men ⟨Nat.le_of_ble_eq_true rfl, Nat.le_of_ble_eq_true rfl⟩ rfl 0 (by decide) rfl (sh_0 hS) rfl [0, 1, 22, 23, 51, 52, 54, 53] (zc_cons rfl (sh_0 hS) (zc_cons rfl (sh_1 hS) (zc_cons rfl (sh_22 hS) (zc_cons rfl (sh_23 hS) (zc_cons rfl (sh_51 hS) (zc_cons rfl (sh_52 hS) (zc_cons rfl (sh_54 hS) (zc_cons rfl (sh_53 hS) zc_nil)))))))) (zc_cons rfl (zs (sh_0 hS) rfl) (zc_cons rfl (zs (sh_1 hS) rfl) (zc_cons rfl (zs (sh_22 hS) rfl) (zc_cons rfl (zs (sh_23 hS) rfl) (zc_cons rfl (zs (sh_51 hS) rfl) (zc_cons rfl rfl (zc_cons rfl rfl (zc_cons rfl rfl zc_nil)))))))) (setl_out rfl) rfl rfl (Nat.le_of_ble_eq_true rfl) hcs hss rfl dL_law_1566 ?_
  refine ii_aload_n 1 dL_law_1569 rfl ?_
  refine ii_aload_n 3 dL_law_1570 rfl ?_
  refine ii_iload_n 0 dL_law_1571 rfl ?_
  refine ii_iconst dL_law_1572 kc1 ?_
  refine ii_iadd dL_law_1573 ?_
  refine ii_sld hX hbl hbA (hin 1 (by decide)) dL_law_1574 ?_
  refine ii_callZi (nW := 79) (ad := ad) (Z := (setl Z [(54, .inl (cI, 10, .inl o1.2.2.1)), (53, .inl (cI, 10, .inl o1.2.2.2)), (52, .inl (cI, 10, .inl o1.2.1))])) (setl (setl Z [(54, .inl (cI, 10, .inl o1.2.2.1)), (53, .inl (cI, 10, .inl o1.2.2.2)), (52, .inl (cI, 10, .inl o1.2.1))]) [(77, .inl (cI, 10, .inl o2.2.1)), (76, .inl (cI, 10, .inl o2.2.2))]) (tl := tl) (As := [.int (xs (i + 1).toNatClampNeg)]) (st := [.int o1.1]) (c_X12_men l D cI cJ cZ cH (ad 57) (ad 72) (ad 77) (ad 70) (ad 65) (ad 59) (ad 60) (ad 76) (ad 75) (ad 68) (ad 66) (ad 74) (ad 69) (ad 71) (ad 78) (ad 58) (ad 61) (ad 73) (ad 67) (ad 64) (ad 63) (ad 62) (flL 11 (Z 0)) (flL 12 (Z 0)) (arI (Z 77)) (arI (Z 76)) (arI (Z 58)) (flI 5 (Z 57)) (flI 8 (Z 57)) (xs (i + 1).toNatClampNeg) e2) gzL_164 rfl rfl rfl eL_X12_men ⟨Nat.le_of_ble_eq_true rfl, Nat.le_of_ble_eq_true rfl⟩ rfl 57 (by decide) rfl (zs (sh_57a hS ha1 ha2) rfl) rfl [57, 77, 76, 58] (zc_cons rfl (zs (sh_57a hS ha1 ha2) rfl) (zc_cons rfl (zs (sh_77 hS) rfl) (zc_cons rfl (zs (sh_76 hS) rfl) (zc_cons rfl (zs (sh_58 hS) rfl) zc_nil)))) (zc_cons rfl (zs (sh_57a hS ha1 ha2) rfl) (zc_cons rfl rfl (zc_cons rfl rfl (zc_cons rfl (zs (sh_58 hS) rfl) zc_nil)))) (setl_out rfl) rfl rfl (Nat.le_of_ble_eq_true rfl) hcs hss rfl dL_law_1575 ?_
  refine ii_icmp_eq (tgt := 1813) (r := ()) (ET := some ()) (EF := none) (if_pos q1) dL_law_1578 (by decide) (fun _ => ?_) (fun z => absurd z (by simp))
  exact kk _ _ _ ⟨setl (setl Z [(54, .inl (cI, 10, .inl o1.2.2.1)), (53, .inl (cI, 10, .inl o1.2.2.2)), (52, .inl (cI, 10, .inl o1.2.1))]) [(77, .inl (cI, 10, .inl o2.2.1)), (76, .inl (cI, 10, .inl o2.2.2))], tl, rfl, law_fin (tc' := (tcZ Z)) (tr' := (trZ Z)) (nar' := (flI 13 (Z 1))) (nam' := (flI 14 (Z 1))) (st' := (arI (Z 58))) hS (ok_cons ok_54 (ok_cons ok_53 (ok_cons ok_52 ok_nil))) (ok_cons ok_77 (ok_cons ok_76 ok_nil)) rfl rfl rfl rfl rfl rfl rfl h hs1 hs2 hs3 ha1 ha2 him, hb1, hb2⟩

theorem dL_law_1583 : decode cL_law 1583 = .ok (.aload_n 1, 1) := by decide +kernel
theorem dL_law_1584 : decode cL_law 1584 = .ok (.aload_n 0, 1) := by decide +kernel
theorem dL_law_1585 : decode cL_law 1585 = .ok (.iload_n 3, 1) := by decide +kernel
theorem dL_law_1586 : decode cL_law 1586 = .ok (.iconst 1, 1) := by decide +kernel
theorem dL_law_1587 : decode cL_law 1587 = .ok (.iadd, 1) := by decide +kernel
theorem dL_law_1588 : decode cL_law 1588 = .ok (.iaload, 1) := by decide +kernel
theorem dL_law_1589 : decode cL_law 1589 = .ok (.aload_n 0, 1) := by decide +kernel
theorem dL_law_1590 : decode cL_law 1590 = .ok (.iload_n 3, 1) := by decide +kernel
theorem dL_law_1591 : decode cL_law 1591 = .ok (.iconst 2, 1) := by decide +kernel
theorem dL_law_1592 : decode cL_law 1592 = .ok (.iadd, 1) := by decide +kernel
theorem dL_law_1593 : decode cL_law 1593 = .ok (.iaload, 1) := by decide +kernel
theorem dL_law_1594 : decode cL_law 1594 = .ok (.aload_n 0, 1) := by decide +kernel
theorem dL_law_1595 : decode cL_law 1595 = .ok (.iload_n 3, 1) := by decide +kernel
theorem dL_law_1596 : decode cL_law 1596 = .ok (.iconst 3, 1) := by decide +kernel
theorem dL_law_1597 : decode cL_law 1597 = .ok (.iadd, 1) := by decide +kernel
theorem dL_law_1598 : decode cL_law 1598 = .ok (.iaload, 1) := by decide +kernel
theorem dL_law_1599 : decode cL_law 1599 = .ok (.invokevirtual 165, 3) := by decide +kernel
theorem dL_law_1602 : decode cL_law 1602 = .ok (.aload_n 2, 1) := by decide +kernel
theorem dL_law_1603 : decode cL_law 1603 = .ok (.aload_n 0, 1) := by decide +kernel
theorem dL_law_1604 : decode cL_law 1604 = .ok (.iload_n 3, 1) := by decide +kernel
theorem dL_law_1605 : decode cL_law 1605 = .ok (.iconst 1, 1) := by decide +kernel
theorem dL_law_1606 : decode cL_law 1606 = .ok (.iadd, 1) := by decide +kernel
theorem dL_law_1607 : decode cL_law 1607 = .ok (.iaload, 1) := by decide +kernel
theorem dL_law_1608 : decode cL_law 1608 = .ok (.aload_n 0, 1) := by decide +kernel
theorem dL_law_1609 : decode cL_law 1609 = .ok (.iload_n 3, 1) := by decide +kernel
theorem dL_law_1610 : decode cL_law 1610 = .ok (.iconst 2, 1) := by decide +kernel
theorem dL_law_1611 : decode cL_law 1611 = .ok (.iadd, 1) := by decide +kernel
theorem dL_law_1612 : decode cL_law 1612 = .ok (.iaload, 1) := by decide +kernel
theorem dL_law_1613 : decode cL_law 1613 = .ok (.aload_n 0, 1) := by decide +kernel
theorem dL_law_1614 : decode cL_law 1614 = .ok (.iload_n 3, 1) := by decide +kernel
theorem dL_law_1615 : decode cL_law 1615 = .ok (.iconst 3, 1) := by decide +kernel
theorem dL_law_1616 : decode cL_law 1616 = .ok (.iadd, 1) := by decide +kernel
theorem dL_law_1617 : decode cL_law 1617 = .ok (.iaload, 1) := by decide +kernel
theorem dL_law_1618 : decode cL_law 1618 = .ok (.invokevirtual 168, 3) := by decide +kernel
theorem dL_law_1621 : decode cL_law 1621 = .ok (.if_icmp .eq 192, 3) := by decide +kernel
theorem eL_X11_load : yX11_load.cls = RX11 ∧ yX11_load.cls ≠ "java/lang/invoke/MethodHandle" ∧ yX11_load.cls ≠ "java/lang/invoke/VarHandle" ∧ (parseMethodDescriptor yX11_load.desc).map (fun d => d.parameters.length) = some 3 := by decide +kernel
theorem eL_X12_load : yX12_load.cls = RX12 ∧ yX12_load.cls ≠ "java/lang/invoke/MethodHandle" ∧ yX12_load.cls ≠ "java/lang/invoke/VarHandle" ∧ (parseMethodDescriptor yX12_load.desc).map (fun d => d.parameters.length) = some 3 := by decide +kernel
set_option maxHeartbeats 4000000 in
set_option maxRecDepth 100000 in
theorem law_36 {l : Launch} {p : Program} {e : Env} {s : State} {m : MethodId} {below : List Frame} {meth : Method} {c : Code} {D : va_G} {A : Nat → Prop} {cells slots : Nat} {Q : State → Prop} {b L : Nat} {xs : Nat → Int32} {i : Int32} {cI cJ cZ cH : ClassId} {ad : Nat → Nat} {ws : va_W} (hX : va_X b L xs s s.heap) (hbl : b < s.heap.size) (hbA : ¬ A b) (hin : ∀ j : Nat, j < 8 → vp_in (i + nI j) L) (hL : LawS cI cJ cZ cH ad cells slots ws) (kk : ∀ cells slots ws, LawS cI cJ cZ cH ad cells slots ws → WX p l e room_1 s m #[.ref b] below meth c code RL lwG D [(cI, .int), (cJ, .long), (cZ, .boolean), (cH, .object "TinHouse$House")] A 4 cells slots Q ws 1813 [(3, .int i), (2, .ref (ad 57)), (1, .ref (ad 0)), (0, .ref b)] []) : WX p l e room_1 s m #[.ref b] below meth c code RL lwG D [(cI, .int), (cJ, .long), (cZ, .boolean), (cH, .object "TinHouse$House")] A 4 cells slots Q ws 1583 [(3, .int i), (2, .ref (ad 57)), (1, .ref (ad 0)), (0, .ref b)] [] := by
  obtain ⟨Z, tl, rfl, ⟨hS, h, hs1, hs2, hs3, ha1, ha2, him⟩, hb1, hb2⟩ := hL
  have hcs : cells ≤ room_1.cells := Nat.le_trans (Nat.le_add_right _ _) hb1
  have hss : slots ≤ room_1.slots := Nat.le_trans (Nat.le_add_right _ _) hb2
  refine ii_aload_n 2 dL_law_1583 rfl ?_
  refine ii_aload_n 3 dL_law_1584 rfl ?_
  refine ii_iload_n 0 dL_law_1585 rfl ?_
  refine ii_iconst dL_law_1586 kc1 ?_
  refine ii_iadd dL_law_1587 ?_
  refine ii_sld hX hbl hbA (hin 1 (by decide)) dL_law_1588 ?_
  refine ii_aload_n 3 dL_law_1589 rfl ?_
  refine ii_iload_n 0 dL_law_1590 rfl ?_
  refine ii_iconst dL_law_1591 kc2 ?_
  refine ii_iadd dL_law_1592 ?_
  refine ii_sld hX hbl hbA (hin 2 (by decide)) dL_law_1593 ?_
  refine ii_aload_n 3 dL_law_1594 rfl ?_
  refine ii_iload_n 0 dL_law_1595 rfl ?_
  refine ii_iconst dL_law_1596 kc3 ?_
  refine ii_iadd dL_law_1597 ?_
  refine ii_sld hX hbl hbA (hin 3 (by decide)) dL_law_1598 ?_
  obtain ⟨o1, o2, e1, e2, q1, q2⟩ := (P_load h _ _ _ : Two (F_X11_load (tcZ Z 11) (trZ Z 11) (trZ Z 0) (xs (i + 1).toNatClampNeg) (xs (i + 2).toNatClampNeg) (xs (i + 3).toNatClampNeg)) (F_X12_load (arI (Z 58)) (xs (i + 1).toNatClampNeg) (xs (i + 2).toNatClampNeg) (xs (i + 3).toNatClampNeg)) _)
  refine ii_callZi (nW := 79) (ad := ad) (Z := Z) (setl Z [(25, .inl (cI, 18, .inl o1.2.1)), (24, .inr (8, [.int (3 : Int32), .int (6 : Int32), .ref (ad 25), .int o1.2.2]))]) (tl := tl) (As := [.int (xs (i + 1).toNatClampNeg), .int (xs (i + 2).toNatClampNeg), .int (xs (i + 3).toNatClampNeg)]) (st := []) (c_X11_load l D cI cJ cZ cH (ad 0) (ad 28) (ad 32) (ad 34) (ad 36) (ad 1) (ad 6) (ad 8) (ad 14) (ad 20) (ad 24) (ad 25) (ad 22) (ad 2) (ad 3) (ad 10) (ad 26) (ad 12) (ad 16) (ad 4) (ad 18) (ad 51) (ad 55) (ad 49) (ad 29) (ad 44) (ad 45) (flL 11 (Z 0)) (flL 12 (Z 0)) (tcZ Z 11) (trZ Z 11) (trZ Z 0) (flI 14 (Z 1)) (flI 13 (Z 1)) (xs (i + 1).toNatClampNeg) (xs (i + 2).toNatClampNeg) (xs (i + 3).toNatClampNeg) e1) gzL_165 rfl rfl rfl eL_X11_load ⟨Nat.le_of_ble_eq_true rfl, Nat.le_of_ble_eq_true rfl⟩ rfl 0 (by decide) rfl (sh_0 hS) rfl [0, 1, 24, 25, 2] (zc_cons rfl (sh_0 hS) (zc_cons rfl (sh_1 hS) (zc_cons rfl (sh_24 hS) (zc_cons rfl (sh_25 hS) (zc_cons rfl (sh_2 hS) zc_nil))))) (zc_cons rfl (zs (sh_0 hS) rfl) (zc_cons rfl (zs (sh_1 hS) rfl) (zc_cons rfl rfl (zc_cons rfl rfl (zc_cons rfl (zs (sh_2 hS) rfl) zc_nil))))) (setl_out rfl) rfl rfl (Nat.le_of_ble_eq_true rfl) hcs hss rfl dL_law_1599 ?_
  refine ii_aload_n 1 dL_law_1602 rfl ?_
  refine ii_aload_n 3 dL_law_1603 rfl ?_
  refine ii_iload_n 0 dL_law_1604 rfl ?_
  refine ii_iconst dL_law_1605 kc1 ?_
  refine ii_iadd dL_law_1606 ?_
  refine ii_sld hX hbl hbA (hin 1 (by decide)) dL_law_1607 ?_
  refine ii_aload_n 3 dL_law_1608 rfl ?_
  refine ii_iload_n 0 dL_law_1609 rfl ?_
  refine ii_iconst dL_law_1610 kc2 ?_
  refine ii_iadd dL_law_1611 ?_
  refine ii_sld hX hbl hbA (hin 2 (by decide)) dL_law_1612 ?_
  refine ii_aload_n 3 dL_law_1613 rfl ?_
  refine ii_iload_n 0 dL_law_1614 rfl ?_
  refine ii_iconst dL_law_1615 kc3 ?_
  refine ii_iadd dL_law_1616 ?_
  refine ii_sld hX hbl hbA (hin 3 (by decide)) dL_law_1617 ?_
  refine ii_callZi (nW := 79) (ad := ad) (Z := (setl Z [(25, .inl (cI, 18, .inl o1.2.1)), (24, .inr (8, [.int (3 : Int32), .int (6 : Int32), .ref (ad 25), .int o1.2.2]))])) (setl (setl Z [(25, .inl (cI, 18, .inl o1.2.1)), (24, .inr (8, [.int (3 : Int32), .int (6 : Int32), .ref (ad 25), .int o1.2.2]))]) [(58, .inl (cI, 1951, .inl o2.2))]) (tl := tl) (As := [.int (xs (i + 1).toNatClampNeg), .int (xs (i + 2).toNatClampNeg), .int (xs (i + 3).toNatClampNeg)]) (st := [.int o1.1]) (c_X12_load l D cI cJ cZ cH (ad 57) (ad 72) (ad 77) (ad 70) (ad 65) (ad 59) (ad 60) (ad 76) (ad 75) (ad 68) (ad 66) (ad 74) (ad 69) (ad 71) (ad 78) (ad 58) (ad 61) (ad 73) (ad 67) (ad 64) (ad 63) (ad 62) (flL 11 (Z 0)) (flL 12 (Z 0)) (arI (Z 58)) (flI 5 (Z 57)) (flI 8 (Z 57)) (xs (i + 1).toNatClampNeg) (xs (i + 2).toNatClampNeg) (xs (i + 3).toNatClampNeg) e2) gzL_168 rfl rfl rfl eL_X12_load ⟨Nat.le_of_ble_eq_true rfl, Nat.le_of_ble_eq_true rfl⟩ rfl 57 (by decide) rfl (zs (sh_57a hS ha1 ha2) rfl) rfl [57, 58] (zc_cons rfl (zs (sh_57a hS ha1 ha2) rfl) (zc_cons rfl (zs (sh_58 hS) rfl) zc_nil)) (zc_cons rfl (zs (sh_57a hS ha1 ha2) rfl) (zc_cons rfl rfl zc_nil)) (setl_out rfl) rfl rfl (Nat.le_of_ble_eq_true rfl) hcs hss rfl dL_law_1618 ?_
  refine ii_icmp_eq (tgt := 1813) (r := ()) (ET := some ()) (EF := none) (if_pos q1) dL_law_1621 (by decide) (fun _ => ?_) (fun z => absurd z (by simp))
  exact kk _ _ _ ⟨setl (setl Z [(25, .inl (cI, 18, .inl o1.2.1)), (24, .inr (8, [.int (3 : Int32), .int (6 : Int32), .ref (ad 25), .int o1.2.2]))]) [(58, .inl (cI, 1951, .inl o2.2))], tl, rfl, law_fin (tc' := (va_up (tcZ Z) 11 o1.2.1)) (tr' := (va_up (trZ Z) 11 o1.2.2)) (nar' := (flI 13 (Z 1))) (nam' := (flI 14 (Z 1))) (st' := o2.2) hS (ok_cons ok_25 (ok_cons ok_24 ok_nil)) (ok_cons ok_58 ok_nil) rfl rfl rfl rfl rfl rfl rfl q2 hs1 hs2 hs3 ha1 ha2 him, hb1, hb2⟩

theorem dL_law_1626 : decode cL_law 1626 = .ok (.aload_n 1, 1) := by decide +kernel
theorem dL_law_1627 : decode cL_law 1627 = .ok (.invokevirtual 169, 3) := by decide +kernel
theorem dL_law_1630 : decode cL_law 1630 = .ok (.aload_n 2, 1) := by decide +kernel
theorem dL_law_1631 : decode cL_law 1631 = .ok (.invokevirtual 173, 3) := by decide +kernel
theorem dL_law_1634 : decode cL_law 1634 = .ok (.if_icmp .eq 179, 3) := by decide +kernel
theorem eL_X11_unload : yX11_unload.cls = RX11 ∧ yX11_unload.cls ≠ "java/lang/invoke/MethodHandle" ∧ yX11_unload.cls ≠ "java/lang/invoke/VarHandle" ∧ (parseMethodDescriptor yX11_unload.desc).map (fun d => d.parameters.length) = some 0 := by decide +kernel
theorem eL_X12_unload : yX12_unload.cls = RX12 ∧ yX12_unload.cls ≠ "java/lang/invoke/MethodHandle" ∧ yX12_unload.cls ≠ "java/lang/invoke/VarHandle" ∧ (parseMethodDescriptor yX12_unload.desc).map (fun d => d.parameters.length) = some 0 := by decide +kernel
set_option maxHeartbeats 4000000 in
set_option maxRecDepth 100000 in
theorem law_37 {l : Launch} {p : Program} {e : Env} {s : State} {m : MethodId} {below : List Frame} {meth : Method} {c : Code} {D : va_G} {A : Nat → Prop} {cells slots : Nat} {Q : State → Prop} {b L : Nat} {xs : Nat → Int32} {i : Int32} {cI cJ cZ cH : ClassId} {ad : Nat → Nat} {ws : va_W} (hX : va_X b L xs s s.heap) (hbl : b < s.heap.size) (hbA : ¬ A b) (hin : ∀ j : Nat, j < 8 → vp_in (i + nI j) L) (hL : LawS cI cJ cZ cH ad cells slots ws) (kk : ∀ cells slots ws, LawS cI cJ cZ cH ad cells slots ws → WX p l e room_1 s m #[.ref b] below meth c code RL lwG D [(cI, .int), (cJ, .long), (cZ, .boolean), (cH, .object "TinHouse$House")] A 4 cells slots Q ws 1813 [(3, .int i), (2, .ref (ad 57)), (1, .ref (ad 0)), (0, .ref b)] []) : WX p l e room_1 s m #[.ref b] below meth c code RL lwG D [(cI, .int), (cJ, .long), (cZ, .boolean), (cH, .object "TinHouse$House")] A 4 cells slots Q ws 1626 [(3, .int i), (2, .ref (ad 57)), (1, .ref (ad 0)), (0, .ref b)] [] := by
  obtain ⟨Z, tl, rfl, ⟨hS, h, hs1, hs2, hs3, ha1, ha2, him⟩, hb1, hb2⟩ := hL
  have hcs : cells ≤ room_1.cells := Nat.le_trans (Nat.le_add_right _ _) hb1
  have hss : slots ≤ room_1.slots := Nat.le_trans (Nat.le_add_right _ _) hb2
  refine ii_aload_n 2 dL_law_1626 rfl ?_
  obtain ⟨o1, o2, e1, e2, q1, q2⟩ := (P_unload h  : Two (F_X11_unload (trZ Z 11)) (F_X12_unload (arI (Z 58))) _)
  refine ii_callZi (nW := 79) (ad := ad) (Z := Z) (setl Z [(24, .inr (8, [.int (3 : Int32), .int (6 : Int32), .ref (ad 25), .int o1.2]))]) (tl := tl) (As := []) (st := []) (c_X11_unload l D cI cJ cZ cH (ad 0) (ad 28) (ad 32) (ad 34) (ad 36) (ad 1) (ad 6) (ad 8) (ad 14) (ad 20) (ad 24) (ad 25) (ad 22) (ad 2) (ad 10) (ad 26) (ad 12) (ad 16) (ad 4) (ad 18) (ad 51) (ad 55) (ad 49) (ad 29) (ad 44) (ad 45) (flL 11 (Z 0)) (flL 12 (Z 0)) (trZ Z 11) (flI 14 (Z 1)) (flI 13 (Z 1)) e1) gzL_169 rfl rfl rfl eL_X11_unload ⟨Nat.le_of_ble_eq_true rfl, Nat.le_of_ble_eq_true rfl⟩ rfl 0 (by decide) rfl (sh_0 hS) rfl [0, 1, 24] (zc_cons rfl (sh_0 hS) (zc_cons rfl (sh_1 hS) (zc_cons rfl (sh_24 hS) zc_nil))) (zc_cons rfl (zs (sh_0 hS) rfl) (zc_cons rfl (zs (sh_1 hS) rfl) (zc_cons rfl rfl zc_nil))) (setl_out rfl) rfl rfl (Nat.le_of_ble_eq_true rfl) hcs hss rfl dL_law_1627 ?_
  refine ii_aload_n 1 dL_law_1630 rfl ?_
  refine ii_callZi (nW := 79) (ad := ad) (Z := (setl Z [(24, .inr (8, [.int (3 : Int32), .int (6 : Int32), .ref (ad 25), .int o1.2]))])) (setl (setl Z [(24, .inr (8, [.int (3 : Int32), .int (6 : Int32), .ref (ad 25), .int o1.2]))]) [(58, .inl (cI, 1951, .inl o2.2))]) (tl := tl) (As := []) (st := [.int o1.1]) (c_X12_unload l D cI cJ cZ cH (ad 57) (ad 72) (ad 77) (ad 70) (ad 65) (ad 59) (ad 60) (ad 76) (ad 75) (ad 68) (ad 66) (ad 74) (ad 69) (ad 71) (ad 78) (ad 58) (ad 61) (ad 73) (ad 67) (ad 64) (ad 63) (ad 62) (flL 11 (Z 0)) (flL 12 (Z 0)) (arI (Z 58)) (flI 5 (Z 57)) (flI 8 (Z 57)) e2) gzL_173 rfl rfl rfl eL_X12_unload ⟨Nat.le_of_ble_eq_true rfl, Nat.le_of_ble_eq_true rfl⟩ rfl 57 (by decide) rfl (zs (sh_57a hS ha1 ha2) rfl) rfl [57, 58] (zc_cons rfl (zs (sh_57a hS ha1 ha2) rfl) (zc_cons rfl (zs (sh_58 hS) rfl) zc_nil)) (zc_cons rfl (zs (sh_57a hS ha1 ha2) rfl) (zc_cons rfl rfl zc_nil)) (setl_out rfl) rfl rfl (Nat.le_of_ble_eq_true rfl) hcs hss rfl dL_law_1631 ?_
  refine ii_icmp_eq (tgt := 1813) (r := ()) (ET := some ()) (EF := none) (if_pos q1) dL_law_1634 (by decide) (fun _ => ?_) (fun z => absurd z (by simp))
  exact kk _ _ _ ⟨setl (setl Z [(24, .inr (8, [.int (3 : Int32), .int (6 : Int32), .ref (ad 25), .int o1.2]))]) [(58, .inl (cI, 1951, .inl o2.2))], tl, rfl, law_fin (tc' := (tcZ Z)) (tr' := (va_up (trZ Z) 11 o1.2)) (nar' := (flI 13 (Z 1))) (nam' := (flI 14 (Z 1))) (st' := o2.2) hS (ok_cons ok_24 ok_nil) (ok_cons ok_58 ok_nil) rfl rfl rfl rfl rfl rfl rfl q2 hs1 hs2 hs3 ha1 ha2 him, hb1, hb2⟩

theorem dL_law_1639 : decode cL_law 1639 = .ok (.aload_n 1, 1) := by decide +kernel
theorem dL_law_1640 : decode cL_law 1640 = .ok (.aload_n 0, 1) := by decide +kernel
theorem dL_law_1641 : decode cL_law 1641 = .ok (.iload_n 3, 1) := by decide +kernel
theorem dL_law_1642 : decode cL_law 1642 = .ok (.iconst 1, 1) := by decide +kernel
theorem dL_law_1643 : decode cL_law 1643 = .ok (.iadd, 1) := by decide +kernel
theorem dL_law_1644 : decode cL_law 1644 = .ok (.iaload, 1) := by decide +kernel
theorem dL_law_1645 : decode cL_law 1645 = .ok (.aload_n 0, 1) := by decide +kernel
theorem dL_law_1646 : decode cL_law 1646 = .ok (.iload_n 3, 1) := by decide +kernel
theorem dL_law_1647 : decode cL_law 1647 = .ok (.iconst 2, 1) := by decide +kernel
theorem dL_law_1648 : decode cL_law 1648 = .ok (.iadd, 1) := by decide +kernel
theorem dL_law_1649 : decode cL_law 1649 = .ok (.iaload, 1) := by decide +kernel
theorem dL_law_1650 : decode cL_law 1650 = .ok (.invokevirtual 174, 3) := by decide +kernel
theorem dL_law_1653 : decode cL_law 1653 = .ok (.aload_n 2, 1) := by decide +kernel
theorem dL_law_1654 : decode cL_law 1654 = .ok (.aload_n 0, 1) := by decide +kernel
theorem dL_law_1655 : decode cL_law 1655 = .ok (.iload_n 3, 1) := by decide +kernel
theorem dL_law_1656 : decode cL_law 1656 = .ok (.iconst 1, 1) := by decide +kernel
theorem dL_law_1657 : decode cL_law 1657 = .ok (.iadd, 1) := by decide +kernel
theorem dL_law_1658 : decode cL_law 1658 = .ok (.iaload, 1) := by decide +kernel
theorem dL_law_1659 : decode cL_law 1659 = .ok (.aload_n 0, 1) := by decide +kernel
theorem dL_law_1660 : decode cL_law 1660 = .ok (.iload_n 3, 1) := by decide +kernel
theorem dL_law_1661 : decode cL_law 1661 = .ok (.iconst 2, 1) := by decide +kernel
theorem dL_law_1662 : decode cL_law 1662 = .ok (.iadd, 1) := by decide +kernel
theorem dL_law_1663 : decode cL_law 1663 = .ok (.iaload, 1) := by decide +kernel
theorem dL_law_1664 : decode cL_law 1664 = .ok (.invokevirtual 177, 3) := by decide +kernel
theorem dL_law_1667 : decode cL_law 1667 = .ok (.if_icmp .eq 146, 3) := by decide +kernel
theorem eL_X11_price : yX11_price.cls = RX11 ∧ yX11_price.cls ≠ "java/lang/invoke/MethodHandle" ∧ yX11_price.cls ≠ "java/lang/invoke/VarHandle" ∧ (parseMethodDescriptor yX11_price.desc).map (fun d => d.parameters.length) = some 2 := by decide +kernel
theorem eL_X12_price : yX12_price.cls = RX12 ∧ yX12_price.cls ≠ "java/lang/invoke/MethodHandle" ∧ yX12_price.cls ≠ "java/lang/invoke/VarHandle" ∧ (parseMethodDescriptor yX12_price.desc).map (fun d => d.parameters.length) = some 2 := by decide +kernel
set_option maxHeartbeats 4000000 in
set_option maxRecDepth 100000 in
theorem law_38 {l : Launch} {p : Program} {e : Env} {s : State} {m : MethodId} {below : List Frame} {meth : Method} {c : Code} {D : va_G} {A : Nat → Prop} {cells slots : Nat} {Q : State → Prop} {b L : Nat} {xs : Nat → Int32} {i : Int32} {cI cJ cZ cH : ClassId} {ad : Nat → Nat} {ws : va_W} (hX : va_X b L xs s s.heap) (hbl : b < s.heap.size) (hbA : ¬ A b) (hin : ∀ j : Nat, j < 8 → vp_in (i + nI j) L) (hL : LawS cI cJ cZ cH ad cells slots ws) (kk : ∀ cells slots ws, LawS cI cJ cZ cH ad cells slots ws → WX p l e room_1 s m #[.ref b] below meth c code RL lwG D [(cI, .int), (cJ, .long), (cZ, .boolean), (cH, .object "TinHouse$House")] A 4 cells slots Q ws 1813 [(3, .int i), (2, .ref (ad 57)), (1, .ref (ad 0)), (0, .ref b)] []) : WX p l e room_1 s m #[.ref b] below meth c code RL lwG D [(cI, .int), (cJ, .long), (cZ, .boolean), (cH, .object "TinHouse$House")] A 4 cells slots Q ws 1639 [(3, .int i), (2, .ref (ad 57)), (1, .ref (ad 0)), (0, .ref b)] [] := by
  obtain ⟨Z, tl, rfl, ⟨hS, h, hs1, hs2, hs3, ha1, ha2, him⟩, hb1, hb2⟩ := hL
  have hcs : cells ≤ room_1.cells := Nat.le_trans (Nat.le_add_right _ _) hb1
  have hss : slots ≤ room_1.slots := Nat.le_trans (Nat.le_add_right _ _) hb2
  refine ii_aload_n 2 dL_law_1639 rfl ?_
  refine ii_aload_n 3 dL_law_1640 rfl ?_
  refine ii_iload_n 0 dL_law_1641 rfl ?_
  refine ii_iconst dL_law_1642 kc1 ?_
  refine ii_iadd dL_law_1643 ?_
  refine ii_sld hX hbl hbA (hin 1 (by decide)) dL_law_1644 ?_
  refine ii_aload_n 3 dL_law_1645 rfl ?_
  refine ii_iload_n 0 dL_law_1646 rfl ?_
  refine ii_iconst dL_law_1647 kc2 ?_
  refine ii_iadd dL_law_1648 ?_
  refine ii_sld hX hbl hbA (hin 2 (by decide)) dL_law_1649 ?_
  obtain ⟨o1, o2, e1, e2, q1, q2⟩ := (P_price h _ _ : Two (F_X11_price (tcZ Z 12) (trZ Z 12) (xs (i + 1).toNatClampNeg) (xs (i + 2).toNatClampNeg)) (F_X12_price (arI (Z 58)) (xs (i + 1).toNatClampNeg) (xs (i + 2).toNatClampNeg)) _)
  refine ii_callZi (nW := 79) (ad := ad) (Z := Z) (setl Z [(27, .inl (cI, 3, .inl o1.2))]) (tl := tl) (As := [.int (xs (i + 1).toNatClampNeg), .int (xs (i + 2).toNatClampNeg)]) (st := []) (c_X11_price l D cI cJ cZ cH (ad 0) (ad 28) (ad 32) (ad 34) (ad 36) (ad 1) (ad 6) (ad 8) (ad 14) (ad 20) (ad 24) (ad 22) (ad 2) (ad 10) (ad 26) (ad 27) (ad 12) (ad 16) (ad 4) (ad 18) (ad 51) (ad 55) (ad 49) (ad 29) (ad 44) (ad 45) (flL 11 (Z 0)) (flL 12 (Z 0)) (flI 14 (Z 1)) (flI 13 (Z 1)) (tcZ Z 12) (trZ Z 12) (xs (i + 1).toNatClampNeg) (xs (i + 2).toNatClampNeg) e1) gzL_174 rfl rfl rfl eL_X11_price ⟨Nat.le_of_ble_eq_true rfl, Nat.le_of_ble_eq_true rfl⟩ rfl 0 (by decide) rfl (sh_0 hS) rfl [0, 1, 26, 27] (zc_cons rfl (sh_0 hS) (zc_cons rfl (sh_1 hS) (zc_cons rfl (sh_26 hS) (zc_cons rfl (sh_27 hS) zc_nil)))) (zc_cons rfl (zs (sh_0 hS) rfl) (zc_cons rfl (zs (sh_1 hS) rfl) (zc_cons rfl (zs (sh_26 hS) rfl) (zc_cons rfl rfl zc_nil)))) (setl_out rfl) rfl rfl (Nat.le_of_ble_eq_true rfl) hcs hss rfl dL_law_1650 ?_
  refine ii_aload_n 1 dL_law_1653 rfl ?_
  refine ii_aload_n 3 dL_law_1654 rfl ?_
  refine ii_iload_n 0 dL_law_1655 rfl ?_
  refine ii_iconst dL_law_1656 kc1 ?_
  refine ii_iadd dL_law_1657 ?_
  refine ii_sld hX hbl hbA (hin 1 (by decide)) dL_law_1658 ?_
  refine ii_aload_n 3 dL_law_1659 rfl ?_
  refine ii_iload_n 0 dL_law_1660 rfl ?_
  refine ii_iconst dL_law_1661 kc2 ?_
  refine ii_iadd dL_law_1662 ?_
  refine ii_sld hX hbl hbA (hin 2 (by decide)) dL_law_1663 ?_
  refine ii_callZi (nW := 79) (ad := ad) (Z := (setl Z [(27, .inl (cI, 3, .inl o1.2))])) (setl (setl Z [(27, .inl (cI, 3, .inl o1.2))]) [(58, .inl (cI, 1951, .inl o2.2))]) (tl := tl) (As := [.int (xs (i + 1).toNatClampNeg), .int (xs (i + 2).toNatClampNeg)]) (st := [.int o1.1]) (c_X12_price l D cI cJ cZ cH (ad 57) (ad 72) (ad 77) (ad 70) (ad 65) (ad 59) (ad 60) (ad 76) (ad 75) (ad 68) (ad 66) (ad 74) (ad 69) (ad 71) (ad 78) (ad 58) (ad 61) (ad 73) (ad 67) (ad 64) (ad 63) (ad 62) (flL 11 (Z 0)) (flL 12 (Z 0)) (arI (Z 58)) (flI 5 (Z 57)) (flI 8 (Z 57)) (xs (i + 1).toNatClampNeg) (xs (i + 2).toNatClampNeg) e2) gzL_177 rfl rfl rfl eL_X12_price ⟨Nat.le_of_ble_eq_true rfl, Nat.le_of_ble_eq_true rfl⟩ rfl 57 (by decide) rfl (zs (sh_57a hS ha1 ha2) rfl) rfl [57, 58] (zc_cons rfl (zs (sh_57a hS ha1 ha2) rfl) (zc_cons rfl (zs (sh_58 hS) rfl) zc_nil)) (zc_cons rfl (zs (sh_57a hS ha1 ha2) rfl) (zc_cons rfl rfl zc_nil)) (setl_out rfl) rfl rfl (Nat.le_of_ble_eq_true rfl) hcs hss rfl dL_law_1664 ?_
  refine ii_icmp_eq (tgt := 1813) (r := ()) (ET := some ()) (EF := none) (if_pos q1) dL_law_1667 (by decide) (fun _ => ?_) (fun z => absurd z (by simp))
  exact kk _ _ _ ⟨setl (setl Z [(27, .inl (cI, 3, .inl o1.2))]) [(58, .inl (cI, 1951, .inl o2.2))], tl, rfl, law_fin (tc' := (va_up (tcZ Z) 12 o1.2)) (tr' := (trZ Z)) (nar' := (flI 13 (Z 1))) (nam' := (flI 14 (Z 1))) (st' := o2.2) hS (ok_cons ok_27 ok_nil) (ok_cons ok_58 ok_nil) rfl rfl rfl rfl rfl rfl rfl q2 hs1 hs2 hs3 ha1 ha2 him, hb1, hb2⟩

theorem dL_law_1672 : decode cL_law 1672 = .ok (.aload_n 1, 1) := by decide +kernel
theorem dL_law_1673 : decode cL_law 1673 = .ok (.aload_n 0, 1) := by decide +kernel
theorem dL_law_1674 : decode cL_law 1674 = .ok (.iload_n 3, 1) := by decide +kernel
theorem dL_law_1675 : decode cL_law 1675 = .ok (.iconst 1, 1) := by decide +kernel
theorem dL_law_1676 : decode cL_law 1676 = .ok (.iadd, 1) := by decide +kernel
theorem dL_law_1677 : decode cL_law 1677 = .ok (.iaload, 1) := by decide +kernel
theorem dL_law_1678 : decode cL_law 1678 = .ok (.aload_n 0, 1) := by decide +kernel
theorem dL_law_1679 : decode cL_law 1679 = .ok (.iload_n 3, 1) := by decide +kernel
theorem dL_law_1680 : decode cL_law 1680 = .ok (.iconst 2, 1) := by decide +kernel
theorem dL_law_1681 : decode cL_law 1681 = .ok (.iadd, 1) := by decide +kernel
theorem dL_law_1682 : decode cL_law 1682 = .ok (.iaload, 1) := by decide +kernel
theorem dL_law_1683 : decode cL_law 1683 = .ok (.invokevirtual 178, 3) := by decide +kernel
theorem dL_law_1686 : decode cL_law 1686 = .ok (.aload_n 2, 1) := by decide +kernel
theorem dL_law_1687 : decode cL_law 1687 = .ok (.aload_n 0, 1) := by decide +kernel
theorem dL_law_1688 : decode cL_law 1688 = .ok (.iload_n 3, 1) := by decide +kernel
theorem dL_law_1689 : decode cL_law 1689 = .ok (.iconst 1, 1) := by decide +kernel
theorem dL_law_1690 : decode cL_law 1690 = .ok (.iadd, 1) := by decide +kernel
theorem dL_law_1691 : decode cL_law 1691 = .ok (.iaload, 1) := by decide +kernel
theorem dL_law_1692 : decode cL_law 1692 = .ok (.aload_n 0, 1) := by decide +kernel
theorem dL_law_1693 : decode cL_law 1693 = .ok (.iload_n 3, 1) := by decide +kernel
theorem dL_law_1694 : decode cL_law 1694 = .ok (.iconst 2, 1) := by decide +kernel
theorem dL_law_1695 : decode cL_law 1695 = .ok (.iadd, 1) := by decide +kernel
theorem dL_law_1696 : decode cL_law 1696 = .ok (.iaload, 1) := by decide +kernel
theorem dL_law_1697 : decode cL_law 1697 = .ok (.invokevirtual 181, 3) := by decide +kernel
theorem dL_law_1700 : decode cL_law 1700 = .ok (.lcmp, 1) := by decide +kernel
theorem dL_law_1701 : decode cL_law 1701 = .ok (.ifCond .eq 112, 3) := by decide +kernel
theorem eL_X11_plan : yX11_plan.cls = RX11 ∧ yX11_plan.cls ≠ "java/lang/invoke/MethodHandle" ∧ yX11_plan.cls ≠ "java/lang/invoke/VarHandle" ∧ (parseMethodDescriptor yX11_plan.desc).map (fun d => d.parameters.length) = some 2 := by decide +kernel
theorem eL_X12_plan : yX12_plan.cls = RX12 ∧ yX12_plan.cls ≠ "java/lang/invoke/MethodHandle" ∧ yX12_plan.cls ≠ "java/lang/invoke/VarHandle" ∧ (parseMethodDescriptor yX12_plan.desc).map (fun d => d.parameters.length) = some 2 := by decide +kernel
set_option maxHeartbeats 4000000 in
set_option maxRecDepth 100000 in
theorem law_39 {l : Launch} {p : Program} {e : Env} {s : State} {m : MethodId} {below : List Frame} {meth : Method} {c : Code} {D : va_G} {A : Nat → Prop} {cells slots : Nat} {Q : State → Prop} {b L : Nat} {xs : Nat → Int32} {i : Int32} {cI cJ cZ cH : ClassId} {ad : Nat → Nat} {ws : va_W} (hX : va_X b L xs s s.heap) (hbl : b < s.heap.size) (hbA : ¬ A b) (hin : ∀ j : Nat, j < 8 → vp_in (i + nI j) L) (hL : LawS cI cJ cZ cH ad cells slots ws) (kk : ∀ cells slots ws, LawS cI cJ cZ cH ad cells slots ws → WX p l e room_1 s m #[.ref b] below meth c code RL lwG D [(cI, .int), (cJ, .long), (cZ, .boolean), (cH, .object "TinHouse$House")] A 4 cells slots Q ws 1813 [(3, .int i), (2, .ref (ad 57)), (1, .ref (ad 0)), (0, .ref b)] []) : WX p l e room_1 s m #[.ref b] below meth c code RL lwG D [(cI, .int), (cJ, .long), (cZ, .boolean), (cH, .object "TinHouse$House")] A 4 cells slots Q ws 1672 [(3, .int i), (2, .ref (ad 57)), (1, .ref (ad 0)), (0, .ref b)] [] := by
  obtain ⟨Z, tl, rfl, ⟨hS, h, hs1, hs2, hs3, ha1, ha2, him⟩, hb1, hb2⟩ := hL
  have hcs : cells ≤ room_1.cells := Nat.le_trans (Nat.le_add_right _ _) hb1
  have hss : slots ≤ room_1.slots := Nat.le_trans (Nat.le_add_right _ _) hb2
  refine ii_aload_n 2 dL_law_1672 rfl ?_
  refine ii_aload_n 3 dL_law_1673 rfl ?_
  refine ii_iload_n 0 dL_law_1674 rfl ?_
  refine ii_iconst dL_law_1675 kc1 ?_
  refine ii_iadd dL_law_1676 ?_
  refine ii_sld hX hbl hbA (hin 1 (by decide)) dL_law_1677 ?_
  refine ii_aload_n 3 dL_law_1678 rfl ?_
  refine ii_iload_n 0 dL_law_1679 rfl ?_
  refine ii_iconst dL_law_1680 kc2 ?_
  refine ii_iadd dL_law_1681 ?_
  refine ii_sld hX hbl hbA (hin 2 (by decide)) dL_law_1682 ?_
  obtain ⟨o1, o2, e1, e2, q1⟩ := (P_plan h _ _ _ _ _ _ _ _ _ _ _ _ _ _ _ _ _ _ _ _ : Two (F_X11_plan (flL 7 (Z 32)) (flI 3 (Z 32)) (flI 2 (Z 32)) (flI 4 (Z 32)) (flI 6 (Z 32)) (arL (Z 33)) (flI 5 (Z 32)) (tcZ Z 2) (trZ Z 2) (tcZ Z 6) (trZ Z 6) (tcZ Z 11) (trZ Z 11) (tcZ Z 0) (trZ Z 0) (flI 13 (Z 1)) (tcZ Z 12) (trZ Z 12) (flL 0 (Z 55)) (flI 1 (Z 55)) (arL (Z 56)) (xs (i + 1).toNatClampNeg) (xs (i + 2).toNatClampNeg)) (F_X12_plan (arL (Z 65)) (arL (Z 78)) (arI (Z 58)) (arI (Z 61)) (flI 5 (Z 57)) (arL (Z 64)) (flI 8 (Z 57)) (arI (Z 63)) (arI (Z 62)) (xs (i + 1).toNatClampNeg) (xs (i + 2).toNatClampNeg)) _)
  refine ii_callZl (nW := 79) (ad := ad) (Z := Z) (setl Z [(56, .inl (cJ, 54, .inr (.inl o1.2.2.2.2.2.2.2.2.2.2))), (55, .inr (5, [.long o1.2.2.2.2.2.2.2.2.1, .int o1.2.2.2.2.2.2.2.2.2.1, .ref (ad 1), .ref (ad 44), .ref (ad 56)])), (33, .inl (cJ, 50, .inr (.inl o1.2.2.2.2.2.2.1))), (32, .inr (1, [.ref (ad 1), .ref (ad 33), .int o1.2.2.2.1, .int o1.2.2.1, .int o1.2.2.2.2.1, .int o1.2.2.2.2.2.2.2.1, .int o1.2.2.2.2.2.1, .long o1.2.1]))]) (tl := tl) (As := [.int (xs (i + 1).toNatClampNeg), .int (xs (i + 2).toNatClampNeg)]) (st := []) (c_X11_plan l D cI cJ cZ cH (ad 0) (ad 28) (ad 32) (ad 33) (ad 34) (ad 36) (ad 1) (ad 6) (ad 7) (ad 8) (ad 14) (ad 15) (ad 20) (ad 24) (ad 25) (ad 22) (ad 2) (ad 3) (ad 10) (ad 26) (ad 27) (ad 12) (ad 16) (ad 4) (ad 18) (ad 51) (ad 55) (ad 56) (ad 49) (ad 29) (ad 44) (ad 45) (flL 11 (Z 0)) (flL 12 (Z 0)) (flL 7 (Z 32)) (flI 3 (Z 32)) (flI 2 (Z 32)) (flI 4 (Z 32)) (flI 6 (Z 32)) (arL (Z 33)) (flI 5 (Z 32)) (tcZ Z 2) (trZ Z 2) (tcZ Z 6) (trZ Z 6) (tcZ Z 11) (trZ Z 11) (tcZ Z 0) (trZ Z 0) (flI 14 (Z 1)) (flI 13 (Z 1)) (tcZ Z 12) (trZ Z 12) (flL 0 (Z 55)) (flI 1 (Z 55)) (arL (Z 56)) (xs (i + 1).toNatClampNeg) (xs (i + 2).toNatClampNeg) e1) gzL_178 rfl rfl rfl eL_X11_plan ⟨Nat.le_of_ble_eq_true rfl, Nat.le_of_ble_eq_true rfl⟩ rfl 0 (by decide) rfl (sh_0 hS) rfl [0, 32, 33, 1, 6, 7, 14, 15, 24, 25, 2, 3, 26, 27, 55, 56, 44] (zc_cons rfl (sh_0 hS) (zc_cons rfl (sh_32 hS) (zc_cons rfl (sh_33 hS) (zc_cons rfl (sh_1 hS) (zc_cons rfl (sh_6 hS) (zc_cons rfl (sh_7 hS) (zc_cons rfl (sh_14 hS) (zc_cons rfl (sh_15 hS) (zc_cons rfl (sh_24 hS) (zc_cons rfl (sh_25 hS) (zc_cons rfl (sh_2 hS) (zc_cons rfl (sh_3 hS) (zc_cons rfl (sh_26 hS) (zc_cons rfl (sh_27 hS) (zc_cons rfl (sh_55 hS) (zc_cons rfl (sh_56 hS) (zc_cons rfl (sh_44 hS) zc_nil))))))))))))))))) (zc_cons rfl (zs (sh_0 hS) rfl) (zc_cons rfl rfl (zc_cons rfl rfl (zc_cons rfl (zs (sh_1 hS) rfl) (zc_cons rfl (zs (sh_6 hS) rfl) (zc_cons rfl (zs (sh_7 hS) rfl) (zc_cons rfl (zs (sh_14 hS) rfl) (zc_cons rfl (zs (sh_15 hS) rfl) (zc_cons rfl (zs (sh_24 hS) rfl) (zc_cons rfl (zs (sh_25 hS) rfl) (zc_cons rfl (zs (sh_2 hS) rfl) (zc_cons rfl (zs (sh_3 hS) rfl) (zc_cons rfl (zs (sh_26 hS) rfl) (zc_cons rfl (zs (sh_27 hS) rfl) (zc_cons rfl rfl (zc_cons rfl rfl (zc_cons rfl (zs (sh_44 hS) rfl) zc_nil))))))))))))))))) (setl_out rfl) rfl rfl (Nat.le_of_ble_eq_true rfl) hcs hss rfl dL_law_1683 ?_
  refine ii_aload_n 1 dL_law_1686 rfl ?_
  refine ii_aload_n 3 dL_law_1687 rfl ?_
  refine ii_iload_n 0 dL_law_1688 rfl ?_
  refine ii_iconst dL_law_1689 kc1 ?_
  refine ii_iadd dL_law_1690 ?_
  refine ii_sld hX hbl hbA (hin 1 (by decide)) dL_law_1691 ?_
  refine ii_aload_n 3 dL_law_1692 rfl ?_
  refine ii_iload_n 0 dL_law_1693 rfl ?_
  refine ii_iconst dL_law_1694 kc2 ?_
  refine ii_iadd dL_law_1695 ?_
  refine ii_sld hX hbl hbA (hin 2 (by decide)) dL_law_1696 ?_
  refine ii_callZl (nW := 79) (ad := ad) (Z := (setl Z [(56, .inl (cJ, 54, .inr (.inl o1.2.2.2.2.2.2.2.2.2.2))), (55, .inr (5, [.long o1.2.2.2.2.2.2.2.2.1, .int o1.2.2.2.2.2.2.2.2.2.1, .ref (ad 1), .ref (ad 44), .ref (ad 56)])), (33, .inl (cJ, 50, .inr (.inl o1.2.2.2.2.2.2.1))), (32, .inr (1, [.ref (ad 1), .ref (ad 33), .int o1.2.2.2.1, .int o1.2.2.1, .int o1.2.2.2.2.1, .int o1.2.2.2.2.2.2.2.1, .int o1.2.2.2.2.2.1, .long o1.2.1]))])) (setl (setl Z [(56, .inl (cJ, 54, .inr (.inl o1.2.2.2.2.2.2.2.2.2.2))), (55, .inr (5, [.long o1.2.2.2.2.2.2.2.2.1, .int o1.2.2.2.2.2.2.2.2.2.1, .ref (ad 1), .ref (ad 44), .ref (ad 56)])), (33, .inl (cJ, 50, .inr (.inl o1.2.2.2.2.2.2.1))), (32, .inr (1, [.ref (ad 1), .ref (ad 33), .int o1.2.2.2.1, .int o1.2.2.1, .int o1.2.2.2.2.1, .int o1.2.2.2.2.2.2.2.1, .int o1.2.2.2.2.2.1, .long o1.2.1]))]) [(78, .inl (cJ, 54, .inr (.inl o2.2.2.1))), (65, .inl (cJ, 5, .inr (.inl o2.2.1))), (64, .inl (cJ, 70, .inr (.inl o2.2.2.2.2.2.1))), (63, .inl (cI, 70, .inl o2.2.2.2.2.2.2.2.1)), (62, .inl (cI, 70, .inl o2.2.2.2.2.2.2.2.2)), (61, .inl (cI, 70, .inl o2.2.2.2.1)), (57, .inr (12, [.ref (ad 58), .ref (ad 59), .ref (ad 60), .long (flL 11 (Z 0)), .long (flL 12 (Z 0)), .int o2.2.2.2.2.1, .ref (ad 61), .ref (ad 62), .int o2.2.2.2.2.2.2.1, .ref (ad 63), .ref (ad 64), .ref (ad 65), .ref (ad 66), .ref (ad 67), .ref (ad 68), .ref (ad 69), .ref (ad 70), .ref (ad 71), .ref (ad 72), .ref (ad 73), .ref (ad 74), .ref (ad 75), .ref (ad 76), .ref (ad 77), .ref (ad 78)]))]) (tl := tl) (As := [.int (xs (i + 1).toNatClampNeg), .int (xs (i + 2).toNatClampNeg)]) (st := [.long o1.1]) (c_X12_plan l D cI cJ cZ cH (ad 57) (ad 72) (ad 77) (ad 70) (ad 65) (ad 59) (ad 60) (ad 76) (ad 75) (ad 68) (ad 66) (ad 74) (ad 69) (ad 71) (ad 78) (ad 58) (ad 61) (ad 73) (ad 67) (ad 64) (ad 63) (ad 62) (flL 11 (Z 0)) (flL 12 (Z 0)) (arL (Z 65)) (arL (Z 78)) (arI (Z 58)) (arI (Z 61)) (flI 5 (Z 57)) (arL (Z 64)) (flI 8 (Z 57)) (arI (Z 63)) (arI (Z 62)) (xs (i + 1).toNatClampNeg) (xs (i + 2).toNatClampNeg) e2) gzL_181 rfl rfl rfl eL_X12_plan ⟨Nat.le_of_ble_eq_true rfl, Nat.le_of_ble_eq_true rfl⟩ rfl 57 (by decide) rfl (zs (sh_57a hS ha1 ha2) rfl) rfl [57, 65, 78, 58, 61, 64, 63, 62] (zc_cons rfl (zs (sh_57a hS ha1 ha2) rfl) (zc_cons rfl (zs (sh_65 hS) rfl) (zc_cons rfl (zs (sh_78 hS) rfl) (zc_cons rfl (zs (sh_58 hS) rfl) (zc_cons rfl (zs (sh_61 hS) rfl) (zc_cons rfl (zs (sh_64 hS) rfl) (zc_cons rfl (zs (sh_63 hS) rfl) (zc_cons rfl (zs (sh_62 hS) rfl) zc_nil)))))))) (zc_cons rfl rfl (zc_cons rfl rfl (zc_cons rfl rfl (zc_cons rfl (zs (sh_58 hS) rfl) (zc_cons rfl rfl (zc_cons rfl rfl (zc_cons rfl rfl (zc_cons rfl rfl zc_nil)))))))) (setl_out rfl) rfl rfl (Nat.le_of_ble_eq_true rfl) hcs hss rfl dL_law_1697 ?_
  refine ii_lcmp_eq (tgt := 1813) (r := ()) (ET := some ()) (EF := none) (if_pos q1) dL_law_1700 dL_law_1701 (by decide) (fun _ => ?_) (fun z => absurd z (by simp))
  exact kk _ _ _ ⟨setl (setl Z [(56, .inl (cJ, 54, .inr (.inl o1.2.2.2.2.2.2.2.2.2.2))), (55, .inr (5, [.long o1.2.2.2.2.2.2.2.2.1, .int o1.2.2.2.2.2.2.2.2.2.1, .ref (ad 1), .ref (ad 44), .ref (ad 56)])), (33, .inl (cJ, 50, .inr (.inl o1.2.2.2.2.2.2.1))), (32, .inr (1, [.ref (ad 1), .ref (ad 33), .int o1.2.2.2.1, .int o1.2.2.1, .int o1.2.2.2.2.1, .int o1.2.2.2.2.2.2.2.1, .int o1.2.2.2.2.2.1, .long o1.2.1]))]) [(78, .inl (cJ, 54, .inr (.inl o2.2.2.1))), (65, .inl (cJ, 5, .inr (.inl o2.2.1))), (64, .inl (cJ, 70, .inr (.inl o2.2.2.2.2.2.1))), (63, .inl (cI, 70, .inl o2.2.2.2.2.2.2.2.1)), (62, .inl (cI, 70, .inl o2.2.2.2.2.2.2.2.2)), (61, .inl (cI, 70, .inl o2.2.2.2.1)), (57, .inr (12, [.ref (ad 58), .ref (ad 59), .ref (ad 60), .long (flL 11 (Z 0)), .long (flL 12 (Z 0)), .int o2.2.2.2.2.1, .ref (ad 61), .ref (ad 62), .int o2.2.2.2.2.2.2.1, .ref (ad 63), .ref (ad 64), .ref (ad 65), .ref (ad 66), .ref (ad 67), .ref (ad 68), .ref (ad 69), .ref (ad 70), .ref (ad 71), .ref (ad 72), .ref (ad 73), .ref (ad 74), .ref (ad 75), .ref (ad 76), .ref (ad 77), .ref (ad 78)]))], tl, rfl, law_fin (tc' := (tcZ Z)) (tr' := (trZ Z)) (nar' := (flI 13 (Z 1))) (nam' := (flI 14 (Z 1))) (st' := (arI (Z 58))) hS (ok_cons ok_56 (ok_cons ok_55 (ok_cons ok_33 (ok_cons ok_32 ok_nil)))) (ok_cons ok_78 (ok_cons ok_65 (ok_cons ok_64 (ok_cons ok_63 (ok_cons ok_62 (ok_cons ok_61 (ok_cons ok_57 ok_nil))))))) rfl rfl rfl rfl rfl rfl rfl h hs1 hs2 hs3 rfl rfl him, hb1, hb2⟩

theorem dL_law_1706 : decode cL_law 1706 = .ok (.aload_n 1, 1) := by decide +kernel
theorem dL_law_1707 : decode cL_law 1707 = .ok (.aload_n 0, 1) := by decide +kernel
theorem dL_law_1708 : decode cL_law 1708 = .ok (.iload_n 3, 1) := by decide +kernel
theorem dL_law_1709 : decode cL_law 1709 = .ok (.iconst 1, 1) := by decide +kernel
theorem dL_law_1710 : decode cL_law 1710 = .ok (.iadd, 1) := by decide +kernel
theorem dL_law_1711 : decode cL_law 1711 = .ok (.iaload, 1) := by decide +kernel
theorem dL_law_1712 : decode cL_law 1712 = .ok (.invokevirtual 182, 3) := by decide +kernel
theorem dL_law_1715 : decode cL_law 1715 = .ok (.aload_n 2, 1) := by decide +kernel
theorem dL_law_1716 : decode cL_law 1716 = .ok (.aload_n 0, 1) := by decide +kernel
theorem dL_law_1717 : decode cL_law 1717 = .ok (.iload_n 3, 1) := by decide +kernel
theorem dL_law_1718 : decode cL_law 1718 = .ok (.iconst 1, 1) := by decide +kernel
theorem dL_law_1719 : decode cL_law 1719 = .ok (.iadd, 1) := by decide +kernel
theorem dL_law_1720 : decode cL_law 1720 = .ok (.iaload, 1) := by decide +kernel
theorem dL_law_1721 : decode cL_law 1721 = .ok (.invokevirtual 186, 3) := by decide +kernel
theorem dL_law_1724 : decode cL_law 1724 = .ok (.lcmp, 1) := by decide +kernel
theorem dL_law_1725 : decode cL_law 1725 = .ok (.ifCond .eq 88, 3) := by decide +kernel
theorem eL_X11_part : yX11_part.cls = RX11 ∧ yX11_part.cls ≠ "java/lang/invoke/MethodHandle" ∧ yX11_part.cls ≠ "java/lang/invoke/VarHandle" ∧ (parseMethodDescriptor yX11_part.desc).map (fun d => d.parameters.length) = some 1 := by decide +kernel
theorem eL_X12_part : yX12_part.cls = RX12 ∧ yX12_part.cls ≠ "java/lang/invoke/MethodHandle" ∧ yX12_part.cls ≠ "java/lang/invoke/VarHandle" ∧ (parseMethodDescriptor yX12_part.desc).map (fun d => d.parameters.length) = some 1 := by decide +kernel
set_option maxHeartbeats 4000000 in
set_option maxRecDepth 100000 in
theorem law_40 {l : Launch} {p : Program} {e : Env} {s : State} {m : MethodId} {below : List Frame} {meth : Method} {c : Code} {D : va_G} {A : Nat → Prop} {cells slots : Nat} {Q : State → Prop} {b L : Nat} {xs : Nat → Int32} {i : Int32} {cI cJ cZ cH : ClassId} {ad : Nat → Nat} {ws : va_W} (hX : va_X b L xs s s.heap) (hbl : b < s.heap.size) (hbA : ¬ A b) (hin : ∀ j : Nat, j < 8 → vp_in (i + nI j) L) (hL : LawS cI cJ cZ cH ad cells slots ws) (kk : ∀ cells slots ws, LawS cI cJ cZ cH ad cells slots ws → WX p l e room_1 s m #[.ref b] below meth c code RL lwG D [(cI, .int), (cJ, .long), (cZ, .boolean), (cH, .object "TinHouse$House")] A 4 cells slots Q ws 1813 [(3, .int i), (2, .ref (ad 57)), (1, .ref (ad 0)), (0, .ref b)] []) : WX p l e room_1 s m #[.ref b] below meth c code RL lwG D [(cI, .int), (cJ, .long), (cZ, .boolean), (cH, .object "TinHouse$House")] A 4 cells slots Q ws 1706 [(3, .int i), (2, .ref (ad 57)), (1, .ref (ad 0)), (0, .ref b)] [] := by
  obtain ⟨Z, tl, rfl, ⟨hS, h, hs1, hs2, hs3, ha1, ha2, him⟩, hb1, hb2⟩ := hL
  have hcs : cells ≤ room_1.cells := Nat.le_trans (Nat.le_add_right _ _) hb1
  have hss : slots ≤ room_1.slots := Nat.le_trans (Nat.le_add_right _ _) hb2
  refine ii_aload_n 2 dL_law_1706 rfl ?_
  refine ii_aload_n 3 dL_law_1707 rfl ?_
  refine ii_iload_n 0 dL_law_1708 rfl ?_
  refine ii_iconst dL_law_1709 kc1 ?_
  refine ii_iadd dL_law_1710 ?_
  refine ii_sld hX hbl hbA (hin 1 (by decide)) dL_law_1711 ?_
  obtain ⟨o1, o2, e1, e2, q1⟩ := (P_part _ _ _ : Two (F_X11_part (flL 11 (Z 0)) (flL 12 (Z 0)) (xs (i + 1).toNatClampNeg)) (F_X12_part (flL 11 (Z 0)) (flL 12 (Z 0)) (xs (i + 1).toNatClampNeg)) _)
  refine ii_callZl (nW := 79) (ad := ad) (Z := Z) (setl Z []) (tl := tl) (As := [.int (xs (i + 1).toNatClampNeg)]) (st := []) (c_X11_part l D cI cJ cZ cH (ad 0) (ad 28) (ad 32) (ad 34) (ad 36) (ad 1) (ad 51) (ad 55) (ad 49) (ad 29) (ad 44) (ad 45) (flL 11 (Z 0)) (flL 12 (Z 0)) (xs (i + 1).toNatClampNeg) e1) gzL_182 rfl rfl rfl eL_X11_part ⟨Nat.le_of_ble_eq_true rfl, Nat.le_of_ble_eq_true rfl⟩ rfl 0 (by decide) rfl (sh_0 hS) rfl [0] (zc_cons rfl (sh_0 hS) zc_nil) (zc_cons rfl (zs (sh_0 hS) rfl) zc_nil) (setl_out rfl) rfl rfl (Nat.le_of_ble_eq_true rfl) hcs hss rfl dL_law_1712 ?_
  refine ii_aload_n 1 dL_law_1715 rfl ?_
  refine ii_aload_n 3 dL_law_1716 rfl ?_
  refine ii_iload_n 0 dL_law_1717 rfl ?_
  refine ii_iconst dL_law_1718 kc1 ?_
  refine ii_iadd dL_law_1719 ?_
  refine ii_sld hX hbl hbA (hin 1 (by decide)) dL_law_1720 ?_
  refine ii_callZl (nW := 79) (ad := ad) (Z := (setl Z [])) (setl (setl Z []) []) (tl := tl) (As := [.int (xs (i + 1).toNatClampNeg)]) (st := [.long o1]) (c_X12_part l D cI cJ cZ cH (ad 57) (ad 72) (ad 77) (ad 70) (ad 65) (ad 59) (ad 60) (ad 76) (ad 75) (ad 68) (ad 66) (ad 74) (ad 69) (ad 71) (ad 78) (ad 58) (ad 61) (ad 73) (ad 67) (ad 64) (ad 63) (ad 62) (flL 11 (Z 0)) (flL 12 (Z 0)) (flI 5 (Z 57)) (flI 8 (Z 57)) (xs (i + 1).toNatClampNeg) e2) gzL_186 rfl rfl rfl eL_X12_part ⟨Nat.le_of_ble_eq_true rfl, Nat.le_of_ble_eq_true rfl⟩ rfl 57 (by decide) rfl (zs (sh_57a hS ha1 ha2) rfl) rfl [57] (zc_cons rfl (zs (sh_57a hS ha1 ha2) rfl) zc_nil) (zc_cons rfl (zs (sh_57a hS ha1 ha2) rfl) zc_nil) (setl_out rfl) rfl rfl (Nat.le_of_ble_eq_true rfl) hcs hss rfl dL_law_1721 ?_
  refine ii_lcmp_eq (tgt := 1813) (r := ()) (ET := some ()) (EF := none) (if_pos q1) dL_law_1724 dL_law_1725 (by decide) (fun _ => ?_) (fun z => absurd z (by simp))
  exact kk _ _ _ ⟨setl (setl Z []) [], tl, rfl, law_fin (tc' := (tcZ Z)) (tr' := (trZ Z)) (nar' := (flI 13 (Z 1))) (nam' := (flI 14 (Z 1))) (st' := (arI (Z 58))) hS ok_nil ok_nil rfl rfl rfl rfl rfl rfl rfl h hs1 hs2 hs3 ha1 ha2 him, hb1, hb2⟩

theorem dL_law_1776 : decode cL_law 1776 = .ok (.aload_n 1, 1) := by decide +kernel
theorem dL_law_1777 : decode cL_law 1777 = .ok (.aload_n 0, 1) := by decide +kernel
theorem dL_law_1778 : decode cL_law 1778 = .ok (.iload_n 3, 1) := by decide +kernel
theorem dL_law_1779 : decode cL_law 1779 = .ok (.iconst 1, 1) := by decide +kernel
theorem dL_law_1780 : decode cL_law 1780 = .ok (.iadd, 1) := by decide +kernel
theorem dL_law_1781 : decode cL_law 1781 = .ok (.iaload, 1) := by decide +kernel
theorem dL_law_1782 : decode cL_law 1782 = .ok (.invokevirtual 195, 3) := by decide +kernel
theorem dL_law_1785 : decode cL_law 1785 = .ok (.aload_n 2, 1) := by decide +kernel
theorem dL_law_1786 : decode cL_law 1786 = .ok (.aload_n 0, 1) := by decide +kernel
theorem dL_law_1787 : decode cL_law 1787 = .ok (.iload_n 3, 1) := by decide +kernel
theorem dL_law_1788 : decode cL_law 1788 = .ok (.iconst 1, 1) := by decide +kernel
theorem dL_law_1789 : decode cL_law 1789 = .ok (.iadd, 1) := by decide +kernel
theorem dL_law_1790 : decode cL_law 1790 = .ok (.iaload, 1) := by decide +kernel
theorem dL_law_1791 : decode cL_law 1791 = .ok (.invokevirtual 198, 3) := by decide +kernel
theorem dL_law_1794 : decode cL_law 1794 = .ok (.if_icmp .eq 19, 3) := by decide +kernel
theorem eL_X11_count : yX11_count.cls = RX11 ∧ yX11_count.cls ≠ "java/lang/invoke/MethodHandle" ∧ yX11_count.cls ≠ "java/lang/invoke/VarHandle" ∧ (parseMethodDescriptor yX11_count.desc).map (fun d => d.parameters.length) = some 1 := by decide +kernel
theorem eL_X12_count : yX12_count.cls = RX12 ∧ yX12_count.cls ≠ "java/lang/invoke/MethodHandle" ∧ yX12_count.cls ≠ "java/lang/invoke/VarHandle" ∧ (parseMethodDescriptor yX12_count.desc).map (fun d => d.parameters.length) = some 1 := by decide +kernel
set_option maxHeartbeats 4000000 in
set_option maxRecDepth 100000 in
theorem law_43 {l : Launch} {p : Program} {e : Env} {s : State} {m : MethodId} {below : List Frame} {meth : Method} {c : Code} {D : va_G} {A : Nat → Prop} {cells slots : Nat} {Q : State → Prop} {b L : Nat} {xs : Nat → Int32} {i : Int32} {cI cJ cZ cH : ClassId} {ad : Nat → Nat} {ws : va_W} (hX : va_X b L xs s s.heap) (hbl : b < s.heap.size) (hbA : ¬ A b) (hin : ∀ j : Nat, j < 8 → vp_in (i + nI j) L) (hL : LawS cI cJ cZ cH ad cells slots ws) (kk : ∀ cells slots ws, LawS cI cJ cZ cH ad cells slots ws → WX p l e room_1 s m #[.ref b] below meth c code RL lwG D [(cI, .int), (cJ, .long), (cZ, .boolean), (cH, .object "TinHouse$House")] A 4 cells slots Q ws 1813 [(3, .int i), (2, .ref (ad 57)), (1, .ref (ad 0)), (0, .ref b)] []) : WX p l e room_1 s m #[.ref b] below meth c code RL lwG D [(cI, .int), (cJ, .long), (cZ, .boolean), (cH, .object "TinHouse$House")] A 4 cells slots Q ws 1776 [(3, .int i), (2, .ref (ad 57)), (1, .ref (ad 0)), (0, .ref b)] [] := by
  obtain ⟨Z, tl, rfl, ⟨hS, h, hs1, hs2, hs3, ha1, ha2, him⟩, hb1, hb2⟩ := hL
  have hcs : cells ≤ room_1.cells := Nat.le_trans (Nat.le_add_right _ _) hb1
  have hss : slots ≤ room_1.slots := Nat.le_trans (Nat.le_add_right _ _) hb2
  refine ii_aload_n 2 dL_law_1776 rfl ?_
  refine ii_aload_n 3 dL_law_1777 rfl ?_
  refine ii_iload_n 0 dL_law_1778 rfl ?_
  refine ii_iconst dL_law_1779 kc1 ?_
  refine ii_iadd dL_law_1780 ?_
  refine ii_sld hX hbl hbA (hin 1 (by decide)) dL_law_1781 ?_
  obtain ⟨o1, o2, e1, e2, q1⟩ := (P_count h _ : Two (F_X11_count (trZ Z 2) (trZ Z 3) (trZ Z 6) (trZ Z 9) (trZ Z 11) (trZ Z 10) (trZ Z 0) (trZ Z 4) (trZ Z 5) (trZ Z 7) (trZ Z 8) (xs (i + 1).toNatClampNeg)) (F_X12_count (arI (Z 58)) (xs (i + 1).toNatClampNeg)) _)
  refine ii_callZi (nW := 79) (ad := ad) (Z := Z) (setl Z []) (tl := tl) (As := [.int (xs (i + 1).toNatClampNeg)]) (st := []) (c_X11_count l D cI cJ cZ cH (ad 0) (ad 28) (ad 32) (ad 34) (ad 36) (ad 1) (ad 6) (ad 7) (ad 8) (ad 9) (ad 14) (ad 15) (ad 20) (ad 21) (ad 24) (ad 25) (ad 22) (ad 23) (ad 2) (ad 3) (ad 10) (ad 11) (ad 26) (ad 12) (ad 13) (ad 16) (ad 17) (ad 4) (ad 18) (ad 19) (ad 51) (ad 55) (ad 49) (ad 29) (ad 44) (ad 45) (flL 11 (Z 0)) (flL 12 (Z 0)) (trZ Z 2) (trZ Z 3) (trZ Z 6) (trZ Z 9) (trZ Z 11) (trZ Z 10) (trZ Z 0) (flI 14 (Z 1)) (flI 13 (Z 1)) (trZ Z 4) (trZ Z 5) (trZ Z 7) (trZ Z 8) (xs (i + 1).toNatClampNeg) e1) gzL_195 rfl rfl rfl eL_X11_count ⟨Nat.le_of_ble_eq_true rfl, Nat.le_of_ble_eq_true rfl⟩ rfl 0 (by decide) rfl (sh_0 hS) rfl [0, 1, 6, 8, 14, 20, 24, 22, 2, 10, 12, 16, 18] (zc_cons rfl (sh_0 hS) (zc_cons rfl (sh_1 hS) (zc_cons rfl (sh_6 hS) (zc_cons rfl (sh_8 hS) (zc_cons rfl (sh_14 hS) (zc_cons rfl (sh_20 hS) (zc_cons rfl (sh_24 hS) (zc_cons rfl (sh_22 hS) (zc_cons rfl (sh_2 hS) (zc_cons rfl (sh_10 hS) (zc_cons rfl (sh_12 hS) (zc_cons rfl (sh_16 hS) (zc_cons rfl (sh_18 hS) zc_nil))))))))))))) (zc_cons rfl (zs (sh_0 hS) rfl) (zc_cons rfl (zs (sh_1 hS) rfl) (zc_cons rfl (zs (sh_6 hS) rfl) (zc_cons rfl (zs (sh_8 hS) rfl) (zc_cons rfl (zs (sh_14 hS) rfl) (zc_cons rfl (zs (sh_20 hS) rfl) (zc_cons rfl (zs (sh_24 hS) rfl) (zc_cons rfl (zs (sh_22 hS) rfl) (zc_cons rfl (zs (sh_2 hS) rfl) (zc_cons rfl (zs (sh_10 hS) rfl) (zc_cons rfl (zs (sh_12 hS) rfl) (zc_cons rfl (zs (sh_16 hS) rfl) (zc_cons rfl (zs (sh_18 hS) rfl) zc_nil))))))))))))) (setl_out rfl) rfl rfl (Nat.le_of_ble_eq_true rfl) hcs hss rfl dL_law_1782 ?_
  refine ii_aload_n 1 dL_law_1785 rfl ?_
  refine ii_aload_n 3 dL_law_1786 rfl ?_
  refine ii_iload_n 0 dL_law_1787 rfl ?_
  refine ii_iconst dL_law_1788 kc1 ?_
  refine ii_iadd dL_law_1789 ?_
  refine ii_sld hX hbl hbA (hin 1 (by decide)) dL_law_1790 ?_
  refine ii_callZi (nW := 79) (ad := ad) (Z := (setl Z [])) (setl (setl Z []) []) (tl := tl) (As := [.int (xs (i + 1).toNatClampNeg)]) (st := [.int o1]) (c_X12_count l D cI cJ cZ cH (ad 57) (ad 72) (ad 77) (ad 70) (ad 65) (ad 59) (ad 60) (ad 76) (ad 75) (ad 68) (ad 66) (ad 74) (ad 69) (ad 71) (ad 78) (ad 58) (ad 61) (ad 73) (ad 67) (ad 64) (ad 63) (ad 62) (flL 11 (Z 0)) (flL 12 (Z 0)) (arI (Z 58)) (flI 5 (Z 57)) (flI 8 (Z 57)) (xs (i + 1).toNatClampNeg) e2) gzL_198 rfl rfl rfl eL_X12_count ⟨Nat.le_of_ble_eq_true rfl, Nat.le_of_ble_eq_true rfl⟩ rfl 57 (by decide) rfl (zs (sh_57a hS ha1 ha2) rfl) rfl [57, 58] (zc_cons rfl (zs (sh_57a hS ha1 ha2) rfl) (zc_cons rfl (zs (sh_58 hS) rfl) zc_nil)) (zc_cons rfl (zs (sh_57a hS ha1 ha2) rfl) (zc_cons rfl (zs (sh_58 hS) rfl) zc_nil)) (setl_out rfl) rfl rfl (Nat.le_of_ble_eq_true rfl) hcs hss rfl dL_law_1791 ?_
  refine ii_icmp_eq (tgt := 1813) (r := ()) (ET := some ()) (EF := none) (if_pos q1) dL_law_1794 (by decide) (fun _ => ?_) (fun z => absurd z (by simp))
  exact kk _ _ _ ⟨setl (setl Z []) [], tl, rfl, law_fin (tc' := (tcZ Z)) (tr' := (trZ Z)) (nar' := (flI 13 (Z 1))) (nam' := (flI 14 (Z 1))) (st' := (arI (Z 58))) hS ok_nil ok_nil rfl rfl rfl rfl rfl rfl rfl h hs1 hs2 hs3 ha1 ha2 him, hb1, hb2⟩

theorem dL_law_1799 : decode cL_law 1799 = .ok (.aload_n 1, 1) := by decide +kernel
theorem dL_law_1800 : decode cL_law 1800 = .ok (.invokevirtual 199, 3) := by decide +kernel
theorem dL_law_1803 : decode cL_law 1803 = .ok (.aload_n 2, 1) := by decide +kernel
theorem dL_law_1804 : decode cL_law 1804 = .ok (.invokevirtual 203, 3) := by decide +kernel
theorem dL_law_1807 : decode cL_law 1807 = .ok (.lcmp, 1) := by decide +kernel
theorem dL_law_1808 : decode cL_law 1808 = .ok (.ifCond .eq 5, 3) := by decide +kernel
theorem eL_X11_digest : yX11_digest.cls = RX11 ∧ yX11_digest.cls ≠ "java/lang/invoke/MethodHandle" ∧ yX11_digest.cls ≠ "java/lang/invoke/VarHandle" ∧ (parseMethodDescriptor yX11_digest.desc).map (fun d => d.parameters.length) = some 0 := by decide +kernel
theorem eL_X12_digest : yX12_digest.cls = RX12 ∧ yX12_digest.cls ≠ "java/lang/invoke/MethodHandle" ∧ yX12_digest.cls ≠ "java/lang/invoke/VarHandle" ∧ (parseMethodDescriptor yX12_digest.desc).map (fun d => d.parameters.length) = some 0 := by decide +kernel
set_option maxHeartbeats 4000000 in
set_option maxRecDepth 100000 in
theorem law_44 {l : Launch} {p : Program} {e : Env} {s : State} {m : MethodId} {below : List Frame} {meth : Method} {c : Code} {D : va_G} {A : Nat → Prop} {cells slots : Nat} {Q : State → Prop} {b L : Nat} {xs : Nat → Int32} {i : Int32} {cI cJ cZ cH : ClassId} {ad : Nat → Nat} {ws : va_W} (hX : va_X b L xs s s.heap) (hbl : b < s.heap.size) (hbA : ¬ A b) (hin : ∀ j : Nat, j < 8 → vp_in (i + nI j) L) (hL : LawS cI cJ cZ cH ad cells slots ws) (kk : ∀ cells slots ws, LawS cI cJ cZ cH ad cells slots ws → WX p l e room_1 s m #[.ref b] below meth c code RL lwG D [(cI, .int), (cJ, .long), (cZ, .boolean), (cH, .object "TinHouse$House")] A 4 cells slots Q ws 1813 [(3, .int i), (2, .ref (ad 57)), (1, .ref (ad 0)), (0, .ref b)] []) : WX p l e room_1 s m #[.ref b] below meth c code RL lwG D [(cI, .int), (cJ, .long), (cZ, .boolean), (cH, .object "TinHouse$House")] A 4 cells slots Q ws 1799 [(3, .int i), (2, .ref (ad 57)), (1, .ref (ad 0)), (0, .ref b)] [] := by
  obtain ⟨Z, tl, rfl, ⟨hS, h, hs1, hs2, hs3, ha1, ha2, him⟩, hb1, hb2⟩ := hL
  have hcs : cells ≤ room_1.cells := Nat.le_trans (Nat.le_add_right _ _) hb1
  have hss : slots ≤ room_1.slots := Nat.le_trans (Nat.le_add_right _ _) hb2
  refine ii_aload_n 2 dL_law_1799 rfl ?_
  obtain ⟨o1, o2, e1, e2, q1⟩ := (P_digest h _ _ _ _ _ _ _ _ _ _ _ _ _ _ _ _ _ _ _ : Two (F_X11_digest (flL 11 (Z 0)) (flL 12 (Z 0)) (flL 7 (Z 32)) (flI 3 (Z 32)) (flI 2 (Z 32)) (flI 4 (Z 32)) (flI 6 (Z 32)) (arL (Z 33)) (flI 5 (Z 32)) (arL (Z 35)) (arL (Z 37)) (arL (Z 38)) (tcZ Z 2) (trZ Z 2) (tcZ Z 3) (trZ Z 3) (tcZ Z 6) (trZ Z 6) (tcZ Z 9) (trZ Z 9) (tcZ Z 11) (trZ Z 11) (tcZ Z 10) (trZ Z 10) (tcZ Z 0) (trZ Z 0) (flI 14 (Z 1)) (flI 13 (Z 1)) (tcZ Z 4) (trZ Z 4) (tcZ Z 12) (trZ Z 12) (tcZ Z 5) (trZ Z 5) (tcZ Z 7) (trZ Z 7) (tcZ Z 1) (trZ Z 1) (tcZ Z 8) (trZ Z 8)) (F_X12_digest (flL 11 (Z 0)) (flL 12 (Z 0)) (arL (Z 65)) (arI (Z 58)) (arI (Z 61)) (flI 5 (Z 57)) (arL (Z 64)) (flI 8 (Z 57)) (arI (Z 63)) (arI (Z 62))) _)
  refine ii_callZl (nW := 79) (ad := ad) (Z := Z) (setl Z [(38, .inl (cJ, 100, .inr (.inl o1.2.2.2.2.2.2.2.2.2.2))), (37, .inl (cJ, 10, .inr (.inl o1.2.2.2.2.2.2.2.2.2.1))), (35, .inl (cJ, 100, .inr (.inl o1.2.2.2.2.2.2.2.2.1))), (33, .inl (cJ, 50, .inr (.inl o1.2.2.2.2.2.2.1))), (32, .inr (1, [.ref (ad 1), .ref (ad 33), .int o1.2.2.2.1, .int o1.2.2.1, .int o1.2.2.2.2.1, .int o1.2.2.2.2.2.2.2.1, .int o1.2.2.2.2.2.1, .long o1.2.1]))]) (tl := tl) (As := []) (st := []) (c_X11_digest l D cI cJ cZ cH (ad 0) (ad 28) (ad 32) (ad 33) (ad 34) (ad 35) (ad 36) (ad 37) (ad 38) (ad 43) (ad 41) (ad 42) (ad 40) (ad 39) (ad 1) (ad 6) (ad 7) (ad 8) (ad 9) (ad 14) (ad 15) (ad 20) (ad 21) (ad 24) (ad 25) (ad 22) (ad 23) (ad 2) (ad 3) (ad 10) (ad 11) (ad 26) (ad 27) (ad 12) (ad 13) (ad 16) (ad 17) (ad 4) (ad 5) (ad 18) (ad 19) (ad 51) (ad 55) (ad 49) (ad 29) (ad 44) (ad 45) (flL 11 (Z 0)) (flL 12 (Z 0)) (flL 7 (Z 32)) (flI 3 (Z 32)) (flI 2 (Z 32)) (flI 4 (Z 32)) (flI 6 (Z 32)) (arL (Z 33)) (flI 5 (Z 32)) (arL (Z 35)) (arL (Z 37)) (arL (Z 38)) (tcZ Z 2) (trZ Z 2) (tcZ Z 3) (trZ Z 3) (tcZ Z 6) (trZ Z 6) (tcZ Z 9) (trZ Z 9) (tcZ Z 11) (trZ Z 11) (tcZ Z 10) (trZ Z 10) (tcZ Z 0) (trZ Z 0) (flI 14 (Z 1)) (flI 13 (Z 1)) (tcZ Z 4) (trZ Z 4) (tcZ Z 12) (trZ Z 12) (tcZ Z 5) (trZ Z 5) (tcZ Z 7) (trZ Z 7) (tcZ Z 1) (trZ Z 1) (tcZ Z 8) (trZ Z 8) e1) gzL_199 rfl rfl rfl eL_X11_digest ⟨Nat.le_of_ble_eq_true rfl, Nat.le_of_ble_eq_true rfl⟩ rfl 0 (by decide) rfl (sh_0 hS) rfl [0, 32, 33, 34, 35, 36, 37, 38, 1, 6, 7, 8, 9, 14, 15, 20, 21, 24, 25, 22, 23, 2, 3, 10, 11, 26, 27, 12, 13, 16, 17, 4, 5, 18, 19] (zc_cons rfl (sh_0 hS) (zc_cons rfl (sh_32 hS) (zc_cons rfl (sh_33 hS) (zc_cons rfl (sh_34 hS) (zc_cons rfl (sh_35 hS) (zc_cons rfl (sh_36 hS) (zc_cons rfl (sh_37 hS) (zc_cons rfl (sh_38 hS) (zc_cons rfl (sh_1 hS) (zc_cons rfl (sh_6 hS) (zc_cons rfl (sh_7 hS) (zc_cons rfl (sh_8 hS) (zc_cons rfl (sh_9 hS) (zc_cons rfl (sh_14 hS) (zc_cons rfl (sh_15 hS) (zc_cons rfl (sh_20 hS) (zc_cons rfl (sh_21 hS) (zc_cons rfl (sh_24 hS) (zc_cons rfl (sh_25 hS) (zc_cons rfl (sh_22 hS) (zc_cons rfl (sh_23 hS) (zc_cons rfl (sh_2 hS) (zc_cons rfl (sh_3 hS) (zc_cons rfl (sh_10 hS) (zc_cons rfl (sh_11 hS) (zc_cons rfl (sh_26 hS) (zc_cons rfl (sh_27 hS) (zc_cons rfl (sh_12 hS) (zc_cons rfl (sh_13 hS) (zc_cons rfl (sh_16 hS) (zc_cons rfl (sh_17 hS) (zc_cons rfl (sh_4 hS) (zc_cons rfl (sh_5 hS) (zc_cons rfl (sh_18 hS) (zc_cons rfl (sh_19 hS) zc_nil))))))))))))))))))))))))))))))))))) (zc_cons rfl (zs (sh_0 hS) rfl) (zc_cons rfl rfl (zc_cons rfl rfl (zc_cons rfl (zs (sh_34 hS) rfl) (zc_cons rfl rfl (zc_cons rfl (zs (sh_36 hS) rfl) (zc_cons rfl rfl (zc_cons rfl rfl (zc_cons rfl (zs (sh_1 hS) rfl) (zc_cons rfl (zs (sh_6 hS) rfl) (zc_cons rfl (zs (sh_7 hS) rfl) (zc_cons rfl (zs (sh_8 hS) rfl) (zc_cons rfl (zs (sh_9 hS) rfl) (zc_cons rfl (zs (sh_14 hS) rfl) (zc_cons rfl (zs (sh_15 hS) rfl) (zc_cons rfl (zs (sh_20 hS) rfl) (zc_cons rfl (zs (sh_21 hS) rfl) (zc_cons rfl (zs (sh_24 hS) rfl) (zc_cons rfl (zs (sh_25 hS) rfl) (zc_cons rfl (zs (sh_22 hS) rfl) (zc_cons rfl (zs (sh_23 hS) rfl) (zc_cons rfl (zs (sh_2 hS) rfl) (zc_cons rfl (zs (sh_3 hS) rfl) (zc_cons rfl (zs (sh_10 hS) rfl) (zc_cons rfl (zs (sh_11 hS) rfl) (zc_cons rfl (zs (sh_26 hS) rfl) (zc_cons rfl (zs (sh_27 hS) rfl) (zc_cons rfl (zs (sh_12 hS) rfl) (zc_cons rfl (zs (sh_13 hS) rfl) (zc_cons rfl (zs (sh_16 hS) rfl) (zc_cons rfl (zs (sh_17 hS) rfl) (zc_cons rfl (zs (sh_4 hS) rfl) (zc_cons rfl (zs (sh_5 hS) rfl) (zc_cons rfl (zs (sh_18 hS) rfl) (zc_cons rfl (zs (sh_19 hS) rfl) zc_nil))))))))))))))))))))))))))))))))))) (setl_out rfl) rfl rfl (Nat.le_of_ble_eq_true rfl) hcs hss rfl dL_law_1800 ?_
  refine ii_aload_n 1 dL_law_1803 rfl ?_
  refine ii_callZl (nW := 79) (ad := ad) (Z := (setl Z [(38, .inl (cJ, 100, .inr (.inl o1.2.2.2.2.2.2.2.2.2.2))), (37, .inl (cJ, 10, .inr (.inl o1.2.2.2.2.2.2.2.2.2.1))), (35, .inl (cJ, 100, .inr (.inl o1.2.2.2.2.2.2.2.2.1))), (33, .inl (cJ, 50, .inr (.inl o1.2.2.2.2.2.2.1))), (32, .inr (1, [.ref (ad 1), .ref (ad 33), .int o1.2.2.2.1, .int o1.2.2.1, .int o1.2.2.2.2.1, .int o1.2.2.2.2.2.2.2.1, .int o1.2.2.2.2.2.1, .long o1.2.1]))])) (setl (setl Z [(38, .inl (cJ, 100, .inr (.inl o1.2.2.2.2.2.2.2.2.2.2))), (37, .inl (cJ, 10, .inr (.inl o1.2.2.2.2.2.2.2.2.2.1))), (35, .inl (cJ, 100, .inr (.inl o1.2.2.2.2.2.2.2.2.1))), (33, .inl (cJ, 50, .inr (.inl o1.2.2.2.2.2.2.1))), (32, .inr (1, [.ref (ad 1), .ref (ad 33), .int o1.2.2.2.1, .int o1.2.2.1, .int o1.2.2.2.2.1, .int o1.2.2.2.2.2.2.2.1, .int o1.2.2.2.2.2.1, .long o1.2.1]))]) [(65, .inl (cJ, 5, .inr (.inl o2.2.1))), (64, .inl (cJ, 70, .inr (.inl o2.2.2.2.2.1))), (63, .inl (cI, 70, .inl o2.2.2.2.2.2.2.1)), (62, .inl (cI, 70, .inl o2.2.2.2.2.2.2.2)), (61, .inl (cI, 70, .inl o2.2.2.1)), (57, .inr (12, [.ref (ad 58), .ref (ad 59), .ref (ad 60), .long (flL 11 (Z 0)), .long (flL 12 (Z 0)), .int o2.2.2.2.1, .ref (ad 61), .ref (ad 62), .int o2.2.2.2.2.2.1, .ref (ad 63), .ref (ad 64), .ref (ad 65), .ref (ad 66), .ref (ad 67), .ref (ad 68), .ref (ad 69), .ref (ad 70), .ref (ad 71), .ref (ad 72), .ref (ad 73), .ref (ad 74), .ref (ad 75), .ref (ad 76), .ref (ad 77), .ref (ad 78)]))]) (tl := tl) (As := []) (st := [.long o1.1]) (c_X12_digest l D cI cJ cZ cH (ad 57) (ad 72) (ad 77) (ad 70) (ad 65) (ad 59) (ad 60) (ad 76) (ad 75) (ad 68) (ad 66) (ad 74) (ad 69) (ad 71) (ad 78) (ad 58) (ad 61) (ad 73) (ad 67) (ad 64) (ad 63) (ad 62) (flL 11 (Z 0)) (flL 12 (Z 0)) (arL (Z 65)) (arI (Z 58)) (arI (Z 61)) (flI 5 (Z 57)) (arL (Z 64)) (flI 8 (Z 57)) (arI (Z 63)) (arI (Z 62)) e2) gzL_203 rfl rfl rfl eL_X12_digest ⟨Nat.le_of_ble_eq_true rfl, Nat.le_of_ble_eq_true rfl⟩ rfl 57 (by decide) rfl (zs (sh_57a hS ha1 ha2) rfl) rfl [57, 65, 58, 61, 64, 63, 62] (zc_cons rfl (zs (sh_57a hS ha1 ha2) rfl) (zc_cons rfl (zs (sh_65 hS) rfl) (zc_cons rfl (zs (sh_58 hS) rfl) (zc_cons rfl (zs (sh_61 hS) rfl) (zc_cons rfl (zs (sh_64 hS) rfl) (zc_cons rfl (zs (sh_63 hS) rfl) (zc_cons rfl (zs (sh_62 hS) rfl) zc_nil))))))) (zc_cons rfl rfl (zc_cons rfl rfl (zc_cons rfl (zs (sh_58 hS) rfl) (zc_cons rfl rfl (zc_cons rfl rfl (zc_cons rfl rfl (zc_cons rfl rfl zc_nil))))))) (setl_out rfl) rfl rfl (Nat.le_of_ble_eq_true rfl) hcs hss rfl dL_law_1804 ?_
  refine ii_lcmp_eq (tgt := 1813) (r := ()) (ET := some ()) (EF := none) (if_pos q1) dL_law_1807 dL_law_1808 (by decide) (fun _ => ?_) (fun z => absurd z (by simp))
  exact kk _ _ _ ⟨setl (setl Z [(38, .inl (cJ, 100, .inr (.inl o1.2.2.2.2.2.2.2.2.2.2))), (37, .inl (cJ, 10, .inr (.inl o1.2.2.2.2.2.2.2.2.2.1))), (35, .inl (cJ, 100, .inr (.inl o1.2.2.2.2.2.2.2.2.1))), (33, .inl (cJ, 50, .inr (.inl o1.2.2.2.2.2.2.1))), (32, .inr (1, [.ref (ad 1), .ref (ad 33), .int o1.2.2.2.1, .int o1.2.2.1, .int o1.2.2.2.2.1, .int o1.2.2.2.2.2.2.2.1, .int o1.2.2.2.2.2.1, .long o1.2.1]))]) [(65, .inl (cJ, 5, .inr (.inl o2.2.1))), (64, .inl (cJ, 70, .inr (.inl o2.2.2.2.2.1))), (63, .inl (cI, 70, .inl o2.2.2.2.2.2.2.1)), (62, .inl (cI, 70, .inl o2.2.2.2.2.2.2.2)), (61, .inl (cI, 70, .inl o2.2.2.1)), (57, .inr (12, [.ref (ad 58), .ref (ad 59), .ref (ad 60), .long (flL 11 (Z 0)), .long (flL 12 (Z 0)), .int o2.2.2.2.1, .ref (ad 61), .ref (ad 62), .int o2.2.2.2.2.2.1, .ref (ad 63), .ref (ad 64), .ref (ad 65), .ref (ad 66), .ref (ad 67), .ref (ad 68), .ref (ad 69), .ref (ad 70), .ref (ad 71), .ref (ad 72), .ref (ad 73), .ref (ad 74), .ref (ad 75), .ref (ad 76), .ref (ad 77), .ref (ad 78)]))], tl, rfl, law_fin (tc' := (tcZ Z)) (tr' := (trZ Z)) (nar' := (flI 13 (Z 1))) (nam' := (flI 14 (Z 1))) (st' := (arI (Z 58))) hS (ok_cons ok_38 (ok_cons ok_37 (ok_cons ok_35 (ok_cons ok_33 (ok_cons ok_32 ok_nil))))) (ok_cons ok_65 (ok_cons ok_64 (ok_cons ok_63 (ok_cons ok_62 (ok_cons ok_61 (ok_cons ok_57 ok_nil)))))) rfl rfl rfl rfl rfl rfl rfl h hs1 hs2 hs3 rfl rfl him, hb1, hb2⟩

