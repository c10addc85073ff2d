/-! THE LAW: cases -/
theorem dL_law_1133 : decode cL_law 1133 = .ok (.aload_n 1, 1) := by decide +kernel
theorem dL_law_1134 : decode cL_law 1134 = .ok (.aload_n 0, 1) := by decide +kernel
theorem dL_law_1135 : decode cL_law 1135 = .ok (.iload_n 3, 1) := by decide +kernel
theorem dL_law_1136 : decode cL_law 1136 = .ok (.iconst 1, 1) := by decide +kernel
theorem dL_law_1137 : decode cL_law 1137 = .ok (.iadd, 1) := by decide +kernel
theorem dL_law_1138 : decode cL_law 1138 = .ok (.iaload, 1) := by decide +kernel
theorem dL_law_1139 : decode cL_law 1139 = .ok (.aload_n 0, 1) := by decide +kernel
theorem dL_law_1140 : decode cL_law 1140 = .ok (.iload_n 3, 1) := by decide +kernel
theorem dL_law_1141 : decode cL_law 1141 = .ok (.iconst 2, 1) := by decide +kernel
theorem dL_law_1142 : decode cL_law 1142 = .ok (.iadd, 1) := by decide +kernel
theorem dL_law_1143 : decode cL_law 1143 = .ok (.iaload, 1) := by decide +kernel
theorem dL_law_1144 : decode cL_law 1144 = .ok (.invokevirtual 113, 3) := by decide +kernel
theorem dL_law_1147 : decode cL_law 1147 = .ok (.aload_n 2, 1) := by decide +kernel
theorem dL_law_1148 : decode cL_law 1148 = .ok (.aload_n 0, 1) := by decide +kernel
theorem dL_law_1149 : decode cL_law 1149 = .ok (.iload_n 3, 1) := by decide +kernel
theorem dL_law_1150 : decode cL_law 1150 = .ok (.iconst 1, 1) := by decide +kernel
theorem dL_law_1151 : decode cL_law 1151 = .ok (.iadd, 1) := by decide +kernel
theorem dL_law_1152 : decode cL_law 1152 = .ok (.iaload, 1) := by decide +kernel
theorem dL_law_1153 : decode cL_law 1153 = .ok (.aload_n 0, 1) := by decide +kernel
theorem dL_law_1154 : decode cL_law 1154 = .ok (.iload_n 3, 1) := by decide +kernel
theorem dL_law_1155 : decode cL_law 1155 = .ok (.iconst 2, 1) := by decide +kernel
theorem dL_law_1156 : decode cL_law 1156 = .ok (.iadd, 1) := by decide +kernel
theorem dL_law_1157 : decode cL_law 1157 = .ok (.iaload, 1) := by decide +kernel
theorem dL_law_1158 : decode cL_law 1158 = .ok (.invokevirtual 116, 3) := by decide +kernel
theorem dL_law_1161 : decode cL_law 1161 = .ok (.lcmp, 1) := by decide +kernel
theorem dL_law_1162 : decode cL_law 1162 = .ok (.ifCond .eq 651, 3) := by decide +kernel
theorem eL_X11_balance : yX11_balance.cls = RX11 ∧ yX11_balance.cls ≠ "java/lang/invoke/MethodHandle" ∧ yX11_balance.cls ≠ "java/lang/invoke/VarHandle" ∧ (parseMethodDescriptor yX11_balance.desc).map (fun d => d.parameters.length) = some 2 := by decide +kernel
theorem eL_X12_balance : yX12_balance.cls = RX12 ∧ yX12_balance.cls ≠ "java/lang/invoke/MethodHandle" ∧ yX12_balance.cls ≠ "java/lang/invoke/VarHandle" ∧ (parseMethodDescriptor yX12_balance.desc).map (fun d => d.parameters.length) = some 2 := by decide +kernel
set_option maxHeartbeats 4000000 in
set_option maxRecDepth 100000 in
theorem law_23 {l : Launch} {p : Program} {e : Env} {s : State} {m : MethodId} {below : List Frame} {meth : Method} {c : Code} {D : va_G} {A : Nat → Prop} {cells slots : Nat} {Q : State → Prop} {b L : Nat} {xs : Nat → Int32} {i : Int32} {cI cJ cZ cH : ClassId} {ad : Nat → Nat} {ws : va_W} (hX : va_X b L xs s s.heap) (hbl : b < s.heap.size) (hbA : ¬ A b) (hin : ∀ j : Nat, j < 8 → vp_in (i + nI j) L) (hL : LawS cI cJ cZ cH ad cells slots ws) (kk : ∀ cells slots ws, LawS cI cJ cZ cH ad cells slots ws → WX p l e room_1 s m #[.ref b] below meth c code RL lwG D [(cI, .int), (cJ, .long), (cZ, .boolean), (cH, .object "TinHouse$House")] A 4 cells slots Q ws 1813 [(3, .int i), (2, .ref (ad 57)), (1, .ref (ad 0)), (0, .ref b)] []) : WX p l e room_1 s m #[.ref b] below meth c code RL lwG D [(cI, .int), (cJ, .long), (cZ, .boolean), (cH, .object "TinHouse$House")] A 4 cells slots Q ws 1133 [(3, .int i), (2, .ref (ad 57)), (1, .ref (ad 0)), (0, .ref b)] [] := by
  obtain ⟨Z, tl, rfl, ⟨hS, h, hs1, hs2, hs3, ha1, ha2, him⟩, hb1, hb2⟩ := hL
  have hcs : cells ≤ room_1.cells := Nat.le_trans (Nat.le_add_right _ _) hb1
  have hss : slots ≤ room_1.slots := Nat.le_trans (Nat.le_add_right _ _) hb2
  refine ii_aload_n 2 dL_law_1133 rfl ?_
  refine ii_aload_n 3 dL_law_1134 rfl ?_
  refine ii_iload_n 0 dL_law_1135 rfl ?_
  refine ii_iconst dL_law_1136 kc1 ?_
  refine ii_iadd dL_law_1137 ?_
  refine ii_sld hX hbl hbA (hin 1 (by decide)) dL_law_1138 ?_
  refine ii_aload_n 3 dL_law_1139 rfl ?_
  refine ii_iload_n 0 dL_law_1140 rfl ?_
  refine ii_iconst dL_law_1141 kc2 ?_
  refine ii_iadd dL_law_1142 ?_
  refine ii_sld hX hbl hbA (hin 2 (by decide)) dL_law_1143 ?_
  obtain ⟨o1, o2, e1, e2, q1⟩ := (P_balance h _ _ _ _ _ _ _ _ _ _ _ _ _ _ _ _ _ _ _ : Two (F_X11_balance (flL 7 (Z 32)) (flI 3 (Z 32)) (flI 2 (Z 32)) (flI 4 (Z 32)) (flI 6 (Z 32)) (arL (Z 33)) (flI 5 (Z 32)) (arL (Z 35)) (arL (Z 37)) (arL (Z 38)) (tcZ Z 2) (trZ Z 2) (tcZ Z 3) (trZ Z 3) (tcZ Z 0) (trZ Z 0) (tcZ Z 4) (trZ Z 4) (xs (i + 1).toNatClampNeg) (xs (i + 2).toNatClampNeg)) (F_X12_balance (arL (Z 65)) (arI (Z 58)) (arI (Z 61)) (flI 5 (Z 57)) (arL (Z 64)) (flI 8 (Z 57)) (arI (Z 63)) (arI (Z 62)) (xs (i + 1).toNatClampNeg) (xs (i + 2).toNatClampNeg)) _)
  refine ii_callZl (nW := 79) (ad := ad) (Z := Z) (setl Z [(38, .inl (cJ, 100, .inr (.inl o1.2.2.2.2.2.2.2.2.2.2))), (37, .inl (cJ, 10, .inr (.inl o1.2.2.2.2.2.2.2.2.2.1))), (35, .inl (cJ, 100, .inr (.inl o1.2.2.2.2.2.2.2.2.1))), (33, .inl (cJ, 50, .inr (.inl o1.2.2.2.2.2.2.1))), (32, .inr (1, [.ref (ad 1), .ref (ad 33), .int o1.2.2.2.1, .int o1.2.2.1, .int o1.2.2.2.2.1, .int o1.2.2.2.2.2.2.2.1, .int o1.2.2.2.2.2.1, .long o1.2.1]))]) (tl := tl) (As := [.int (xs (i + 1).toNatClampNeg), .int (xs (i + 2).toNatClampNeg)]) (st := []) (c_X11_balance l D cI cJ cZ cH (ad 0) (ad 28) (ad 32) (ad 33) (ad 34) (ad 35) (ad 36) (ad 37) (ad 38) (ad 43) (ad 41) (ad 42) (ad 40) (ad 39) (ad 1) (ad 6) (ad 7) (ad 8) (ad 9) (ad 14) (ad 20) (ad 24) (ad 22) (ad 2) (ad 3) (ad 10) (ad 11) (ad 26) (ad 12) (ad 16) (ad 4) (ad 18) (ad 51) (ad 55) (ad 49) (ad 29) (ad 44) (ad 45) (flL 11 (Z 0)) (flL 12 (Z 0)) (flL 7 (Z 32)) (flI 3 (Z 32)) (flI 2 (Z 32)) (flI 4 (Z 32)) (flI 6 (Z 32)) (arL (Z 33)) (flI 5 (Z 32)) (arL (Z 35)) (arL (Z 37)) (arL (Z 38)) (tcZ Z 2) (trZ Z 2) (tcZ Z 3) (trZ Z 3) (tcZ Z 0) (trZ Z 0) (flI 14 (Z 1)) (flI 13 (Z 1)) (tcZ Z 4) (trZ Z 4) (xs (i + 1).toNatClampNeg) (xs (i + 2).toNatClampNeg) e1) gzL_113 rfl rfl rfl eL_X11_balance ⟨Nat.le_of_ble_eq_true rfl, Nat.le_of_ble_eq_true rfl⟩ rfl 0 (by decide) rfl (sh_0 hS) rfl [0, 32, 33, 34, 35, 36, 37, 38, 1, 6, 7, 8, 9, 2, 3, 10, 11] (zc_cons rfl (sh_0 hS) (zc_cons rfl (sh_32 hS) (zc_cons rfl (sh_33 hS) (zc_cons rfl (sh_34 hS) (zc_cons rfl (sh_35 hS) (zc_cons rfl (sh_36 hS) (zc_cons rfl (sh_37 hS) (zc_cons rfl (sh_38 hS) (zc_cons rfl (sh_1 hS) (zc_cons rfl (sh_6 hS) (zc_cons rfl (sh_7 hS) (zc_cons rfl (sh_8 hS) (zc_cons rfl (sh_9 hS) (zc_cons rfl (sh_2 hS) (zc_cons rfl (sh_3 hS) (zc_cons rfl (sh_10 hS) (zc_cons rfl (sh_11 hS) zc_nil))))))))))))))))) (zc_cons rfl (zs (sh_0 hS) rfl) (zc_cons rfl rfl (zc_cons rfl rfl (zc_cons rfl (zs (sh_34 hS) rfl) (zc_cons rfl rfl (zc_cons rfl (zs (sh_36 hS) rfl) (zc_cons rfl rfl (zc_cons rfl rfl (zc_cons rfl (zs (sh_1 hS) rfl) (zc_cons rfl (zs (sh_6 hS) rfl) (zc_cons rfl (zs (sh_7 hS) rfl) (zc_cons rfl (zs (sh_8 hS) rfl) (zc_cons rfl (zs (sh_9 hS) rfl) (zc_cons rfl (zs (sh_2 hS) rfl) (zc_cons rfl (zs (sh_3 hS) rfl) (zc_cons rfl (zs (sh_10 hS) rfl) (zc_cons rfl (zs (sh_11 hS) rfl) zc_nil))))))))))))))))) (setl_out rfl) rfl rfl (Nat.le_of_ble_eq_true rfl) hcs hss rfl dL_law_1144 ?_
  refine ii_aload_n 1 dL_law_1147 rfl ?_
  refine ii_aload_n 3 dL_law_1148 rfl ?_
  refine ii_iload_n 0 dL_law_1149 rfl ?_
  refine ii_iconst dL_law_1150 kc1 ?_
  refine ii_iadd dL_law_1151 ?_
  refine ii_sld hX hbl hbA (hin 1 (by decide)) dL_law_1152 ?_
  refine ii_aload_n 3 dL_law_1153 rfl ?_
  refine ii_iload_n 0 dL_law_1154 rfl ?_
  refine ii_iconst dL_law_1155 kc2 ?_
  refine ii_iadd dL_law_1156 ?_
  refine ii_sld hX hbl hbA (hin 2 (by decide)) dL_law_1157 ?_
  refine ii_callZl (nW := 79) (ad := ad) (Z := (setl Z [(38, .inl (cJ, 100, .inr (.inl o1.2.2.2.2.2.2.2.2.2.2))), (37, .inl (cJ, 10, .inr (.inl o1.2.2.2.2.2.2.2.2.2.1))), (35, .inl (cJ, 100, .inr (.inl o1.2.2.2.2.2.2.2.2.1))), (33, .inl (cJ, 50, .inr (.inl o1.2.2.2.2.2.2.1))), (32, .inr (1, [.ref (ad 1), .ref (ad 33), .int o1.2.2.2.1, .int o1.2.2.1, .int o1.2.2.2.2.1, .int o1.2.2.2.2.2.2.2.1, .int o1.2.2.2.2.2.1, .long o1.2.1]))])) (setl (setl Z [(38, .inl (cJ, 100, .inr (.inl o1.2.2.2.2.2.2.2.2.2.2))), (37, .inl (cJ, 10, .inr (.inl o1.2.2.2.2.2.2.2.2.2.1))), (35, .inl (cJ, 100, .inr (.inl o1.2.2.2.2.2.2.2.2.1))), (33, .inl (cJ, 50, .inr (.inl o1.2.2.2.2.2.2.1))), (32, .inr (1, [.ref (ad 1), .ref (ad 33), .int o1.2.2.2.1, .int o1.2.2.1, .int o1.2.2.2.2.1, .int o1.2.2.2.2.2.2.2.1, .int o1.2.2.2.2.2.1, .long o1.2.1]))]) [(65, .inl (cJ, 5, .inr (.inl o2.2.1))), (64, .inl (cJ, 70, .inr (.inl o2.2.2.2.2.1))), (63, .inl (cI, 70, .inl o2.2.2.2.2.2.2.1)), (62, .inl (cI, 70, .inl o2.2.2.2.2.2.2.2)), (61, .inl (cI, 70, .inl o2.2.2.1)), (57, .inr (12, [.ref (ad 58), .ref (ad 59), .ref (ad 60), .long (flL 11 (Z 0)), .long (flL 12 (Z 0)), .int o2.2.2.2.1, .ref (ad 61), .ref (ad 62), .int o2.2.2.2.2.2.1, .ref (ad 63), .ref (ad 64), .ref (ad 65), .ref (ad 66), .ref (ad 67), .ref (ad 68), .ref (ad 69), .ref (ad 70), .ref (ad 71), .ref (ad 72), .ref (ad 73), .ref (ad 74), .ref (ad 75), .ref (ad 76), .ref (ad 77), .ref (ad 78)]))]) (tl := tl) (As := [.int (xs (i + 1).toNatClampNeg), .int (xs (i + 2).toNatClampNeg)]) (st := [.long o1.1]) (c_X12_balance l D cI cJ cZ cH (ad 57) (ad 72) (ad 77) (ad 70) (ad 65) (ad 59) (ad 60) (ad 76) (ad 75) (ad 68) (ad 66) (ad 74) (ad 69) (ad 71) (ad 78) (ad 58) (ad 61) (ad 73) (ad 67) (ad 64) (ad 63) (ad 62) (flL 11 (Z 0)) (flL 12 (Z 0)) (arL (Z 65)) (arI (Z 58)) (arI (Z 61)) (flI 5 (Z 57)) (arL (Z 64)) (flI 8 (Z 57)) (arI (Z 63)) (arI (Z 62)) (xs (i + 1).toNatClampNeg) (xs (i + 2).toNatClampNeg) e2) gzL_116 rfl rfl rfl eL_X12_balance ⟨Nat.le_of_ble_eq_true rfl, Nat.le_of_ble_eq_true rfl⟩ rfl 57 (by decide) rfl (zs (sh_57a hS ha1 ha2) rfl) rfl [57, 65, 58, 61, 64, 63, 62] (zc_cons rfl (zs (sh_57a hS ha1 ha2) rfl) (zc_cons rfl (zs (sh_65 hS) rfl) (zc_cons rfl (zs (sh_58 hS) rfl) (zc_cons rfl (zs (sh_61 hS) rfl) (zc_cons rfl (zs (sh_64 hS) rfl) (zc_cons rfl (zs (sh_63 hS) rfl) (zc_cons rfl (zs (sh_62 hS) rfl) zc_nil))))))) (zc_cons rfl rfl (zc_cons rfl rfl (zc_cons rfl (zs (sh_58 hS) rfl) (zc_cons rfl rfl (zc_cons rfl rfl (zc_cons rfl rfl (zc_cons rfl rfl zc_nil))))))) (setl_out rfl) rfl rfl (Nat.le_of_ble_eq_true rfl) hcs hss rfl dL_law_1158 ?_
  refine ii_lcmp_eq (tgt := 1813) (r := ()) (ET := some ()) (EF := none) (if_pos q1) dL_law_1161 dL_law_1162 (by decide) (fun _ => ?_) (fun z => absurd z (by simp))
  exact kk _ _ _ ⟨setl (setl Z [(38, .inl (cJ, 100, .inr (.inl o1.2.2.2.2.2.2.2.2.2.2))), (37, .inl (cJ, 10, .inr (.inl o1.2.2.2.2.2.2.2.2.2.1))), (35, .inl (cJ, 100, .inr (.inl o1.2.2.2.2.2.2.2.2.1))), (33, .inl (cJ, 50, .inr (.inl o1.2.2.2.2.2.2.1))), (32, .inr (1, [.ref (ad 1), .ref (ad 33), .int o1.2.2.2.1, .int o1.2.2.1, .int o1.2.2.2.2.1, .int o1.2.2.2.2.2.2.2.1, .int o1.2.2.2.2.2.1, .long o1.2.1]))]) [(65, .inl (cJ, 5, .inr (.inl o2.2.1))), (64, .inl (cJ, 70, .inr (.inl o2.2.2.2.2.1))), (63, .inl (cI, 70, .inl o2.2.2.2.2.2.2.1)), (62, .inl (cI, 70, .inl o2.2.2.2.2.2.2.2)), (61, .inl (cI, 70, .inl o2.2.2.1)), (57, .inr (12, [.ref (ad 58), .ref (ad 59), .ref (ad 60), .long (flL 11 (Z 0)), .long (flL 12 (Z 0)), .int o2.2.2.2.1, .ref (ad 61), .ref (ad 62), .int o2.2.2.2.2.2.1, .ref (ad 63), .ref (ad 64), .ref (ad 65), .ref (ad 66), .ref (ad 67), .ref (ad 68), .ref (ad 69), .ref (ad 70), .ref (ad 71), .ref (ad 72), .ref (ad 73), .ref (ad 74), .ref (ad 75), .ref (ad 76), .ref (ad 77), .ref (ad 78)]))], tl, rfl, law_fin (tc' := (tcZ Z)) (tr' := (trZ Z)) (nar' := (flI 13 (Z 1))) (nam' := (flI 14 (Z 1))) (st' := (arI (Z 58))) hS (ok_cons ok_38 (ok_cons ok_37 (ok_cons ok_35 (ok_cons ok_33 (ok_cons ok_32 ok_nil))))) (ok_cons ok_65 (ok_cons ok_64 (ok_cons ok_63 (ok_cons ok_62 (ok_cons ok_61 (ok_cons ok_57 ok_nil)))))) rfl rfl rfl rfl rfl rfl rfl h hs1 hs2 hs3 rfl rfl him, hb1, hb2⟩

theorem dL_law_1167 : decode cL_law 1167 = .ok (.aload_n 1, 1) := by decide +kernel
theorem dL_law_1168 : decode cL_law 1168 = .ok (.aload_n 0, 1) := by decide +kernel
theorem dL_law_1169 : decode cL_law 1169 = .ok (.iload_n 3, 1) := by decide +kernel
theorem dL_law_1170 : decode cL_law 1170 = .ok (.iconst 1, 1) := by decide +kernel
theorem dL_law_1171 : decode cL_law 1171 = .ok (.iadd, 1) := by decide +kernel
theorem dL_law_1172 : decode cL_law 1172 = .ok (.iaload, 1) := by decide +kernel
theorem dL_law_1173 : decode cL_law 1173 = .ok (.invokevirtual 117, 3) := by decide +kernel
theorem dL_law_1176 : decode cL_law 1176 = .ok (.aload_n 2, 1) := by decide +kernel
theorem dL_law_1177 : decode cL_law 1177 = .ok (.aload_n 0, 1) := by decide +kernel
theorem dL_law_1178 : decode cL_law 1178 = .ok (.iload_n 3, 1) := by decide +kernel
theorem dL_law_1179 : decode cL_law 1179 = .ok (.iconst 1, 1) := by decide +kernel
theorem dL_law_1180 : decode cL_law 1180 = .ok (.iadd, 1) := by decide +kernel
theorem dL_law_1181 : decode cL_law 1181 = .ok (.iaload, 1) := by decide +kernel
theorem dL_law_1182 : decode cL_law 1182 = .ok (.invokevirtual 120, 3) := by decide +kernel
theorem dL_law_1185 : decode cL_law 1185 = .ok (.if_icmp .eq 628, 3) := by decide +kernel
theorem eL_X11_fewest : yX11_fewest.cls = RX11 ∧ yX11_fewest.cls ≠ "java/lang/invoke/MethodHandle" ∧ yX11_fewest.cls ≠ "java/lang/invoke/VarHandle" ∧ (parseMethodDescriptor yX11_fewest.desc).map (fun d => d.parameters.length) = some 1 := by decide +kernel
theorem eL_X12_fewest : yX12_fewest.cls = RX12 ∧ yX12_fewest.cls ≠ "java/lang/invoke/MethodHandle" ∧ yX12_fewest.cls ≠ "java/lang/invoke/VarHandle" ∧ (parseMethodDescriptor yX12_fewest.desc).map (fun d => d.parameters.length) = some 1 := by decide +kernel
set_option maxHeartbeats 4000000 in
set_option maxRecDepth 100000 in
theorem law_24 {l : Launch} {p : Program} {e : Env} {s : State} {m : MethodId} {below : List Frame} {meth : Method} {c : Code} {D : va_G} {A : Nat → Prop} {cells slots : Nat} {Q : State → Prop} {b L : Nat} {xs : Nat → Int32} {i : Int32} {cI cJ cZ cH : ClassId} {ad : Nat → Nat} {ws : va_W} (hX : va_X b L xs s s.heap) (hbl : b < s.heap.size) (hbA : ¬ A b) (hin : ∀ j : Nat, j < 8 → vp_in (i + nI j) L) (hL : LawS cI cJ cZ cH ad cells slots ws) (kk : ∀ cells slots ws, LawS cI cJ cZ cH ad cells slots ws → WX p l e room_1 s m #[.ref b] below meth c code RL lwG D [(cI, .int), (cJ, .long), (cZ, .boolean), (cH, .object "TinHouse$House")] A 4 cells slots Q ws 1813 [(3, .int i), (2, .ref (ad 57)), (1, .ref (ad 0)), (0, .ref b)] []) : WX p l e room_1 s m #[.ref b] below meth c code RL lwG D [(cI, .int), (cJ, .long), (cZ, .boolean), (cH, .object "TinHouse$House")] A 4 cells slots Q ws 1167 [(3, .int i), (2, .ref (ad 57)), (1, .ref (ad 0)), (0, .ref b)] [] := by
  obtain ⟨Z, tl, rfl, ⟨hS, h, hs1, hs2, hs3, ha1, ha2, him⟩, hb1, hb2⟩ := hL
  have hcs : cells ≤ room_1.cells := Nat.le_trans (Nat.le_add_right _ _) hb1
  have hss : slots ≤ room_1.slots := Nat.le_trans (Nat.le_add_right _ _) hb2
  refine ii_aload_n 2 dL_law_1167 rfl ?_
  refine ii_aload_n 3 dL_law_1168 rfl ?_
  refine ii_iload_n 0 dL_law_1169 rfl ?_
  refine ii_iconst dL_law_1170 kc1 ?_
  refine ii_iadd dL_law_1171 ?_
  refine ii_sld hX hbl hbA (hin 1 (by decide)) dL_law_1172 ?_
  obtain ⟨o1, o2, e1, e2, q1, q2, q3, q4⟩ := (P_fewest h _ _ _ _ _ _ _ _ _ _ _ _ _ _ _ _ _ _ _ _ _ _ _ _ hs1 hs2 hs3 : Two (F_X11_fewest (flL 7 (Z 32)) (flI 3 (Z 32)) (flI 2 (Z 32)) (flI 4 (Z 32)) (flI 6 (Z 32)) (arL (Z 33)) (flI 5 (Z 32)) (arL (Z 35)) (arL (Z 37)) (arL (Z 38)) (arI (Z 41)) (arL (Z 40)) (arL (Z 39)) (tcZ Z 2) (trZ Z 2) (tcZ Z 3) (trZ Z 3) (tcZ Z 0) (trZ Z 0) (tcZ Z 4) (trZ Z 4) (xs (i + 1).toNatClampNeg)) (F_X12_fewest (arL (Z 65)) (arI (Z 68)) (arL (Z 66)) (arI (Z 58)) (arI (Z 61)) (flI 5 (Z 57)) (arL (Z 67)) (arL (Z 64)) (flI 8 (Z 57)) (arI (Z 63)) (arI (Z 62)) (xs (i + 1).toNatClampNeg)) _)
  refine ii_callZi (nW := 79) (ad := ad) (Z := Z) (setl Z [(41, .inl (cI, 1024, .inl o1.2.2.2.2.2.2.2.2.2.2.2.1)), (40, .inl (cJ, 1024, .inr (.inl o1.2.2.2.2.2.2.2.2.2.2.2.2.1))), (39, .inl (cJ, 10, .inr (.inl o1.2.2.2.2.2.2.2.2.2.2.2.2.2))), (38, .inl (cJ, 100, .inr (.inl o1.2.2.2.2.2.2.2.2.2.2.1))), (37, .inl (cJ, 10, .inr (.inl o1.2.2.2.2.2.2.2.2.2.1))), (35, .inl (cJ, 100, .inr (.inl o1.2.2.2.2.2.2.2.2.1))), (33, .inl (cJ, 50, .inr (.inl o1.2.2.2.2.2.2.1))), (32, .inr (1, [.ref (ad 1), .ref (ad 33), .int o1.2.2.2.1, .int o1.2.2.1, .int o1.2.2.2.2.1, .int o1.2.2.2.2.2.2.2.1, .int o1.2.2.2.2.2.1, .long o1.2.1]))]) (tl := tl) (As := [.int (xs (i + 1).toNatClampNeg)]) (st := []) (c_X11_fewest l D cI cJ cZ cH (ad 0) (ad 28) (ad 32) (ad 33) (ad 34) (ad 35) (ad 36) (ad 37) (ad 38) (ad 43) (ad 41) (ad 42) (ad 40) (ad 39) (ad 1) (ad 6) (ad 7) (ad 8) (ad 9) (ad 14) (ad 20) (ad 24) (ad 22) (ad 2) (ad 3) (ad 10) (ad 11) (ad 26) (ad 12) (ad 16) (ad 4) (ad 18) (ad 51) (ad 55) (ad 49) (ad 29) (ad 44) (ad 45) (flL 11 (Z 0)) (flL 12 (Z 0)) (flL 7 (Z 32)) (flI 3 (Z 32)) (flI 2 (Z 32)) (flI 4 (Z 32)) (flI 6 (Z 32)) (arL (Z 33)) (flI 5 (Z 32)) (arL (Z 35)) (arL (Z 37)) (arL (Z 38)) (arI (Z 41)) (arL (Z 40)) (arL (Z 39)) (tcZ Z 2) (trZ Z 2) (tcZ Z 3) (trZ Z 3) (tcZ Z 0) (trZ Z 0) (flI 14 (Z 1)) (flI 13 (Z 1)) (tcZ Z 4) (trZ Z 4) (xs (i + 1).toNatClampNeg) e1) gzL_117 rfl rfl rfl eL_X11_fewest ⟨Nat.le_of_ble_eq_true rfl, Nat.le_of_ble_eq_true rfl⟩ rfl 0 (by decide) rfl (sh_0 hS) rfl [0, 32, 33, 34, 35, 36, 37, 38, 41, 40, 39, 1, 6, 7, 8, 9, 2, 3, 10, 11] (zc_cons rfl (sh_0 hS) (zc_cons rfl (sh_32 hS) (zc_cons rfl (sh_33 hS) (zc_cons rfl (sh_34 hS) (zc_cons rfl (sh_35 hS) (zc_cons rfl (sh_36 hS) (zc_cons rfl (sh_37 hS) (zc_cons rfl (sh_38 hS) (zc_cons rfl (sh_41 hS) (zc_cons rfl (sh_40 hS) (zc_cons rfl (sh_39 hS) (zc_cons rfl (sh_1 hS) (zc_cons rfl (sh_6 hS) (zc_cons rfl (sh_7 hS) (zc_cons rfl (sh_8 hS) (zc_cons rfl (sh_9 hS) (zc_cons rfl (sh_2 hS) (zc_cons rfl (sh_3 hS) (zc_cons rfl (sh_10 hS) (zc_cons rfl (sh_11 hS) zc_nil)))))))))))))))))))) (zc_cons rfl (zs (sh_0 hS) rfl) (zc_cons rfl rfl (zc_cons rfl rfl (zc_cons rfl (zs (sh_34 hS) rfl) (zc_cons rfl rfl (zc_cons rfl (zs (sh_36 hS) rfl) (zc_cons rfl rfl (zc_cons rfl rfl (zc_cons rfl rfl (zc_cons rfl rfl (zc_cons rfl rfl (zc_cons rfl (zs (sh_1 hS) rfl) (zc_cons rfl (zs (sh_6 hS) rfl) (zc_cons rfl (zs (sh_7 hS) rfl) (zc_cons rfl (zs (sh_8 hS) rfl) (zc_cons rfl (zs (sh_9 hS) rfl) (zc_cons rfl (zs (sh_2 hS) rfl) (zc_cons rfl (zs (sh_3 hS) rfl) (zc_cons rfl (zs (sh_10 hS) rfl) (zc_cons rfl (zs (sh_11 hS) rfl) zc_nil)))))))))))))))))))) (setl_out rfl) rfl rfl (Nat.le_of_ble_eq_true rfl) hcs hss rfl dL_law_1173 ?_
  refine ii_aload_n 1 dL_law_1176 rfl ?_
  refine ii_aload_n 3 dL_law_1177 rfl ?_
  refine ii_iload_n 0 dL_law_1178 rfl ?_
  refine ii_iconst dL_law_1179 kc1 ?_
  refine ii_iadd dL_law_1180 ?_
  refine ii_sld hX hbl hbA (hin 1 (by decide)) dL_law_1181 ?_
  refine ii_callZi (nW := 79) (ad := ad) (Z := (setl Z [(41, .inl (cI, 1024, .inl o1.2.2.2.2.2.2.2.2.2.2.2.1)), (40, .inl (cJ, 1024, .inr (.inl o1.2.2.2.2.2.2.2.2.2.2.2.2.1))), (39, .inl (cJ, 10, .inr (.inl o1.2.2.2.2.2.2.2.2.2.2.2.2.2))), (38, .inl (cJ, 100, .inr (.inl o1.2.2.2.2.2.2.2.2.2.2.1))), (37, .inl (cJ, 10, .inr (.inl o1.2.2.2.2.2.2.2.2.2.1))), (35, .inl (cJ, 100, .inr (.inl o1.2.2.2.2.2.2.2.2.1))), (33, .inl (cJ, 50, .inr (.inl o1.2.2.2.2.2.2.1))), (32, .inr (1, [.ref (ad 1), .ref (ad 33), .int o1.2.2.2.1, .int o1.2.2.1, .int o1.2.2.2.2.1, .int o1.2.2.2.2.2.2.2.1, .int o1.2.2.2.2.2.1, .long o1.2.1]))])) (setl (setl Z [(41, .inl (cI, 1024, .inl o1.2.2.2.2.2.2.2.2.2.2.2.1)), (40, .inl (cJ, 1024, .inr (.inl o1.2.2.2.2.2.2.2.2.2.2.2.2.1))), (39, .inl (cJ, 10, .inr (.inl o1.2.2.2.2.2.2.2.2.2.2.2.2.2))), (38, .inl (cJ, 100, .inr (.inl o1.2.2.2.2.2.2.2.2.2.2.1))), (37, .inl (cJ, 10, .inr (.inl o1.2.2.2.2.2.2.2.2.2.1))), (35, .inl (cJ, 100, .inr (.inl o1.2.2.2.2.2.2.2.2.1))), (33, .inl (cJ, 50, .inr (.inl o1.2.2.2.2.2.2.1))), (32, .inr (1, [.ref (ad 1), .ref (ad 33), .int o1.2.2.2.1, .int o1.2.2.1, .int o1.2.2.2.2.1, .int o1.2.2.2.2.2.2.2.1, .int o1.2.2.2.2.2.1, .long o1.2.1]))]) [(68, .inl (cI, 1024, .inl o2.2.2.1)), (67, .inl (cJ, 1024, .inr (.inl o2.2.2.2.2.2.2.1))), (66, .inl (cJ, 10, .inr (.inl o2.2.2.2.1))), (65, .inl (cJ, 5, .inr (.inl o2.2.1))), (64, .inl (cJ, 70, .inr (.inl o2.2.2.2.2.2.2.2.1))), (63, .inl (cI, 70, .inl o2.2.2.2.2.2.2.2.2.2.1)), (62, .inl (cI, 70, .inl o2.2.2.2.2.2.2.2.2.2.2)), (61, .inl (cI, 70, .inl o2.2.2.2.2.1)), (57, .inr (12, [.ref (ad 58), .ref (ad 59), .ref (ad 60), .long (flL 11 (Z 0)), .long (flL 12 (Z 0)), .int o2.2.2.2.2.2.1, .ref (ad 61), .ref (ad 62), .int o2.2.2.2.2.2.2.2.2.1, .ref (ad 63), .ref (ad 64), .ref (ad 65), .ref (ad 66), .ref (ad 67), .ref (ad 68), .ref (ad 69), .ref (ad 70), .ref (ad 71), .ref (ad 72), .ref (ad 73), .ref (ad 74), .ref (ad 75), .ref (ad 76), .ref (ad 77), .ref (ad 78)]))]) (tl := tl) (As := [.int (xs (i + 1).toNatClampNeg)]) (st := [.int o1.1]) (c_X12_fewest l D cI cJ cZ cH (ad 57) (ad 72) (ad 77) (ad 70) (ad 65) (ad 59) (ad 60) (ad 76) (ad 75) (ad 68) (ad 66) (ad 74) (ad 69) (ad 71) (ad 78) (ad 58) (ad 61) (ad 73) (ad 67) (ad 64) (ad 63) (ad 62) (flL 11 (Z 0)) (flL 12 (Z 0)) (arL (Z 65)) (arI (Z 68)) (arL (Z 66)) (arI (Z 58)) (arI (Z 61)) (flI 5 (Z 57)) (arL (Z 67)) (arL (Z 64)) (flI 8 (Z 57)) (arI (Z 63)) (arI (Z 62)) (xs (i + 1).toNatClampNeg) e2) gzL_120 rfl rfl rfl eL_X12_fewest ⟨Nat.le_of_ble_eq_true rfl, Nat.le_of_ble_eq_true rfl⟩ rfl 57 (by decide) rfl (zs (sh_57a hS ha1 ha2) rfl) rfl [57, 65, 68, 66, 58, 61, 67, 64, 63, 62] (zc_cons rfl (zs (sh_57a hS ha1 ha2) rfl) (zc_cons rfl (zs (sh_65 hS) rfl) (zc_cons rfl (zs (sh_68 hS) rfl) (zc_cons rfl (zs (sh_66 hS) rfl) (zc_cons rfl (zs (sh_58 hS) rfl) (zc_cons rfl (zs (sh_61 hS) rfl) (zc_cons rfl (zs (sh_67 hS) rfl) (zc_cons rfl (zs (sh_64 hS) rfl) (zc_cons rfl (zs (sh_63 hS) rfl) (zc_cons rfl (zs (sh_62 hS) rfl) zc_nil)))))))))) (zc_cons rfl rfl (zc_cons rfl rfl (zc_cons rfl rfl (zc_cons rfl rfl (zc_cons rfl (zs (sh_58 hS) rfl) (zc_cons rfl rfl (zc_cons rfl rfl (zc_cons rfl rfl (zc_cons rfl rfl (zc_cons rfl rfl zc_nil)))))))))) (setl_out rfl) rfl rfl (Nat.le_of_ble_eq_true rfl) hcs hss rfl dL_law_1182 ?_
  refine ii_icmp_eq (tgt := 1813) (r := ()) (ET := some ()) (EF := none) (if_pos q1) dL_law_1185 (by decide) (fun _ => ?_) (fun z => absurd z (by simp))
  exact kk _ _ _ ⟨setl (setl Z [(41, .inl (cI, 1024, .inl o1.2.2.2.2.2.2.2.2.2.2.2.1)), (40, .inl (cJ, 1024, .inr (.inl o1.2.2.2.2.2.2.2.2.2.2.2.2.1))), (39, .inl (cJ, 10, .inr (.inl o1.2.2.2.2.2.2.2.2.2.2.2.2.2))), (38, .inl (cJ, 100, .inr (.inl o1.2.2.2.2.2.2.2.2.2.2.1))), (37, .inl (cJ, 10, .inr (.inl o1.2.2.2.2.2.2.2.2.2.1))), (35, .inl (cJ, 100, .inr (.inl o1.2.2.2.2.2.2.2.2.1))), (33, .inl (cJ, 50, .inr (.inl o1.2.2.2.2.2.2.1))), (32, .inr (1, [.ref (ad 1), .ref (ad 33), .int o1.2.2.2.1, .int o1.2.2.1, .int o1.2.2.2.2.1, .int o1.2.2.2.2.2.2.2.1, .int o1.2.2.2.2.2.1, .long o1.2.1]))]) [(68, .inl (cI, 1024, .inl o2.2.2.1)), (67, .inl (cJ, 1024, .inr (.inl o2.2.2.2.2.2.2.1))), (66, .inl (cJ, 10, .inr (.inl o2.2.2.2.1))), (65, .inl (cJ, 5, .inr (.inl o2.2.1))), (64, .inl (cJ, 70, .inr (.inl o2.2.2.2.2.2.2.2.1))), (63, .inl (cI, 70, .inl o2.2.2.2.2.2.2.2.2.2.1)), (62, .inl (cI, 70, .inl o2.2.2.2.2.2.2.2.2.2.2)), (61, .inl (cI, 70, .inl o2.2.2.2.2.1)), (57, .inr (12, [.ref (ad 58), .ref (ad 59), .ref (ad 60), .long (flL 11 (Z 0)), .long (flL 12 (Z 0)), .int o2.2.2.2.2.2.1, .ref (ad 61), .ref (ad 62), .int o2.2.2.2.2.2.2.2.2.1, .ref (ad 63), .ref (ad 64), .ref (ad 65), .ref (ad 66), .ref (ad 67), .ref (ad 68), .ref (ad 69), .ref (ad 70), .ref (ad 71), .ref (ad 72), .ref (ad 73), .ref (ad 74), .ref (ad 75), .ref (ad 76), .ref (ad 77), .ref (ad 78)]))], tl, rfl, law_fin (tc' := (tcZ Z)) (tr' := (trZ Z)) (nar' := (flI 13 (Z 1))) (nam' := (flI 14 (Z 1))) (st' := (arI (Z 58))) hS (ok_cons ok_41 (ok_cons ok_40 (ok_cons ok_39 (ok_cons ok_38 (ok_cons ok_37 (ok_cons ok_35 (ok_cons ok_33 (ok_cons ok_32 ok_nil)))))))) (ok_cons ok_68 (ok_cons ok_67 (ok_cons ok_66 (ok_cons ok_65 (ok_cons ok_64 (ok_cons ok_63 (ok_cons ok_62 (ok_cons ok_61 (ok_cons ok_57 ok_nil))))))))) rfl rfl rfl rfl rfl rfl rfl h q2 q3 q4 rfl rfl him, hb1, hb2⟩

theorem dL_law_1190 : decode cL_law 1190 = .ok (.aload_n 1, 1) := by decide +kernel
theorem dL_law_1191 : decode cL_law 1191 = .ok (.aload_n 0, 1) := by decide +kernel
theorem dL_law_1192 : decode cL_law 1192 = .ok (.iload_n 3, 1) := by decide +kernel
theorem dL_law_1193 : decode cL_law 1193 = .ok (.iconst 1, 1) := by decide +kernel
theorem dL_law_1194 : decode cL_law 1194 = .ok (.iadd, 1) := by decide +kernel
theorem dL_law_1195 : decode cL_law 1195 = .ok (.iaload, 1) := by decide +kernel
theorem dL_law_1196 : decode cL_law 1196 = .ok (.aload_n 0, 1) := by decide +kernel
theorem dL_law_1197 : decode cL_law 1197 = .ok (.iload_n 3, 1) := by decide +kernel
theorem dL_law_1198 : decode cL_law 1198 = .ok (.iconst 2, 1) := by decide +kernel
theorem dL_law_1199 : decode cL_law 1199 = .ok (.iadd, 1) := by decide +kernel
theorem dL_law_1200 : decode cL_law 1200 = .ok (.iaload, 1) := by decide +kernel
theorem dL_law_1201 : decode cL_law 1201 = .ok (.invokevirtual 121, 3) := by decide +kernel
theorem dL_law_1204 : decode cL_law 1204 = .ok (.aload_n 2, 1) := by decide +kernel
theorem dL_law_1205 : decode cL_law 1205 = .ok (.aload_n 0, 1) := by decide +kernel
theorem dL_law_1206 : decode cL_law 1206 = .ok (.iload_n 3, 1) := by decide +kernel
theorem dL_law_1207 : decode cL_law 1207 = .ok (.iconst 1, 1) := by decide +kernel
theorem dL_law_1208 : decode cL_law 1208 = .ok (.iadd, 1) := by decide +kernel
theorem dL_law_1209 : decode cL_law 1209 = .ok (.iaload, 1) := by decide +kernel
theorem dL_law_1210 : decode cL_law 1210 = .ok (.aload_n 0, 1) := by decide +kernel
theorem dL_law_1211 : decode cL_law 1211 = .ok (.iload_n 3, 1) := by decide +kernel
theorem dL_law_1212 : decode cL_law 1212 = .ok (.iconst 2, 1) := by decide +kernel
theorem dL_law_1213 : decode cL_law 1213 = .ok (.iadd, 1) := by decide +kernel
theorem dL_law_1214 : decode cL_law 1214 = .ok (.iaload, 1) := by decide +kernel
theorem dL_law_1215 : decode cL_law 1215 = .ok (.invokevirtual 124, 3) := by decide +kernel
theorem dL_law_1218 : decode cL_law 1218 = .ok (.if_icmp .eq 595, 3) := by decide +kernel
theorem eL_X11_ring : yX11_ring.cls = RX11 ∧ yX11_ring.cls ≠ "java/lang/invoke/MethodHandle" ∧ yX11_ring.cls ≠ "java/lang/invoke/VarHandle" ∧ (parseMethodDescriptor yX11_ring.desc).map (fun d => d.parameters.length) = some 2 := by decide +kernel
theorem eL_X12_ring : yX12_ring.cls = RX12 ∧ yX12_ring.cls ≠ "java/lang/invoke/MethodHandle" ∧ yX12_ring.cls ≠ "java/lang/invoke/VarHandle" ∧ (parseMethodDescriptor yX12_ring.desc).map (fun d => d.parameters.length) = some 2 := by decide +kernel
set_option maxHeartbeats 4000000 in
set_option maxRecDepth 100000 in
theorem law_25 {l : Launch} {p : Program} {e : Env} {s : State} {m : MethodId} {below : List Frame} {meth : Method} {c : Code} {D : va_G} {A : Nat → Prop} {cells slots : Nat} {Q : State → Prop} {b L : Nat} {xs : Nat → Int32} {i : Int32} {cI cJ cZ cH : ClassId} {ad : Nat → Nat} {ws : va_W} (hX : va_X b L xs s s.heap) (hbl : b < s.heap.size) (hbA : ¬ A b) (hin : ∀ j : Nat, j < 8 → vp_in (i + nI j) L) (hL : LawS cI cJ cZ cH ad cells slots ws) (kk : ∀ cells slots ws, LawS cI cJ cZ cH ad cells slots ws → WX p l e room_1 s m #[.ref b] below meth c code RL lwG D [(cI, .int), (cJ, .long), (cZ, .boolean), (cH, .object "TinHouse$House")] A 4 cells slots Q ws 1813 [(3, .int i), (2, .ref (ad 57)), (1, .ref (ad 0)), (0, .ref b)] []) : WX p l e room_1 s m #[.ref b] below meth c code RL lwG D [(cI, .int), (cJ, .long), (cZ, .boolean), (cH, .object "TinHouse$House")] A 4 cells slots Q ws 1190 [(3, .int i), (2, .ref (ad 57)), (1, .ref (ad 0)), (0, .ref b)] [] := by
  obtain ⟨Z, tl, rfl, ⟨hS, h, hs1, hs2, hs3, ha1, ha2, him⟩, hb1, hb2⟩ := hL
  have hcs : cells ≤ room_1.cells := Nat.le_trans (Nat.le_add_right _ _) hb1
  have hss : slots ≤ room_1.slots := Nat.le_trans (Nat.le_add_right _ _) hb2
  refine ii_aload_n 2 dL_law_1190 rfl ?_
  refine ii_aload_n 3 dL_law_1191 rfl ?_
  refine ii_iload_n 0 dL_law_1192 rfl ?_
  refine ii_iconst dL_law_1193 kc1 ?_
  refine ii_iadd dL_law_1194 ?_
  refine ii_sld hX hbl hbA (hin 1 (by decide)) dL_law_1195 ?_
  refine ii_aload_n 3 dL_law_1196 rfl ?_
  refine ii_iload_n 0 dL_law_1197 rfl ?_
  refine ii_iconst dL_law_1198 kc2 ?_
  refine ii_iadd dL_law_1199 ?_
  refine ii_sld hX hbl hbA (hin 2 (by decide)) dL_law_1200 ?_
  obtain ⟨o1, o2, e1, e2, q1⟩ := (P_ring h _ _ _ _ _ _ _ _ _ _ _ _ _ _ _ _ _ _ _ _ _ _ _ _ : Two (F_X11_ring (flL 7 (Z 32)) (flI 3 (Z 32)) (flI 2 (Z 32)) (flI 4 (Z 32)) (flI 6 (Z 32)) (arL (Z 33)) (flI 5 (Z 32)) (arL (Z 35)) (arL (Z 37)) (arL (Z 38)) (arI (Z 43)) (arI (Z 42)) (tcZ Z 2) (trZ Z 2) (tcZ Z 3) (trZ Z 3) (tcZ Z 0) (trZ Z 0) (tcZ Z 4) (trZ Z 4) (xs (i + 1).toNatClampNeg) (xs (i + 2).toNatClampNeg)) (F_X12_ring (arI (Z 70)) (arL (Z 65)) (arI (Z 69)) (arI (Z 71)) (arI (Z 58)) (arI (Z 61)) (flI 5 (Z 57)) (arL (Z 64)) (flI 8 (Z 57)) (arI (Z 63)) (arI (Z 62)) (xs (i + 1).toNatClampNeg) (xs (i + 2).toNatClampNeg)) _)
  refine ii_callZi (nW := 79) (ad := ad) (Z := Z) (setl Z [(43, .inl (cI, 10, .inl o1.2.2.2.2.2.2.2.2.2.2.2.1)), (42, .inl (cI, 10, .inl o1.2.2.2.2.2.2.2.2.2.2.2.2)), (38, .inl (cJ, 100, .inr (.inl o1.2.2.2.2.2.2.2.2.2.2.1))), (37, .inl (cJ, 10, .inr (.inl o1.2.2.2.2.2.2.2.2.2.1))), (35, .inl (cJ, 100, .inr (.inl o1.2.2.2.2.2.2.2.2.1))), (33, .inl (cJ, 50, .inr (.inl o1.2.2.2.2.2.2.1))), (32, .inr (1, [.ref (ad 1), .ref (ad 33), .int o1.2.2.2.1, .int o1.2.2.1, .int o1.2.2.2.2.1, .int o1.2.2.2.2.2.2.2.1, .int o1.2.2.2.2.2.1, .long o1.2.1]))]) (tl := tl) (As := [.int (xs (i + 1).toNatClampNeg), .int (xs (i + 2).toNatClampNeg)]) (st := []) (c_X11_ring l D cI cJ cZ cH (ad 0) (ad 28) (ad 32) (ad 33) (ad 34) (ad 35) (ad 36) (ad 37) (ad 38) (ad 43) (ad 41) (ad 42) (ad 40) (ad 39) (ad 1) (ad 6) (ad 7) (ad 8) (ad 9) (ad 14) (ad 20) (ad 24) (ad 22) (ad 2) (ad 3) (ad 10) (ad 11) (ad 26) (ad 12) (ad 16) (ad 4) (ad 18) (ad 51) (ad 55) (ad 49) (ad 29) (ad 44) (ad 45) (flL 11 (Z 0)) (flL 12 (Z 0)) (flL 7 (Z 32)) (flI 3 (Z 32)) (flI 2 (Z 32)) (flI 4 (Z 32)) (flI 6 (Z 32)) (arL (Z 33)) (flI 5 (Z 32)) (arL (Z 35)) (arL (Z 37)) (arL (Z 38)) (arI (Z 43)) (arI (Z 42)) (tcZ Z 2) (trZ Z 2) (tcZ Z 3) (trZ Z 3) (tcZ Z 0) (trZ Z 0) (flI 14 (Z 1)) (flI 13 (Z 1)) (tcZ Z 4) (trZ Z 4) (xs (i + 1).toNatClampNeg) (xs (i + 2).toNatClampNeg) e1) gzL_121 rfl rfl rfl eL_X11_ring ⟨Nat.le_of_ble_eq_true rfl, Nat.le_of_ble_eq_true rfl⟩ rfl 0 (by decide) rfl (sh_0 hS) rfl [0, 32, 33, 34, 35, 36, 37, 38, 43, 42, 1, 6, 7, 8, 9, 2, 3, 10, 11] (zc_cons rfl (sh_0 hS) (zc_cons rfl (sh_32 hS) (zc_cons rfl (sh_33 hS) (zc_cons rfl (sh_34 hS) (zc_cons rfl (sh_35 hS) (zc_cons rfl (sh_36 hS) (zc_cons rfl (sh_37 hS) (zc_cons rfl (sh_38 hS) (zc_cons rfl (sh_43 hS) (zc_cons rfl (sh_42 hS) (zc_cons rfl (sh_1 hS) (zc_cons rfl (sh_6 hS) (zc_cons rfl (sh_7 hS) (zc_cons rfl (sh_8 hS) (zc_cons rfl (sh_9 hS) (zc_cons rfl (sh_2 hS) (zc_cons rfl (sh_3 hS) (zc_cons rfl (sh_10 hS) (zc_cons rfl (sh_11 hS) zc_nil))))))))))))))))))) (zc_cons rfl (zs (sh_0 hS) rfl) (zc_cons rfl rfl (zc_cons rfl rfl (zc_cons rfl (zs (sh_34 hS) rfl) (zc_cons rfl rfl (zc_cons rfl (zs (sh_36 hS) rfl) (zc_cons rfl rfl (zc_cons rfl rfl (zc_cons rfl rfl (zc_cons rfl rfl (zc_cons rfl (zs (sh_1 hS) rfl) (zc_cons rfl (zs (sh_6 hS) rfl) (zc_cons rfl (zs (sh_7 hS) rfl) (zc_cons rfl (zs (sh_8 hS) rfl) (zc_cons rfl (zs (sh_9 hS) rfl) (zc_cons rfl (zs (sh_2 hS) rfl) (zc_cons rfl (zs (sh_3 hS) rfl) (zc_cons rfl (zs (sh_10 hS) rfl) (zc_cons rfl (zs (sh_11 hS) rfl) zc_nil))))))))))))))))))) (setl_out rfl) rfl rfl (Nat.le_of_ble_eq_true rfl) hcs hss rfl dL_law_1201 ?_
  refine ii_aload_n 1 dL_law_1204 rfl ?_
  refine ii_aload_n 3 dL_law_1205 rfl ?_
  refine ii_iload_n 0 dL_law_1206 rfl ?_
  refine ii_iconst dL_law_1207 kc1 ?_
  refine ii_iadd dL_law_1208 ?_
  refine ii_sld hX hbl hbA (hin 1 (by decide)) dL_law_1209 ?_
  refine ii_aload_n 3 dL_law_1210 rfl ?_
  refine ii_iload_n 0 dL_law_1211 rfl ?_
  refine ii_iconst dL_law_1212 kc2 ?_
  refine ii_iadd dL_law_1213 ?_
  refine ii_sld hX hbl hbA (hin 2 (by decide)) dL_law_1214 ?_
  refine ii_callZi (nW := 79) (ad := ad) (Z := (setl Z [(43, .inl (cI, 10, .inl o1.2.2.2.2.2.2.2.2.2.2.2.1)), (42, .inl (cI, 10, .inl o1.2.2.2.2.2.2.2.2.2.2.2.2)), (38, .inl (cJ, 100, .inr (.inl o1.2.2.2.2.2.2.2.2.2.2.1))), (37, .inl (cJ, 10, .inr (.inl o1.2.2.2.2.2.2.2.2.2.1))), (35, .inl (cJ, 100, .inr (.inl o1.2.2.2.2.2.2.2.2.1))), (33, .inl (cJ, 50, .inr (.inl o1.2.2.2.2.2.2.1))), (32, .inr (1, [.ref (ad 1), .ref (ad 33), .int o1.2.2.2.1, .int o1.2.2.1, .int o1.2.2.2.2.1, .int o1.2.2.2.2.2.2.2.1, .int o1.2.2.2.2.2.1, .long o1.2.1]))])) (setl (setl Z [(43, .inl (cI, 10, .inl o1.2.2.2.2.2.2.2.2.2.2.2.1)), (42, .inl (cI, 10, .inl o1.2.2.2.2.2.2.2.2.2.2.2.2)), (38, .inl (cJ, 100, .inr (.inl o1.2.2.2.2.2.2.2.2.2.2.1))), (37, .inl (cJ, 10, .inr (.inl o1.2.2.2.2.2.2.2.2.2.1))), (35, .inl (cJ, 100, .inr (.inl o1.2.2.2.2.2.2.2.2.1))), (33, .inl (cJ, 50, .inr (.inl o1.2.2.2.2.2.2.1))), (32, .inr (1, [.ref (ad 1), .ref (ad 33), .int o1.2.2.2.1, .int o1.2.2.1, .int o1.2.2.2.2.1, .int o1.2.2.2.2.2.2.2.1, .int o1.2.2.2.2.2.1, .long o1.2.1]))]) [(71, .inl (cI, 10, .inl o2.2.2.2.2.1)), (70, .inl (cZ, 110, .inl o2.2.1)), (69, .inl (cZ, 100, .inl o2.2.2.2.1)), (65, .inl (cJ, 5, .inr (.inl o2.2.2.1))), (64, .inl (cJ, 70, .inr (.inl o2.2.2.2.2.2.2.2.1))), (63, .inl (cI, 70, .inl o2.2.2.2.2.2.2.2.2.2.1)), (62, .inl (cI, 70, .inl o2.2.2.2.2.2.2.2.2.2.2)), (61, .inl (cI, 70, .inl o2.2.2.2.2.2.1)), (57, .inr (12, [.ref (ad 58), .ref (ad 59), .ref (ad 60), .long (flL 11 (Z 0)), .long (flL 12 (Z 0)), .int o2.2.2.2.2.2.2.1, .ref (ad 61), .ref (ad 62), .int o2.2.2.2.2.2.2.2.2.1, .ref (ad 63), .ref (ad 64), .ref (ad 65), .ref (ad 66), .ref (ad 67), .ref (ad 68), .ref (ad 69), .ref (ad 70), .ref (ad 71), .ref (ad 72), .ref (ad 73), .ref (ad 74), .ref (ad 75), .ref (ad 76), .ref (ad 77), .ref (ad 78)]))]) (tl := tl) (As := [.int (xs (i + 1).toNatClampNeg), .int (xs (i + 2).toNatClampNeg)]) (st := [.int o1.1]) (c_X12_ring l D cI cJ cZ cH (ad 57) (ad 72) (ad 77) (ad 70) (ad 65) (ad 59) (ad 60) (ad 76) (ad 75) (ad 68) (ad 66) (ad 74) (ad 69) (ad 71) (ad 78) (ad 58) (ad 61) (ad 73) (ad 67) (ad 64) (ad 63) (ad 62) (flL 11 (Z 0)) (flL 12 (Z 0)) (arI (Z 70)) (arL (Z 65)) (arI (Z 69)) (arI (Z 71)) (arI (Z 58)) (arI (Z 61)) (flI 5 (Z 57)) (arL (Z 64)) (flI 8 (Z 57)) (arI (Z 63)) (arI (Z 62)) (xs (i + 1).toNatClampNeg) (xs (i + 2).toNatClampNeg) e2) gzL_124 rfl rfl rfl eL_X12_ring ⟨Nat.le_of_ble_eq_true rfl, Nat.le_of_ble_eq_true rfl⟩ rfl 57 (by decide) rfl (zs (sh_57a hS ha1 ha2) rfl) rfl [57, 70, 65, 69, 71, 58, 61, 64, 63, 62] (zc_cons rfl (zs (sh_57a hS ha1 ha2) rfl) (zc_cons rfl (zs (sh_70 hS) rfl) (zc_cons rfl (zs (sh_65 hS) rfl) (zc_cons rfl (zs (sh_69 hS) rfl) (zc_cons rfl (zs (sh_71 hS) rfl) (zc_cons rfl (zs (sh_58 hS) rfl) (zc_cons rfl (zs (sh_61 hS) rfl) (zc_cons rfl (zs (sh_64 hS) rfl) (zc_cons rfl (zs (sh_63 hS) rfl) (zc_cons rfl (zs (sh_62 hS) rfl) zc_nil)))))))))) (zc_cons rfl rfl (zc_cons rfl rfl (zc_cons rfl rfl (zc_cons rfl rfl (zc_cons rfl rfl (zc_cons rfl (zs (sh_58 hS) rfl) (zc_cons rfl rfl (zc_cons rfl rfl (zc_cons rfl rfl (zc_cons rfl rfl zc_nil)))))))))) (setl_out rfl) rfl rfl (Nat.le_of_ble_eq_true rfl) hcs hss rfl dL_law_1215 ?_
  refine ii_icmp_eq (tgt := 1813) (r := ()) (ET := some ()) (EF := none) (if_pos q1) dL_law_1218 (by decide) (fun _ => ?_) (fun z => absurd z (by simp))
  exact kk _ _ _ ⟨setl (setl Z [(43, .inl (cI, 10, .inl o1.2.2.2.2.2.2.2.2.2.2.2.1)), (42, .inl (cI, 10, .inl o1.2.2.2.2.2.2.2.2.2.2.2.2)), (38, .inl (cJ, 100, .inr (.inl o1.2.2.2.2.2.2.2.2.2.2.1))), (37, .inl (cJ, 10, .inr (.inl o1.2.2.2.2.2.2.2.2.2.1))), (35, .inl (cJ, 100, .inr (.inl o1.2.2.2.2.2.2.2.2.1))), (33, .inl (cJ, 50, .inr (.inl o1.2.2.2.2.2.2.1))), (32, .inr (1, [.ref (ad 1), .ref (ad 33), .int o1.2.2.2.1, .int o1.2.2.1, .int o1.2.2.2.2.1, .int o1.2.2.2.2.2.2.2.1, .int o1.2.2.2.2.2.1, .long o1.2.1]))]) [(71, .inl (cI, 10, .inl o2.2.2.2.2.1)), (70, .inl (cZ, 110, .inl o2.2.1)), (69, .inl (cZ, 100, .inl o2.2.2.2.1)), (65, .inl (cJ, 5, .inr (.inl o2.2.2.1))), (64, .inl (cJ, 70, .inr (.inl o2.2.2.2.2.2.2.2.1))), (63, .inl (cI, 70, .inl o2.2.2.2.2.2.2.2.2.2.1)), (62, .inl (cI, 70, .inl o2.2.2.2.2.2.2.2.2.2.2)), (61, .inl (cI, 70, .inl o2.2.2.2.2.2.1)), (57, .inr (12, [.ref (ad 58), .ref (ad 59), .ref (ad 60), .long (flL 11 (Z 0)), .long (flL 12 (Z 0)), .int o2.2.2.2.2.2.2.1, .ref (ad 61), .ref (ad 62), .int o2.2.2.2.2.2.2.2.2.1, .ref (ad 63), .ref (ad 64), .ref (ad 65), .ref (ad 66), .ref (ad 67), .ref (ad 68), .ref (ad 69), .ref (ad 70), .ref (ad 71), .ref (ad 72), .ref (ad 73), .ref (ad 74), .ref (ad 75), .ref (ad 76), .ref (ad 77), .ref (ad 78)]))], tl, rfl, law_fin (tc' := (tcZ Z)) (tr' := (trZ Z)) (nar' := (flI 13 (Z 1))) (nam' := (flI 14 (Z 1))) (st' := (arI (Z 58))) hS (ok_cons ok_43 (ok_cons ok_42 (ok_cons ok_38 (ok_cons ok_37 (ok_cons ok_35 (ok_cons ok_33 (ok_cons ok_32 ok_nil))))))) (ok_cons ok_71 (ok_cons ok_70 (ok_cons ok_69 (ok_cons ok_65 (ok_cons ok_64 (ok_cons ok_63 (ok_cons ok_62 (ok_cons ok_61 (ok_cons ok_57 ok_nil))))))))) rfl rfl rfl rfl rfl rfl rfl h hs1 hs2 hs3 rfl rfl him, hb1, hb2⟩

theorem dL_law_1223 : decode cL_law 1223 = .ok (.aload_n 1, 1) := by decide +kernel
theorem dL_law_1224 : decode cL_law 1224 = .ok (.aload_n 0, 1) := by decide +kernel
theorem dL_law_1225 : decode cL_law 1225 = .ok (.iload_n 3, 1) := by decide +kernel
theorem dL_law_1226 : decode cL_law 1226 = .ok (.iconst 1, 1) := by decide +kernel
theorem dL_law_1227 : decode cL_law 1227 = .ok (.iadd, 1) := by decide +kernel
theorem dL_law_1228 : decode cL_law 1228 = .ok (.iaload, 1) := by decide +kernel
theorem dL_law_1229 : decode cL_law 1229 = .ok (.invokevirtual 125, 3) := by decide +kernel
theorem dL_law_1232 : decode cL_law 1232 = .ok (.aload_n 2, 1) := by decide +kernel
theorem dL_law_1233 : decode cL_law 1233 = .ok (.aload_n 0, 1) := by decide +kernel
theorem dL_law_1234 : decode cL_law 1234 = .ok (.iload_n 3, 1) := by decide +kernel
theorem dL_law_1235 : decode cL_law 1235 = .ok (.iconst 1, 1) := by decide +kernel
theorem dL_law_1236 : decode cL_law 1236 = .ok (.iadd, 1) := by decide +kernel
theorem dL_law_1237 : decode cL_law 1237 = .ok (.iaload, 1) := by decide +kernel
theorem dL_law_1238 : decode cL_law 1238 = .ok (.invokevirtual 128, 3) := by decide +kernel
theorem dL_law_1241 : decode cL_law 1241 = .ok (.if_icmp .eq 572, 3) := by decide +kernel
theorem eL_X11_names : yX11_names.cls = RX11 ∧ yX11_names.cls ≠ "java/lang/invoke/MethodHandle" ∧ yX11_names.cls ≠ "java/lang/invoke/VarHandle" ∧ (parseMethodDescriptor yX11_names.desc).map (fun d => d.parameters.length) = some 1 := by decide +kernel
theorem eL_X12_names : yX12_names.cls = RX12 ∧ yX12_names.cls ≠ "java/lang/invoke/MethodHandle" ∧ yX12_names.cls ≠ "java/lang/invoke/VarHandle" ∧ (parseMethodDescriptor yX12_names.desc).map (fun d => d.parameters.length) = some 1 := by decide +kernel
set_option maxHeartbeats 4000000 in
set_option maxRecDepth 100000 in
theorem law_26 {l : Launch} {p : Program} {e : Env} {s : State} {m : MethodId} {below : List Frame} {meth : Method} {c : Code} {D : va_G} {A : Nat → Prop} {cells slots : Nat} {Q : State → Prop} {b L : Nat} {xs : Nat → Int32} {i : Int32} {cI cJ cZ cH : ClassId} {ad : Nat → Nat} {ws : va_W} (hX : va_X b L xs s s.heap) (hbl : b < s.heap.size) (hbA : ¬ A b) (hin : ∀ j : Nat, j < 8 → vp_in (i + nI j) L) (hL : LawS cI cJ cZ cH ad cells slots ws) (kk : ∀ cells slots ws, LawS cI cJ cZ cH ad cells slots ws → WX p l e room_1 s m #[.ref b] below meth c code RL lwG D [(cI, .int), (cJ, .long), (cZ, .boolean), (cH, .object "TinHouse$House")] A 4 cells slots Q ws 1813 [(3, .int i), (2, .ref (ad 57)), (1, .ref (ad 0)), (0, .ref b)] []) : WX p l e room_1 s m #[.ref b] below meth c code RL lwG D [(cI, .int), (cJ, .long), (cZ, .boolean), (cH, .object "TinHouse$House")] A 4 cells slots Q ws 1223 [(3, .int i), (2, .ref (ad 57)), (1, .ref (ad 0)), (0, .ref b)] [] := by
  obtain ⟨Z, tl, rfl, ⟨hS, h, hs1, hs2, hs3, ha1, ha2, him⟩, hb1, hb2⟩ := hL
  have hcs : cells ≤ room_1.cells := Nat.le_trans (Nat.le_add_right _ _) hb1
  have hss : slots ≤ room_1.slots := Nat.le_trans (Nat.le_add_right _ _) hb2
  refine ii_aload_n 2 dL_law_1223 rfl ?_
  refine ii_aload_n 3 dL_law_1224 rfl ?_
  refine ii_iload_n 0 dL_law_1225 rfl ?_
  refine ii_iconst dL_law_1226 kc1 ?_
  refine ii_iadd dL_law_1227 ?_
  refine ii_sld hX hbl hbA (hin 1 (by decide)) dL_law_1228 ?_
  obtain ⟨o1, o2, e1, e2, q1, q2⟩ := (P_names h _ : Two (F_X11_names (flI 14 (Z 1)) (trZ Z 8) (xs (i + 1).toNatClampNeg)) (F_X12_names (arI (Z 58)) (xs (i + 1).toNatClampNeg)) _)
  refine ii_callZi (nW := 79) (ad := ad) (Z := Z) (setl Z [(18, .inr (8, [.int (3 : Int32), .int (40 : Int32), .ref (ad 19), .int o1.2.2])), (1, .inr (0, [.ref (ad 2), .ref (ad 4), .ref (ad 6), .ref (ad 8), .ref (ad 10), .ref (ad 12), .ref (ad 14), .ref (ad 16), .ref (ad 18), .ref (ad 20), .ref (ad 22), .ref (ad 24), .ref (ad 26), .int (flI 13 (Z 1)), .int o1.2.1]))]) (tl := tl) (As := [.int (xs (i + 1).toNatClampNeg)]) (st := []) (c_X11_names l D cI cJ cZ cH (ad 0) (ad 28) (ad 32) (ad 34) (ad 36) (ad 1) (ad 6) (ad 8) (ad 14) (ad 20) (ad 24) (ad 22) (ad 2) (ad 10) (ad 26) (ad 12) (ad 16) (ad 4) (ad 18) (ad 19) (ad 51) (ad 55) (ad 49) (ad 29) (ad 44) (ad 45) (flL 11 (Z 0)) (flL 12 (Z 0)) (flI 14 (Z 1)) (flI 13 (Z 1)) (trZ Z 8) (xs (i + 1).toNatClampNeg) e1) gzL_125 rfl rfl rfl eL_X11_names ⟨Nat.le_of_ble_eq_true rfl, Nat.le_of_ble_eq_true rfl⟩ rfl 0 (by decide) rfl (sh_0 hS) rfl [0, 1, 18] (zc_cons rfl (sh_0 hS) (zc_cons rfl (sh_1 hS) (zc_cons rfl (sh_18 hS) zc_nil))) (zc_cons rfl (zs (sh_0 hS) rfl) (zc_cons rfl rfl (zc_cons rfl rfl zc_nil))) (setl_out rfl) rfl rfl (Nat.le_of_ble_eq_true rfl) hcs hss rfl dL_law_1229 ?_
  refine ii_aload_n 1 dL_law_1232 rfl ?_
  refine ii_aload_n 3 dL_law_1233 rfl ?_
  refine ii_iload_n 0 dL_law_1234 rfl ?_
  refine ii_iconst dL_law_1235 kc1 ?_
  refine ii_iadd dL_law_1236 ?_
  refine ii_sld hX hbl hbA (hin 1 (by decide)) dL_law_1237 ?_
  refine ii_callZi (nW := 79) (ad := ad) (Z := (setl Z [(18, .inr (8, [.int (3 : Int32), .int (40 : Int32), .ref (ad 19), .int o1.2.2])), (1, .inr (0, [.ref (ad 2), .ref (ad 4), .ref (ad 6), .ref (ad 8), .ref (ad 10), .ref (ad 12), .ref (ad 14), .ref (ad 16), .ref (ad 18), .ref (ad 20), .ref (ad 22), .ref (ad 24), .ref (ad 26), .int (flI 13 (Z 1)), .int o1.2.1]))])) (setl (setl Z [(18, .inr (8, [.int (3 : Int32), .int (40 : Int32), .ref (ad 19), .int o1.2.2])), (1, .inr (0, [.ref (ad 2), .ref (ad 4), .ref (ad 6), .ref (ad 8), .ref (ad 10), .ref (ad 12), .ref (ad 14), .ref (ad 16), .ref (ad 18), .ref (ad 20), .ref (ad 22), .ref (ad 24), .ref (ad 26), .int (flI 13 (Z 1)), .int o1.2.1]))]) [(58, .inl (cI, 1951, .inl o2.2))]) (tl := tl) (As := [.int (xs (i + 1).toNatClampNeg)]) (st := [.int o1.1]) (c_X12_names l D cI cJ cZ cH (ad 57) (ad 72) (ad 77) (ad 70) (ad 65) (ad 59) (ad 60) (ad 76) (ad 75) (ad 68) (ad 66) (ad 74) (ad 69) (ad 71) (ad 78) (ad 58) (ad 61) (ad 73) (ad 67) (ad 64) (ad 63) (ad 62) (flL 11 (Z 0)) (flL 12 (Z 0)) (arI (Z 58)) (flI 5 (Z 57)) (flI 8 (Z 57)) (xs (i + 1).toNatClampNeg) e2) gzL_128 rfl rfl rfl eL_X12_names ⟨Nat.le_of_ble_eq_true rfl, Nat.le_of_ble_eq_true rfl⟩ rfl 57 (by decide) rfl (zs (sh_57a hS ha1 ha2) rfl) rfl [57, 58] (zc_cons rfl (zs (sh_57a hS ha1 ha2) rfl) (zc_cons rfl (zs (sh_58 hS) rfl) zc_nil)) (zc_cons rfl (zs (sh_57a hS ha1 ha2) rfl) (zc_cons rfl rfl zc_nil)) (setl_out rfl) rfl rfl (Nat.le_of_ble_eq_true rfl) hcs hss rfl dL_law_1238 ?_
  refine ii_icmp_eq (tgt := 1813) (r := ()) (ET := some ()) (EF := none) (if_pos q1) dL_law_1241 (by decide) (fun _ => ?_) (fun z => absurd z (by simp))
  exact kk _ _ _ ⟨setl (setl Z [(18, .inr (8, [.int (3 : Int32), .int (40 : Int32), .ref (ad 19), .int o1.2.2])), (1, .inr (0, [.ref (ad 2), .ref (ad 4), .ref (ad 6), .ref (ad 8), .ref (ad 10), .ref (ad 12), .ref (ad 14), .ref (ad 16), .ref (ad 18), .ref (ad 20), .ref (ad 22), .ref (ad 24), .ref (ad 26), .int (flI 13 (Z 1)), .int o1.2.1]))]) [(58, .inl (cI, 1951, .inl o2.2))], tl, rfl, law_fin (tc' := (tcZ Z)) (tr' := (va_up (trZ Z) 8 o1.2.2)) (nar' := (flI 13 (Z 1))) (nam' := o1.2.1) (st' := o2.2) hS (ok_cons ok_18 (ok_cons ok_1 ok_nil)) (ok_cons ok_58 ok_nil) rfl rfl rfl rfl rfl rfl rfl q2 hs1 hs2 hs3 ha1 ha2 him, hb1, hb2⟩

theorem dL_law_1246 : decode cL_law 1246 = .ok (.aload_n 1, 1) := by decide +kernel
theorem dL_law_1247 : decode cL_law 1247 = .ok (.aload_n 0, 1) := by decide +kernel
theorem dL_law_1248 : decode cL_law 1248 = .ok (.iload_n 3, 1) := by decide +kernel
theorem dL_law_1249 : decode cL_law 1249 = .ok (.iconst 1, 1) := by decide +kernel
theorem dL_law_1250 : decode cL_law 1250 = .ok (.iadd, 1) := by decide +kernel
theorem dL_law_1251 : decode cL_law 1251 = .ok (.iaload, 1) := by decide +kernel
theorem dL_law_1252 : decode cL_law 1252 = .ok (.aload_n 0, 1) := by decide +kernel
theorem dL_law_1253 : decode cL_law 1253 = .ok (.iload_n 3, 1) := by decide +kernel
theorem dL_law_1254 : decode cL_law 1254 = .ok (.iconst 2, 1) := by decide +kernel
theorem dL_law_1255 : decode cL_law 1255 = .ok (.iadd, 1) := by decide +kernel
theorem dL_law_1256 : decode cL_law 1256 = .ok (.iaload, 1) := by decide +kernel
theorem dL_law_1257 : decode cL_law 1257 = .ok (.aload_n 0, 1) := by decide +kernel
theorem dL_law_1258 : decode cL_law 1258 = .ok (.iload_n 3, 1) := by decide +kernel
theorem dL_law_1259 : decode cL_law 1259 = .ok (.iconst 3, 1) := by decide +kernel
theorem dL_law_1260 : decode cL_law 1260 = .ok (.iadd, 1) := by decide +kernel
theorem dL_law_1261 : decode cL_law 1261 = .ok (.iaload, 1) := by decide +kernel
theorem dL_law_1262 : decode cL_law 1262 = .ok (.invokevirtual 129, 3) := by decide +kernel
theorem dL_law_1265 : decode cL_law 1265 = .ok (.aload_n 2, 1) := by decide +kernel
theorem dL_law_1266 : decode cL_law 1266 = .ok (.aload_n 0, 1) := by decide +kernel
theorem dL_law_1267 : decode cL_law 1267 = .ok (.iload_n 3, 1) := by decide +kernel
theorem dL_law_1268 : decode cL_law 1268 = .ok (.iconst 1, 1) := by decide +kernel
theorem dL_law_1269 : decode cL_law 1269 = .ok (.iadd, 1) := by decide +kernel
theorem dL_law_1270 : decode cL_law 1270 = .ok (.iaload, 1) := by decide +kernel
theorem dL_law_1271 : decode cL_law 1271 = .ok (.aload_n 0, 1) := by decide +kernel
theorem dL_law_1272 : decode cL_law 1272 = .ok (.iload_n 3, 1) := by decide +kernel
theorem dL_law_1273 : decode cL_law 1273 = .ok (.iconst 2, 1) := by decide +kernel
theorem dL_law_1274 : decode cL_law 1274 = .ok (.iadd, 1) := by decide +kernel
theorem dL_law_1275 : decode cL_law 1275 = .ok (.iaload, 1) := by decide +kernel
theorem dL_law_1276 : decode cL_law 1276 = .ok (.aload_n 0, 1) := by decide +kernel
theorem dL_law_1277 : decode cL_law 1277 = .ok (.iload_n 3, 1) := by decide +kernel
theorem dL_law_1278 : decode cL_law 1278 = .ok (.iconst 3, 1) := by decide +kernel
theorem dL_law_1279 : decode cL_law 1279 = .ok (.iadd, 1) := by decide +kernel
theorem dL_law_1280 : decode cL_law 1280 = .ok (.iaload, 1) := by decide +kernel
theorem dL_law_1281 : decode cL_law 1281 = .ok (.invokevirtual 132, 3) := by decide +kernel
theorem dL_law_1284 : decode cL_law 1284 = .ok (.if_icmp .eq 529, 3) := by decide +kernel
theorem eL_X11_ahead : yX11_ahead.cls = RX11 ∧ yX11_ahead.cls ≠ "java/lang/invoke/MethodHandle" ∧ yX11_ahead.cls ≠ "java/lang/invoke/VarHandle" ∧ (parseMethodDescriptor yX11_ahead.desc).map (fun d => d.parameters.length) = some 3 := by decide +kernel
theorem eL_X12_ahead : yX12_ahead.cls = RX12 ∧ yX12_ahead.cls ≠ "java/lang/invoke/MethodHandle" ∧ yX12_ahead.cls ≠ "java/lang/invoke/VarHandle" ∧ (parseMethodDescriptor yX12_ahead.desc).map (fun d => d.parameters.length) = some 3 := by decide +kernel
set_option maxHeartbeats 4000000 in
set_option maxRecDepth 100000 in
theorem law_27 {l : Launch} {p : Program} {e : Env} {s : State} {m : MethodId} {below : List Frame} {meth : Method} {c : Code} {D : va_G} {A : Nat → Prop} {cells slots : Nat} {Q : State → Prop} {b L : Nat} {xs : Nat → Int32} {i : Int32} {cI cJ cZ cH : ClassId} {ad : Nat → Nat} {ws : va_W} (hX : va_X b L xs s s.heap) (hbl : b < s.heap.size) (hbA : ¬ A b) (hin : ∀ j : Nat, j < 8 → vp_in (i + nI j) L) (hL : LawS cI cJ cZ cH ad cells slots ws) (kk : ∀ cells slots ws, LawS cI cJ cZ cH ad cells slots ws → WX p l e room_1 s m #[.ref b] below meth c code RL lwG D [(cI, .int), (cJ, .long), (cZ, .boolean), (cH, .object "TinHouse$House")] A 4 cells slots Q ws 1813 [(3, .int i), (2, .ref (ad 57)), (1, .ref (ad 0)), (0, .ref b)] []) : WX p l e room_1 s m #[.ref b] below meth c code RL lwG D [(cI, .int), (cJ, .long), (cZ, .boolean), (cH, .object "TinHouse$House")] A 4 cells slots Q ws 1246 [(3, .int i), (2, .ref (ad 57)), (1, .ref (ad 0)), (0, .ref b)] [] := by
  obtain ⟨Z, tl, rfl, ⟨hS, h, hs1, hs2, hs3, ha1, ha2, him⟩, hb1, hb2⟩ := hL
  have hcs : cells ≤ room_1.cells := Nat.le_trans (Nat.le_add_right _ _) hb1
  have hss : slots ≤ room_1.slots := Nat.le_trans (Nat.le_add_right _ _) hb2
  refine ii_aload_n 2 dL_law_1246 rfl ?_
  refine ii_aload_n 3 dL_law_1247 rfl ?_
  refine ii_iload_n 0 dL_law_1248 rfl ?_
  refine ii_iconst dL_law_1249 kc1 ?_
  refine ii_iadd dL_law_1250 ?_
  refine ii_sld hX hbl hbA (hin 1 (by decide)) dL_law_1251 ?_
  refine ii_aload_n 3 dL_law_1252 rfl ?_
  refine ii_iload_n 0 dL_law_1253 rfl ?_
  refine ii_iconst dL_law_1254 kc2 ?_
  refine ii_iadd dL_law_1255 ?_
  refine ii_sld hX hbl hbA (hin 2 (by decide)) dL_law_1256 ?_
  refine ii_aload_n 3 dL_law_1257 rfl ?_
  refine ii_iload_n 0 dL_law_1258 rfl ?_
  refine ii_iconst dL_law_1259 kc3 ?_
  refine ii_iadd dL_law_1260 ?_
  refine ii_sld hX hbl hbA (hin 3 (by decide)) dL_law_1261 ?_
  obtain ⟨o1, o2, e1, e2, q1, q2⟩ := (P_ahead h _ _ _ : Two (F_X11_ahead (flI 14 (Z 1)) (tcZ Z 8) (trZ Z 8) (xs (i + 1).toNatClampNeg) (xs (i + 2).toNatClampNeg) (xs (i + 3).toNatClampNeg)) (F_X12_ahead (arI (Z 58)) (xs (i + 1).toNatClampNeg) (xs (i + 2).toNatClampNeg) (xs (i + 3).toNatClampNeg)) _)
  refine ii_callZi (nW := 79) (ad := ad) (Z := Z) (setl Z [(19, .inl (cI, 120, .inl o1.2.1)), (18, .inr (8, [.int (3 : Int32), .int (40 : Int32), .ref (ad 19), .int o1.2.2]))]) (tl := tl) (As := [.int (xs (i + 1).toNatClampNeg), .int (xs (i + 2).toNatClampNeg), .int (xs (i + 3).toNatClampNeg)]) (st := []) (c_X11_ahead l D cI cJ cZ cH (ad 0) (ad 28) (ad 32) (ad 34) (ad 36) (ad 1) (ad 6) (ad 8) (ad 14) (ad 20) (ad 24) (ad 22) (ad 2) (ad 10) (ad 26) (ad 12) (ad 16) (ad 4) (ad 18) (ad 19) (ad 51) (ad 55) (ad 49) (ad 29) (ad 44) (ad 45) (flL 11 (Z 0)) (flL 12 (Z 0)) (flI 14 (Z 1)) (flI 13 (Z 1)) (tcZ Z 8) (trZ Z 8) (xs (i + 1).toNatClampNeg) (xs (i + 2).toNatClampNeg) (xs (i + 3).toNatClampNeg) e1) gzL_129 rfl rfl rfl eL_X11_ahead ⟨Nat.le_of_ble_eq_true rfl, Nat.le_of_ble_eq_true rfl⟩ rfl 0 (by decide) rfl (sh_0 hS) rfl [0, 1, 18, 19] (zc_cons rfl (sh_0 hS) (zc_cons rfl (sh_1 hS) (zc_cons rfl (sh_18 hS) (zc_cons rfl (sh_19 hS) zc_nil)))) (zc_cons rfl (zs (sh_0 hS) rfl) (zc_cons rfl (zs (sh_1 hS) rfl) (zc_cons rfl rfl (zc_cons rfl rfl zc_nil)))) (setl_out rfl) rfl rfl (Nat.le_of_ble_eq_true rfl) hcs hss rfl dL_law_1262 ?_
  refine ii_aload_n 1 dL_law_1265 rfl ?_
  refine ii_aload_n 3 dL_law_1266 rfl ?_
  refine ii_iload_n 0 dL_law_1267 rfl ?_
  refine ii_iconst dL_law_1268 kc1 ?_
  refine ii_iadd dL_law_1269 ?_
  refine ii_sld hX hbl hbA (hin 1 (by decide)) dL_law_1270 ?_
  refine ii_aload_n 3 dL_law_1271 rfl ?_
  refine ii_iload_n 0 dL_law_1272 rfl ?_
  refine ii_iconst dL_law_1273 kc2 ?_
  refine ii_iadd dL_law_1274 ?_
  refine ii_sld hX hbl hbA (hin 2 (by decide)) dL_law_1275 ?_
  refine ii_aload_n 3 dL_law_1276 rfl ?_
  refine ii_iload_n 0 dL_law_1277 rfl ?_
  refine ii_iconst dL_law_1278 kc3 ?_
  refine ii_iadd dL_law_1279 ?_
  refine ii_sld hX hbl hbA (hin 3 (by decide)) dL_law_1280 ?_
  refine ii_callZi (nW := 79) (ad := ad) (Z := (setl Z [(19, .inl (cI, 120, .inl o1.2.1)), (18, .inr (8, [.int (3 : Int32), .int (40 : Int32), .ref (ad 19), .int o1.2.2]))])) (setl (setl Z [(19, .inl (cI, 120, .inl o1.2.1)), (18, .inr (8, [.int (3 : Int32), .int (40 : Int32), .ref (ad 19), .int o1.2.2]))]) [(58, .inl (cI, 1951, .inl o2.2))]) (tl := tl) (As := [.int (xs (i + 1).toNatClampNeg), .int (xs (i + 2).toNatClampNeg), .int (xs (i + 3).toNatClampNeg)]) (st := [.int o1.1]) (c_X12_ahead l D cI cJ cZ cH (ad 57) (ad 72) (ad 77) (ad 70) (ad 65) (ad 59) (ad 60) (ad 76) (ad 75) (ad 68) (ad 66) (ad 74) (ad 69) (ad 71) (ad 78) (ad 58) (ad 61) (ad 73) (ad 67) (ad 64) (ad 63) (ad 62) (flL 11 (Z 0)) (flL 12 (Z 0)) (arI (Z 58)) (flI 5 (Z 57)) (flI 8 (Z 57)) (xs (i + 1).toNatClampNeg) (xs (i + 2).toNatClampNeg) (xs (i + 3).toNatClampNeg) e2) gzL_132 rfl rfl rfl eL_X12_ahead ⟨Nat.le_of_ble_eq_true rfl, Nat.le_of_ble_eq_true rfl⟩ rfl 57 (by decide) rfl (zs (sh_57a hS ha1 ha2) rfl) rfl [57, 58] (zc_cons rfl (zs (sh_57a hS ha1 ha2) rfl) (zc_cons rfl (zs (sh_58 hS) rfl) zc_nil)) (zc_cons rfl (zs (sh_57a hS ha1 ha2) rfl) (zc_cons rfl rfl zc_nil)) (setl_out rfl) rfl rfl (Nat.le_of_ble_eq_true rfl) hcs hss rfl dL_law_1281 ?_
  refine ii_icmp_eq (tgt := 1813) (r := ()) (ET := some ()) (EF := none) (if_pos q1) dL_law_1284 (by decide) (fun _ => ?_) (fun z => absurd z (by simp))
  exact kk _ _ _ ⟨setl (setl Z [(19, .inl (cI, 120, .inl o1.2.1)), (18, .inr (8, [.int (3 : Int32), .int (40 : Int32), .ref (ad 19), .int o1.2.2]))]) [(58, .inl (cI, 1951, .inl o2.2))], tl, rfl, law_fin (tc' := (va_up (tcZ Z) 8 o1.2.1)) (tr' := (va_up (trZ Z) 8 o1.2.2)) (nar' := (flI 13 (Z 1))) (nam' := (flI 14 (Z 1))) (st' := o2.2) hS (ok_cons ok_19 (ok_cons ok_18 ok_nil)) (ok_cons ok_58 ok_nil) rfl rfl rfl rfl rfl rfl rfl q2 hs1 hs2 hs3 ha1 ha2 him, hb1, hb2⟩

theorem dL_law_1289 : decode cL_law 1289 = .ok (.aload_n 1, 1) := by decide +kernel
theorem dL_law_1290 : decode cL_law 1290 = .ok (.aload_n 0, 1) := by decide +kernel
theorem dL_law_1291 : decode cL_law 1291 = .ok (.iload_n 3, 1) := by decide +kernel
theorem dL_law_1292 : decode cL_law 1292 = .ok (.iconst 1, 1) := by decide +kernel
theorem dL_law_1293 : decode cL_law 1293 = .ok (.iadd, 1) := by decide +kernel
theorem dL_law_1294 : decode cL_law 1294 = .ok (.iaload, 1) := by decide +kernel
theorem dL_law_1295 : decode cL_law 1295 = .ok (.invokevirtual 133, 3) := by decide +kernel
theorem dL_law_1298 : decode cL_law 1298 = .ok (.aload_n 2, 1) := by decide +kernel
theorem dL_law_1299 : decode cL_law 1299 = .ok (.aload_n 0, 1) := by decide +kernel
theorem dL_law_1300 : decode cL_law 1300 = .ok (.iload_n 3, 1) := by decide +kernel
theorem dL_law_1301 : decode cL_law 1301 = .ok (.iconst 1, 1) := by decide +kernel
theorem dL_law_1302 : decode cL_law 1302 = .ok (.iadd, 1) := by decide +kernel
theorem dL_law_1303 : decode cL_law 1303 = .ok (.iaload, 1) := by decide +kernel
theorem dL_law_1304 : decode cL_law 1304 = .ok (.invokevirtual 136, 3) := by decide +kernel
theorem dL_law_1307 : decode cL_law 1307 = .ok (.if_icmp .eq 506, 3) := by decide +kernel
theorem eL_X11_orders : yX11_orders.cls = RX11 ∧ yX11_orders.cls ≠ "java/lang/invoke/MethodHandle" ∧ yX11_orders.cls ≠ "java/lang/invoke/VarHandle" ∧ (parseMethodDescriptor yX11_orders.desc).map (fun d => d.parameters.length) = some 1 := by decide +kernel
theorem eL_X12_orders : yX12_orders.cls = RX12 ∧ yX12_orders.cls ≠ "java/lang/invoke/MethodHandle" ∧ yX12_orders.cls ≠ "java/lang/invoke/VarHandle" ∧ (parseMethodDescriptor yX12_orders.desc).map (fun d => d.parameters.length) = some 1 := by decide +kernel
set_option maxHeartbeats 4000000 in
set_option maxRecDepth 100000 in
theorem law_28 {l : Launch} {p : Program} {e : Env} {s : State} {m : MethodId} {below : List Frame} {meth : Method} {c : Code} {D : va_G} {A : Nat → Prop} {cells slots : Nat} {Q : State → Prop} {b L : Nat} {xs : Nat → Int32} {i : Int32} {cI cJ cZ cH : ClassId} {ad : Nat → Nat} {ws : va_W} (hX : va_X b L xs s s.heap) (hbl : b < s.heap.size) (hbA : ¬ A b) (hin : ∀ j : Nat, j < 8 → vp_in (i + nI j) L) (hL : LawS cI cJ cZ cH ad cells slots ws) (kk : ∀ cells slots ws, LawS cI cJ cZ cH ad cells slots ws → WX p l e room_1 s m #[.ref b] below meth c code RL lwG D [(cI, .int), (cJ, .long), (cZ, .boolean), (cH, .object "TinHouse$House")] A 4 cells slots Q ws 1813 [(3, .int i), (2, .ref (ad 57)), (1, .ref (ad 0)), (0, .ref b)] []) : WX p l e room_1 s m #[.ref b] below meth c code RL lwG D [(cI, .int), (cJ, .long), (cZ, .boolean), (cH, .object "TinHouse$House")] A 4 cells slots Q ws 1289 [(3, .int i), (2, .ref (ad 57)), (1, .ref (ad 0)), (0, .ref b)] [] := by
  obtain ⟨Z, tl, rfl, ⟨hS, h, hs1, hs2, hs3, ha1, ha2, him⟩, hb1, hb2⟩ := hL
  have hcs : cells ≤ room_1.cells := Nat.le_trans (Nat.le_add_right _ _) hb1
  have hss : slots ≤ room_1.slots := Nat.le_trans (Nat.le_add_right _ _) hb2
  refine ii_aload_n 2 dL_law_1289 rfl ?_
  refine ii_aload_n 3 dL_law_1290 rfl ?_
  refine ii_iload_n 0 dL_law_1291 rfl ?_
  refine ii_iconst dL_law_1292 kc1 ?_
  refine ii_iadd dL_law_1293 ?_
  refine ii_sld hX hbl hbA (hin 1 (by decide)) dL_law_1294 ?_
  obtain ⟨o1, o2, e1, e2, q1⟩ := (P_orders h _ _ _ _ _ _ : Two (F_X11_orders (flI 14 (Z 1)) (tcZ Z 8) (trZ Z 8) (arI (Z 46)) (arI (Z 48)) (xs (i + 1).toNatClampNeg)) (F_X12_orders (arI (Z 72)) (arL (Z 74)) (arI (Z 58)) (arL (Z 73)) (xs (i + 1).toNatClampNeg)) _)
  refine ii_callZi (nW := 79) (ad := ad) (Z := Z) (setl Z [(48, .inl (cI, 512, .inl o1.2.2)), (46, .inl (cI, 9, .inl o1.2.1))]) (tl := tl) (As := [.int (xs (i + 1).toNatClampNeg)]) (st := []) (c_X11_orders l D cI cJ cZ cH (ad 0) (ad 28) (ad 32) (ad 34) (ad 36) (ad 1) (ad 6) (ad 8) (ad 14) (ad 20) (ad 24) (ad 22) (ad 2) (ad 10) (ad 26) (ad 12) (ad 16) (ad 4) (ad 18) (ad 19) (ad 51) (ad 55) (ad 49) (ad 29) (ad 44) (ad 45) (ad 46) (ad 48) (ad 47) (flL 11 (Z 0)) (flL 12 (Z 0)) (flI 14 (Z 1)) (flI 13 (Z 1)) (tcZ Z 8) (trZ Z 8) (arI (Z 46)) (arI (Z 48)) (xs (i + 1).toNatClampNeg) e1) gzL_133 rfl rfl rfl eL_X11_orders ⟨Nat.le_of_ble_eq_true rfl, Nat.le_of_ble_eq_true rfl⟩ rfl 0 (by decide) rfl (sh_0 hS) rfl [0, 1, 18, 19, 45, 46, 48] (zc_cons rfl (sh_0 hS) (zc_cons rfl (sh_1 hS) (zc_cons rfl (sh_18 hS) (zc_cons rfl (sh_19 hS) (zc_cons rfl (sh_45 hS) (zc_cons rfl (sh_46 hS) (zc_cons rfl (sh_48 hS) zc_nil))))))) (zc_cons rfl (zs (sh_0 hS) rfl) (zc_cons rfl (zs (sh_1 hS) rfl) (zc_cons rfl (zs (sh_18 hS) rfl) (zc_cons rfl (zs (sh_19 hS) rfl) (zc_cons rfl (zs (sh_45 hS) rfl) (zc_cons rfl rfl (zc_cons rfl rfl zc_nil))))))) (setl_out rfl) rfl rfl (Nat.le_of_ble_eq_true rfl) hcs hss rfl dL_law_1295 ?_
  refine ii_aload_n 1 dL_law_1298 rfl ?_
  refine ii_aload_n 3 dL_law_1299 rfl ?_
  refine ii_iload_n 0 dL_law_1300 rfl ?_
  refine ii_iconst dL_law_1301 kc1 ?_
  refine ii_iadd dL_law_1302 ?_
  refine ii_sld hX hbl hbA (hin 1 (by decide)) dL_law_1303 ?_
  refine ii_callZi (nW := 79) (ad := ad) (Z := (setl Z [(48, .inl (cI, 512, .inl o1.2.2)), (46, .inl (cI, 9, .inl o1.2.1))])) (setl (setl Z [(48, .inl (cI, 512, .inl o1.2.2)), (46, .inl (cI, 9, .inl o1.2.1))]) [(74, .inl (cJ, 512, .inr (.inl o2.2.2.1))), (73, .inl (cJ, 512, .inr (.inl o2.2.2.2))), (72, .inl (cI, 9, .inl o2.2.1))]) (tl := tl) (As := [.int (xs (i + 1).toNatClampNeg)]) (st := [.int o1.1]) (c_X12_orders l D cI cJ cZ cH (ad 57) (ad 72) (ad 77) (ad 70) (ad 65) (ad 59) (ad 60) (ad 76) (ad 75) (ad 68) (ad 66) (ad 74) (ad 69) (ad 71) (ad 78) (ad 58) (ad 61) (ad 73) (ad 67) (ad 64) (ad 63) (ad 62) (flL 11 (Z 0)) (arI (Z 72)) (flL 12 (Z 0)) (arL (Z 74)) (arI (Z 58)) (flI 5 (Z 57)) (arL (Z 73)) (flI 8 (Z 57)) (xs (i + 1).toNatClampNeg) e2) gzL_136 rfl rfl rfl eL_X12_orders ⟨Nat.le_of_ble_eq_true rfl, Nat.le_of_ble_eq_true rfl⟩ rfl 57 (by decide) rfl (zs (sh_57a hS ha1 ha2) rfl) rfl [57, 72, 74, 58, 73] (zc_cons rfl (zs (sh_57a hS ha1 ha2) rfl) (zc_cons rfl (zs (sh_72 hS) rfl) (zc_cons rfl (zs (sh_74 hS) rfl) (zc_cons rfl (zs (sh_58 hS) rfl) (zc_cons rfl (zs (sh_73 hS) rfl) zc_nil))))) (zc_cons rfl (zs (sh_57a hS ha1 ha2) rfl) (zc_cons rfl rfl (zc_cons rfl rfl (zc_cons rfl (zs (sh_58 hS) rfl) (zc_cons rfl rfl zc_nil))))) (setl_out rfl) rfl rfl (Nat.le_of_ble_eq_true rfl) hcs hss rfl dL_law_1304 ?_
  refine ii_icmp_eq (tgt := 1813) (r := ()) (ET := some ()) (EF := none) (if_pos q1) dL_law_1307 (by decide) (fun _ => ?_) (fun z => absurd z (by simp))
  exact kk _ _ _ ⟨setl (setl Z [(48, .inl (cI, 512, .inl o1.2.2)), (46, .inl (cI, 9, .inl o1.2.1))]) [(74, .inl (cJ, 512, .inr (.inl o2.2.2.1))), (73, .inl (cJ, 512, .inr (.inl o2.2.2.2))), (72, .inl (cI, 9, .inl o2.2.1))], tl, rfl, law_fin (tc' := (tcZ Z)) (tr' := (trZ Z)) (nar' := (flI 13 (Z 1))) (nam' := (flI 14 (Z 1))) (st' := (arI (Z 58))) hS (ok_cons ok_48 (ok_cons ok_46 ok_nil)) (ok_cons ok_74 (ok_cons ok_73 (ok_cons ok_72 ok_nil))) rfl rfl rfl rfl rfl rfl rfl h hs1 hs2 hs3 ha1 ha2 him, hb1, hb2⟩

theorem dL_law_1312 : decode cL_law 1312 = .ok (.aload_n 1, 1) := by decide +kernel
theorem dL_law_1313 : decode cL_law 1313 = .ok (.aload_n 0, 1) := by decide +kernel
theorem dL_law_1314 : decode cL_law 1314 = .ok (.iload_n 3, 1) := by decide +kernel
theorem dL_law_1315 : decode cL_law 1315 = .ok (.iconst 1, 1) := by decide +kernel
theorem dL_law_1316 : decode cL_law 1316 = .ok (.iadd, 1) := by decide +kernel
theorem dL_law_1317 : decode cL_law 1317 = .ok (.iaload, 1) := by decide +kernel
theorem dL_law_1318 : decode cL_law 1318 = .ok (.aload_n 0, 1) := by decide +kernel
theorem dL_law_1319 : decode cL_law 1319 = .ok (.iload_n 3, 1) := by decide +kernel
theorem dL_law_1320 : decode cL_law 1320 = .ok (.iconst 2, 1) := by decide +kernel
theorem dL_law_1321 : decode cL_law 1321 = .ok (.iadd, 1) := by decide +kernel
theorem dL_law_1322 : decode cL_law 1322 = .ok (.iaload, 1) := by decide +kernel
theorem dL_law_1323 : decode cL_law 1323 = .ok (.aload_n 0, 1) := by decide +kernel
theorem dL_law_1324 : decode cL_law 1324 = .ok (.iload_n 3, 1) := by decide +kernel
theorem dL_law_1325 : decode cL_law 1325 = .ok (.iconst 3, 1) := by decide +kernel
theorem dL_law_1326 : decode cL_law 1326 = .ok (.iadd, 1) := by decide +kernel
theorem dL_law_1327 : decode cL_law 1327 = .ok (.iaload, 1) := by decide +kernel
theorem dL_law_1328 : decode cL_law 1328 = .ok (.invokevirtual 137, 3) := by decide +kernel
theorem dL_law_1331 : decode cL_law 1331 = .ok (.aload_n 2, 1) := by decide +kernel
theorem dL_law_1332 : decode cL_law 1332 = .ok (.aload_n 0, 1) := by decide +kernel
theorem dL_law_1333 : decode cL_law 1333 = .ok (.iload_n 3, 1) := by decide +kernel
theorem dL_law_1334 : decode cL_law 1334 = .ok (.iconst 1, 1) := by decide +kernel
theorem dL_law_1335 : decode cL_law 1335 = .ok (.iadd, 1) := by decide +kernel
theorem dL_law_1336 : decode cL_law 1336 = .ok (.iaload, 1) := by decide +kernel
theorem dL_law_1337 : decode cL_law 1337 = .ok (.aload_n 0, 1) := by decide +kernel
theorem dL_law_1338 : decode cL_law 1338 = .ok (.iload_n 3, 1) := by decide +kernel
theorem dL_law_1339 : decode cL_law 1339 = .ok (.iconst 2, 1) := by decide +kernel
theorem dL_law_1340 : decode cL_law 1340 = .ok (.iadd, 1) := by decide +kernel
theorem dL_law_1341 : decode cL_law 1341 = .ok (.iaload, 1) := by decide +kernel
theorem dL_law_1342 : decode cL_law 1342 = .ok (.aload_n 0, 1) := by decide +kernel
theorem dL_law_1343 : decode cL_law 1343 = .ok (.iload_n 3, 1) := by decide +kernel
theorem dL_law_1344 : decode cL_law 1344 = .ok (.iconst 3, 1) := by decide +kernel
theorem dL_law_1345 : decode cL_law 1345 = .ok (.iadd, 1) := by decide +kernel
theorem dL_law_1346 : decode cL_law 1346 = .ok (.iaload, 1) := by decide +kernel
theorem dL_law_1347 : decode cL_law 1347 = .ok (.invokevirtual 140, 3) := by decide +kernel
theorem dL_law_1350 : decode cL_law 1350 = .ok (.if_icmp .eq 463, 3) := by decide +kernel
theorem eL_X11_place : yX11_place.cls = RX11 ∧ yX11_place.cls ≠ "java/lang/invoke/MethodHandle" ∧ yX11_place.cls ≠ "java/lang/invoke/VarHandle" ∧ (parseMethodDescriptor yX11_place.desc).map (fun d => d.parameters.length) = some 3 := by decide +kernel
theorem eL_X12_place : yX12_place.cls = RX12 ∧ yX12_place.cls ≠ "java/lang/invoke/MethodHandle" ∧ yX12_place.cls ≠ "java/lang/invoke/VarHandle" ∧ (parseMethodDescriptor yX12_place.desc).map (fun d => d.parameters.length) = some 3 := by decide +kernel
set_option maxHeartbeats 4000000 in
set_option maxRecDepth 100000 in
theorem law_29 {l : Launch} {p : Program} {e : Env} {s : State} {m : MethodId} {below : List Frame} {meth : Method} {c : Code} {D : va_G} {A : Nat → Prop} {cells slots : Nat} {Q : State → Prop} {b L : Nat} {xs : Nat → Int32} {i : Int32} {cI cJ cZ cH : ClassId} {ad : Nat → Nat} {ws : va_W} (hX : va_X b L xs s s.heap) (hbl : b < s.heap.size) (hbA : ¬ A b) (hin : ∀ j : Nat, j < 8 → vp_in (i + nI j) L) (hL : LawS cI cJ cZ cH ad cells slots ws) (kk : ∀ cells slots ws, LawS cI cJ cZ cH ad cells slots ws → WX p l e room_1 s m #[.ref b] below meth c code RL lwG D [(cI, .int), (cJ, .long), (cZ, .boolean), (cH, .object "TinHouse$House")] A 4 cells slots Q ws 1813 [(3, .int i), (2, .ref (ad 57)), (1, .ref (ad 0)), (0, .ref b)] []) : WX p l e room_1 s m #[.ref b] below meth c code RL lwG D [(cI, .int), (cJ, .long), (cZ, .boolean), (cH, .object "TinHouse$House")] A 4 cells slots Q ws 1312 [(3, .int i), (2, .ref (ad 57)), (1, .ref (ad 0)), (0, .ref b)] [] := by
  obtain ⟨Z, tl, rfl, ⟨hS, h, hs1, hs2, hs3, ha1, ha2, him⟩, hb1, hb2⟩ := hL
  have hcs : cells ≤ room_1.cells := Nat.le_trans (Nat.le_add_right _ _) hb1
  have hss : slots ≤ room_1.slots := Nat.le_trans (Nat.le_add_right _ _) hb2
  refine ii_aload_n 2 dL_law_1312 rfl ?_
  refine ii_aload_n 3 dL_law_1313 rfl ?_
  refine ii_iload_n 0 dL_law_1314 rfl ?_
  refine ii_iconst dL_law_1315 kc1 ?_
  refine ii_iadd dL_law_1316 ?_
  refine ii_sld hX hbl hbA (hin 1 (by decide)) dL_law_1317 ?_
  refine ii_aload_n 3 dL_law_1318 rfl ?_
  refine ii_iload_n 0 dL_law_1319 rfl ?_
  refine ii_iconst dL_law_1320 kc2 ?_
  refine ii_iadd dL_law_1321 ?_
  refine ii_sld hX hbl hbA (hin 2 (by decide)) dL_law_1322 ?_
  refine ii_aload_n 3 dL_law_1323 rfl ?_
  refine ii_iload_n 0 dL_law_1324 rfl ?_
  refine ii_iconst dL_law_1325 kc3 ?_
  refine ii_iadd dL_law_1326 ?_
  refine ii_sld hX hbl hbA (hin 3 (by decide)) dL_law_1327 ?_
  obtain ⟨o1, o2, e1, e2, q1⟩ := (P_place h _ _ _ _ _ _ _ _ : Two (F_X11_place (flI 14 (Z 1)) (tcZ Z 8) (trZ Z 8) (arI (Z 46)) (arI (Z 47)) (xs (i + 1).toNatClampNeg) (xs (i + 2).toNatClampNeg) (xs (i + 3).toNatClampNeg)) (F_X12_place (arI (Z 72)) (arL (Z 74)) (arI (Z 58)) (arL (Z 73)) (xs (i + 1).toNatClampNeg) (xs (i + 2).toNatClampNeg) (xs (i + 3).toNatClampNeg)) _)
  refine ii_callZi (nW := 79) (ad := ad) (Z := Z) (setl Z [(47, .inl (cI, 9, .inl o1.2.2)), (46, .inl (cI, 9, .inl o1.2.1))]) (tl := tl) (As := [.int (xs (i + 1).toNatClampNeg), .int (xs (i + 2).toNatClampNeg), .int (xs (i + 3).toNatClampNeg)]) (st := []) (c_X11_place l D cI cJ cZ cH (ad 0) (ad 28) (ad 32) (ad 34) (ad 36) (ad 1) (ad 6) (ad 8) (ad 14) (ad 20) (ad 24) (ad 22) (ad 2) (ad 10) (ad 26) (ad 12) (ad 16) (ad 4) (ad 18) (ad 19) (ad 51) (ad 55) (ad 49) (ad 29) (ad 44) (ad 45) (ad 46) (ad 48) (ad 47) (flL 11 (Z 0)) (flL 12 (Z 0)) (flI 14 (Z 1)) (flI 13 (Z 1)) (tcZ Z 8) (trZ Z 8) (arI (Z 46)) (arI (Z 47)) (xs (i + 1).toNatClampNeg) (xs (i + 2).toNatClampNeg) (xs (i + 3).toNatClampNeg) e1) gzL_137 rfl rfl rfl eL_X11_place ⟨Nat.le_of_ble_eq_true rfl, Nat.le_of_ble_eq_true rfl⟩ rfl 0 (by decide) rfl (sh_0 hS) rfl [0, 1, 18, 19, 45, 46, 47] (zc_cons rfl (sh_0 hS) (zc_cons rfl (sh_1 hS) (zc_cons rfl (sh_18 hS) (zc_cons rfl (sh_19 hS) (zc_cons rfl (sh_45 hS) (zc_cons rfl (sh_46 hS) (zc_cons rfl (sh_47 hS) zc_nil))))))) (zc_cons rfl (zs (sh_0 hS) rfl) (zc_cons rfl (zs (sh_1 hS) rfl) (zc_cons rfl (zs (sh_18 hS) rfl) (zc_cons rfl (zs (sh_19 hS) rfl) (zc_cons rfl (zs (sh_45 hS) rfl) (zc_cons rfl rfl (zc_cons rfl rfl zc_nil))))))) (setl_out rfl) rfl rfl (Nat.le_of_ble_eq_true rfl) hcs hss rfl dL_law_1328 ?_
  refine ii_aload_n 1 dL_law_1331 rfl ?_
  refine ii_aload_n 3 dL_law_1332 rfl ?_
  refine ii_iload_n 0 dL_law_1333 rfl ?_
  refine ii_iconst dL_law_1334 kc1 ?_
  refine ii_iadd dL_law_1335 ?_
  refine ii_sld hX hbl hbA (hin 1 (by decide)) dL_law_1336 ?_
  refine ii_aload_n 3 dL_law_1337 rfl ?_
  refine ii_iload_n 0 dL_law_1338 rfl ?_
  refine ii_iconst dL_law_1339 kc2 ?_
  refine ii_iadd dL_law_1340 ?_
  refine ii_sld hX hbl hbA (hin 2 (by decide)) dL_law_1341 ?_
  refine ii_aload_n 3 dL_law_1342 rfl ?_
  refine ii_iload_n 0 dL_law_1343 rfl ?_
  refine ii_iconst dL_law_1344 kc3 ?_
  refine ii_iadd dL_law_1345 ?_
  refine ii_sld hX hbl hbA (hin 3 (by decide)) dL_law_1346 ?_
  refine ii_callZi (nW := 79) (ad := ad) (Z := (setl Z [(47, .inl (cI, 9, .inl o1.2.2)), (46, .inl (cI, 9, .inl o1.2.1))])) (setl (setl Z [(47, .inl (cI, 9, .inl o1.2.2)), (46, .inl (cI, 9, .inl o1.2.1))]) [(74, .inl (cJ, 512, .inr (.inl o2.2.2.1))), (73, .inl (cJ, 512, .inr (.inl o2.2.2.2))), (72, .inl (cI, 9, .inl o2.2.1))]) (tl := tl) (As := [.int (xs (i + 1).toNatClampNeg), .int (xs (i + 2).toNatClampNeg), .int (xs (i + 3).toNatClampNeg)]) (st := [.int o1.1]) (c_X12_place l D cI cJ cZ cH (ad 57) (ad 72) (ad 77) (ad 70) (ad 65) (ad 59) (ad 60) (ad 76) (ad 75) (ad 68) (ad 66) (ad 74) (ad 69) (ad 71) (ad 78) (ad 58) (ad 61) (ad 73) (ad 67) (ad 64) (ad 63) (ad 62) (flL 11 (Z 0)) (arI (Z 72)) (flL 12 (Z 0)) (arL (Z 74)) (arI (Z 58)) (flI 5 (Z 57)) (arL (Z 73)) (flI 8 (Z 57)) (xs (i + 1).toNatClampNeg) (xs (i + 2).toNatClampNeg) (xs (i + 3).toNatClampNeg) e2) gzL_140 rfl rfl rfl eL_X12_place ⟨Nat.le_of_ble_eq_true rfl, Nat.le_of_ble_eq_true rfl⟩ rfl 57 (by decide) rfl (zs (sh_57a hS ha1 ha2) rfl) rfl [57, 72, 74, 58, 73] (zc_cons rfl (zs (sh_57a hS ha1 ha2) rfl) (zc_cons rfl (zs (sh_72 hS) rfl) (zc_cons rfl (zs (sh_74 hS) rfl) (zc_cons rfl (zs (sh_58 hS) rfl) (zc_cons rfl (zs (sh_73 hS) rfl) zc_nil))))) (zc_cons rfl (zs (sh_57a hS ha1 ha2) rfl) (zc_cons rfl rfl (zc_cons rfl rfl (zc_cons rfl (zs (sh_58 hS) rfl) (zc_cons rfl rfl zc_nil))))) (setl_out rfl) rfl rfl (Nat.le_of_ble_eq_true rfl) hcs hss rfl dL_law_1347 ?_
  refine ii_icmp_eq (tgt := 1813) (r := ()) (ET := some ()) (EF := none) (if_pos q1) dL_law_1350 (by decide) (fun _ => ?_) (fun z => absurd z (by simp))
  exact kk _ _ _ ⟨setl (setl Z [(47, .inl (cI, 9, .inl o1.2.2)), (46, .inl (cI, 9, .inl o1.2.1))]) [(74, .inl (cJ, 512, .inr (.inl o2.2.2.1))), (73, .inl (cJ, 512, .inr (.inl o2.2.2.2))), (72, .inl (cI, 9, .inl o2.2.1))], tl, rfl, law_fin (tc' := (tcZ Z)) (tr' := (trZ Z)) (nar' := (flI 13 (Z 1))) (nam' := (flI 14 (Z 1))) (st' := (arI (Z 58))) hS (ok_cons ok_47 (ok_cons ok_46 ok_nil)) (ok_cons ok_74 (ok_cons ok_73 (ok_cons ok_72 ok_nil))) rfl rfl rfl rfl rfl rfl rfl h hs1 hs2 hs3 ha1 ha2 him, hb1, hb2⟩

theorem dL_law_1355 : decode cL_law 1355 = .ok (.aload_n 1, 1) := by decide +kernel
theorem dL_law_1356 : decode cL_law 1356 = .ok (.aload_n 0, 1) := by decide +kernel
theorem dL_law_1357 : decode cL_law 1357 = .ok (.iload_n 3, 1) := by decide +kernel
theorem dL_law_1358 : decode cL_law 1358 = .ok (.iconst 1, 1) := by decide +kernel
theorem dL_law_1359 : decode cL_law 1359 = .ok (.iadd, 1) := by decide +kernel
theorem dL_law_1360 : decode cL_law 1360 = .ok (.iaload, 1) := by decide +kernel
theorem dL_law_1361 : decode cL_law 1361 = .ok (.aload_n 0, 1) := by decide +kernel
theorem dL_law_1362 : decode cL_law 1362 = .ok (.iload_n 3, 1) := by decide +kernel
theorem dL_law_1363 : decode cL_law 1363 = .ok (.iconst 2, 1) := by decide +kernel
theorem dL_law_1364 : decode cL_law 1364 = .ok (.iadd, 1) := by decide +kernel
theorem dL_law_1365 : decode cL_law 1365 = .ok (.iaload, 1) := by decide +kernel
theorem dL_law_1366 : decode cL_law 1366 = .ok (.invokevirtual 141, 3) := by decide +kernel
theorem dL_law_1369 : decode cL_law 1369 = .ok (.aload_n 2, 1) := by decide +kernel
theorem dL_law_1370 : decode cL_law 1370 = .ok (.aload_n 0, 1) := by decide +kernel
theorem dL_law_1371 : decode cL_law 1371 = .ok (.iload_n 3, 1) := by decide +kernel
theorem dL_law_1372 : decode cL_law 1372 = .ok (.iconst 1, 1) := by decide +kernel
theorem dL_law_1373 : decode cL_law 1373 = .ok (.iadd, 1) := by decide +kernel
theorem dL_law_1374 : decode cL_law 1374 = .ok (.iaload, 1) := by decide +kernel
theorem dL_law_1375 : decode cL_law 1375 = .ok (.aload_n 0, 1) := by decide +kernel
theorem dL_law_1376 : decode cL_law 1376 = .ok (.iload_n 3, 1) := by decide +kernel
theorem dL_law_1377 : decode cL_law 1377 = .ok (.iconst 2, 1) := by decide +kernel
theorem dL_law_1378 : decode cL_law 1378 = .ok (.iadd, 1) := by decide +kernel
theorem dL_law_1379 : decode cL_law 1379 = .ok (.iaload, 1) := by decide +kernel
theorem dL_law_1380 : decode cL_law 1380 = .ok (.invokevirtual 144, 3) := by decide +kernel
theorem dL_law_1383 : decode cL_law 1383 = .ok (.if_icmp .eq 430, 3) := by decide +kernel
theorem eL_X11_order : yX11_order.cls = RX11 ∧ yX11_order.cls ≠ "java/lang/invoke/MethodHandle" ∧ yX11_order.cls ≠ "java/lang/invoke/VarHandle" ∧ (parseMethodDescriptor yX11_order.desc).map (fun d => d.parameters.length) = some 2 := by decide +kernel
theorem eL_X12_order : yX12_order.cls = RX12 ∧ yX12_order.cls ≠ "java/lang/invoke/MethodHandle" ∧ yX12_order.cls ≠ "java/lang/invoke/VarHandle" ∧ (parseMethodDescriptor yX12_order.desc).map (fun d => d.parameters.length) = some 2 := by decide +kernel
set_option maxHeartbeats 4000000 in
set_option maxRecDepth 100000 in
theorem law_30 {l : Launch} {p : Program} {e : Env} {s : State} {m : MethodId} {below : List Frame} {meth : Method} {c : Code} {D : va_G} {A : Nat → Prop} {cells slots : Nat} {Q : State → Prop} {b L : Nat} {xs : Nat → Int32} {i : Int32} {cI cJ cZ cH : ClassId} {ad : Nat → Nat} {ws : va_W} (hX : va_X b L xs s s.heap) (hbl : b < s.heap.size) (hbA : ¬ A b) (hin : ∀ j : Nat, j < 8 → vp_in (i + nI j) L) (hL : LawS cI cJ cZ cH ad cells slots ws) (kk : ∀ cells slots ws, LawS cI cJ cZ cH ad cells slots ws → WX p l e room_1 s m #[.ref b] below meth c code RL lwG D [(cI, .int), (cJ, .long), (cZ, .boolean), (cH, .object "TinHouse$House")] A 4 cells slots Q ws 1813 [(3, .int i), (2, .ref (ad 57)), (1, .ref (ad 0)), (0, .ref b)] []) : WX p l e room_1 s m #[.ref b] below meth c code RL lwG D [(cI, .int), (cJ, .long), (cZ, .boolean), (cH, .object "TinHouse$House")] A 4 cells slots Q ws 1355 [(3, .int i), (2, .ref (ad 57)), (1, .ref (ad 0)), (0, .ref b)] [] := by
  obtain ⟨Z, tl, rfl, ⟨hS, h, hs1, hs2, hs3, ha1, ha2, him⟩, hb1, hb2⟩ := hL
  have hcs : cells ≤ room_1.cells := Nat.le_trans (Nat.le_add_right _ _) hb1
  have hss : slots ≤ room_1.slots := Nat.le_trans (Nat.le_add_right _ _) hb2
  refine ii_aload_n 2 dL_law_1355 rfl ?_
  refine ii_aload_n 3 dL_law_1356 rfl ?_
  refine ii_iload_n 0 dL_law_1357 rfl ?_
  refine ii_iconst dL_law_1358 kc1 ?_
  refine ii_iadd dL_law_1359 ?_
  refine ii_sld hX hbl hbA (hin 1 (by decide)) dL_law_1360 ?_
  refine ii_aload_n 3 dL_law_1361 rfl ?_
  refine ii_iload_n 0 dL_law_1362 rfl ?_
  refine ii_iconst dL_law_1363 kc2 ?_
  refine ii_iadd dL_law_1364 ?_
  refine ii_sld hX hbl hbA (hin 2 (by decide)) dL_law_1365 ?_
  obtain ⟨o1, o2, e1, e2, q1⟩ := (P_order h _ _ _ _ _ _ _ : Two (F_X11_order (flI 14 (Z 1)) (tcZ Z 8) (trZ Z 8) (arI (Z 46)) (arI (Z 47)) (xs (i + 1).toNatClampNeg) (xs (i + 2).toNatClampNeg)) (F_X12_order (arI (Z 72)) (arL (Z 74)) (arI (Z 58)) (arL (Z 73)) (xs (i + 1).toNatClampNeg) (xs (i + 2).toNatClampNeg)) _)
  refine ii_callZi (nW := 79) (ad := ad) (Z := Z) (setl Z [(47, .inl (cI, 9, .inl o1.2.2)), (46, .inl (cI, 9, .inl o1.2.1))]) (tl := tl) (As := [.int (xs (i + 1).toNatClampNeg), .int (xs (i + 2).toNatClampNeg)]) (st := []) (c_X11_order l D cI cJ cZ cH (ad 0) (ad 28) (ad 32) (ad 34) (ad 36) (ad 1) (ad 6) (ad 8) (ad 14) (ad 20) (ad 24) (ad 22) (ad 2) (ad 10) (ad 26) (ad 12) (ad 16) (ad 4) (ad 18) (ad 19) (ad 51) (ad 55) (ad 49) (ad 29) (ad 44) (ad 45) (ad 46) (ad 48) (ad 47) (flL 11 (Z 0)) (flL 12 (Z 0)) (flI 14 (Z 1)) (flI 13 (Z 1)) (tcZ Z 8) (trZ Z 8) (arI (Z 46)) (arI (Z 47)) (xs (i + 1).toNatClampNeg) (xs (i + 2).toNatClampNeg) e1) gzL_141 rfl rfl rfl eL_X11_order ⟨Nat.le_of_ble_eq_true rfl, Nat.le_of_ble_eq_true rfl⟩ rfl 0 (by decide) rfl (sh_0 hS) rfl [0, 1, 18, 19, 45, 46, 47] (zc_cons rfl (sh_0 hS) (zc_cons rfl (sh_1 hS) (zc_cons rfl (sh_18 hS) (zc_cons rfl (sh_19 hS) (zc_cons rfl (sh_45 hS) (zc_cons rfl (sh_46 hS) (zc_cons rfl (sh_47 hS) zc_nil))))))) (zc_cons rfl (zs (sh_0 hS) rfl) (zc_cons rfl (zs (sh_1 hS) rfl) (zc_cons rfl (zs (sh_18 hS) rfl) (zc_cons rfl (zs (sh_19 hS) rfl) (zc_cons rfl (zs (sh_45 hS) rfl) (zc_cons rfl rfl (zc_cons rfl rfl zc_nil))))))) (setl_out rfl) rfl rfl (Nat.le_of_ble_eq_true rfl) hcs hss rfl dL_law_1366 ?_
  refine ii_aload_n 1 dL_law_1369 rfl ?_
  refine ii_aload_n 3 dL_law_1370 rfl ?_
  refine ii_iload_n 0 dL_law_1371 rfl ?_
  refine ii_iconst dL_law_1372 kc1 ?_
  refine ii_iadd dL_law_1373 ?_
  refine ii_sld hX hbl hbA (hin 1 (by decide)) dL_law_1374 ?_
  refine ii_aload_n 3 dL_law_1375 rfl ?_
  refine ii_iload_n 0 dL_law_1376 rfl ?_
  refine ii_iconst dL_law_1377 kc2 ?_
  refine ii_iadd dL_law_1378 ?_
  refine ii_sld hX hbl hbA (hin 2 (by decide)) dL_law_1379 ?_
  refine ii_callZi (nW := 79) (ad := ad) (Z := (setl Z [(47, .inl (cI, 9, .inl o1.2.2)), (46, .inl (cI, 9, .inl o1.2.1))])) (setl (setl Z [(47, .inl (cI, 9, .inl o1.2.2)), (46, .inl (cI, 9, .inl o1.2.1))]) [(74, .inl (cJ, 512, .inr (.inl o2.2.2.1))), (73, .inl (cJ, 512, .inr (.inl o2.2.2.2))), (72, .inl (cI, 9, .inl o2.2.1))]) (tl := tl) (As := [.int (xs (i + 1).toNatClampNeg), .int (xs (i + 2).toNatClampNeg)]) (st := [.int o1.1]) (c_X12_order l D cI cJ cZ cH (ad 57) (ad 72) (ad 77) (ad 70) (ad 65) (ad 59) (ad 60) (ad 76) (ad 75) (ad 68) (ad 66) (ad 74) (ad 69) (ad 71) (ad 78) (ad 58) (ad 61) (ad 73) (ad 67) (ad 64) (ad 63) (ad 62) (flL 11 (Z 0)) (arI (Z 72)) (flL 12 (Z 0)) (arL (Z 74)) (arI (Z 58)) (flI 5 (Z 57)) (arL (Z 73)) (flI 8 (Z 57)) (xs (i + 1).toNatClampNeg) (xs (i + 2).toNatClampNeg) e2) gzL_144 rfl rfl rfl eL_X12_order ⟨Nat.le_of_ble_eq_true rfl, Nat.le_of_ble_eq_true rfl⟩ rfl 57 (by decide) rfl (zs (sh_57a hS ha1 ha2) rfl) rfl [57, 72, 74, 58, 73] (zc_cons rfl (zs (sh_57a hS ha1 ha2) rfl) (zc_cons rfl (zs (sh_72 hS) rfl) (zc_cons rfl (zs (sh_74 hS) rfl) (zc_cons rfl (zs (sh_58 hS) rfl) (zc_cons rfl (zs (sh_73 hS) rfl) zc_nil))))) (zc_cons rfl (zs (sh_57a hS ha1 ha2) rfl) (zc_cons rfl rfl (zc_cons rfl rfl (zc_cons rfl (zs (sh_58 hS) rfl) (zc_cons rfl rfl zc_nil))))) (setl_out rfl) rfl rfl (Nat.le_of_ble_eq_true rfl) hcs hss rfl dL_law_1380 ?_
  refine ii_icmp_eq (tgt := 1813) (r := ()) (ET := some ()) (EF := none) (if_pos q1) dL_law_1383 (by decide) (fun _ => ?_) (fun z => absurd z (by simp))
  exact kk _ _ _ ⟨setl (setl Z [(47, .inl (cI, 9, .inl o1.2.2)), (46, .inl (cI, 9, .inl o1.2.1))]) [(74, .inl (cJ, 512, .inr (.inl o2.2.2.1))), (73, .inl (cJ, 512, .inr (.inl o2.2.2.2))), (72, .inl (cI, 9, .inl o2.2.1))], tl, rfl, law_fin (tc' := (tcZ Z)) (tr' := (trZ Z)) (nar' := (flI 13 (Z 1))) (nam' := (flI 14 (Z 1))) (st' := (arI (Z 58))) hS (ok_cons ok_47 (ok_cons ok_46 ok_nil)) (ok_cons ok_74 (ok_cons ok_73 (ok_cons ok_72 ok_nil))) rfl rfl rfl rfl rfl rfl rfl h hs1 hs2 hs3 ha1 ha2 him, hb1, hb2⟩

theorem dL_law_1388 : decode cL_law 1388 = .ok (.aload_n 1, 1) := by decide +kernel
theorem dL_law_1389 : decode cL_law 1389 = .ok (.aload_n 0, 1) := by decide +kernel
theorem dL_law_1390 : decode cL_law 1390 = .ok (.iload_n 3, 1) := by decide +kernel
theorem dL_law_1391 : decode cL_law 1391 = .ok (.iconst 1, 1) := by decide +kernel
theorem dL_law_1392 : decode cL_law 1392 = .ok (.iadd, 1) := by decide +kernel
theorem dL_law_1393 : decode cL_law 1393 = .ok (.iaload, 1) := by decide +kernel
theorem dL_law_1394 : decode cL_law 1394 = .ok (.aload_n 0, 1) := by decide +kernel
theorem dL_law_1395 : decode cL_law 1395 = .ok (.iload_n 3, 1) := by decide +kernel
theorem dL_law_1396 : decode cL_law 1396 = .ok (.iconst 2, 1) := by decide +kernel
theorem dL_law_1397 : decode cL_law 1397 = .ok (.iadd, 1) := by decide +kernel
theorem dL_law_1398 : decode cL_law 1398 = .ok (.iaload, 1) := by decide +kernel
theorem dL_law_1399 : decode cL_law 1399 = .ok (.aload_n 0, 1) := by decide +kernel
theorem dL_law_1400 : decode cL_law 1400 = .ok (.iload_n 3, 1) := by decide +kernel
theorem dL_law_1401 : decode cL_law 1401 = .ok (.iconst 3, 1) := by decide +kernel
theorem dL_law_1402 : decode cL_law 1402 = .ok (.iadd, 1) := by decide +kernel
theorem dL_law_1403 : decode cL_law 1403 = .ok (.iaload, 1) := by decide +kernel
theorem dL_law_1404 : decode cL_law 1404 = .ok (.aload_n 0, 1) := by decide +kernel
theorem dL_law_1405 : decode cL_law 1405 = .ok (.iload_n 3, 1) := by decide +kernel
theorem dL_law_1406 : decode cL_law 1406 = .ok (.iconst 4, 1) := by decide +kernel
theorem dL_law_1407 : decode cL_law 1407 = .ok (.iadd, 1) := by decide +kernel
theorem dL_law_1408 : decode cL_law 1408 = .ok (.iaload, 1) := by decide +kernel
theorem dL_law_1409 : decode cL_law 1409 = .ok (.aload_n 0, 1) := by decide +kernel
theorem dL_law_1410 : decode cL_law 1410 = .ok (.iload_n 3, 1) := by decide +kernel
theorem dL_law_1411 : decode cL_law 1411 = .ok (.iconst 5, 1) := by decide +kernel
theorem dL_law_1412 : decode cL_law 1412 = .ok (.iadd, 1) := by decide +kernel
theorem dL_law_1413 : decode cL_law 1413 = .ok (.iaload, 1) := by decide +kernel
theorem dL_law_1414 : decode cL_law 1414 = .ok (.invokevirtual 145, 3) := by decide +kernel
theorem dL_law_1417 : decode cL_law 1417 = .ok (.aload_n 2, 1) := by decide +kernel
theorem dL_law_1418 : decode cL_law 1418 = .ok (.aload_n 0, 1) := by decide +kernel
theorem dL_law_1419 : decode cL_law 1419 = .ok (.iload_n 3, 1) := by decide +kernel
theorem dL_law_1420 : decode cL_law 1420 = .ok (.iconst 1, 1) := by decide +kernel
theorem dL_law_1421 : decode cL_law 1421 = .ok (.iadd, 1) := by decide +kernel
theorem dL_law_1422 : decode cL_law 1422 = .ok (.iaload, 1) := by decide +kernel
theorem dL_law_1423 : decode cL_law 1423 = .ok (.aload_n 0, 1) := by decide +kernel
theorem dL_law_1424 : decode cL_law 1424 = .ok (.iload_n 3, 1) := by decide +kernel
theorem dL_law_1425 : decode cL_law 1425 = .ok (.iconst 2, 1) := by decide +kernel
theorem dL_law_1426 : decode cL_law 1426 = .ok (.iadd, 1) := by decide +kernel
theorem dL_law_1427 : decode cL_law 1427 = .ok (.iaload, 1) := by decide +kernel
theorem dL_law_1428 : decode cL_law 1428 = .ok (.aload_n 0, 1) := by decide +kernel
theorem dL_law_1429 : decode cL_law 1429 = .ok (.iload_n 3, 1) := by decide +kernel
theorem dL_law_1430 : decode cL_law 1430 = .ok (.iconst 3, 1) := by decide +kernel
theorem dL_law_1431 : decode cL_law 1431 = .ok (.iadd, 1) := by decide +kernel
theorem dL_law_1432 : decode cL_law 1432 = .ok (.iaload, 1) := by decide +kernel
theorem dL_law_1433 : decode cL_law 1433 = .ok (.aload_n 0, 1) := by decide +kernel
theorem dL_law_1434 : decode cL_law 1434 = .ok (.iload_n 3, 1) := by decide +kernel
theorem dL_law_1435 : decode cL_law 1435 = .ok (.iconst 4, 1) := by decide +kernel
theorem dL_law_1436 : decode cL_law 1436 = .ok (.iadd, 1) := by decide +kernel
theorem dL_law_1437 : decode cL_law 1437 = .ok (.iaload, 1) := by decide +kernel
theorem dL_law_1438 : decode cL_law 1438 = .ok (.aload_n 0, 1) := by decide +kernel
theorem dL_law_1439 : decode cL_law 1439 = .ok (.iload_n 3, 1) := by decide +kernel
theorem dL_law_1440 : decode cL_law 1440 = .ok (.iconst 5, 1) := by decide +kernel
theorem dL_law_1441 : decode cL_law 1441 = .ok (.iadd, 1) := by decide +kernel
theorem dL_law_1442 : decode cL_law 1442 = .ok (.iaload, 1) := by decide +kernel
theorem dL_law_1443 : decode cL_law 1443 = .ok (.invokevirtual 148, 3) := by decide +kernel
theorem dL_law_1446 : decode cL_law 1446 = .ok (.if_icmp .eq 367, 3) := by decide +kernel
theorem eL_X11_letter : yX11_letter.cls = RX11 ∧ yX11_letter.cls ≠ "java/lang/invoke/MethodHandle" ∧ yX11_letter.cls ≠ "java/lang/invoke/VarHandle" ∧ (parseMethodDescriptor yX11_letter.desc).map (fun d => d.parameters.length) = some 5 := by decide +kernel
theorem eL_X12_letter : yX12_letter.cls = RX12 ∧ yX12_letter.cls ≠ "java/lang/invoke/MethodHandle" ∧ yX12_letter.cls ≠ "java/lang/invoke/VarHandle" ∧ (parseMethodDescriptor yX12_letter.desc).map (fun d => d.parameters.length) = some 5 := by decide +kernel
set_option maxHeartbeats 4000000 in
set_option maxRecDepth 100000 in
theorem law_31 {l : Launch} {p : Program} {e : Env} {s : State} {m : MethodId} {below : List Frame} {meth : Method} {c : Code} {D : va_G} {A : Nat → Prop} {cells slots : Nat} {Q : State → Prop} {b L : Nat} {xs : Nat → Int32} {i : Int32} {cI cJ cZ cH : ClassId} {ad : Nat → Nat} {ws : va_W} (hX : va_X b L xs s s.heap) (hbl : b < s.heap.size) (hbA : ¬ A b) (hin : ∀ j : Nat, j < 8 → vp_in (i + nI j) L) (hL : LawS cI cJ cZ cH ad cells slots ws) (kk : ∀ cells slots ws, LawS cI cJ cZ cH ad cells slots ws → WX p l e room_1 s m #[.ref b] below meth c code RL lwG D [(cI, .int), (cJ, .long), (cZ, .boolean), (cH, .object "TinHouse$House")] A 4 cells slots Q ws 1813 [(3, .int i), (2, .ref (ad 57)), (1, .ref (ad 0)), (0, .ref b)] []) : WX p l e room_1 s m #[.ref b] below meth c code RL lwG D [(cI, .int), (cJ, .long), (cZ, .boolean), (cH, .object "TinHouse$House")] A 4 cells slots Q ws 1388 [(3, .int i), (2, .ref (ad 57)), (1, .ref (ad 0)), (0, .ref b)] [] := by
  obtain ⟨Z, tl, rfl, ⟨hS, h, hs1, hs2, hs3, ha1, ha2, him⟩, hb1, hb2⟩ := hL
  have hcs : cells ≤ room_1.cells := Nat.le_trans (Nat.le_add_right _ _) hb1
  have hss : slots ≤ room_1.slots := Nat.le_trans (Nat.le_add_right _ _) hb2
  refine ii_aload_n 2 dL_law_1388 rfl ?_
  refine ii_aload_n 3 dL_law_1389 rfl ?_
  refine ii_iload_n 0 dL_law_1390 rfl ?_
  refine ii_iconst dL_law_1391 kc1 ?_
  refine ii_iadd dL_law_1392 ?_
  refine ii_sld hX hbl hbA (hin 1 (by decide)) dL_law_1393 ?_
  refine ii_aload_n 3 dL_law_1394 rfl ?_
  refine ii_iload_n 0 dL_law_1395 rfl ?_
  refine ii_iconst dL_law_1396 kc2 ?_
  refine ii_iadd dL_law_1397 ?_
  refine ii_sld hX hbl hbA (hin 2 (by decide)) dL_law_1398 ?_
  refine ii_aload_n 3 dL_law_1399 rfl ?_
  refine ii_iload_n 0 dL_law_1400 rfl ?_
  refine ii_iconst dL_law_1401 kc3 ?_
  refine ii_iadd dL_law_1402 ?_
  refine ii_sld hX hbl hbA (hin 3 (by decide)) dL_law_1403 ?_
  refine ii_aload_n 3 dL_law_1404 rfl ?_
  refine ii_iload_n 0 dL_law_1405 rfl ?_
  refine ii_iconst dL_law_1406 kc4 ?_
  refine ii_iadd dL_law_1407 ?_
  refine ii_sld hX hbl hbA (hin 4 (by decide)) dL_law_1408 ?_
  refine ii_aload_n 3 dL_law_1409 rfl ?_
  refine ii_iload_n 0 dL_law_1410 rfl ?_
  refine ii_iconst dL_law_1411 kc5 ?_
  refine ii_iadd dL_law_1412 ?_
  refine ii_sld hX hbl hbA (hin 5 (by decide)) dL_law_1413 ?_
  obtain ⟨o1, o2, e1, e2, q1, q2⟩ := (P_letter h _ _ _ _ _ : Two (F_X11_letter (tcZ Z 9) (trZ Z 9) (trZ Z 0) (xs (i + 1).toNatClampNeg) (xs (i + 2).toNatClampNeg) (xs (i + 3).toNatClampNeg) (xs (i + 4).toNatClampNeg) (xs (i + 5).toNatClampNeg)) (F_X12_letter (arI (Z 58)) (xs (i + 1).toNatClampNeg) (xs (i + 2).toNatClampNeg) (xs (i + 3).toNatClampNeg) (xs (i + 4).toNatClampNeg) (xs (i + 5).toNatClampNeg)) _)
  refine ii_callZi (nW := 79) (ad := ad) (Z := Z) (setl Z [(21, .inl (cI, 150, .inl o1.2.1)), (20, .inr (8, [.int (5 : Int32), .int (30 : Int32), .ref (ad 21), .int o1.2.2]))]) (tl := tl) (As := [.int (xs (i + 1).toNatClampNeg), .int (xs (i + 2).toNatClampNeg), .int (xs (i + 3).toNatClampNeg), .int (xs (i + 4).toNatClampNeg), .int (xs (i + 5).toNatClampNeg)]) (st := []) (c_X11_letter l D cI cJ cZ cH (ad 0) (ad 28) (ad 32) (ad 34) (ad 36) (ad 1) (ad 6) (ad 8) (ad 14) (ad 20) (ad 21) (ad 24) (ad 22) (ad 2) (ad 3) (ad 10) (ad 26) (ad 12) (ad 16) (ad 4) (ad 18) (ad 51) (ad 55) (ad 49) (ad 29) (ad 44) (ad 45) (flL 11 (Z 0)) (flL 12 (Z 0)) (tcZ Z 9) (trZ Z 9) (trZ Z 0) (flI 14 (Z 1)) (flI 13 (Z 1)) (xs (i + 1).toNatClampNeg) (xs (i + 2).toNatClampNeg) (xs (i + 3).toNatClampNeg) (xs (i + 4).toNatClampNeg) (xs (i + 5).toNatClampNeg) e1) gzL_145 rfl rfl rfl eL_X11_letter ⟨Nat.le_of_ble_eq_true rfl, Nat.le_of_ble_eq_true rfl⟩ rfl 0 (by decide) rfl (sh_0 hS) rfl [0, 1, 20, 21, 2] (zc_cons rfl (sh_0 hS) (zc_cons rfl (sh_1 hS) (zc_cons rfl (sh_20 hS) (zc_cons rfl (sh_21 hS) (zc_cons rfl (sh_2 hS) zc_nil))))) (zc_cons rfl (zs (sh_0 hS) rfl) (zc_cons rfl (zs (sh_1 hS) rfl) (zc_cons rfl rfl (zc_cons rfl rfl (zc_cons rfl (zs (sh_2 hS) rfl) zc_nil))))) (setl_out rfl) rfl rfl (Nat.le_of_ble_eq_true rfl) hcs hss rfl dL_law_1414 ?_
  refine ii_aload_n 1 dL_law_1417 rfl ?_
  refine ii_aload_n 3 dL_law_1418 rfl ?_
  refine ii_iload_n 0 dL_law_1419 rfl ?_
  refine ii_iconst dL_law_1420 kc1 ?_
  refine ii_iadd dL_law_1421 ?_
  refine ii_sld hX hbl hbA (hin 1 (by decide)) dL_law_1422 ?_
  refine ii_aload_n 3 dL_law_1423 rfl ?_
  refine ii_iload_n 0 dL_law_1424 rfl ?_
  refine ii_iconst dL_law_1425 kc2 ?_
  refine ii_iadd dL_law_1426 ?_
  refine ii_sld hX hbl hbA (hin 2 (by decide)) dL_law_1427 ?_
  refine ii_aload_n 3 dL_law_1428 rfl ?_
  refine ii_iload_n 0 dL_law_1429 rfl ?_
  refine ii_iconst dL_law_1430 kc3 ?_
  refine ii_iadd dL_law_1431 ?_
  refine ii_sld hX hbl hbA (hin 3 (by decide)) dL_law_1432 ?_
  refine ii_aload_n 3 dL_law_1433 rfl ?_
  refine ii_iload_n 0 dL_law_1434 rfl ?_
  refine ii_iconst dL_law_1435 kc4 ?_
  refine ii_iadd dL_law_1436 ?_
  refine ii_sld hX hbl hbA (hin 4 (by decide)) dL_law_1437 ?_
  refine ii_aload_n 3 dL_law_1438 rfl ?_
  refine ii_iload_n 0 dL_law_1439 rfl ?_
  refine ii_iconst dL_law_1440 kc5 ?_
  refine ii_iadd dL_law_1441 ?_
  refine ii_sld hX hbl hbA (hin 5 (by decide)) dL_law_1442 ?_
  refine ii_callZi (nW := 79) (ad := ad) (Z := (setl Z [(21, .inl (cI, 150, .inl o1.2.1)), (20, .inr (8, [.int (5 : Int32), .int (30 : Int32), .ref (ad 21), .int o1.2.2]))])) (setl (setl Z [(21, .inl (cI, 150, .inl o1.2.1)), (20, .inr (8, [.int (5 : Int32), .int (30 : Int32), .ref (ad 21), .int o1.2.2]))]) [(58, .inl (cI, 1951, .inl o2.2))]) (tl := tl) (As := [.int (xs (i + 1).toNatClampNeg), .int (xs (i + 2).toNatClampNeg), .int (xs (i + 3).toNatClampNeg), .int (xs (i + 4).toNatClampNeg), .int (xs (i + 5).toNatClampNeg)]) (st := [.int o1.1]) (c_X12_letter l D cI cJ cZ cH (ad 57) (ad 72) (ad 77) (ad 70) (ad 65) (ad 59) (ad 60) (ad 76) (ad 75) (ad 68) (ad 66) (ad 74) (ad 69) (ad 71) (ad 78) (ad 58) (ad 61) (ad 73) (ad 67) (ad 64) (ad 63) (ad 62) (flL 11 (Z 0)) (flL 12 (Z 0)) (arI (Z 58)) (flI 5 (Z 57)) (flI 8 (Z 57)) (xs (i + 1).toNatClampNeg) (xs (i + 2).toNatClampNeg) (xs (i + 3).toNatClampNeg) (xs (i + 4).toNatClampNeg) (xs (i + 5).toNatClampNeg) e2) gzL_148 rfl rfl rfl eL_X12_letter ⟨Nat.le_of_ble_eq_true rfl, Nat.le_of_ble_eq_true rfl⟩ rfl 57 (by decide) rfl (zs (sh_57a hS ha1 ha2) rfl) rfl [57, 58] (zc_cons rfl (zs (sh_57a hS ha1 ha2) rfl) (zc_cons rfl (zs (sh_58 hS) rfl) zc_nil)) (zc_cons rfl (zs (sh_57a hS ha1 ha2) rfl) (zc_cons rfl rfl zc_nil)) (setl_out rfl) rfl rfl (Nat.le_of_ble_eq_true rfl) hcs hss rfl dL_law_1443 ?_
  refine ii_icmp_eq (tgt := 1813) (r := ()) (ET := some ()) (EF := none) (if_pos q1) dL_law_1446 (by decide) (fun _ => ?_) (fun z => absurd z (by simp))
  exact kk _ _ _ ⟨setl (setl Z [(21, .inl (cI, 150, .inl o1.2.1)), (20, .inr (8, [.int (5 : Int32), .int (30 : Int32), .ref (ad 21), .int o1.2.2]))]) [(58, .inl (cI, 1951, .inl o2.2))], tl, rfl, law_fin (tc' := (va_up (tcZ Z) 9 o1.2.1)) (tr' := (va_up (trZ Z) 9 o1.2.2)) (nar' := (flI 13 (Z 1))) (nam' := (flI 14 (Z 1))) (st' := o2.2) hS (ok_cons ok_21 (ok_cons ok_20 ok_nil)) (ok_cons ok_58 ok_nil) rfl rfl rfl rfl rfl rfl rfl q2 hs1 hs2 hs3 ha1 ha2 him, hb1, hb2⟩

theorem dL_law_1451 : decode cL_law 1451 = .ok (.aload_n 1, 1) := by decide +kernel
theorem dL_law_1452 : decode cL_law 1452 = .ok (.aload_n 0, 1) := by decide +kernel
theorem dL_law_1453 : decode cL_law 1453 = .ok (.iload_n 3, 1) := by decide +kernel
theorem dL_law_1454 : decode cL_law 1454 = .ok (.iconst 1, 1) := by decide +kernel
theorem dL_law_1455 : decode cL_law 1455 = .ok (.iadd, 1) := by decide +kernel
theorem dL_law_1456 : decode cL_law 1456 = .ok (.iaload, 1) := by decide +kernel
theorem dL_law_1457 : decode cL_law 1457 = .ok (.aload_n 0, 1) := by decide +kernel
theorem dL_law_1458 : decode cL_law 1458 = .ok (.iload_n 3, 1) := by decide +kernel
theorem dL_law_1459 : decode cL_law 1459 = .ok (.iconst 2, 1) := by decide +kernel
theorem dL_law_1460 : decode cL_law 1460 = .ok (.iadd, 1) := by decide +kernel
theorem dL_law_1461 : decode cL_law 1461 = .ok (.iaload, 1) := by decide +kernel
theorem dL_law_1462 : decode cL_law 1462 = .ok (.aload_n 0, 1) := by decide +kernel
theorem dL_law_1463 : decode cL_law 1463 = .ok (.iload_n 3, 1) := by decide +kernel
theorem dL_law_1464 : decode cL_law 1464 = .ok (.iconst 3, 1) := by decide +kernel
theorem dL_law_1465 : decode cL_law 1465 = .ok (.iadd, 1) := by decide +kernel
theorem dL_law_1466 : decode cL_law 1466 = .ok (.iaload, 1) := by decide +kernel
theorem dL_law_1467 : decode cL_law 1467 = .ok (.invokevirtual 149, 3) := by decide +kernel
theorem dL_law_1470 : decode cL_law 1470 = .ok (.aload_n 2, 1) := by decide +kernel
theorem dL_law_1471 : decode cL_law 1471 = .ok (.aload_n 0, 1) := by decide +kernel
theorem dL_law_1472 : decode cL_law 1472 = .ok (.iload_n 3, 1) := by decide +kernel
theorem dL_law_1473 : decode cL_law 1473 = .ok (.iconst 1, 1) := by decide +kernel
theorem dL_law_1474 : decode cL_law 1474 = .ok (.iadd, 1) := by decide +kernel
theorem dL_law_1475 : decode cL_law 1475 = .ok (.iaload, 1) := by decide +kernel
theorem dL_law_1476 : decode cL_law 1476 = .ok (.aload_n 0, 1) := by decide +kernel
theorem dL_law_1477 : decode cL_law 1477 = .ok (.iload_n 3, 1) := by decide +kernel
theorem dL_law_1478 : decode cL_law 1478 = .ok (.iconst 2, 1) := by decide +kernel
theorem dL_law_1479 : decode cL_law 1479 = .ok (.iadd, 1) := by decide +kernel
theorem dL_law_1480 : decode cL_law 1480 = .ok (.iaload, 1) := by decide +kernel
theorem dL_law_1481 : decode cL_law 1481 = .ok (.aload_n 0, 1) := by decide +kernel
theorem dL_law_1482 : decode cL_law 1482 = .ok (.iload_n 3, 1) := by decide +kernel
theorem dL_law_1483 : decode cL_law 1483 = .ok (.iconst 3, 1) := by decide +kernel
theorem dL_law_1484 : decode cL_law 1484 = .ok (.iadd, 1) := by decide +kernel
theorem dL_law_1485 : decode cL_law 1485 = .ok (.iaload, 1) := by decide +kernel
theorem dL_law_1486 : decode cL_law 1486 = .ok (.invokevirtual 152, 3) := by decide +kernel
theorem dL_law_1489 : decode cL_law 1489 = .ok (.if_icmp .eq 324, 3) := by decide +kernel
theorem eL_X11_knows : yX11_knows.cls = RX11 ∧ yX11_knows.cls ≠ "java/lang/invoke/MethodHandle" ∧ yX11_knows.cls ≠ "java/lang/invoke/VarHandle" ∧ (parseMethodDescriptor yX11_knows.desc).map (fun d => d.parameters.length) = some 3 := by decide +kernel
theorem eL_X12_knows : yX12_knows.cls = RX12 ∧ yX12_knows.cls ≠ "java/lang/invoke/MethodHandle" ∧ yX12_knows.cls ≠ "java/lang/invoke/VarHandle" ∧ (parseMethodDescriptor yX12_knows.desc).map (fun d => d.parameters.length) = some 3 := by decide +kernel
set_option maxHeartbeats 4000000 in
set_option maxRecDepth 100000 in
theorem law_32 {l : Launch} {p : Program} {e : Env} {s : State} {m : MethodId} {below : List Frame} {meth : Method} {c : Code} {D : va_G} {A : Nat → Prop} {cells slots : Nat} {Q : State → Prop} {b L : Nat} {xs : Nat → Int32} {i : Int32} {cI cJ cZ cH : ClassId} {ad : Nat → Nat} {ws : va_W} (hX : va_X b L xs s s.heap) (hbl : b < s.heap.size) (hbA : ¬ A b) (hin : ∀ j : Nat, j < 8 → vp_in (i + nI j) L) (hL : LawS cI cJ cZ cH ad cells slots ws) (kk : ∀ cells slots ws, LawS cI cJ cZ cH ad cells slots ws → WX p l e room_1 s m #[.ref b] below meth c code RL lwG D [(cI, .int), (cJ, .long), (cZ, .boolean), (cH, .object "TinHouse$House")] A 4 cells slots Q ws 1813 [(3, .int i), (2, .ref (ad 57)), (1, .ref (ad 0)), (0, .ref b)] []) : WX p l e room_1 s m #[.ref b] below meth c code RL lwG D [(cI, .int), (cJ, .long), (cZ, .boolean), (cH, .object "TinHouse$House")] A 4 cells slots Q ws 1451 [(3, .int i), (2, .ref (ad 57)), (1, .ref (ad 0)), (0, .ref b)] [] := by
  obtain ⟨Z, tl, rfl, ⟨hS, h, hs1, hs2, hs3, ha1, ha2, him⟩, hb1, hb2⟩ := hL
  have hcs : cells ≤ room_1.cells := Nat.le_trans (Nat.le_add_right _ _) hb1
  have hss : slots ≤ room_1.slots := Nat.le_trans (Nat.le_add_right _ _) hb2
  refine ii_aload_n 2 dL_law_1451 rfl ?_
  refine ii_aload_n 3 dL_law_1452 rfl ?_
  refine ii_iload_n 0 dL_law_1453 rfl ?_
  refine ii_iconst dL_law_1454 kc1 ?_
  refine ii_iadd dL_law_1455 ?_
  refine ii_sld hX hbl hbA (hin 1 (by decide)) dL_law_1456 ?_
  refine ii_aload_n 3 dL_law_1457 rfl ?_
  refine ii_iload_n 0 dL_law_1458 rfl ?_
  refine ii_iconst dL_law_1459 kc2 ?_
  refine ii_iadd dL_law_1460 ?_
  refine ii_sld hX hbl hbA (hin 2 (by decide)) dL_law_1461 ?_
  refine ii_aload_n 3 dL_law_1462 rfl ?_
  refine ii_iload_n 0 dL_law_1463 rfl ?_
  refine ii_iconst dL_law_1464 kc3 ?_
  refine ii_iadd dL_law_1465 ?_
  refine ii_sld hX hbl hbA (hin 3 (by decide)) dL_law_1466 ?_
  obtain ⟨o1, o2, e1, e2, q1⟩ := (P_knows h _ _ _ _ _ : Two (F_X11_knows (tcZ Z 9) (trZ Z 9) (trZ Z 0) (arI (Z 50)) (xs (i + 1).toNatClampNeg) (xs (i + 2).toNatClampNeg) (xs (i + 3).toNatClampNeg)) (F_X12_knows (arI (Z 75)) (arI (Z 58)) (xs (i + 1).toNatClampNeg) (xs (i + 2).toNatClampNeg) (xs (i + 3).toNatClampNeg)) _)
  refine ii_callZi (nW := 79) (ad := ad) (Z := Z) (setl Z [(50, .inl (cI, 30, .inl o1.2))]) (tl := tl) (As := [.int (xs (i + 1).toNatClampNeg), .int (xs (i + 2).toNatClampNeg), .int (xs (i + 3).toNatClampNeg)]) (st := []) (c_X11_knows l D cI cJ cZ cH (ad 0) (ad 28) (ad 32) (ad 34) (ad 36) (ad 1) (ad 6) (ad 8) (ad 14) (ad 20) (ad 21) (ad 24) (ad 22) (ad 2) (ad 3) (ad 10) (ad 26) (ad 12) (ad 16) (ad 4) (ad 18) (ad 51) (ad 55) (ad 49) (ad 50) (ad 29) (ad 44) (ad 45) (flL 11 (Z 0)) (flL 12 (Z 0)) (tcZ Z 9) (trZ Z 9) (trZ Z 0) (flI 14 (Z 1)) (flI 13 (Z 1)) (arI (Z 50)) (xs (i + 1).toNatClampNeg) (xs (i + 2).toNatClampNeg) (xs (i + 3).toNatClampNeg) e1) gzL_149 rfl rfl rfl eL_X11_knows ⟨Nat.le_of_ble_eq_true rfl, Nat.le_of_ble_eq_true rfl⟩ rfl 0 (by decide) rfl (sh_0 hS) rfl [0, 1, 20, 21, 2, 49, 50] (zc_cons rfl (sh_0 hS) (zc_cons rfl (sh_1 hS) (zc_cons rfl (sh_20 hS) (zc_cons rfl (sh_21 hS) (zc_cons rfl (sh_2 hS) (zc_cons rfl (sh_49 hS) (zc_cons rfl (sh_50 hS) zc_nil))))))) (zc_cons rfl (zs (sh_0 hS) rfl) (zc_cons rfl (zs (sh_1 hS) rfl) (zc_cons rfl (zs (sh_20 hS) rfl) (zc_cons rfl (zs (sh_21 hS) rfl) (zc_cons rfl (zs (sh_2 hS) rfl) (zc_cons rfl (zs (sh_49 hS) rfl) (zc_cons rfl rfl zc_nil))))))) (setl_out rfl) rfl rfl (Nat.le_of_ble_eq_true rfl) hcs hss rfl dL_law_1467 ?_
  refine ii_aload_n 1 dL_law_1470 rfl ?_
  refine ii_aload_n 3 dL_law_1471 rfl ?_
  refine ii_iload_n 0 dL_law_1472 rfl ?_
  refine ii_iconst dL_law_1473 kc1 ?_
  refine ii_iadd dL_law_1474 ?_
  refine ii_sld hX hbl hbA (hin 1 (by decide)) dL_law_1475 ?_
  refine ii_aload_n 3 dL_law_1476 rfl ?_
  refine ii_iload_n 0 dL_law_1477 rfl ?_
  refine ii_iconst dL_law_1478 kc2 ?_
  refine ii_iadd dL_law_1479 ?_
  refine ii_sld hX hbl hbA (hin 2 (by decide)) dL_law_1480 ?_
  refine ii_aload_n 3 dL_law_1481 rfl ?_
  refine ii_iload_n 0 dL_law_1482 rfl ?_
  refine ii_iconst dL_law_1483 kc3 ?_
  refine ii_iadd dL_law_1484 ?_
  refine ii_sld hX hbl hbA (hin 3 (by decide)) dL_law_1485 ?_
  refine ii_callZi (nW := 79) (ad := ad) (Z := (setl Z [(50, .inl (cI, 30, .inl o1.2))])) (setl (setl Z [(50, .inl (cI, 30, .inl o1.2))]) [(75, .inl (cI, 30, .inl o2.2))]) (tl := tl) (As := [.int (xs (i + 1).toNatClampNeg), .int (xs (i + 2).toNatClampNeg), .int (xs (i + 3).toNatClampNeg)]) (st := [.int o1.1]) (c_X12_knows l D cI cJ cZ cH (ad 57) (ad 72) (ad 77) (ad 70) (ad 65) (ad 59) (ad 60) (ad 76) (ad 75) (ad 68) (ad 66) (ad 74) (ad 69) (ad 71) (ad 78) (ad 58) (ad 61) (ad 73) (ad 67) (ad 64) (ad 63) (ad 62) (flL 11 (Z 0)) (flL 12 (Z 0)) (arI (Z 75)) (arI (Z 58)) (flI 5 (Z 57)) (flI 8 (Z 57)) (xs (i + 1).toNatClampNeg) (xs (i + 2).toNatClampNeg) (xs (i + 3).toNatClampNeg) e2) gzL_152 rfl rfl rfl eL_X12_knows ⟨Nat.le_of_ble_eq_true rfl, Nat.le_of_ble_eq_true rfl⟩ rfl 57 (by decide) rfl (zs (sh_57a hS ha1 ha2) rfl) rfl [57, 75, 58] (zc_cons rfl (zs (sh_57a hS ha1 ha2) rfl) (zc_cons rfl (zs (sh_75 hS) rfl) (zc_cons rfl (zs (sh_58 hS) rfl) zc_nil))) (zc_cons rfl (zs (sh_57a hS ha1 ha2) rfl) (zc_cons rfl rfl (zc_cons rfl (zs (sh_58 hS) rfl) zc_nil))) (setl_out rfl) rfl rfl (Nat.le_of_ble_eq_true rfl) hcs hss rfl dL_law_1486 ?_
  refine ii_icmp_eq (tgt := 1813) (r := ()) (ET := some ()) (EF := none) (if_pos q1) dL_law_1489 (by decide) (fun _ => ?_) (fun z => absurd z (by simp))
  exact kk _ _ _ ⟨setl (setl Z [(50, .inl (cI, 30, .inl o1.2))]) [(75, .inl (cI, 30, .inl o2.2))], tl, rfl, law_fin (tc' := (tcZ Z)) (tr' := (trZ Z)) (nar' := (flI 13 (Z 1))) (nam' := (flI 14 (Z 1))) (st' := (arI (Z 58))) hS (ok_cons ok_50 ok_nil) (ok_cons ok_75 ok_nil) rfl rfl rfl rfl rfl rfl rfl h hs1 hs2 hs3 ha1 ha2 him, hb1, hb2⟩

theorem dL_law_1494 : decode cL_law 1494 = .ok (.aload_n 1, 1) := by decide +kernel
theorem dL_law_1495 : decode cL_law 1495 = .ok (.aload_n 0, 1) := by decide +kernel
theorem dL_law_1496 : decode cL_law 1496 = .ok (.iload_n 3, 1) := by decide +kernel
theorem dL_law_1497 : decode cL_law 1497 = .ok (.iconst 1, 1) := by decide +kernel
theorem dL_law_1498 : decode cL_law 1498 = .ok (.iadd, 1) := by decide +kernel
theorem dL_law_1499 : decode cL_law 1499 = .ok (.iaload, 1) := by decide +kernel
theorem dL_law_1500 : decode cL_law 1500 = .ok (.invokevirtual 153, 3) := by decide +kernel
theorem dL_law_1503 : decode cL_law 1503 = .ok (.aload_n 2, 1) := by decide +kernel
theorem dL_law_1504 : decode cL_law 1504 = .ok (.aload_n 0, 1) := by decide +kernel
theorem dL_law_1505 : decode cL_law 1505 = .ok (.iload_n 3, 1) := by decide +kernel
theorem dL_law_1506 : decode cL_law 1506 = .ok (.iconst 1, 1) := by decide +kernel
theorem dL_law_1507 : decode cL_law 1507 = .ok (.iadd, 1) := by decide +kernel
theorem dL_law_1508 : decode cL_law 1508 = .ok (.iaload, 1) := by decide +kernel
theorem dL_law_1509 : decode cL_law 1509 = .ok (.invokevirtual 156, 3) := by decide +kernel
theorem dL_law_1512 : decode cL_law 1512 = .ok (.if_icmp .eq 301, 3) := by decide +kernel
theorem eL_X11_carries : yX11_carries.cls = RX11 ∧ yX11_carries.cls ≠ "java/lang/invoke/MethodHandle" ∧ yX11_carries.cls ≠ "java/lang/invoke/VarHandle" ∧ (parseMethodDescriptor yX11_carries.desc).map (fun d => d.parameters.length) = some 1 := by decide +kernel
theorem eL_X12_carries : yX12_carries.cls = RX12 ∧ yX12_carries.cls ≠ "java/lang/invoke/MethodHandle" ∧ yX12_carries.cls ≠ "java/lang/invoke/VarHandle" ∧ (parseMethodDescriptor yX12_carries.desc).map (fun d => d.parameters.length) = some 1 := by decide +kernel
set_option maxHeartbeats 4000000 in
set_option maxRecDepth 100000 in
theorem law_33 {l : Launch} {p : Program} {e : Env} {s : State} {m : MethodId} {below : List Frame} {meth : Method} {c : Code} {D : va_G} {A : Nat → Prop} {cells slots : Nat} {Q : State → Prop} {b L : Nat} {xs : Nat → Int32} {i : Int32} {cI cJ cZ cH : ClassId} {ad : Nat → Nat} {ws : va_W} (hX : va_X b L xs s s.heap) (hbl : b < s.heap.size) (hbA : ¬ A b) (hin : ∀ j : Nat, j < 8 → vp_in (i + nI j) L) (hL : LawS cI cJ cZ cH ad cells slots ws) (kk : ∀ cells slots ws, LawS cI cJ cZ cH ad cells slots ws → WX p l e room_1 s m #[.ref b] below meth c code RL lwG D [(cI, .int), (cJ, .long), (cZ, .boolean), (cH, .object "TinHouse$House")] A 4 cells slots Q ws 1813 [(3, .int i), (2, .ref (ad 57)), (1, .ref (ad 0)), (0, .ref b)] []) : WX p l e room_1 s m #[.ref b] below meth c code RL lwG D [(cI, .int), (cJ, .long), (cZ, .boolean), (cH, .object "TinHouse$House")] A 4 cells slots Q ws 1494 [(3, .int i), (2, .ref (ad 57)), (1, .ref (ad 0)), (0, .ref b)] [] := by
  obtain ⟨Z, tl, rfl, ⟨hS, h, hs1, hs2, hs3, ha1, ha2, him⟩, hb1, hb2⟩ := hL
  have hcs : cells ≤ room_1.cells := Nat.le_trans (Nat.le_add_right _ _) hb1
  have hss : slots ≤ room_1.slots := Nat.le_trans (Nat.le_add_right _ _) hb2
  refine ii_aload_n 2 dL_law_1494 rfl ?_
  refine ii_aload_n 3 dL_law_1495 rfl ?_
  refine ii_iload_n 0 dL_law_1496 rfl ?_
  refine ii_iconst dL_law_1497 kc1 ?_
  refine ii_iadd dL_law_1498 ?_
  refine ii_sld hX hbl hbA (hin 1 (by decide)) dL_law_1499 ?_
  obtain ⟨o1, o2, e1, e2, q1⟩ := (P_carries h _ _ _ : Two (F_X11_carries (tcZ Z 9) (trZ Z 9) (arI (Z 50)) (xs (i + 1).toNatClampNeg)) (F_X12_carries (arI (Z 75)) (arI (Z 58)) (xs (i + 1).toNatClampNeg)) _)
  refine ii_callZi (nW := 79) (ad := ad) (Z := Z) (setl Z [(50, .inl (cI, 30, .inl o1.2))]) (tl := tl) (As := [.int (xs (i + 1).toNatClampNeg)]) (st := []) (c_X11_carries l D cI cJ cZ cH (ad 0) (ad 28) (ad 32) (ad 34) (ad 36) (ad 1) (ad 6) (ad 8) (ad 14) (ad 20) (ad 21) (ad 24) (ad 22) (ad 2) (ad 10) (ad 26) (ad 12) (ad 16) (ad 4) (ad 18) (ad 51) (ad 55) (ad 49) (ad 50) (ad 29) (ad 44) (ad 45) (flL 11 (Z 0)) (flL 12 (Z 0)) (tcZ Z 9) (trZ Z 9) (flI 14 (Z 1)) (flI 13 (Z 1)) (arI (Z 50)) (xs (i + 1).toNatClampNeg) e1) gzL_153 rfl rfl rfl eL_X11_carries ⟨Nat.le_of_ble_eq_true rfl, Nat.le_of_ble_eq_true rfl⟩ rfl 0 (by decide) rfl (sh_0 hS) rfl [0, 1, 20, 21, 49, 50] (zc_cons rfl (sh_0 hS) (zc_cons rfl (sh_1 hS) (zc_cons rfl (sh_20 hS) (zc_cons rfl (sh_21 hS) (zc_cons rfl (sh_49 hS) (zc_cons rfl (sh_50 hS) zc_nil)))))) (zc_cons rfl (zs (sh_0 hS) rfl) (zc_cons rfl (zs (sh_1 hS) rfl) (zc_cons rfl (zs (sh_20 hS) rfl) (zc_cons rfl (zs (sh_21 hS) rfl) (zc_cons rfl (zs (sh_49 hS) rfl) (zc_cons rfl rfl zc_nil)))))) (setl_out rfl) rfl rfl (Nat.le_of_ble_eq_true rfl) hcs hss rfl dL_law_1500 ?_
  refine ii_aload_n 1 dL_law_1503 rfl ?_
  refine ii_aload_n 3 dL_law_1504 rfl ?_
  refine ii_iload_n 0 dL_law_1505 rfl ?_
  refine ii_iconst dL_law_1506 kc1 ?_
  refine ii_iadd dL_law_1507 ?_
  refine ii_sld hX hbl hbA (hin 1 (by decide)) dL_law_1508 ?_
  refine ii_callZi (nW := 79) (ad := ad) (Z := (setl Z [(50, .inl (cI, 30, .inl o1.2))])) (setl (setl Z [(50, .inl (cI, 30, .inl o1.2))]) [(75, .inl (cI, 30, .inl o2.2))]) (tl := tl) (As := [.int (xs (i + 1).toNatClampNeg)]) (st := [.int o1.1]) (c_X12_carries l D cI cJ cZ cH (ad 57) (ad 72) (ad 77) (ad 70) (ad 65) (ad 59) (ad 60) (ad 76) (ad 75) (ad 68) (ad 66) (ad 74) (ad 69) (ad 71) (ad 78) (ad 58) (ad 61) (ad 73) (ad 67) (ad 64) (ad 63) (ad 62) (flL 11 (Z 0)) (flL 12 (Z 0)) (arI (Z 75)) (arI (Z 58)) (flI 5 (Z 57)) (flI 8 (Z 57)) (xs (i + 1).toNatClampNeg) e2) gzL_156 rfl rfl rfl eL_X12_carries ⟨Nat.le_of_ble_eq_true rfl, Nat.le_of_ble_eq_true rfl⟩ rfl 57 (by decide) rfl (zs (sh_57a hS ha1 ha2) rfl) rfl [57, 75, 58] (zc_cons rfl (zs (sh_57a hS ha1 ha2) rfl) (zc_cons rfl (zs (sh_75 hS) rfl) (zc_cons rfl (zs (sh_58 hS) rfl) zc_nil))) (zc_cons rfl (zs (sh_57a hS ha1 ha2) rfl) (zc_cons rfl rfl (zc_cons rfl (zs (sh_58 hS) rfl) zc_nil))) (setl_out rfl) rfl rfl (Nat.le_of_ble_eq_true rfl) hcs hss rfl dL_law_1509 ?_
  refine ii_icmp_eq (tgt := 1813) (r := ()) (ET := some ()) (EF := none) (if_pos q1) dL_law_1512 (by decide) (fun _ => ?_) (fun z => absurd z (by simp))
  exact kk _ _ _ ⟨setl (setl Z [(50, .inl (cI, 30, .inl o1.2))]) [(75, .inl (cI, 30, .inl o2.2))], tl, rfl, law_fin (tc' := (tcZ Z)) (tr' := (trZ Z)) (nar' := (flI 13 (Z 1))) (nam' := (flI 14 (Z 1))) (st' := (arI (Z 58))) hS (ok_cons ok_50 ok_nil) (ok_cons ok_75 ok_nil) rfl rfl rfl rfl rfl rfl rfl h hs1 hs2 hs3 ha1 ha2 him, hb1, hb2⟩

