/-! THE LAW: cases -/
theorem dL_law_902 : decode cL_law 902 = .ok (.aload_n 1, 1) := by decide +kernel
theorem dL_law_903 : decode cL_law 903 = .ok (.aload_n 0, 1) := by decide +kernel
theorem dL_law_904 : decode cL_law 904 = .ok (.iload_n 3, 1) := by decide +kernel
theorem dL_law_905 : decode cL_law 905 = .ok (.iconst 1, 1) := by decide +kernel
theorem dL_law_906 : decode cL_law 906 = .ok (.iadd, 1) := by decide +kernel
theorem dL_law_907 : decode cL_law 907 = .ok (.iaload, 1) := by decide +kernel
theorem dL_law_908 : decode cL_law 908 = .ok (.invokevirtual 85, 3) := by decide +kernel
theorem dL_law_911 : decode cL_law 911 = .ok (.aload_n 2, 1) := by decide +kernel
theorem dL_law_912 : decode cL_law 912 = .ok (.aload_n 0, 1) := by decide +kernel
theorem dL_law_913 : decode cL_law 913 = .ok (.iload_n 3, 1) := by decide +kernel
theorem dL_law_914 : decode cL_law 914 = .ok (.iconst 1, 1) := by decide +kernel
theorem dL_law_915 : decode cL_law 915 = .ok (.iadd, 1) := by decide +kernel
theorem dL_law_916 : decode cL_law 916 = .ok (.iaload, 1) := by decide +kernel
theorem dL_law_917 : decode cL_law 917 = .ok (.invokevirtual 88, 3) := by decide +kernel
theorem dL_law_920 : decode cL_law 920 = .ok (.if_icmp .eq 893, 3) := by decide +kernel
theorem eL_X11_gate : yX11_gate.cls = RX11 ∧ yX11_gate.cls ≠ "java/lang/invoke/MethodHandle" ∧ yX11_gate.cls ≠ "java/lang/invoke/VarHandle" ∧ (parseMethodDescriptor yX11_gate.desc).map (fun d => d.parameters.length) = some 1 := by decide +kernel
theorem eL_X12_gate : yX12_gate.cls = RX12 ∧ yX12_gate.cls ≠ "java/lang/invoke/MethodHandle" ∧ yX12_gate.cls ≠ "java/lang/invoke/VarHandle" ∧ (parseMethodDescriptor yX12_gate.desc).map (fun d => d.parameters.length) = some 1 := by decide +kernel
set_option maxHeartbeats 4000000 in
set_option maxRecDepth 100000 in
theorem law_16 {l : Launch} {p : Program} {e : Env} {s : State} {m : MethodId} {below : List Frame} {meth : Method} {c : Code} {D : va_G} {A : Nat → Prop} {cells slots : Nat} {Q : State → Prop} {b L : Nat} {xs : Nat → Int32} {i : Int32} {cI cJ cZ cH : ClassId} {ad : Nat → Nat} {ws : va_W} (hX : va_X b L xs s s.heap) (hbl : b < s.heap.size) (hbA : ¬ A b) (hin : ∀ j : Nat, j < 8 → vp_in (i + nI j) L) (hL : LawS cI cJ cZ cH ad cells slots ws) (kk : ∀ cells slots ws, LawS cI cJ cZ cH ad cells slots ws → WX p l e room_1 s m #[.ref b] below meth c code RL lwG D [(cI, .int), (cJ, .long), (cZ, .boolean), (cH, .object "TinHouse$House")] A 4 cells slots Q ws 1813 [(3, .int i), (2, .ref (ad 57)), (1, .ref (ad 0)), (0, .ref b)] []) : WX p l e room_1 s m #[.ref b] below meth c code RL lwG D [(cI, .int), (cJ, .long), (cZ, .boolean), (cH, .object "TinHouse$House")] A 4 cells slots Q ws 902 [(3, .int i), (2, .ref (ad 57)), (1, .ref (ad 0)), (0, .ref b)] [] := by
  obtain ⟨Z, tl, rfl, ⟨hS, h, hs1, hs2, hs3, ha1, ha2, him⟩, hb1, hb2⟩ := hL
  have hcs : cells ≤ room_1.cells := Nat.le_trans (Nat.le_add_right _ _) hb1
  have hss : slots ≤ room_1.slots := Nat.le_trans (Nat.le_add_right _ _) hb2
  refine ii_aload_n 2 dL_law_902 rfl ?_
  refine ii_aload_n 3 dL_law_903 rfl ?_
  refine ii_iload_n 0 dL_law_904 rfl ?_
  refine ii_iconst dL_law_905 kc1 ?_
  refine ii_iadd dL_law_906 ?_
  refine ii_sld hX hbl hbA (hin 1 (by decide)) dL_law_907 ?_
  obtain ⟨o1, o2, e1, e2, q1, q2⟩ := (P_gate h _ : Two (F_X11_gate (tcZ Z 6) (trZ Z 6) (xs (i + 1).toNatClampNeg)) (F_X12_gate (arI (Z 58)) (xs (i + 1).toNatClampNeg)) _)
  refine ii_callZi (nW := 79) (ad := ad) (Z := Z) (setl Z [(15, .inl (cI, 6, .inl o1.2.1)), (14, .inr (8, [.int (1 : Int32), .int (6 : Int32), .ref (ad 15), .int o1.2.2]))]) (tl := tl) (As := [.int (xs (i + 1).toNatClampNeg)]) (st := []) (c_X11_gate l D cI cJ cZ cH (ad 0) (ad 28) (ad 32) (ad 34) (ad 36) (ad 1) (ad 6) (ad 8) (ad 14) (ad 15) (ad 20) (ad 24) (ad 22) (ad 2) (ad 10) (ad 26) (ad 12) (ad 16) (ad 4) (ad 18) (ad 51) (ad 55) (ad 49) (ad 29) (ad 44) (ad 45) (flL 11 (Z 0)) (flL 12 (Z 0)) (tcZ Z 6) (trZ Z 6) (flI 14 (Z 1)) (flI 13 (Z 1)) (xs (i + 1).toNatClampNeg) e1) gzL_85 rfl rfl rfl eL_X11_gate ⟨Nat.le_of_ble_eq_true rfl, Nat.le_of_ble_eq_true rfl⟩ rfl 0 (by decide) rfl (sh_0 hS) rfl [0, 1, 14, 15] (zc_cons rfl (sh_0 hS) (zc_cons rfl (sh_1 hS) (zc_cons rfl (sh_14 hS) (zc_cons rfl (sh_15 hS) zc_nil)))) (zc_cons rfl (zs (sh_0 hS) rfl) (zc_cons rfl (zs (sh_1 hS) rfl) (zc_cons rfl rfl (zc_cons rfl rfl zc_nil)))) (setl_out rfl) rfl rfl (Nat.le_of_ble_eq_true rfl) hcs hss rfl dL_law_908 ?_
  refine ii_aload_n 1 dL_law_911 rfl ?_
  refine ii_aload_n 3 dL_law_912 rfl ?_
  refine ii_iload_n 0 dL_law_913 rfl ?_
  refine ii_iconst dL_law_914 kc1 ?_
  refine ii_iadd dL_law_915 ?_
  refine ii_sld hX hbl hbA (hin 1 (by decide)) dL_law_916 ?_
  refine ii_callZi (nW := 79) (ad := ad) (Z := (setl Z [(15, .inl (cI, 6, .inl o1.2.1)), (14, .inr (8, [.int (1 : Int32), .int (6 : Int32), .ref (ad 15), .int o1.2.2]))])) (setl (setl Z [(15, .inl (cI, 6, .inl o1.2.1)), (14, .inr (8, [.int (1 : Int32), .int (6 : Int32), .ref (ad 15), .int o1.2.2]))]) [(58, .inl (cI, 1951, .inl o2.2))]) (tl := tl) (As := [.int (xs (i + 1).toNatClampNeg)]) (st := [.int o1.1]) (c_X12_gate l D cI cJ cZ cH (ad 57) (ad 72) (ad 77) (ad 70) (ad 65) (ad 59) (ad 60) (ad 76) (ad 75) (ad 68) (ad 66) (ad 74) (ad 69) (ad 71) (ad 78) (ad 58) (ad 61) (ad 73) (ad 67) (ad 64) (ad 63) (ad 62) (flL 11 (Z 0)) (flL 12 (Z 0)) (arI (Z 58)) (flI 5 (Z 57)) (flI 8 (Z 57)) (xs (i + 1).toNatClampNeg) e2) gzL_88 rfl rfl rfl eL_X12_gate ⟨Nat.le_of_ble_eq_true rfl, Nat.le_of_ble_eq_true rfl⟩ rfl 57 (by decide) rfl (zs (sh_57a hS ha1 ha2) rfl) rfl [57, 58] (zc_cons rfl (zs (sh_57a hS ha1 ha2) rfl) (zc_cons rfl (zs (sh_58 hS) rfl) zc_nil)) (zc_cons rfl (zs (sh_57a hS ha1 ha2) rfl) (zc_cons rfl rfl zc_nil)) (setl_out rfl) rfl rfl (Nat.le_of_ble_eq_true rfl) hcs hss rfl dL_law_917 ?_
  refine ii_icmp_eq (tgt := 1813) (r := ()) (ET := some ()) (EF := none) (if_pos q1) dL_law_920 (by decide) (fun _ => ?_) (fun z => absurd z (by simp))
  exact kk _ _ _ ⟨setl (setl Z [(15, .inl (cI, 6, .inl o1.2.1)), (14, .inr (8, [.int (1 : Int32), .int (6 : Int32), .ref (ad 15), .int o1.2.2]))]) [(58, .inl (cI, 1951, .inl o2.2))], tl, rfl, law_fin (tc' := (va_up (tcZ Z) 6 o1.2.1)) (tr' := (va_up (trZ Z) 6 o1.2.2)) (nar' := (flI 13 (Z 1))) (nam' := (flI 14 (Z 1))) (st' := o2.2) hS (ok_cons ok_15 (ok_cons ok_14 ok_nil)) (ok_cons ok_58 ok_nil) rfl rfl rfl rfl rfl rfl rfl q2 hs1 hs2 hs3 ha1 ha2 him, hb1, hb2⟩

theorem dL_law_925 : decode cL_law 925 = .ok (.aload_n 1, 1) := by decide +kernel
theorem dL_law_926 : decode cL_law 926 = .ok (.aload_n 0, 1) := by decide +kernel
theorem dL_law_927 : decode cL_law 927 = .ok (.iload_n 3, 1) := by decide +kernel
theorem dL_law_928 : decode cL_law 928 = .ok (.iconst 1, 1) := by decide +kernel
theorem dL_law_929 : decode cL_law 929 = .ok (.iadd, 1) := by decide +kernel
theorem dL_law_930 : decode cL_law 930 = .ok (.iaload, 1) := by decide +kernel
theorem dL_law_931 : decode cL_law 931 = .ok (.aload_n 0, 1) := by decide +kernel
theorem dL_law_932 : decode cL_law 932 = .ok (.iload_n 3, 1) := by decide +kernel
theorem dL_law_933 : decode cL_law 933 = .ok (.iconst 2, 1) := by decide +kernel
theorem dL_law_934 : decode cL_law 934 = .ok (.iadd, 1) := by decide +kernel
theorem dL_law_935 : decode cL_law 935 = .ok (.iaload, 1) := by decide +kernel
theorem dL_law_936 : decode cL_law 936 = .ok (.aload_n 0, 1) := by decide +kernel
theorem dL_law_937 : decode cL_law 937 = .ok (.iload_n 3, 1) := by decide +kernel
theorem dL_law_938 : decode cL_law 938 = .ok (.iconst 3, 1) := by decide +kernel
theorem dL_law_939 : decode cL_law 939 = .ok (.iadd, 1) := by decide +kernel
theorem dL_law_940 : decode cL_law 940 = .ok (.iaload, 1) := by decide +kernel
theorem dL_law_941 : decode cL_law 941 = .ok (.invokevirtual 89, 3) := by decide +kernel
theorem dL_law_944 : decode cL_law 944 = .ok (.aload_n 2, 1) := by decide +kernel
theorem dL_law_945 : decode cL_law 945 = .ok (.aload_n 0, 1) := by decide +kernel
theorem dL_law_946 : decode cL_law 946 = .ok (.iload_n 3, 1) := by decide +kernel
theorem dL_law_947 : decode cL_law 947 = .ok (.iconst 1, 1) := by decide +kernel
theorem dL_law_948 : decode cL_law 948 = .ok (.iadd, 1) := by decide +kernel
theorem dL_law_949 : decode cL_law 949 = .ok (.iaload, 1) := by decide +kernel
theorem dL_law_950 : decode cL_law 950 = .ok (.aload_n 0, 1) := by decide +kernel
theorem dL_law_951 : decode cL_law 951 = .ok (.iload_n 3, 1) := by decide +kernel
theorem dL_law_952 : decode cL_law 952 = .ok (.iconst 2, 1) := by decide +kernel
theorem dL_law_953 : decode cL_law 953 = .ok (.iadd, 1) := by decide +kernel
theorem dL_law_954 : decode cL_law 954 = .ok (.iaload, 1) := by decide +kernel
theorem dL_law_955 : decode cL_law 955 = .ok (.aload_n 0, 1) := by decide +kernel
theorem dL_law_956 : decode cL_law 956 = .ok (.iload_n 3, 1) := by decide +kernel
theorem dL_law_957 : decode cL_law 957 = .ok (.iconst 3, 1) := by decide +kernel
theorem dL_law_958 : decode cL_law 958 = .ok (.iadd, 1) := by decide +kernel
theorem dL_law_959 : decode cL_law 959 = .ok (.iaload, 1) := by decide +kernel
theorem dL_law_960 : decode cL_law 960 = .ok (.invokevirtual 92, 3) := by decide +kernel
theorem dL_law_963 : decode cL_law 963 = .ok (.if_icmp .eq 850, 3) := by decide +kernel
theorem eL_X11_wide : yX11_wide.cls = RX11 ∧ yX11_wide.cls ≠ "java/lang/invoke/MethodHandle" ∧ yX11_wide.cls ≠ "java/lang/invoke/VarHandle" ∧ (parseMethodDescriptor yX11_wide.desc).map (fun d => d.parameters.length) = some 3 := by decide +kernel
theorem eL_X12_wide : yX12_wide.cls = RX12 ∧ yX12_wide.cls ≠ "java/lang/invoke/MethodHandle" ∧ yX12_wide.cls ≠ "java/lang/invoke/VarHandle" ∧ (parseMethodDescriptor yX12_wide.desc).map (fun d => d.parameters.length) = some 3 := by decide +kernel
set_option maxHeartbeats 4000000 in
set_option maxRecDepth 100000 in
theorem law_17 {l : Launch} {p : Program} {e : Env} {s : State} {m : MethodId} {below : List Frame} {meth : Method} {c : Code} {D : va_G} {A : Nat → Prop} {cells slots : Nat} {Q : State → Prop} {b L : Nat} {xs : Nat → Int32} {i : Int32} {cI cJ cZ cH : ClassId} {ad : Nat → Nat} {ws : va_W} (hX : va_X b L xs s s.heap) (hbl : b < s.heap.size) (hbA : ¬ A b) (hin : ∀ j : Nat, j < 8 → vp_in (i + nI j) L) (hL : LawS cI cJ cZ cH ad cells slots ws) (kk : ∀ cells slots ws, LawS cI cJ cZ cH ad cells slots ws → WX p l e room_1 s m #[.ref b] below meth c code RL lwG D [(cI, .int), (cJ, .long), (cZ, .boolean), (cH, .object "TinHouse$House")] A 4 cells slots Q ws 1813 [(3, .int i), (2, .ref (ad 57)), (1, .ref (ad 0)), (0, .ref b)] []) : WX p l e room_1 s m #[.ref b] below meth c code RL lwG D [(cI, .int), (cJ, .long), (cZ, .boolean), (cH, .object "TinHouse$House")] A 4 cells slots Q ws 925 [(3, .int i), (2, .ref (ad 57)), (1, .ref (ad 0)), (0, .ref b)] [] := by
  obtain ⟨Z, tl, rfl, ⟨hS, h, hs1, hs2, hs3, ha1, ha2, him⟩, hb1, hb2⟩ := hL
  have hcs : cells ≤ room_1.cells := Nat.le_trans (Nat.le_add_right _ _) hb1
  have hss : slots ≤ room_1.slots := Nat.le_trans (Nat.le_add_right _ _) hb2
  refine ii_aload_n 2 dL_law_925 rfl ?_
  refine ii_aload_n 3 dL_law_926 rfl ?_
  refine ii_iload_n 0 dL_law_927 rfl ?_
  refine ii_iconst dL_law_928 kc1 ?_
  refine ii_iadd dL_law_929 ?_
  refine ii_sld hX hbl hbA (hin 1 (by decide)) dL_law_930 ?_
  refine ii_aload_n 3 dL_law_931 rfl ?_
  refine ii_iload_n 0 dL_law_932 rfl ?_
  refine ii_iconst dL_law_933 kc2 ?_
  refine ii_iadd dL_law_934 ?_
  refine ii_sld hX hbl hbA (hin 2 (by decide)) dL_law_935 ?_
  refine ii_aload_n 3 dL_law_936 rfl ?_
  refine ii_iload_n 0 dL_law_937 rfl ?_
  refine ii_iconst dL_law_938 kc3 ?_
  refine ii_iadd dL_law_939 ?_
  refine ii_sld hX hbl hbA (hin 3 (by decide)) dL_law_940 ?_
  obtain ⟨o1, o2, e1, e2, q1⟩ := (P_wide h _ _ _ _ _ _ _ _ _ _ _ _ _ _ _ _ _ : Two (F_X11_wide (flL 7 (Z 32)) (flI 3 (Z 32)) (flI 2 (Z 32)) (flI 4 (Z 32)) (flI 6 (Z 32)) (arL (Z 33)) (flI 5 (Z 32)) (tcZ Z 2) (trZ Z 2) (tcZ Z 6) (trZ Z 6) (tcZ Z 0) (trZ Z 0) (xs (i + 1).toNatClampNeg) (xs (i + 2).toNatClampNeg) (xs (i + 3).toNatClampNeg)) (F_X12_wide (arL (Z 65)) (arI (Z 58)) (arI (Z 61)) (flI 5 (Z 57)) (arL (Z 64)) (flI 8 (Z 57)) (arI (Z 63)) (arI (Z 62)) (xs (i + 1).toNatClampNeg) (xs (i + 2).toNatClampNeg) (xs (i + 3).toNatClampNeg)) _)
  refine ii_callZi (nW := 79) (ad := ad) (Z := Z) (setl Z [(33, .inl (cJ, 50, .inr (.inl o1.2.2.2.2.2.2.1))), (32, .inr (1, [.ref (ad 1), .ref (ad 33), .int o1.2.2.2.1, .int o1.2.2.1, .int o1.2.2.2.2.1, .int o1.2.2.2.2.2.2.2, .int o1.2.2.2.2.2.1, .long o1.2.1]))]) (tl := tl) (As := [.int (xs (i + 1).toNatClampNeg), .int (xs (i + 2).toNatClampNeg), .int (xs (i + 3).toNatClampNeg)]) (st := []) (c_X11_wide l D cI cJ cZ cH (ad 0) (ad 28) (ad 32) (ad 33) (ad 34) (ad 36) (ad 1) (ad 6) (ad 7) (ad 8) (ad 14) (ad 15) (ad 20) (ad 24) (ad 22) (ad 2) (ad 3) (ad 10) (ad 26) (ad 12) (ad 16) (ad 4) (ad 18) (ad 51) (ad 55) (ad 49) (ad 29) (ad 44) (ad 45) (flL 11 (Z 0)) (flL 12 (Z 0)) (flL 7 (Z 32)) (flI 3 (Z 32)) (flI 2 (Z 32)) (flI 4 (Z 32)) (flI 6 (Z 32)) (arL (Z 33)) (flI 5 (Z 32)) (tcZ Z 2) (trZ Z 2) (tcZ Z 6) (trZ Z 6) (tcZ Z 0) (trZ Z 0) (flI 14 (Z 1)) (flI 13 (Z 1)) (xs (i + 1).toNatClampNeg) (xs (i + 2).toNatClampNeg) (xs (i + 3).toNatClampNeg) e1) gzL_89 rfl rfl rfl eL_X11_wide ⟨Nat.le_of_ble_eq_true rfl, Nat.le_of_ble_eq_true rfl⟩ rfl 0 (by decide) rfl (sh_0 hS) rfl [0, 32, 33, 1, 6, 7, 14, 15, 2, 3, 44] (zc_cons rfl (sh_0 hS) (zc_cons rfl (sh_32 hS) (zc_cons rfl (sh_33 hS) (zc_cons rfl (sh_1 hS) (zc_cons rfl (sh_6 hS) (zc_cons rfl (sh_7 hS) (zc_cons rfl (sh_14 hS) (zc_cons rfl (sh_15 hS) (zc_cons rfl (sh_2 hS) (zc_cons rfl (sh_3 hS) (zc_cons rfl (sh_44 hS) zc_nil))))))))))) (zc_cons rfl (zs (sh_0 hS) rfl) (zc_cons rfl rfl (zc_cons rfl rfl (zc_cons rfl (zs (sh_1 hS) rfl) (zc_cons rfl (zs (sh_6 hS) rfl) (zc_cons rfl (zs (sh_7 hS) rfl) (zc_cons rfl (zs (sh_14 hS) rfl) (zc_cons rfl (zs (sh_15 hS) rfl) (zc_cons rfl (zs (sh_2 hS) rfl) (zc_cons rfl (zs (sh_3 hS) rfl) (zc_cons rfl (zs (sh_44 hS) rfl) zc_nil))))))))))) (setl_out rfl) rfl rfl (Nat.le_of_ble_eq_true rfl) hcs hss rfl dL_law_941 ?_
  refine ii_aload_n 1 dL_law_944 rfl ?_
  refine ii_aload_n 3 dL_law_945 rfl ?_
  refine ii_iload_n 0 dL_law_946 rfl ?_
  refine ii_iconst dL_law_947 kc1 ?_
  refine ii_iadd dL_law_948 ?_
  refine ii_sld hX hbl hbA (hin 1 (by decide)) dL_law_949 ?_
  refine ii_aload_n 3 dL_law_950 rfl ?_
  refine ii_iload_n 0 dL_law_951 rfl ?_
  refine ii_iconst dL_law_952 kc2 ?_
  refine ii_iadd dL_law_953 ?_
  refine ii_sld hX hbl hbA (hin 2 (by decide)) dL_law_954 ?_
  refine ii_aload_n 3 dL_law_955 rfl ?_
  refine ii_iload_n 0 dL_law_956 rfl ?_
  refine ii_iconst dL_law_957 kc3 ?_
  refine ii_iadd dL_law_958 ?_
  refine ii_sld hX hbl hbA (hin 3 (by decide)) dL_law_959 ?_
  refine ii_callZi (nW := 79) (ad := ad) (Z := (setl Z [(33, .inl (cJ, 50, .inr (.inl o1.2.2.2.2.2.2.1))), (32, .inr (1, [.ref (ad 1), .ref (ad 33), .int o1.2.2.2.1, .int o1.2.2.1, .int o1.2.2.2.2.1, .int o1.2.2.2.2.2.2.2, .int o1.2.2.2.2.2.1, .long o1.2.1]))])) (setl (setl Z [(33, .inl (cJ, 50, .inr (.inl o1.2.2.2.2.2.2.1))), (32, .inr (1, [.ref (ad 1), .ref (ad 33), .int o1.2.2.2.1, .int o1.2.2.1, .int o1.2.2.2.2.1, .int o1.2.2.2.2.2.2.2, .int o1.2.2.2.2.2.1, .long o1.2.1]))]) [(65, .inl (cJ, 5, .inr (.inl o2.2.1))), (64, .inl (cJ, 70, .inr (.inl o2.2.2.2.2.1))), (63, .inl (cI, 70, .inl o2.2.2.2.2.2.2.1)), (62, .inl (cI, 70, .inl o2.2.2.2.2.2.2.2)), (61, .inl (cI, 70, .inl o2.2.2.1)), (57, .inr (12, [.ref (ad 58), .ref (ad 59), .ref (ad 60), .long (flL 11 (Z 0)), .long (flL 12 (Z 0)), .int o2.2.2.2.1, .ref (ad 61), .ref (ad 62), .int o2.2.2.2.2.2.1, .ref (ad 63), .ref (ad 64), .ref (ad 65), .ref (ad 66), .ref (ad 67), .ref (ad 68), .ref (ad 69), .ref (ad 70), .ref (ad 71), .ref (ad 72), .ref (ad 73), .ref (ad 74), .ref (ad 75), .ref (ad 76), .ref (ad 77), .ref (ad 78)]))]) (tl := tl) (As := [.int (xs (i + 1).toNatClampNeg), .int (xs (i + 2).toNatClampNeg), .int (xs (i + 3).toNatClampNeg)]) (st := [.int o1.1]) (c_X12_wide l D cI cJ cZ cH (ad 57) (ad 72) (ad 77) (ad 70) (ad 65) (ad 59) (ad 60) (ad 76) (ad 75) (ad 68) (ad 66) (ad 74) (ad 69) (ad 71) (ad 78) (ad 58) (ad 61) (ad 73) (ad 67) (ad 64) (ad 63) (ad 62) (flL 11 (Z 0)) (flL 12 (Z 0)) (arL (Z 65)) (arI (Z 58)) (arI (Z 61)) (flI 5 (Z 57)) (arL (Z 64)) (flI 8 (Z 57)) (arI (Z 63)) (arI (Z 62)) (xs (i + 1).toNatClampNeg) (xs (i + 2).toNatClampNeg) (xs (i + 3).toNatClampNeg) e2) gzL_92 rfl rfl rfl eL_X12_wide ⟨Nat.le_of_ble_eq_true rfl, Nat.le_of_ble_eq_true rfl⟩ rfl 57 (by decide) rfl (zs (sh_57a hS ha1 ha2) rfl) rfl [57, 65, 58, 61, 64, 63, 62] (zc_cons rfl (zs (sh_57a hS ha1 ha2) rfl) (zc_cons rfl (zs (sh_65 hS) rfl) (zc_cons rfl (zs (sh_58 hS) rfl) (zc_cons rfl (zs (sh_61 hS) rfl) (zc_cons rfl (zs (sh_64 hS) rfl) (zc_cons rfl (zs (sh_63 hS) rfl) (zc_cons rfl (zs (sh_62 hS) rfl) zc_nil))))))) (zc_cons rfl rfl (zc_cons rfl rfl (zc_cons rfl (zs (sh_58 hS) rfl) (zc_cons rfl rfl (zc_cons rfl rfl (zc_cons rfl rfl (zc_cons rfl rfl zc_nil))))))) (setl_out rfl) rfl rfl (Nat.le_of_ble_eq_true rfl) hcs hss rfl dL_law_960 ?_
  refine ii_icmp_eq (tgt := 1813) (r := ()) (ET := some ()) (EF := none) (if_pos q1) dL_law_963 (by decide) (fun _ => ?_) (fun z => absurd z (by simp))
  exact kk _ _ _ ⟨setl (setl Z [(33, .inl (cJ, 50, .inr (.inl o1.2.2.2.2.2.2.1))), (32, .inr (1, [.ref (ad 1), .ref (ad 33), .int o1.2.2.2.1, .int o1.2.2.1, .int o1.2.2.2.2.1, .int o1.2.2.2.2.2.2.2, .int o1.2.2.2.2.2.1, .long o1.2.1]))]) [(65, .inl (cJ, 5, .inr (.inl o2.2.1))), (64, .inl (cJ, 70, .inr (.inl o2.2.2.2.2.1))), (63, .inl (cI, 70, .inl o2.2.2.2.2.2.2.1)), (62, .inl (cI, 70, .inl o2.2.2.2.2.2.2.2)), (61, .inl (cI, 70, .inl o2.2.2.1)), (57, .inr (12, [.ref (ad 58), .ref (ad 59), .ref (ad 60), .long (flL 11 (Z 0)), .long (flL 12 (Z 0)), .int o2.2.2.2.1, .ref (ad 61), .ref (ad 62), .int o2.2.2.2.2.2.1, .ref (ad 63), .ref (ad 64), .ref (ad 65), .ref (ad 66), .ref (ad 67), .ref (ad 68), .ref (ad 69), .ref (ad 70), .ref (ad 71), .ref (ad 72), .ref (ad 73), .ref (ad 74), .ref (ad 75), .ref (ad 76), .ref (ad 77), .ref (ad 78)]))], tl, rfl, law_fin (tc' := (tcZ Z)) (tr' := (trZ Z)) (nar' := (flI 13 (Z 1))) (nam' := (flI 14 (Z 1))) (st' := (arI (Z 58))) hS (ok_cons ok_33 (ok_cons ok_32 ok_nil)) (ok_cons ok_65 (ok_cons ok_64 (ok_cons ok_63 (ok_cons ok_62 (ok_cons ok_61 (ok_cons ok_57 ok_nil)))))) rfl rfl rfl rfl rfl rfl rfl h hs1 hs2 hs3 rfl rfl him, hb1, hb2⟩

