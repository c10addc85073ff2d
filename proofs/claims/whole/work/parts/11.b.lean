/-! THE LAW: cases -/
theorem dL_law_228 : decode cL_law 228 = .ok (.aload_n 1, 1) := by decide +kernel
theorem dL_law_229 : decode cL_law 229 = .ok (.aload_n 0, 1) := by decide +kernel
theorem dL_law_230 : decode cL_law 230 = .ok (.iload_n 3, 1) := by decide +kernel
theorem dL_law_231 : decode cL_law 231 = .ok (.iconst 1, 1) := by decide +kernel
theorem dL_law_232 : decode cL_law 232 = .ok (.iadd, 1) := by decide +kernel
theorem dL_law_233 : decode cL_law 233 = .ok (.iaload, 1) := by decide +kernel
theorem dL_law_234 : decode cL_law 234 = .ok (.aload_n 0, 1) := by decide +kernel
theorem dL_law_235 : decode cL_law 235 = .ok (.iload_n 3, 1) := by decide +kernel
theorem dL_law_236 : decode cL_law 236 = .ok (.iconst 2, 1) := by decide +kernel
theorem dL_law_237 : decode cL_law 237 = .ok (.iadd, 1) := by decide +kernel
theorem dL_law_238 : decode cL_law 238 = .ok (.iaload, 1) := by decide +kernel
theorem dL_law_239 : decode cL_law 239 = .ok (.invokevirtual 13, 3) := by decide +kernel
theorem dL_law_242 : decode cL_law 242 = .ok (.aload_n 2, 1) := by decide +kernel
theorem dL_law_243 : decode cL_law 243 = .ok (.aload_n 0, 1) := by decide +kernel
theorem dL_law_244 : decode cL_law 244 = .ok (.iload_n 3, 1) := by decide +kernel
theorem dL_law_245 : decode cL_law 245 = .ok (.iconst 1, 1) := by decide +kernel
theorem dL_law_246 : decode cL_law 246 = .ok (.iadd, 1) := by decide +kernel
theorem dL_law_247 : decode cL_law 247 = .ok (.iaload, 1) := by decide +kernel
theorem dL_law_248 : decode cL_law 248 = .ok (.aload_n 0, 1) := by decide +kernel
theorem dL_law_249 : decode cL_law 249 = .ok (.iload_n 3, 1) := by decide +kernel
theorem dL_law_250 : decode cL_law 250 = .ok (.iconst 2, 1) := by decide +kernel
theorem dL_law_251 : decode cL_law 251 = .ok (.iadd, 1) := by decide +kernel
theorem dL_law_252 : decode cL_law 252 = .ok (.iaload, 1) := by decide +kernel
theorem dL_law_253 : decode cL_law 253 = .ok (.invokevirtual 17, 3) := by decide +kernel
theorem dL_law_256 : decode cL_law 256 = .ok (.if_icmp .eq 1557, 3) := by decide +kernel
theorem eL_X11_merchant : yX11_merchant.cls = RX11 ∧ yX11_merchant.cls ≠ "java/lang/invoke/MethodHandle" ∧ yX11_merchant.cls ≠ "java/lang/invoke/VarHandle" ∧ (parseMethodDescriptor yX11_merchant.desc).map (fun d => d.parameters.length) = some 2 := by decide +kernel
theorem eL_X12_merchant : yX12_merchant.cls = RX12 ∧ yX12_merchant.cls ≠ "java/lang/invoke/MethodHandle" ∧ yX12_merchant.cls ≠ "java/lang/invoke/VarHandle" ∧ (parseMethodDescriptor yX12_merchant.desc).map (fun d => d.parameters.length) = some 2 := by decide +kernel
set_option maxHeartbeats 4000000 in
set_option maxRecDepth 100000 in
theorem law_0 {l : Launch} {p : Program} {e : Env} {s : State} {m : MethodId} {below : List Frame} {meth : Method} {c : Code} {D : va_G} {A : Nat → Prop} {cells slots : Nat} {Q : State → Prop} {b L : Nat} {xs : Nat → Int32} {i : Int32} {cI cJ cZ cH : ClassId} {ad : Nat → Nat} {ws : va_W} (hX : va_X b L xs s s.heap) (hbl : b < s.heap.size) (hbA : ¬ A b) (hin : ∀ j : Nat, j < 8 → vp_in (i + nI j) L) (hL : LawS cI cJ cZ cH ad cells slots ws) (kk : ∀ cells slots ws, LawS cI cJ cZ cH ad cells slots ws → WX p l e room_1 s m #[.ref b] below meth c code RL lwG D [(cI, .int), (cJ, .long), (cZ, .boolean), (cH, .object "TinHouse$House")] A 4 cells slots Q ws 1813 [(3, .int i), (2, .ref (ad 57)), (1, .ref (ad 0)), (0, .ref b)] []) : WX p l e room_1 s m #[.ref b] below meth c code RL lwG D [(cI, .int), (cJ, .long), (cZ, .boolean), (cH, .object "TinHouse$House")] A 4 cells slots Q ws 228 [(3, .int i), (2, .ref (ad 57)), (1, .ref (ad 0)), (0, .ref b)] [] := by
  obtain ⟨Z, tl, rfl, ⟨hS, h, hs1, hs2, hs3, ha1, ha2, him⟩, hb1, hb2⟩ := hL
  have hcs : cells ≤ room_1.cells := Nat.le_trans (Nat.le_add_right _ _) hb1
  have hss : slots ≤ room_1.slots := Nat.le_trans (Nat.le_add_right _ _) hb2
  refine ii_aload_n 2 dL_law_228 rfl ?_
  refine ii_aload_n 3 dL_law_229 rfl ?_
  refine ii_iload_n 0 dL_law_230 rfl ?_
  refine ii_iconst dL_law_231 kc1 ?_
  refine ii_iadd dL_law_232 ?_
  refine ii_sld hX hbl hbA (hin 1 (by decide)) dL_law_233 ?_
  refine ii_aload_n 3 dL_law_234 rfl ?_
  refine ii_iload_n 0 dL_law_235 rfl ?_
  refine ii_iconst dL_law_236 kc2 ?_
  refine ii_iadd dL_law_237 ?_
  refine ii_sld hX hbl hbA (hin 2 (by decide)) dL_law_238 ?_
  obtain ⟨r1, r2, r3, r4, r5, r6, r7⟩ := P_merchant h (xs (i + 1).toNatClampNeg) (xs (i + 2).toNatClampNeg)
  have hT : Two (F_X11_merchant (tcZ Z 0) (trZ Z 0) (xs (i + 1).toNatClampNeg) (xs (i + 2).toNatClampNeg)) (F_X12_merchant (arI (Z 58)) (xs (i + 1).toNatClampNeg) (xs (i + 2).toNatClampNeg)) (fun o1 o2 => o1.1 = o2.1 ∧ Rel actK (va_up (tcZ Z) 0 o1.2.1) (va_up (trZ Z) 0 o1.2.2) (flI 13 (Z 1)) (flI 14 (Z 1)) o2.2) := ⟨_, _, r5, r6, rfl, r7⟩
  obtain ⟨o1, o2, e1, e2, q1, q2⟩ := hT
  refine ii_callZi (nW := 79) (ad := ad) (Z := Z) (setl Z [(3, .inl (cI, 20, .inl o1.2.1)), (2, .inr (8, [.int (2 : Int32), .int (10 : Int32), .ref (ad 3), .int o1.2.2]))]) (tl := tl) (As := [.int (xs (i + 1).toNatClampNeg), .int (xs (i + 2).toNatClampNeg)]) (st := []) (c_X11_merchant l D cI cJ cZ cH (ad 0) (ad 28) (ad 32) (ad 34) (ad 36) (ad 1) (ad 6) (ad 8) (ad 14) (ad 20) (ad 24) (ad 22) (ad 2) (ad 3) (ad 10) (ad 26) (ad 12) (ad 16) (ad 4) (ad 18) (ad 51) (ad 55) (ad 49) (ad 29) (ad 44) (ad 45) (flL 11 (Z 0)) (flL 12 (Z 0)) (tcZ Z 0) (trZ Z 0) (flI 14 (Z 1)) (flI 13 (Z 1)) (xs (i + 1).toNatClampNeg) (xs (i + 2).toNatClampNeg) e1) gzL_13 rfl rfl rfl eL_X11_merchant ⟨Nat.le_of_ble_eq_true rfl, Nat.le_of_ble_eq_true rfl⟩ rfl 0 (by decide) rfl (sh_0 hS) rfl [0, 1, 2, 3] (zc_cons rfl (sh_0 hS) (zc_cons rfl (sh_1 hS) (zc_cons rfl (sh_2 hS) (zc_cons rfl (sh_3 hS) zc_nil)))) (zc_cons rfl (zs (sh_0 hS) rfl) (zc_cons rfl (zs (sh_1 hS) rfl) (zc_cons rfl rfl (zc_cons rfl rfl zc_nil)))) (setl_out rfl) rfl rfl (Nat.le_of_ble_eq_true rfl) hcs hss rfl dL_law_239 ?_
  refine ii_aload_n 1 dL_law_242 rfl ?_
  refine ii_aload_n 3 dL_law_243 rfl ?_
  refine ii_iload_n 0 dL_law_244 rfl ?_
  refine ii_iconst dL_law_245 kc1 ?_
  refine ii_iadd dL_law_246 ?_
  refine ii_sld hX hbl hbA (hin 1 (by decide)) dL_law_247 ?_
  refine ii_aload_n 3 dL_law_248 rfl ?_
  refine ii_iload_n 0 dL_law_249 rfl ?_
  refine ii_iconst dL_law_250 kc2 ?_
  refine ii_iadd dL_law_251 ?_
  refine ii_sld hX hbl hbA (hin 2 (by decide)) dL_law_252 ?_
  refine ii_callZi (nW := 79) (ad := ad) (Z := (setl Z [(3, .inl (cI, 20, .inl o1.2.1)), (2, .inr (8, [.int (2 : Int32), .int (10 : Int32), .ref (ad 3), .int o1.2.2]))])) (setl (setl Z [(3, .inl (cI, 20, .inl o1.2.1)), (2, .inr (8, [.int (2 : Int32), .int (10 : Int32), .ref (ad 3), .int o1.2.2]))]) [(58, .inl (cI, 1951, .inl o2.2))]) (tl := tl) (As := [.int (xs (i + 1).toNatClampNeg), .int (xs (i + 2).toNatClampNeg)]) (st := [.int o1.1]) (c_X12_merchant l D cI cJ cZ cH (ad 57) (ad 72) (ad 77) (ad 70) (ad 65) (ad 59) (ad 60) (ad 76) (ad 75) (ad 68) (ad 66) (ad 74) (ad 69) (ad 71) (ad 78) (ad 58) (ad 61) (ad 73) (ad 67) (ad 64) (ad 63) (ad 62) (flL 11 (Z 0)) (flL 12 (Z 0)) (arI (Z 58)) (flI 5 (Z 57)) (flI 8 (Z 57)) (xs (i + 1).toNatClampNeg) (xs (i + 2).toNatClampNeg) e2) gzL_17 rfl rfl rfl eL_X12_merchant ⟨Nat.le_of_ble_eq_true rfl, Nat.le_of_ble_eq_true rfl⟩ rfl 57 (by decide) rfl (zs (sh_57a hS ha1 ha2) rfl) rfl [57, 58] (zc_cons rfl (zs (sh_57a hS ha1 ha2) rfl) (zc_cons rfl (zs (sh_58 hS) rfl) zc_nil)) (zc_cons rfl (zs (sh_57a hS ha1 ha2) rfl) (zc_cons rfl rfl zc_nil)) (setl_out rfl) rfl rfl (Nat.le_of_ble_eq_true rfl) hcs hss rfl dL_law_253 ?_
  refine ii_icmp_eq (tgt := 1813) (r := ()) (ET := some ()) (EF := none) (if_pos q1) dL_law_256 (by decide) (fun _ => ?_) (fun z => absurd z (by simp))
  exact kk _ _ _ ⟨setl (setl Z [(3, .inl (cI, 20, .inl o1.2.1)), (2, .inr (8, [.int (2 : Int32), .int (10 : Int32), .ref (ad 3), .int o1.2.2]))]) [(58, .inl (cI, 1951, .inl o2.2))], tl, rfl, law_fin (tc' := (va_up (tcZ Z) 0 o1.2.1)) (tr' := (va_up (trZ Z) 0 o1.2.2)) (nar' := (flI 13 (Z 1))) (nam' := (flI 14 (Z 1))) (st' := o2.2) hS (ok_cons ok_3 (ok_cons ok_2 ok_nil)) (ok_cons ok_58 ok_nil) rfl rfl rfl rfl rfl rfl rfl q2 hs1 hs2 hs3 ha1 ha2 him, hb1, hb2⟩

theorem dL_law_261 : decode cL_law 261 = .ok (.aload_n 1, 1) := by decide +kernel
theorem dL_law_262 : decode cL_law 262 = .ok (.aload_n 0, 1) := by decide +kernel
theorem dL_law_263 : decode cL_law 263 = .ok (.iload_n 3, 1) := by decide +kernel
theorem dL_law_264 : decode cL_law 264 = .ok (.iconst 1, 1) := by decide +kernel
theorem dL_law_265 : decode cL_law 265 = .ok (.iadd, 1) := by decide +kernel
theorem dL_law_266 : decode cL_law 266 = .ok (.iaload, 1) := by decide +kernel
theorem dL_law_267 : decode cL_law 267 = .ok (.aload_n 0, 1) := by decide +kernel
theorem dL_law_268 : decode cL_law 268 = .ok (.iload_n 3, 1) := by decide +kernel
theorem dL_law_269 : decode cL_law 269 = .ok (.iconst 2, 1) := by decide +kernel
theorem dL_law_270 : decode cL_law 270 = .ok (.iadd, 1) := by decide +kernel
theorem dL_law_271 : decode cL_law 271 = .ok (.iaload, 1) := by decide +kernel
theorem dL_law_272 : decode cL_law 272 = .ok (.invokevirtual 18, 3) := by decide +kernel
theorem dL_law_275 : decode cL_law 275 = .ok (.aload_n 2, 1) := by decide +kernel
theorem dL_law_276 : decode cL_law 276 = .ok (.aload_n 0, 1) := by decide +kernel
theorem dL_law_277 : decode cL_law 277 = .ok (.iload_n 3, 1) := by decide +kernel
theorem dL_law_278 : decode cL_law 278 = .ok (.iconst 1, 1) := by decide +kernel
theorem dL_law_279 : decode cL_law 279 = .ok (.iadd, 1) := by decide +kernel
theorem dL_law_280 : decode cL_law 280 = .ok (.iaload, 1) := by decide +kernel
theorem dL_law_281 : decode cL_law 281 = .ok (.aload_n 0, 1) := by decide +kernel
theorem dL_law_282 : decode cL_law 282 = .ok (.iload_n 3, 1) := by decide +kernel
theorem dL_law_283 : decode cL_law 283 = .ok (.iconst 2, 1) := by decide +kernel
theorem dL_law_284 : decode cL_law 284 = .ok (.iadd, 1) := by decide +kernel
theorem dL_law_285 : decode cL_law 285 = .ok (.iaload, 1) := by decide +kernel
theorem dL_law_286 : decode cL_law 286 = .ok (.invokevirtual 21, 3) := by decide +kernel
theorem dL_law_289 : decode cL_law 289 = .ok (.if_icmp .eq 1524, 3) := by decide +kernel
theorem eL_X11_write : yX11_write.cls = RX11 ∧ yX11_write.cls ≠ "java/lang/invoke/MethodHandle" ∧ yX11_write.cls ≠ "java/lang/invoke/VarHandle" ∧ (parseMethodDescriptor yX11_write.desc).map (fun d => d.parameters.length) = some 2 := by decide +kernel
theorem eL_X12_write : yX12_write.cls = RX12 ∧ yX12_write.cls ≠ "java/lang/invoke/MethodHandle" ∧ yX12_write.cls ≠ "java/lang/invoke/VarHandle" ∧ (parseMethodDescriptor yX12_write.desc).map (fun d => d.parameters.length) = some 2 := by decide +kernel
set_option maxHeartbeats 4000000 in
set_option maxRecDepth 100000 in
theorem law_1 {l : Launch} {p : Program} {e : Env} {s : State} {m : MethodId} {below : List Frame} {meth : Method} {c : Code} {D : va_G} {A : Nat → Prop} {cells slots : Nat} {Q : State → Prop} {b L : Nat} {xs : Nat → Int32} {i : Int32} {cI cJ cZ cH : ClassId} {ad : Nat → Nat} {ws : va_W} (hX : va_X b L xs s s.heap) (hbl : b < s.heap.size) (hbA : ¬ A b) (hin : ∀ j : Nat, j < 8 → vp_in (i + nI j) L) (hL : LawS cI cJ cZ cH ad cells slots ws) (kk : ∀ cells slots ws, LawS cI cJ cZ cH ad cells slots ws → WX p l e room_1 s m #[.ref b] below meth c code RL lwG D [(cI, .int), (cJ, .long), (cZ, .boolean), (cH, .object "TinHouse$House")] A 4 cells slots Q ws 1813 [(3, .int i), (2, .ref (ad 57)), (1, .ref (ad 0)), (0, .ref b)] []) : WX p l e room_1 s m #[.ref b] below meth c code RL lwG D [(cI, .int), (cJ, .long), (cZ, .boolean), (cH, .object "TinHouse$House")] A 4 cells slots Q ws 261 [(3, .int i), (2, .ref (ad 57)), (1, .ref (ad 0)), (0, .ref b)] [] := by
  obtain ⟨Z, tl, rfl, ⟨hS, h, hs1, hs2, hs3, ha1, ha2, him⟩, hb1, hb2⟩ := hL
  have hcs : cells ≤ room_1.cells := Nat.le_trans (Nat.le_add_right _ _) hb1
  have hss : slots ≤ room_1.slots := Nat.le_trans (Nat.le_add_right _ _) hb2
  refine ii_aload_n 2 dL_law_261 rfl ?_
  refine ii_aload_n 3 dL_law_262 rfl ?_
  refine ii_iload_n 0 dL_law_263 rfl ?_
  refine ii_iconst dL_law_264 kc1 ?_
  refine ii_iadd dL_law_265 ?_
  refine ii_sld hX hbl hbA (hin 1 (by decide)) dL_law_266 ?_
  refine ii_aload_n 3 dL_law_267 rfl ?_
  refine ii_iload_n 0 dL_law_268 rfl ?_
  refine ii_iconst dL_law_269 kc2 ?_
  refine ii_iadd dL_law_270 ?_
  refine ii_sld hX hbl hbA (hin 2 (by decide)) dL_law_271 ?_
  obtain ⟨o1, o2, e1, e2, q1, q2⟩ := (P_write h _ _ : Two (F_X11_write (tcZ Z 1) (trZ Z 1) (xs (i + 1).toNatClampNeg) (xs (i + 2).toNatClampNeg)) (F_X12_write (arI (Z 58)) (xs (i + 1).toNatClampNeg) (xs (i + 2).toNatClampNeg)) _)
  refine ii_callZi (nW := 79) (ad := ad) (Z := Z) (setl Z [(5, .inl (cI, 204, .inl o1.2))]) (tl := tl) (As := [.int (xs (i + 1).toNatClampNeg), .int (xs (i + 2).toNatClampNeg)]) (st := []) (c_X11_write l D cI cJ cZ cH (ad 0) (ad 28) (ad 32) (ad 34) (ad 36) (ad 1) (ad 6) (ad 8) (ad 14) (ad 20) (ad 24) (ad 22) (ad 2) (ad 10) (ad 26) (ad 12) (ad 16) (ad 4) (ad 5) (ad 18) (ad 51) (ad 55) (ad 49) (ad 29) (ad 44) (ad 45) (flL 11 (Z 0)) (flL 12 (Z 0)) (flI 14 (Z 1)) (flI 13 (Z 1)) (tcZ Z 1) (trZ Z 1) (xs (i + 1).toNatClampNeg) (xs (i + 2).toNatClampNeg) e1) gzL_18 rfl rfl rfl eL_X11_write ⟨Nat.le_of_ble_eq_true rfl, Nat.le_of_ble_eq_true rfl⟩ rfl 0 (by decide) rfl (sh_0 hS) rfl [0, 1, 4, 5] (zc_cons rfl (sh_0 hS) (zc_cons rfl (sh_1 hS) (zc_cons rfl (sh_4 hS) (zc_cons rfl (sh_5 hS) zc_nil)))) (zc_cons rfl (zs (sh_0 hS) rfl) (zc_cons rfl (zs (sh_1 hS) rfl) (zc_cons rfl (zs (sh_4 hS) rfl) (zc_cons rfl rfl zc_nil)))) (setl_out rfl) rfl rfl (Nat.le_of_ble_eq_true rfl) hcs hss rfl dL_law_272 ?_
  refine ii_aload_n 1 dL_law_275 rfl ?_
  refine ii_aload_n 3 dL_law_276 rfl ?_
  refine ii_iload_n 0 dL_law_277 rfl ?_
  refine ii_iconst dL_law_278 kc1 ?_
  refine ii_iadd dL_law_279 ?_
  refine ii_sld hX hbl hbA (hin 1 (by decide)) dL_law_280 ?_
  refine ii_aload_n 3 dL_law_281 rfl ?_
  refine ii_iload_n 0 dL_law_282 rfl ?_
  refine ii_iconst dL_law_283 kc2 ?_
  refine ii_iadd dL_law_284 ?_
  refine ii_sld hX hbl hbA (hin 2 (by decide)) dL_law_285 ?_
  refine ii_callZi (nW := 79) (ad := ad) (Z := (setl Z [(5, .inl (cI, 204, .inl o1.2))])) (setl (setl Z [(5, .inl (cI, 204, .inl o1.2))]) [(58, .inl (cI, 1951, .inl o2.2))]) (tl := tl) (As := [.int (xs (i + 1).toNatClampNeg), .int (xs (i + 2).toNatClampNeg)]) (st := [.int o1.1]) (c_X12_write l D cI cJ cZ cH (ad 57) (ad 72) (ad 77) (ad 70) (ad 65) (ad 59) (ad 60) (ad 76) (ad 75) (ad 68) (ad 66) (ad 74) (ad 69) (ad 71) (ad 78) (ad 58) (ad 61) (ad 73) (ad 67) (ad 64) (ad 63) (ad 62) (flL 11 (Z 0)) (flL 12 (Z 0)) (arI (Z 58)) (flI 5 (Z 57)) (flI 8 (Z 57)) (xs (i + 1).toNatClampNeg) (xs (i + 2).toNatClampNeg) e2) gzL_21 rfl rfl rfl eL_X12_write ⟨Nat.le_of_ble_eq_true rfl, Nat.le_of_ble_eq_true rfl⟩ rfl 57 (by decide) rfl (zs (sh_57a hS ha1 ha2) rfl) rfl [57, 58] (zc_cons rfl (zs (sh_57a hS ha1 ha2) rfl) (zc_cons rfl (zs (sh_58 hS) rfl) zc_nil)) (zc_cons rfl (zs (sh_57a hS ha1 ha2) rfl) (zc_cons rfl rfl zc_nil)) (setl_out rfl) rfl rfl (Nat.le_of_ble_eq_true rfl) hcs hss rfl dL_law_286 ?_
  refine ii_icmp_eq (tgt := 1813) (r := ()) (ET := some ()) (EF := none) (if_pos q1) dL_law_289 (by decide) (fun _ => ?_) (fun z => absurd z (by simp))
  exact kk _ _ _ ⟨setl (setl Z [(5, .inl (cI, 204, .inl o1.2))]) [(58, .inl (cI, 1951, .inl o2.2))], tl, rfl, law_fin (tc' := (va_up (tcZ Z) 1 o1.2)) (tr' := (trZ Z)) (nar' := (flI 13 (Z 1))) (nam' := (flI 14 (Z 1))) (st' := o2.2) hS (ok_cons ok_5 ok_nil) (ok_cons ok_58 ok_nil) rfl rfl rfl rfl rfl rfl rfl q2 hs1 hs2 hs3 ha1 ha2 him, hb1, hb2⟩

theorem dL_law_294 : decode cL_law 294 = .ok (.aload_n 1, 1) := by decide +kernel
theorem dL_law_295 : decode cL_law 295 = .ok (.aload_n 0, 1) := by decide +kernel
theorem dL_law_296 : decode cL_law 296 = .ok (.iload_n 3, 1) := by decide +kernel
theorem dL_law_297 : decode cL_law 297 = .ok (.iconst 1, 1) := by decide +kernel
theorem dL_law_298 : decode cL_law 298 = .ok (.iadd, 1) := by decide +kernel
theorem dL_law_299 : decode cL_law 299 = .ok (.iaload, 1) := by decide +kernel
theorem dL_law_300 : decode cL_law 300 = .ok (.invokevirtual 22, 3) := by decide +kernel
theorem dL_law_303 : decode cL_law 303 = .ok (.aload_n 2, 1) := by decide +kernel
theorem dL_law_304 : decode cL_law 304 = .ok (.aload_n 0, 1) := by decide +kernel
theorem dL_law_305 : decode cL_law 305 = .ok (.iload_n 3, 1) := by decide +kernel
theorem dL_law_306 : decode cL_law 306 = .ok (.iconst 1, 1) := by decide +kernel
theorem dL_law_307 : decode cL_law 307 = .ok (.iadd, 1) := by decide +kernel
theorem dL_law_308 : decode cL_law 308 = .ok (.iaload, 1) := by decide +kernel
theorem dL_law_309 : decode cL_law 309 = .ok (.invokevirtual 26, 3) := by decide +kernel
theorem dL_law_312 : decode cL_law 312 = .ok (.if_icmp .eq 1501, 3) := by decide +kernel
theorem eL_X11_erase : yX11_erase.cls = RX11 ∧ yX11_erase.cls ≠ "java/lang/invoke/MethodHandle" ∧ yX11_erase.cls ≠ "java/lang/invoke/VarHandle" ∧ (parseMethodDescriptor yX11_erase.desc).map (fun d => d.parameters.length) = some 1 := by decide +kernel
theorem eL_X12_erase : yX12_erase.cls = RX12 ∧ yX12_erase.cls ≠ "java/lang/invoke/MethodHandle" ∧ yX12_erase.cls ≠ "java/lang/invoke/VarHandle" ∧ (parseMethodDescriptor yX12_erase.desc).map (fun d => d.parameters.length) = some 1 := by decide +kernel
set_option maxHeartbeats 4000000 in
set_option maxRecDepth 100000 in
theorem law_2 {l : Launch} {p : Program} {e : Env} {s : State} {m : MethodId} {below : List Frame} {meth : Method} {c : Code} {D : va_G} {A : Nat → Prop} {cells slots : Nat} {Q : State → Prop} {b L : Nat} {xs : Nat → Int32} {i : Int32} {cI cJ cZ cH : ClassId} {ad : Nat → Nat} {ws : va_W} (hX : va_X b L xs s s.heap) (hbl : b < s.heap.size) (hbA : ¬ A b) (hin : ∀ j : Nat, j < 8 → vp_in (i + nI j) L) (hL : LawS cI cJ cZ cH ad cells slots ws) (kk : ∀ cells slots ws, LawS cI cJ cZ cH ad cells slots ws → WX p l e room_1 s m #[.ref b] below meth c code RL lwG D [(cI, .int), (cJ, .long), (cZ, .boolean), (cH, .object "TinHouse$House")] A 4 cells slots Q ws 1813 [(3, .int i), (2, .ref (ad 57)), (1, .ref (ad 0)), (0, .ref b)] []) : WX p l e room_1 s m #[.ref b] below meth c code RL lwG D [(cI, .int), (cJ, .long), (cZ, .boolean), (cH, .object "TinHouse$House")] A 4 cells slots Q ws 294 [(3, .int i), (2, .ref (ad 57)), (1, .ref (ad 0)), (0, .ref b)] [] := by
  obtain ⟨Z, tl, rfl, ⟨hS, h, hs1, hs2, hs3, ha1, ha2, him⟩, hb1, hb2⟩ := hL
  have hcs : cells ≤ room_1.cells := Nat.le_trans (Nat.le_add_right _ _) hb1
  have hss : slots ≤ room_1.slots := Nat.le_trans (Nat.le_add_right _ _) hb2
  refine ii_aload_n 2 dL_law_294 rfl ?_
  refine ii_aload_n 3 dL_law_295 rfl ?_
  refine ii_iload_n 0 dL_law_296 rfl ?_
  refine ii_iconst dL_law_297 kc1 ?_
  refine ii_iadd dL_law_298 ?_
  refine ii_sld hX hbl hbA (hin 1 (by decide)) dL_law_299 ?_
  obtain ⟨o1, o2, e1, e2, q1, q2⟩ := (P_erase h _ : Two (F_X11_erase (tcZ Z 1) (trZ Z 1) (xs (i + 1).toNatClampNeg)) (F_X12_erase (arI (Z 58)) (xs (i + 1).toNatClampNeg)) _)
  refine ii_callZi (nW := 79) (ad := ad) (Z := Z) (setl Z [(5, .inl (cI, 204, .inl o1.2))]) (tl := tl) (As := [.int (xs (i + 1).toNatClampNeg)]) (st := []) (c_X11_erase l D cI cJ cZ cH (ad 0) (ad 28) (ad 32) (ad 34) (ad 36) (ad 1) (ad 6) (ad 8) (ad 14) (ad 20) (ad 24) (ad 22) (ad 2) (ad 10) (ad 26) (ad 12) (ad 16) (ad 4) (ad 5) (ad 18) (ad 51) (ad 55) (ad 49) (ad 29) (ad 44) (ad 45) (flL 11 (Z 0)) (flL 12 (Z 0)) (flI 14 (Z 1)) (flI 13 (Z 1)) (tcZ Z 1) (trZ Z 1) (xs (i + 1).toNatClampNeg) e1) gzL_22 rfl rfl rfl eL_X11_erase ⟨Nat.le_of_ble_eq_true rfl, Nat.le_of_ble_eq_true rfl⟩ rfl 0 (by decide) rfl (sh_0 hS) rfl [0, 1, 4, 5] (zc_cons rfl (sh_0 hS) (zc_cons rfl (sh_1 hS) (zc_cons rfl (sh_4 hS) (zc_cons rfl (sh_5 hS) zc_nil)))) (zc_cons rfl (zs (sh_0 hS) rfl) (zc_cons rfl (zs (sh_1 hS) rfl) (zc_cons rfl (zs (sh_4 hS) rfl) (zc_cons rfl rfl zc_nil)))) (setl_out rfl) rfl rfl (Nat.le_of_ble_eq_true rfl) hcs hss rfl dL_law_300 ?_
  refine ii_aload_n 1 dL_law_303 rfl ?_
  refine ii_aload_n 3 dL_law_304 rfl ?_
  refine ii_iload_n 0 dL_law_305 rfl ?_
  refine ii_iconst dL_law_306 kc1 ?_
  refine ii_iadd dL_law_307 ?_
  refine ii_sld hX hbl hbA (hin 1 (by decide)) dL_law_308 ?_
  refine ii_callZi (nW := 79) (ad := ad) (Z := (setl Z [(5, .inl (cI, 204, .inl o1.2))])) (setl (setl Z [(5, .inl (cI, 204, .inl o1.2))]) [(58, .inl (cI, 1951, .inl o2.2))]) (tl := tl) (As := [.int (xs (i + 1).toNatClampNeg)]) (st := [.int o1.1]) (c_X12_erase l D cI cJ cZ cH (ad 57) (ad 72) (ad 77) (ad 70) (ad 65) (ad 59) (ad 60) (ad 76) (ad 75) (ad 68) (ad 66) (ad 74) (ad 69) (ad 71) (ad 78) (ad 58) (ad 61) (ad 73) (ad 67) (ad 64) (ad 63) (ad 62) (flL 11 (Z 0)) (flL 12 (Z 0)) (arI (Z 58)) (flI 5 (Z 57)) (flI 8 (Z 57)) (xs (i + 1).toNatClampNeg) e2) gzL_26 rfl rfl rfl eL_X12_erase ⟨Nat.le_of_ble_eq_true rfl, Nat.le_of_ble_eq_true rfl⟩ rfl 57 (by decide) rfl (zs (sh_57a hS ha1 ha2) rfl) rfl [57, 58] (zc_cons rfl (zs (sh_57a hS ha1 ha2) rfl) (zc_cons rfl (zs (sh_58 hS) rfl) zc_nil)) (zc_cons rfl (zs (sh_57a hS ha1 ha2) rfl) (zc_cons rfl rfl zc_nil)) (setl_out rfl) rfl rfl (Nat.le_of_ble_eq_true rfl) hcs hss rfl dL_law_309 ?_
  refine ii_icmp_eq (tgt := 1813) (r := ()) (ET := some ()) (EF := none) (if_pos q1) dL_law_312 (by decide) (fun _ => ?_) (fun z => absurd z (by simp))
  exact kk _ _ _ ⟨setl (setl Z [(5, .inl (cI, 204, .inl o1.2))]) [(58, .inl (cI, 1951, .inl o2.2))], tl, rfl, law_fin (tc' := (va_up (tcZ Z) 1 o1.2)) (tr' := (trZ Z)) (nar' := (flI 13 (Z 1))) (nam' := (flI 14 (Z 1))) (st' := o2.2) hS (ok_cons ok_5 ok_nil) (ok_cons ok_58 ok_nil) rfl rfl rfl rfl rfl rfl rfl q2 hs1 hs2 hs3 ha1 ha2 him, hb1, hb2⟩

theorem dL_law_317 : decode cL_law 317 = .ok (.aload_n 1, 1) := by decide +kernel
theorem dL_law_318 : decode cL_law 318 = .ok (.aload_n 0, 1) := by decide +kernel
theorem dL_law_319 : decode cL_law 319 = .ok (.iload_n 3, 1) := by decide +kernel
theorem dL_law_320 : decode cL_law 320 = .ok (.iconst 1, 1) := by decide +kernel
theorem dL_law_321 : decode cL_law 321 = .ok (.iadd, 1) := by decide +kernel
theorem dL_law_322 : decode cL_law 322 = .ok (.iaload, 1) := by decide +kernel
theorem dL_law_323 : decode cL_law 323 = .ok (.invokevirtual 27, 3) := by decide +kernel
theorem dL_law_326 : decode cL_law 326 = .ok (.aload_n 2, 1) := by decide +kernel
theorem dL_law_327 : decode cL_law 327 = .ok (.aload_n 0, 1) := by decide +kernel
theorem dL_law_328 : decode cL_law 328 = .ok (.iload_n 3, 1) := by decide +kernel
theorem dL_law_329 : decode cL_law 329 = .ok (.iconst 1, 1) := by decide +kernel
theorem dL_law_330 : decode cL_law 330 = .ok (.iadd, 1) := by decide +kernel
theorem dL_law_331 : decode cL_law 331 = .ok (.iaload, 1) := by decide +kernel
theorem dL_law_332 : decode cL_law 332 = .ok (.invokevirtual 30, 3) := by decide +kernel
theorem dL_law_335 : decode cL_law 335 = .ok (.if_icmp .eq 1478, 3) := by decide +kernel
theorem eL_X11_fault : yX11_fault.cls = RX11 ∧ yX11_fault.cls ≠ "java/lang/invoke/MethodHandle" ∧ yX11_fault.cls ≠ "java/lang/invoke/VarHandle" ∧ (parseMethodDescriptor yX11_fault.desc).map (fun d => d.parameters.length) = some 1 := by decide +kernel
theorem eL_X12_fault : yX12_fault.cls = RX12 ∧ yX12_fault.cls ≠ "java/lang/invoke/MethodHandle" ∧ yX12_fault.cls ≠ "java/lang/invoke/VarHandle" ∧ (parseMethodDescriptor yX12_fault.desc).map (fun d => d.parameters.length) = some 1 := by decide +kernel
set_option maxHeartbeats 4000000 in
set_option maxRecDepth 100000 in
theorem law_3 {l : Launch} {p : Program} {e : Env} {s : State} {m : MethodId} {below : List Frame} {meth : Method} {c : Code} {D : va_G} {A : Nat → Prop} {cells slots : Nat} {Q : State → Prop} {b L : Nat} {xs : Nat → Int32} {i : Int32} {cI cJ cZ cH : ClassId} {ad : Nat → Nat} {ws : va_W} (hX : va_X b L xs s s.heap) (hbl : b < s.heap.size) (hbA : ¬ A b) (hin : ∀ j : Nat, j < 8 → vp_in (i + nI j) L) (hL : LawS cI cJ cZ cH ad cells slots ws) (kk : ∀ cells slots ws, LawS cI cJ cZ cH ad cells slots ws → WX p l e room_1 s m #[.ref b] below meth c code RL lwG D [(cI, .int), (cJ, .long), (cZ, .boolean), (cH, .object "TinHouse$House")] A 4 cells slots Q ws 1813 [(3, .int i), (2, .ref (ad 57)), (1, .ref (ad 0)), (0, .ref b)] []) : WX p l e room_1 s m #[.ref b] below meth c code RL lwG D [(cI, .int), (cJ, .long), (cZ, .boolean), (cH, .object "TinHouse$House")] A 4 cells slots Q ws 317 [(3, .int i), (2, .ref (ad 57)), (1, .ref (ad 0)), (0, .ref b)] [] := by
  obtain ⟨Z, tl, rfl, ⟨hS, h, hs1, hs2, hs3, ha1, ha2, him⟩, hb1, hb2⟩ := hL
  have hcs : cells ≤ room_1.cells := Nat.le_trans (Nat.le_add_right _ _) hb1
  have hss : slots ≤ room_1.slots := Nat.le_trans (Nat.le_add_right _ _) hb2
  refine ii_aload_n 2 dL_law_317 rfl ?_
  refine ii_aload_n 3 dL_law_318 rfl ?_
  refine ii_iload_n 0 dL_law_319 rfl ?_
  refine ii_iconst dL_law_320 kc1 ?_
  refine ii_iadd dL_law_321 ?_
  refine ii_sld hX hbl hbA (hin 1 (by decide)) dL_law_322 ?_
  obtain ⟨o1, o2, e1, e2, q1⟩ := (P_fault h _ _ _ _ _ _ _ _ _ _ _ _ _ _ _ _ : Two (F_X11_fault (tcZ Z 1) (trZ Z 1) (arI (Z 30)) (flI 1 (Z 29)) (flI 6 (Z 29)) (flI 9 (Z 29)) (flI 7 (Z 29)) (flI 8 (Z 29)) (flI 4 (Z 29)) (flI 5 (Z 29)) (arI (Z 31)) (flI 3 (Z 29)) (xs (i + 1).toNatClampNeg)) (F_X12_fault (arI (Z 58)) (arI (Z 61)) (flI 5 (Z 57)) (flI 8 (Z 57)) (arI (Z 63)) (arI (Z 62)) (xs (i + 1).toNatClampNeg)) _)
  refine ii_callZi (nW := 79) (ad := ad) (Z := Z) (setl Z [(31, .inl (cI, 50, .inl o1.2.2.2.2.2.2.2.2.2.1)), (30, .inl (cI, 50, .inl o1.2.1)), (29, .inr (7, [.ref (ad 30), .int o1.2.2.1, .ref (ad 31), .int o1.2.2.2.2.2.2.2.2.2.2, .int o1.2.2.2.2.2.2.2.1, .int o1.2.2.2.2.2.2.2.2.1, .int o1.2.2.2.1, .int o1.2.2.2.2.2.1, .int o1.2.2.2.2.2.2.1, .int o1.2.2.2.2.1]))]) (tl := tl) (As := [.int (xs (i + 1).toNatClampNeg)]) (st := []) (c_X11_fault l D cI cJ cZ cH (ad 0) (ad 28) (ad 32) (ad 34) (ad 36) (ad 1) (ad 6) (ad 8) (ad 14) (ad 20) (ad 24) (ad 22) (ad 2) (ad 10) (ad 26) (ad 12) (ad 16) (ad 4) (ad 5) (ad 18) (ad 51) (ad 55) (ad 49) (ad 29) (ad 30) (ad 31) (ad 44) (ad 45) (flL 11 (Z 0)) (flL 12 (Z 0)) (flI 14 (Z 1)) (flI 13 (Z 1)) (tcZ Z 1) (trZ Z 1) (arI (Z 30)) (flI 1 (Z 29)) (flI 6 (Z 29)) (flI 9 (Z 29)) (flI 7 (Z 29)) (flI 8 (Z 29)) (flI 4 (Z 29)) (flI 5 (Z 29)) (arI (Z 31)) (flI 3 (Z 29)) (xs (i + 1).toNatClampNeg) e1) gzL_27 rfl rfl rfl eL_X11_fault ⟨Nat.le_of_ble_eq_true rfl, Nat.le_of_ble_eq_true rfl⟩ rfl 0 (by decide) rfl (sh_0 hS) rfl [0, 1, 4, 5, 29, 30, 31] (zc_cons rfl (sh_0 hS) (zc_cons rfl (sh_1 hS) (zc_cons rfl (sh_4 hS) (zc_cons rfl (sh_5 hS) (zc_cons rfl (sh_29 hS) (zc_cons rfl (sh_30 hS) (zc_cons rfl (sh_31 hS) zc_nil))))))) (zc_cons rfl (zs (sh_0 hS) rfl) (zc_cons rfl (zs (sh_1 hS) rfl) (zc_cons rfl (zs (sh_4 hS) rfl) (zc_cons rfl (zs (sh_5 hS) rfl) (zc_cons rfl rfl (zc_cons rfl rfl (zc_cons rfl rfl zc_nil))))))) (setl_out rfl) rfl rfl (Nat.le_of_ble_eq_true rfl) hcs hss rfl dL_law_323 ?_
  refine ii_aload_n 1 dL_law_326 rfl ?_
  refine ii_aload_n 3 dL_law_327 rfl ?_
  refine ii_iload_n 0 dL_law_328 rfl ?_
  refine ii_iconst dL_law_329 kc1 ?_
  refine ii_iadd dL_law_330 ?_
  refine ii_sld hX hbl hbA (hin 1 (by decide)) dL_law_331 ?_
  refine ii_callZi (nW := 79) (ad := ad) (Z := (setl Z [(31, .inl (cI, 50, .inl o1.2.2.2.2.2.2.2.2.2.1)), (30, .inl (cI, 50, .inl o1.2.1)), (29, .inr (7, [.ref (ad 30), .int o1.2.2.1, .ref (ad 31), .int o1.2.2.2.2.2.2.2.2.2.2, .int o1.2.2.2.2.2.2.2.1, .int o1.2.2.2.2.2.2.2.2.1, .int o1.2.2.2.1, .int o1.2.2.2.2.2.1, .int o1.2.2.2.2.2.2.1, .int o1.2.2.2.2.1]))])) (setl (setl Z [(31, .inl (cI, 50, .inl o1.2.2.2.2.2.2.2.2.2.1)), (30, .inl (cI, 50, .inl o1.2.1)), (29, .inr (7, [.ref (ad 30), .int o1.2.2.1, .ref (ad 31), .int o1.2.2.2.2.2.2.2.2.2.2, .int o1.2.2.2.2.2.2.2.1, .int o1.2.2.2.2.2.2.2.2.1, .int o1.2.2.2.1, .int o1.2.2.2.2.2.1, .int o1.2.2.2.2.2.2.1, .int o1.2.2.2.2.1]))]) [(63, .inl (cI, 70, .inl o2.2.2.2.2.1)), (62, .inl (cI, 70, .inl o2.2.2.2.2.2)), (61, .inl (cI, 70, .inl o2.2.1)), (57, .inr (12, [.ref (ad 58), .ref (ad 59), .ref (ad 60), .long (flL 11 (Z 0)), .long (flL 12 (Z 0)), .int o2.2.2.1, .ref (ad 61), .ref (ad 62), .int o2.2.2.2.1, .ref (ad 63), .ref (ad 64), .ref (ad 65), .ref (ad 66), .ref (ad 67), .ref (ad 68), .ref (ad 69), .ref (ad 70), .ref (ad 71), .ref (ad 72), .ref (ad 73), .ref (ad 74), .ref (ad 75), .ref (ad 76), .ref (ad 77), .ref (ad 78)]))]) (tl := tl) (As := [.int (xs (i + 1).toNatClampNeg)]) (st := [.int o1.1]) (c_X12_fault l D cI cJ cZ cH (ad 57) (ad 72) (ad 77) (ad 70) (ad 65) (ad 59) (ad 60) (ad 76) (ad 75) (ad 68) (ad 66) (ad 74) (ad 69) (ad 71) (ad 78) (ad 58) (ad 61) (ad 73) (ad 67) (ad 64) (ad 63) (ad 62) (flL 11 (Z 0)) (flL 12 (Z 0)) (arI (Z 58)) (arI (Z 61)) (flI 5 (Z 57)) (flI 8 (Z 57)) (arI (Z 63)) (arI (Z 62)) (xs (i + 1).toNatClampNeg) e2) gzL_30 rfl rfl rfl eL_X12_fault ⟨Nat.le_of_ble_eq_true rfl, Nat.le_of_ble_eq_true rfl⟩ rfl 57 (by decide) rfl (zs (sh_57a hS ha1 ha2) rfl) rfl [57, 58, 61, 63, 62] (zc_cons rfl (zs (sh_57a hS ha1 ha2) rfl) (zc_cons rfl (zs (sh_58 hS) rfl) (zc_cons rfl (zs (sh_61 hS) rfl) (zc_cons rfl (zs (sh_63 hS) rfl) (zc_cons rfl (zs (sh_62 hS) rfl) zc_nil))))) (zc_cons rfl rfl (zc_cons rfl (zs (sh_58 hS) rfl) (zc_cons rfl rfl (zc_cons rfl rfl (zc_cons rfl rfl zc_nil))))) (setl_out rfl) rfl rfl (Nat.le_of_ble_eq_true rfl) hcs hss rfl dL_law_332 ?_
  refine ii_icmp_eq (tgt := 1813) (r := ()) (ET := some ()) (EF := none) (if_pos q1) dL_law_335 (by decide) (fun _ => ?_) (fun z => absurd z (by simp))
  exact kk _ _ _ ⟨setl (setl Z [(31, .inl (cI, 50, .inl o1.2.2.2.2.2.2.2.2.2.1)), (30, .inl (cI, 50, .inl o1.2.1)), (29, .inr (7, [.ref (ad 30), .int o1.2.2.1, .ref (ad 31), .int o1.2.2.2.2.2.2.2.2.2.2, .int o1.2.2.2.2.2.2.2.1, .int o1.2.2.2.2.2.2.2.2.1, .int o1.2.2.2.1, .int o1.2.2.2.2.2.1, .int o1.2.2.2.2.2.2.1, .int o1.2.2.2.2.1]))]) [(63, .inl (cI, 70, .inl o2.2.2.2.2.1)), (62, .inl (cI, 70, .inl o2.2.2.2.2.2)), (61, .inl (cI, 70, .inl o2.2.1)), (57, .inr (12, [.ref (ad 58), .ref (ad 59), .ref (ad 60), .long (flL 11 (Z 0)), .long (flL 12 (Z 0)), .int o2.2.2.1, .ref (ad 61), .ref (ad 62), .int o2.2.2.2.1, .ref (ad 63), .ref (ad 64), .ref (ad 65), .ref (ad 66), .ref (ad 67), .ref (ad 68), .ref (ad 69), .ref (ad 70), .ref (ad 71), .ref (ad 72), .ref (ad 73), .ref (ad 74), .ref (ad 75), .ref (ad 76), .ref (ad 77), .ref (ad 78)]))], tl, rfl, law_fin (tc' := (tcZ Z)) (tr' := (trZ Z)) (nar' := (flI 13 (Z 1))) (nam' := (flI 14 (Z 1))) (st' := (arI (Z 58))) hS (ok_cons ok_31 (ok_cons ok_30 (ok_cons ok_29 ok_nil))) (ok_cons ok_63 (ok_cons ok_62 (ok_cons ok_61 (ok_cons ok_57 ok_nil)))) rfl rfl rfl rfl rfl rfl rfl h hs1 hs2 hs3 rfl rfl him, hb1, hb2⟩

theorem dL_law_340 : decode cL_law 340 = .ok (.aload_n 1, 1) := by decide +kernel
theorem dL_law_341 : decode cL_law 341 = .ok (.aload_n 0, 1) := by decide +kernel
theorem dL_law_342 : decode cL_law 342 = .ok (.iload_n 3, 1) := by decide +kernel
theorem dL_law_343 : decode cL_law 343 = .ok (.iconst 1, 1) := by decide +kernel
theorem dL_law_344 : decode cL_law 344 = .ok (.iadd, 1) := by decide +kernel
theorem dL_law_345 : decode cL_law 345 = .ok (.iaload, 1) := by decide +kernel
theorem dL_law_346 : decode cL_law 346 = .ok (.aload_n 0, 1) := by decide +kernel
theorem dL_law_347 : decode cL_law 347 = .ok (.iload_n 3, 1) := by decide +kernel
theorem dL_law_348 : decode cL_law 348 = .ok (.iconst 2, 1) := by decide +kernel
theorem dL_law_349 : decode cL_law 349 = .ok (.iadd, 1) := by decide +kernel
theorem dL_law_350 : decode cL_law 350 = .ok (.iaload, 1) := by decide +kernel
theorem dL_law_351 : decode cL_law 351 = .ok (.aload_n 0, 1) := by decide +kernel
theorem dL_law_352 : decode cL_law 352 = .ok (.iload_n 3, 1) := by decide +kernel
theorem dL_law_353 : decode cL_law 353 = .ok (.iconst 3, 1) := by decide +kernel
theorem dL_law_354 : decode cL_law 354 = .ok (.iadd, 1) := by decide +kernel
theorem dL_law_355 : decode cL_law 355 = .ok (.iaload, 1) := by decide +kernel
theorem dL_law_356 : decode cL_law 356 = .ok (.aload_n 0, 1) := by decide +kernel
theorem dL_law_357 : decode cL_law 357 = .ok (.iload_n 3, 1) := by decide +kernel
theorem dL_law_358 : decode cL_law 358 = .ok (.iconst 4, 1) := by decide +kernel
theorem dL_law_359 : decode cL_law 359 = .ok (.iadd, 1) := by decide +kernel
theorem dL_law_360 : decode cL_law 360 = .ok (.iaload, 1) := by decide +kernel
theorem dL_law_361 : decode cL_law 361 = .ok (.aload_n 0, 1) := by decide +kernel
theorem dL_law_362 : decode cL_law 362 = .ok (.iload_n 3, 1) := by decide +kernel
theorem dL_law_363 : decode cL_law 363 = .ok (.iconst 5, 1) := by decide +kernel
theorem dL_law_364 : decode cL_law 364 = .ok (.iadd, 1) := by decide +kernel
theorem dL_law_365 : decode cL_law 365 = .ok (.iaload, 1) := by decide +kernel
theorem dL_law_366 : decode cL_law 366 = .ok (.aload_n 0, 1) := by decide +kernel
theorem dL_law_367 : decode cL_law 367 = .ok (.iload_n 3, 1) := by decide +kernel
theorem dL_law_368 : decode cL_law 368 = .ok (.bipush 6, 2) := by decide +kernel
theorem dL_law_370 : decode cL_law 370 = .ok (.iadd, 1) := by decide +kernel
theorem dL_law_371 : decode cL_law 371 = .ok (.iaload, 1) := by decide +kernel
theorem dL_law_372 : decode cL_law 372 = .ok (.i2l, 1) := by decide +kernel
theorem dL_law_373 : decode cL_law 373 = .ok (.bipush 32, 2) := by decide +kernel
theorem dL_law_375 : decode cL_law 375 = .ok (.lshl, 1) := by decide +kernel
theorem dL_law_376 : decode cL_law 376 = .ok (.aload_n 0, 1) := by decide +kernel
theorem dL_law_377 : decode cL_law 377 = .ok (.iload_n 3, 1) := by decide +kernel
theorem dL_law_378 : decode cL_law 378 = .ok (.bipush 7, 2) := by decide +kernel
theorem dL_law_380 : decode cL_law 380 = .ok (.iadd, 1) := by decide +kernel
theorem dL_law_381 : decode cL_law 381 = .ok (.iaload, 1) := by decide +kernel
theorem dL_law_382 : decode cL_law 382 = .ok (.i2l, 1) := by decide +kernel
theorem dL_law_383 : decode cL_law 383 = .ok (.ldc2_w 31, 3) := by decide +kernel
theorem dL_law_386 : decode cL_law 386 = .ok (.land, 1) := by decide +kernel
theorem dL_law_387 : decode cL_law 387 = .ok (.lor, 1) := by decide +kernel
theorem dL_law_388 : decode cL_law 388 = .ok (.invokevirtual 33, 3) := by decide +kernel
theorem dL_law_391 : decode cL_law 391 = .ok (.aload_n 2, 1) := by decide +kernel
theorem dL_law_392 : decode cL_law 392 = .ok (.aload_n 0, 1) := by decide +kernel
theorem dL_law_393 : decode cL_law 393 = .ok (.iload_n 3, 1) := by decide +kernel
theorem dL_law_394 : decode cL_law 394 = .ok (.iconst 1, 1) := by decide +kernel
theorem dL_law_395 : decode cL_law 395 = .ok (.iadd, 1) := by decide +kernel
theorem dL_law_396 : decode cL_law 396 = .ok (.iaload, 1) := by decide +kernel
theorem dL_law_397 : decode cL_law 397 = .ok (.aload_n 0, 1) := by decide +kernel
theorem dL_law_398 : decode cL_law 398 = .ok (.iload_n 3, 1) := by decide +kernel
theorem dL_law_399 : decode cL_law 399 = .ok (.iconst 2, 1) := by decide +kernel
theorem dL_law_400 : decode cL_law 400 = .ok (.iadd, 1) := by decide +kernel
theorem dL_law_401 : decode cL_law 401 = .ok (.iaload, 1) := by decide +kernel
theorem dL_law_402 : decode cL_law 402 = .ok (.aload_n 0, 1) := by decide +kernel
theorem dL_law_403 : decode cL_law 403 = .ok (.iload_n 3, 1) := by decide +kernel
theorem dL_law_404 : decode cL_law 404 = .ok (.iconst 3, 1) := by decide +kernel
theorem dL_law_405 : decode cL_law 405 = .ok (.iadd, 1) := by decide +kernel
theorem dL_law_406 : decode cL_law 406 = .ok (.iaload, 1) := by decide +kernel
theorem dL_law_407 : decode cL_law 407 = .ok (.aload_n 0, 1) := by decide +kernel
theorem dL_law_408 : decode cL_law 408 = .ok (.iload_n 3, 1) := by decide +kernel
theorem dL_law_409 : decode cL_law 409 = .ok (.iconst 4, 1) := by decide +kernel
theorem dL_law_410 : decode cL_law 410 = .ok (.iadd, 1) := by decide +kernel
theorem dL_law_411 : decode cL_law 411 = .ok (.iaload, 1) := by decide +kernel
theorem dL_law_412 : decode cL_law 412 = .ok (.aload_n 0, 1) := by decide +kernel
theorem dL_law_413 : decode cL_law 413 = .ok (.iload_n 3, 1) := by decide +kernel
theorem dL_law_414 : decode cL_law 414 = .ok (.iconst 5, 1) := by decide +kernel
theorem dL_law_415 : decode cL_law 415 = .ok (.iadd, 1) := by decide +kernel
theorem dL_law_416 : decode cL_law 416 = .ok (.iaload, 1) := by decide +kernel
theorem dL_law_417 : decode cL_law 417 = .ok (.aload_n 0, 1) := by decide +kernel
theorem dL_law_418 : decode cL_law 418 = .ok (.iload_n 3, 1) := by decide +kernel
theorem dL_law_419 : decode cL_law 419 = .ok (.bipush 6, 2) := by decide +kernel
theorem dL_law_421 : decode cL_law 421 = .ok (.iadd, 1) := by decide +kernel
theorem dL_law_422 : decode cL_law 422 = .ok (.iaload, 1) := by decide +kernel
theorem dL_law_423 : decode cL_law 423 = .ok (.i2l, 1) := by decide +kernel
theorem dL_law_424 : decode cL_law 424 = .ok (.bipush 32, 2) := by decide +kernel
theorem dL_law_426 : decode cL_law 426 = .ok (.lshl, 1) := by decide +kernel
theorem dL_law_427 : decode cL_law 427 = .ok (.aload_n 0, 1) := by decide +kernel
theorem dL_law_428 : decode cL_law 428 = .ok (.iload_n 3, 1) := by decide +kernel
theorem dL_law_429 : decode cL_law 429 = .ok (.bipush 7, 2) := by decide +kernel
theorem dL_law_431 : decode cL_law 431 = .ok (.iadd, 1) := by decide +kernel
theorem dL_law_432 : decode cL_law 432 = .ok (.iaload, 1) := by decide +kernel
theorem dL_law_433 : decode cL_law 433 = .ok (.i2l, 1) := by decide +kernel
theorem dL_law_434 : decode cL_law 434 = .ok (.ldc2_w 31, 3) := by decide +kernel
theorem dL_law_437 : decode cL_law 437 = .ok (.land, 1) := by decide +kernel
theorem dL_law_438 : decode cL_law 438 = .ok (.lor, 1) := by decide +kernel
theorem dL_law_439 : decode cL_law 439 = .ok (.invokevirtual 37, 3) := by decide +kernel
theorem dL_law_442 : decode cL_law 442 = .ok (.lcmp, 1) := by decide +kernel
theorem dL_law_443 : decode cL_law 443 = .ok (.ifCond .eq 1370, 3) := by decide +kernel
theorem eL_X11_tells : yX11_tells.cls = RX11 ∧ yX11_tells.cls ≠ "java/lang/invoke/MethodHandle" ∧ yX11_tells.cls ≠ "java/lang/invoke/VarHandle" ∧ (parseMethodDescriptor yX11_tells.desc).map (fun d => d.parameters.length) = some 6 := by decide +kernel
theorem eL_X12_tells : yX12_tells.cls = RX12 ∧ yX12_tells.cls ≠ "java/lang/invoke/MethodHandle" ∧ yX12_tells.cls ≠ "java/lang/invoke/VarHandle" ∧ (parseMethodDescriptor yX12_tells.desc).map (fun d => d.parameters.length) = some 6 := by decide +kernel
set_option maxHeartbeats 4000000 in
set_option maxRecDepth 100000 in
theorem law_4 {l : Launch} {p : Program} {e : Env} {s : State} {m : MethodId} {below : List Frame} {meth : Method} {c : Code} {D : va_G} {A : Nat → Prop} {cells slots : Nat} {Q : State → Prop} {b L : Nat} {xs : Nat → Int32} {i : Int32} {cI cJ cZ cH : ClassId} {ad : Nat → Nat} {ws : va_W} (hX : va_X b L xs s s.heap) (hbl : b < s.heap.size) (hbA : ¬ A b) (hin : ∀ j : Nat, j < 8 → vp_in (i + nI j) L) (hL : LawS cI cJ cZ cH ad cells slots ws) (kk : ∀ cells slots ws, LawS cI cJ cZ cH ad cells slots ws → WX p l e room_1 s m #[.ref b] below meth c code RL lwG D [(cI, .int), (cJ, .long), (cZ, .boolean), (cH, .object "TinHouse$House")] A 4 cells slots Q ws 1813 [(3, .int i), (2, .ref (ad 57)), (1, .ref (ad 0)), (0, .ref b)] []) : WX p l e room_1 s m #[.ref b] below meth c code RL lwG D [(cI, .int), (cJ, .long), (cZ, .boolean), (cH, .object "TinHouse$House")] A 4 cells slots Q ws 340 [(3, .int i), (2, .ref (ad 57)), (1, .ref (ad 0)), (0, .ref b)] [] := by
  obtain ⟨Z, tl, rfl, ⟨hS, h, hs1, hs2, hs3, ha1, ha2, him⟩, hb1, hb2⟩ := hL
  have hcs : cells ≤ room_1.cells := Nat.le_trans (Nat.le_add_right _ _) hb1
  have hss : slots ≤ room_1.slots := Nat.le_trans (Nat.le_add_right _ _) hb2
  refine ii_aload_n 2 dL_law_340 rfl ?_
  refine ii_aload_n 3 dL_law_341 rfl ?_
  refine ii_iload_n 0 dL_law_342 rfl ?_
  refine ii_iconst dL_law_343 kc1 ?_
  refine ii_iadd dL_law_344 ?_
  refine ii_sld hX hbl hbA (hin 1 (by decide)) dL_law_345 ?_
  refine ii_aload_n 3 dL_law_346 rfl ?_
  refine ii_iload_n 0 dL_law_347 rfl ?_
  refine ii_iconst dL_law_348 kc2 ?_
  refine ii_iadd dL_law_349 ?_
  refine ii_sld hX hbl hbA (hin 2 (by decide)) dL_law_350 ?_
  refine ii_aload_n 3 dL_law_351 rfl ?_
  refine ii_iload_n 0 dL_law_352 rfl ?_
  refine ii_iconst dL_law_353 kc3 ?_
  refine ii_iadd dL_law_354 ?_
  refine ii_sld hX hbl hbA (hin 3 (by decide)) dL_law_355 ?_
  refine ii_aload_n 3 dL_law_356 rfl ?_
  refine ii_iload_n 0 dL_law_357 rfl ?_
  refine ii_iconst dL_law_358 kc4 ?_
  refine ii_iadd dL_law_359 ?_
  refine ii_sld hX hbl hbA (hin 4 (by decide)) dL_law_360 ?_
  refine ii_aload_n 3 dL_law_361 rfl ?_
  refine ii_iload_n 0 dL_law_362 rfl ?_
  refine ii_iconst dL_law_363 kc5 ?_
  refine ii_iadd dL_law_364 ?_
  refine ii_sld hX hbl hbA (hin 5 (by decide)) dL_law_365 ?_
  refine ii_aload_n 3 dL_law_366 rfl ?_
  refine ii_iload_n 0 dL_law_367 rfl ?_
  refine ii_bipush dL_law_368 kb6 ?_
  refine ii_iadd dL_law_370 ?_
  refine ii_sld hX hbl hbA (hin 6 (by decide)) dL_law_371 ?_
  refine ii_i2l dL_law_372 ?_
  refine ii_bipush dL_law_373 kb32 ?_
  refine ii_lshl dL_law_375 ?_
  refine ii_aload_n 3 dL_law_376 rfl ?_
  refine ii_iload_n 0 dL_law_377 rfl ?_
  refine ii_bipush dL_law_378 kb7 ?_
  refine ii_iadd dL_law_380 ?_
  refine ii_sld hX hbl hbA (hin 7 (by decide)) dL_law_381 ?_
  refine ii_i2l dL_law_382 ?_
  refine ii_ldc2 (v := 4294967295) dL_law_383 w_7_97 ?_
  refine ii_land dL_law_386 ?_
  refine ii_lor dL_law_387 ?_
  obtain ⟨o1, o2, e1, e2, q1⟩ := (P_tells h _ _ _ _ _ _ _ _ _ _ _ _ _ _ _ _ _ _ _ _ _ _ _ _ _ _ _ _ _ _ : Two (F_X11_tells (flL 7 (Z 32)) (flI 3 (Z 32)) (flI 2 (Z 32)) (flI 4 (Z 32)) (flI 6 (Z 32)) (arL (Z 33)) (flI 5 (Z 32)) (tcZ Z 1) (trZ Z 1) (arI (Z 30)) (flI 1 (Z 29)) (flI 6 (Z 29)) (flI 9 (Z 29)) (flI 7 (Z 29)) (flI 8 (Z 29)) (flI 4 (Z 29)) (flI 5 (Z 29)) (arI (Z 31)) (flI 3 (Z 29)) (xs (i + 1).toNatClampNeg) (xs (i + 2).toNatClampNeg) (xs (i + 3).toNatClampNeg) (xs (i + 4).toNatClampNeg) (xs (i + 5).toNatClampNeg) ((((xs (i + 6).toNatClampNeg)).toInt64 <<< ((32 : Int32).toInt64 &&& 63)) ||| (((xs (i + 7).toNatClampNeg)).toInt64 &&& (4294967295 : Int64)))) (F_X12_tells (arL (Z 65)) (arI (Z 58)) (arI (Z 61)) (flI 5 (Z 57)) (arL (Z 64)) (flI 8 (Z 57)) (arI (Z 63)) (arI (Z 62)) (xs (i + 1).toNatClampNeg) (xs (i + 2).toNatClampNeg) (xs (i + 3).toNatClampNeg) (xs (i + 4).toNatClampNeg) (xs (i + 5).toNatClampNeg) ((((xs (i + 6).toNatClampNeg)).toInt64 <<< ((32 : Int32).toInt64 &&& 63)) ||| (((xs (i + 7).toNatClampNeg)).toInt64 &&& (4294967295 : Int64)))) _)
  refine ii_callZl (nW := 79) (ad := ad) (Z := Z) (setl Z [(33, .inl (cJ, 50, .inr (.inl o1.2.2.2.2.2.2.1))), (32, .inr (1, [.ref (ad 1), .ref (ad 33), .int o1.2.2.2.1, .int o1.2.2.1, .int o1.2.2.2.2.1, .int o1.2.2.2.2.2.2.2.1, .int o1.2.2.2.2.2.1, .long o1.2.1])), (31, .inl (cI, 50, .inl o1.2.2.2.2.2.2.2.2.2.2.2.2.2.2.2.2.1)), (30, .inl (cI, 50, .inl o1.2.2.2.2.2.2.2.2.1)), (29, .inr (7, [.ref (ad 30), .int o1.2.2.2.2.2.2.2.2.2.1, .ref (ad 31), .int o1.2.2.2.2.2.2.2.2.2.2.2.2.2.2.2.2.2, .int o1.2.2.2.2.2.2.2.2.2.2.2.2.2.2.1, .int o1.2.2.2.2.2.2.2.2.2.2.2.2.2.2.2.1, .int o1.2.2.2.2.2.2.2.2.2.2.1, .int o1.2.2.2.2.2.2.2.2.2.2.2.2.1, .int o1.2.2.2.2.2.2.2.2.2.2.2.2.2.1, .int o1.2.2.2.2.2.2.2.2.2.2.2.1]))]) (tl := tl) (As := [.int (xs (i + 1).toNatClampNeg), .int (xs (i + 2).toNatClampNeg), .int (xs (i + 3).toNatClampNeg), .int (xs (i + 4).toNatClampNeg), .int (xs (i + 5).toNatClampNeg), .long ((((xs (i + 6).toNatClampNeg)).toInt64 <<< ((32 : Int32).toInt64 &&& 63)) ||| (((xs (i + 7).toNatClampNeg)).toInt64 &&& (4294967295 : Int64)))]) (st := []) (c_X11_tells l D cI cJ cZ cH (ad 0) (ad 28) (ad 32) (ad 33) (ad 34) (ad 36) (ad 1) (ad 6) (ad 8) (ad 14) (ad 20) (ad 24) (ad 22) (ad 2) (ad 10) (ad 26) (ad 12) (ad 16) (ad 4) (ad 5) (ad 18) (ad 51) (ad 55) (ad 49) (ad 29) (ad 30) (ad 31) (ad 44) (ad 45) (flL 11 (Z 0)) (flL 12 (Z 0)) (flL 7 (Z 32)) (flI 3 (Z 32)) (flI 2 (Z 32)) (flI 4 (Z 32)) (flI 6 (Z 32)) (arL (Z 33)) (flI 5 (Z 32)) (flI 14 (Z 1)) (flI 13 (Z 1)) (tcZ Z 1) (trZ Z 1) (arI (Z 30)) (flI 1 (Z 29)) (flI 6 (Z 29)) (flI 9 (Z 29)) (flI 7 (Z 29)) (flI 8 (Z 29)) (flI 4 (Z 29)) (flI 5 (Z 29)) (arI (Z 31)) (flI 3 (Z 29)) (xs (i + 1).toNatClampNeg) (xs (i + 2).toNatClampNeg) (xs (i + 3).toNatClampNeg) (xs (i + 4).toNatClampNeg) (xs (i + 5).toNatClampNeg) ((((xs (i + 6).toNatClampNeg)).toInt64 <<< ((32 : Int32).toInt64 &&& 63)) ||| (((xs (i + 7).toNatClampNeg)).toInt64 &&& (4294967295 : Int64))) e1) gzL_33 rfl rfl rfl eL_X11_tells ⟨Nat.le_of_ble_eq_true rfl, Nat.le_of_ble_eq_true rfl⟩ rfl 0 (by decide) rfl (sh_0 hS) rfl [0, 32, 33, 1, 4, 5, 29, 30, 31] (zc_cons rfl (sh_0 hS) (zc_cons rfl (sh_32 hS) (zc_cons rfl (sh_33 hS) (zc_cons rfl (sh_1 hS) (zc_cons rfl (sh_4 hS) (zc_cons rfl (sh_5 hS) (zc_cons rfl (sh_29 hS) (zc_cons rfl (sh_30 hS) (zc_cons rfl (sh_31 hS) zc_nil))))))))) (zc_cons rfl (zs (sh_0 hS) rfl) (zc_cons rfl rfl (zc_cons rfl rfl (zc_cons rfl (zs (sh_1 hS) rfl) (zc_cons rfl (zs (sh_4 hS) rfl) (zc_cons rfl (zs (sh_5 hS) rfl) (zc_cons rfl rfl (zc_cons rfl rfl (zc_cons rfl rfl zc_nil))))))))) (setl_out rfl) rfl rfl (Nat.le_of_ble_eq_true rfl) hcs hss rfl dL_law_388 ?_
  refine ii_aload_n 1 dL_law_391 rfl ?_
  refine ii_aload_n 3 dL_law_392 rfl ?_
  refine ii_iload_n 0 dL_law_393 rfl ?_
  refine ii_iconst dL_law_394 kc1 ?_
  refine ii_iadd dL_law_395 ?_
  refine ii_sld hX hbl hbA (hin 1 (by decide)) dL_law_396 ?_
  refine ii_aload_n 3 dL_law_397 rfl ?_
  refine ii_iload_n 0 dL_law_398 rfl ?_
  refine ii_iconst dL_law_399 kc2 ?_
  refine ii_iadd dL_law_400 ?_
  refine ii_sld hX hbl hbA (hin 2 (by decide)) dL_law_401 ?_
  refine ii_aload_n 3 dL_law_402 rfl ?_
  refine ii_iload_n 0 dL_law_403 rfl ?_
  refine ii_iconst dL_law_404 kc3 ?_
  refine ii_iadd dL_law_405 ?_
  refine ii_sld hX hbl hbA (hin 3 (by decide)) dL_law_406 ?_
  refine ii_aload_n 3 dL_law_407 rfl ?_
  refine ii_iload_n 0 dL_law_408 rfl ?_
  refine ii_iconst dL_law_409 kc4 ?_
  refine ii_iadd dL_law_410 ?_
  refine ii_sld hX hbl hbA (hin 4 (by decide)) dL_law_411 ?_
  refine ii_aload_n 3 dL_law_412 rfl ?_
  refine ii_iload_n 0 dL_law_413 rfl ?_
  refine ii_iconst dL_law_414 kc5 ?_
  refine ii_iadd dL_law_415 ?_
  refine ii_sld hX hbl hbA (hin 5 (by decide)) dL_law_416 ?_
  refine ii_aload_n 3 dL_law_417 rfl ?_
  refine ii_iload_n 0 dL_law_418 rfl ?_
  refine ii_bipush dL_law_419 kb6 ?_
  refine ii_iadd dL_law_421 ?_
  refine ii_sld hX hbl hbA (hin 6 (by decide)) dL_law_422 ?_
  refine ii_i2l dL_law_423 ?_
  refine ii_bipush dL_law_424 kb32 ?_
  refine ii_lshl dL_law_426 ?_
  refine ii_aload_n 3 dL_law_427 rfl ?_
  refine ii_iload_n 0 dL_law_428 rfl ?_
  refine ii_bipush dL_law_429 kb7 ?_
  refine ii_iadd dL_law_431 ?_
  refine ii_sld hX hbl hbA (hin 7 (by decide)) dL_law_432 ?_
  refine ii_i2l dL_law_433 ?_
  refine ii_ldc2 (v := 4294967295) dL_law_434 w_7_97 ?_
  refine ii_land dL_law_437 ?_
  refine ii_lor dL_law_438 ?_
  refine ii_callZl (nW := 79) (ad := ad) (Z := (setl Z [(33, .inl (cJ, 50, .inr (.inl o1.2.2.2.2.2.2.1))), (32, .inr (1, [.ref (ad 1), .ref (ad 33), .int o1.2.2.2.1, .int o1.2.2.1, .int o1.2.2.2.2.1, .int o1.2.2.2.2.2.2.2.1, .int o1.2.2.2.2.2.1, .long o1.2.1])), (31, .inl (cI, 50, .inl o1.2.2.2.2.2.2.2.2.2.2.2.2.2.2.2.2.1)), (30, .inl (cI, 50, .inl o1.2.2.2.2.2.2.2.2.1)), (29, .inr (7, [.ref (ad 30), .int o1.2.2.2.2.2.2.2.2.2.1, .ref (ad 31), .int o1.2.2.2.2.2.2.2.2.2.2.2.2.2.2.2.2.2, .int o1.2.2.2.2.2.2.2.2.2.2.2.2.2.2.1, .int o1.2.2.2.2.2.2.2.2.2.2.2.2.2.2.2.1, .int o1.2.2.2.2.2.2.2.2.2.2.1, .int o1.2.2.2.2.2.2.2.2.2.2.2.2.1, .int o1.2.2.2.2.2.2.2.2.2.2.2.2.2.1, .int o1.2.2.2.2.2.2.2.2.2.2.2.1]))])) (setl (setl Z [(33, .inl (cJ, 50, .inr (.inl o1.2.2.2.2.2.2.1))), (32, .inr (1, [.ref (ad 1), .ref (ad 33), .int o1.2.2.2.1, .int o1.2.2.1, .int o1.2.2.2.2.1, .int o1.2.2.2.2.2.2.2.1, .int o1.2.2.2.2.2.1, .long o1.2.1])), (31, .inl (cI, 50, .inl o1.2.2.2.2.2.2.2.2.2.2.2.2.2.2.2.2.1)), (30, .inl (cI, 50, .inl o1.2.2.2.2.2.2.2.2.1)), (29, .inr (7, [.ref (ad 30), .int o1.2.2.2.2.2.2.2.2.2.1, .ref (ad 31), .int o1.2.2.2.2.2.2.2.2.2.2.2.2.2.2.2.2.2, .int o1.2.2.2.2.2.2.2.2.2.2.2.2.2.2.1, .int o1.2.2.2.2.2.2.2.2.2.2.2.2.2.2.2.1, .int o1.2.2.2.2.2.2.2.2.2.2.1, .int o1.2.2.2.2.2.2.2.2.2.2.2.2.1, .int o1.2.2.2.2.2.2.2.2.2.2.2.2.2.1, .int o1.2.2.2.2.2.2.2.2.2.2.2.1]))]) [(65, .inl (cJ, 5, .inr (.inl o2.2.1))), (64, .inl (cJ, 70, .inr (.inl o2.2.2.2.2.1))), (63, .inl (cI, 70, .inl o2.2.2.2.2.2.2.1)), (62, .inl (cI, 70, .inl o2.2.2.2.2.2.2.2)), (61, .inl (cI, 70, .inl o2.2.2.1)), (57, .inr (12, [.ref (ad 58), .ref (ad 59), .ref (ad 60), .long (flL 11 (Z 0)), .long (flL 12 (Z 0)), .int o2.2.2.2.1, .ref (ad 61), .ref (ad 62), .int o2.2.2.2.2.2.1, .ref (ad 63), .ref (ad 64), .ref (ad 65), .ref (ad 66), .ref (ad 67), .ref (ad 68), .ref (ad 69), .ref (ad 70), .ref (ad 71), .ref (ad 72), .ref (ad 73), .ref (ad 74), .ref (ad 75), .ref (ad 76), .ref (ad 77), .ref (ad 78)]))]) (tl := tl) (As := [.int (xs (i + 1).toNatClampNeg), .int (xs (i + 2).toNatClampNeg), .int (xs (i + 3).toNatClampNeg), .int (xs (i + 4).toNatClampNeg), .int (xs (i + 5).toNatClampNeg), .long ((((xs (i + 6).toNatClampNeg)).toInt64 <<< ((32 : Int32).toInt64 &&& 63)) ||| (((xs (i + 7).toNatClampNeg)).toInt64 &&& (4294967295 : Int64)))]) (st := [.long o1.1]) (c_X12_tells l D cI cJ cZ cH (ad 57) (ad 72) (ad 77) (ad 70) (ad 65) (ad 59) (ad 60) (ad 76) (ad 75) (ad 68) (ad 66) (ad 74) (ad 69) (ad 71) (ad 78) (ad 58) (ad 61) (ad 73) (ad 67) (ad 64) (ad 63) (ad 62) (flL 11 (Z 0)) (flL 12 (Z 0)) (arL (Z 65)) (arI (Z 58)) (arI (Z 61)) (flI 5 (Z 57)) (arL (Z 64)) (flI 8 (Z 57)) (arI (Z 63)) (arI (Z 62)) (xs (i + 1).toNatClampNeg) (xs (i + 2).toNatClampNeg) (xs (i + 3).toNatClampNeg) (xs (i + 4).toNatClampNeg) (xs (i + 5).toNatClampNeg) ((((xs (i + 6).toNatClampNeg)).toInt64 <<< ((32 : Int32).toInt64 &&& 63)) ||| (((xs (i + 7).toNatClampNeg)).toInt64 &&& (4294967295 : Int64))) e2) gzL_37 rfl rfl rfl eL_X12_tells ⟨Nat.le_of_ble_eq_true rfl, Nat.le_of_ble_eq_true rfl⟩ rfl 57 (by decide) rfl (zs (sh_57a hS ha1 ha2) rfl) rfl [57, 65, 58, 61, 64, 63, 62] (zc_cons rfl (zs (sh_57a hS ha1 ha2) rfl) (zc_cons rfl (zs (sh_65 hS) rfl) (zc_cons rfl (zs (sh_58 hS) rfl) (zc_cons rfl (zs (sh_61 hS) rfl) (zc_cons rfl (zs (sh_64 hS) rfl) (zc_cons rfl (zs (sh_63 hS) rfl) (zc_cons rfl (zs (sh_62 hS) rfl) zc_nil))))))) (zc_cons rfl rfl (zc_cons rfl rfl (zc_cons rfl (zs (sh_58 hS) rfl) (zc_cons rfl rfl (zc_cons rfl rfl (zc_cons rfl rfl (zc_cons rfl rfl zc_nil))))))) (setl_out rfl) rfl rfl (Nat.le_of_ble_eq_true rfl) hcs hss rfl dL_law_439 ?_
  refine ii_lcmp_eq (tgt := 1813) (r := ()) (ET := some ()) (EF := none) (if_pos q1) dL_law_442 dL_law_443 (by decide) (fun _ => ?_) (fun z => absurd z (by simp))
  exact kk _ _ _ ⟨setl (setl Z [(33, .inl (cJ, 50, .inr (.inl o1.2.2.2.2.2.2.1))), (32, .inr (1, [.ref (ad 1), .ref (ad 33), .int o1.2.2.2.1, .int o1.2.2.1, .int o1.2.2.2.2.1, .int o1.2.2.2.2.2.2.2.1, .int o1.2.2.2.2.2.1, .long o1.2.1])), (31, .inl (cI, 50, .inl o1.2.2.2.2.2.2.2.2.2.2.2.2.2.2.2.2.1)), (30, .inl (cI, 50, .inl o1.2.2.2.2.2.2.2.2.1)), (29, .inr (7, [.ref (ad 30), .int o1.2.2.2.2.2.2.2.2.2.1, .ref (ad 31), .int o1.2.2.2.2.2.2.2.2.2.2.2.2.2.2.2.2.2, .int o1.2.2.2.2.2.2.2.2.2.2.2.2.2.2.1, .int o1.2.2.2.2.2.2.2.2.2.2.2.2.2.2.2.1, .int o1.2.2.2.2.2.2.2.2.2.2.1, .int o1.2.2.2.2.2.2.2.2.2.2.2.2.1, .int o1.2.2.2.2.2.2.2.2.2.2.2.2.2.1, .int o1.2.2.2.2.2.2.2.2.2.2.2.1]))]) [(65, .inl (cJ, 5, .inr (.inl o2.2.1))), (64, .inl (cJ, 70, .inr (.inl o2.2.2.2.2.1))), (63, .inl (cI, 70, .inl o2.2.2.2.2.2.2.1)), (62, .inl (cI, 70, .inl o2.2.2.2.2.2.2.2)), (61, .inl (cI, 70, .inl o2.2.2.1)), (57, .inr (12, [.ref (ad 58), .ref (ad 59), .ref (ad 60), .long (flL 11 (Z 0)), .long (flL 12 (Z 0)), .int o2.2.2.2.1, .ref (ad 61), .ref (ad 62), .int o2.2.2.2.2.2.1, .ref (ad 63), .ref (ad 64), .ref (ad 65), .ref (ad 66), .ref (ad 67), .ref (ad 68), .ref (ad 69), .ref (ad 70), .ref (ad 71), .ref (ad 72), .ref (ad 73), .ref (ad 74), .ref (ad 75), .ref (ad 76), .ref (ad 77), .ref (ad 78)]))], tl, rfl, law_fin (tc' := (tcZ Z)) (tr' := (trZ Z)) (nar' := (flI 13 (Z 1))) (nam' := (flI 14 (Z 1))) (st' := (arI (Z 58))) hS (ok_cons ok_33 (ok_cons ok_32 (ok_cons ok_31 (ok_cons ok_30 (ok_cons ok_29 ok_nil))))) (ok_cons ok_65 (ok_cons ok_64 (ok_cons ok_63 (ok_cons ok_62 (ok_cons ok_61 (ok_cons ok_57 ok_nil)))))) rfl rfl rfl rfl rfl rfl rfl h hs1 hs2 hs3 rfl rfl him, hb1, hb2⟩

theorem dL_law_448 : decode cL_law 448 = .ok (.aload_n 1, 1) := by decide +kernel
theorem dL_law_449 : decode cL_law 449 = .ok (.aload_n 0, 1) := by decide +kernel
theorem dL_law_450 : decode cL_law 450 = .ok (.iload_n 3, 1) := by decide +kernel
theorem dL_law_451 : decode cL_law 451 = .ok (.iconst 1, 1) := by decide +kernel
theorem dL_law_452 : decode cL_law 452 = .ok (.iadd, 1) := by decide +kernel
theorem dL_law_453 : decode cL_law 453 = .ok (.iaload, 1) := by decide +kernel
theorem dL_law_454 : decode cL_law 454 = .ok (.aload_n 0, 1) := by decide +kernel
theorem dL_law_455 : decode cL_law 455 = .ok (.iload_n 3, 1) := by decide +kernel
theorem dL_law_456 : decode cL_law 456 = .ok (.iconst 2, 1) := by decide +kernel
theorem dL_law_457 : decode cL_law 457 = .ok (.iadd, 1) := by decide +kernel
theorem dL_law_458 : decode cL_law 458 = .ok (.iaload, 1) := by decide +kernel
theorem dL_law_459 : decode cL_law 459 = .ok (.aload_n 0, 1) := by decide +kernel
theorem dL_law_460 : decode cL_law 460 = .ok (.iload_n 3, 1) := by decide +kernel
theorem dL_law_461 : decode cL_law 461 = .ok (.iconst 3, 1) := by decide +kernel
theorem dL_law_462 : decode cL_law 462 = .ok (.iadd, 1) := by decide +kernel
theorem dL_law_463 : decode cL_law 463 = .ok (.iaload, 1) := by decide +kernel
theorem dL_law_464 : decode cL_law 464 = .ok (.invokevirtual 38, 3) := by decide +kernel
theorem dL_law_467 : decode cL_law 467 = .ok (.aload_n 2, 1) := by decide +kernel
theorem dL_law_468 : decode cL_law 468 = .ok (.aload_n 0, 1) := by decide +kernel
theorem dL_law_469 : decode cL_law 469 = .ok (.iload_n 3, 1) := by decide +kernel
theorem dL_law_470 : decode cL_law 470 = .ok (.iconst 1, 1) := by decide +kernel
theorem dL_law_471 : decode cL_law 471 = .ok (.iadd, 1) := by decide +kernel
theorem dL_law_472 : decode cL_law 472 = .ok (.iaload, 1) := by decide +kernel
theorem dL_law_473 : decode cL_law 473 = .ok (.aload_n 0, 1) := by decide +kernel
theorem dL_law_474 : decode cL_law 474 = .ok (.iload_n 3, 1) := by decide +kernel
theorem dL_law_475 : decode cL_law 475 = .ok (.iconst 2, 1) := by decide +kernel
theorem dL_law_476 : decode cL_law 476 = .ok (.iadd, 1) := by decide +kernel
theorem dL_law_477 : decode cL_law 477 = .ok (.iaload, 1) := by decide +kernel
theorem dL_law_478 : decode cL_law 478 = .ok (.aload_n 0, 1) := by decide +kernel
theorem dL_law_479 : decode cL_law 479 = .ok (.iload_n 3, 1) := by decide +kernel
theorem dL_law_480 : decode cL_law 480 = .ok (.iconst 3, 1) := by decide +kernel
theorem dL_law_481 : decode cL_law 481 = .ok (.iadd, 1) := by decide +kernel
theorem dL_law_482 : decode cL_law 482 = .ok (.iaload, 1) := by decide +kernel
theorem dL_law_483 : decode cL_law 483 = .ok (.invokevirtual 42, 3) := by decide +kernel
theorem dL_law_486 : decode cL_law 486 = .ok (.if_icmp .eq 1327, 3) := by decide +kernel
theorem eL_X11_act : yX11_act.cls = RX11 ∧ yX11_act.cls ≠ "java/lang/invoke/MethodHandle" ∧ yX11_act.cls ≠ "java/lang/invoke/VarHandle" ∧ (parseMethodDescriptor yX11_act.desc).map (fun d => d.parameters.length) = some 3 := by decide +kernel
theorem eL_X12_act : yX12_act.cls = RX12 ∧ yX12_act.cls ≠ "java/lang/invoke/MethodHandle" ∧ yX12_act.cls ≠ "java/lang/invoke/VarHandle" ∧ (parseMethodDescriptor yX12_act.desc).map (fun d => d.parameters.length) = some 3 := by decide +kernel
set_option maxHeartbeats 4000000 in
set_option maxRecDepth 100000 in
theorem law_5 {l : Launch} {p : Program} {e : Env} {s : State} {m : MethodId} {below : List Frame} {meth : Method} {c : Code} {D : va_G} {A : Nat → Prop} {cells slots : Nat} {Q : State → Prop} {b L : Nat} {xs : Nat → Int32} {i : Int32} {cI cJ cZ cH : ClassId} {ad : Nat → Nat} {ws : va_W} (hX : va_X b L xs s s.heap) (hbl : b < s.heap.size) (hbA : ¬ A b) (hin : ∀ j : Nat, j < 8 → vp_in (i + nI j) L) (hL : LawS cI cJ cZ cH ad cells slots ws) (kk : ∀ cells slots ws, LawS cI cJ cZ cH ad cells slots ws → WX p l e room_1 s m #[.ref b] below meth c code RL lwG D [(cI, .int), (cJ, .long), (cZ, .boolean), (cH, .object "TinHouse$House")] A 4 cells slots Q ws 1813 [(3, .int i), (2, .ref (ad 57)), (1, .ref (ad 0)), (0, .ref b)] []) : WX p l e room_1 s m #[.ref b] below meth c code RL lwG D [(cI, .int), (cJ, .long), (cZ, .boolean), (cH, .object "TinHouse$House")] A 4 cells slots Q ws 448 [(3, .int i), (2, .ref (ad 57)), (1, .ref (ad 0)), (0, .ref b)] [] := by
  obtain ⟨Z, tl, rfl, ⟨hS, h, hs1, hs2, hs3, ha1, ha2, him⟩, hb1, hb2⟩ := hL
  have hcs : cells ≤ room_1.cells := Nat.le_trans (Nat.le_add_right _ _) hb1
  have hss : slots ≤ room_1.slots := Nat.le_trans (Nat.le_add_right _ _) hb2
  refine ii_aload_n 2 dL_law_448 rfl ?_
  refine ii_aload_n 3 dL_law_449 rfl ?_
  refine ii_iload_n 0 dL_law_450 rfl ?_
  refine ii_iconst dL_law_451 kc1 ?_
  refine ii_iadd dL_law_452 ?_
  refine ii_sld hX hbl hbA (hin 1 (by decide)) dL_law_453 ?_
  refine ii_aload_n 3 dL_law_454 rfl ?_
  refine ii_iload_n 0 dL_law_455 rfl ?_
  refine ii_iconst dL_law_456 kc2 ?_
  refine ii_iadd dL_law_457 ?_
  refine ii_sld hX hbl hbA (hin 2 (by decide)) dL_law_458 ?_
  refine ii_aload_n 3 dL_law_459 rfl ?_
  refine ii_iload_n 0 dL_law_460 rfl ?_
  refine ii_iconst dL_law_461 kc3 ?_
  refine ii_iadd dL_law_462 ?_
  refine ii_sld hX hbl hbA (hin 3 (by decide)) dL_law_463 ?_
  obtain ⟨o1, o2, e1, e2, q1, q2⟩ := (P_act h _ _ _ _ _ _ _ _ _ _ _ _ _ _ _ _ _ _ : Two (F_X11_act (tcZ Z 2) (trZ Z 2) (tcZ Z 1) (trZ Z 1) (arI (Z 30)) (flI 1 (Z 29)) (flI 6 (Z 29)) (flI 9 (Z 29)) (flI 7 (Z 29)) (flI 8 (Z 29)) (flI 4 (Z 29)) (flI 5 (Z 29)) (arI (Z 31)) (flI 3 (Z 29)) (xs (i + 1).toNatClampNeg) (xs (i + 2).toNatClampNeg) (xs (i + 3).toNatClampNeg)) (F_X12_act (arI (Z 58)) (arI (Z 61)) (flI 5 (Z 57)) (flI 8 (Z 57)) (arI (Z 63)) (arI (Z 62)) (xs (i + 1).toNatClampNeg) (xs (i + 2).toNatClampNeg) (xs (i + 3).toNatClampNeg)) _)
  refine ii_callZi (nW := 79) (ad := ad) (Z := Z) (setl Z [(31, .inl (cI, 50, .inl o1.2.2.2.2.2.2.2.2.2.2.2.1)), (30, .inl (cI, 50, .inl o1.2.2.2.1)), (29, .inr (7, [.ref (ad 30), .int o1.2.2.2.2.1, .ref (ad 31), .int o1.2.2.2.2.2.2.2.2.2.2.2.2, .int o1.2.2.2.2.2.2.2.2.2.1, .int o1.2.2.2.2.2.2.2.2.2.2.1, .int o1.2.2.2.2.2.1, .int o1.2.2.2.2.2.2.2.1, .int o1.2.2.2.2.2.2.2.2.1, .int o1.2.2.2.2.2.2.1])), (7, .inl (cI, 1664, .inl o1.2.1)), (6, .inr (8, [.int (104 : Int32), .int (16 : Int32), .ref (ad 7), .int o1.2.2.1]))]) (tl := tl) (As := [.int (xs (i + 1).toNatClampNeg), .int (xs (i + 2).toNatClampNeg), .int (xs (i + 3).toNatClampNeg)]) (st := []) (c_X11_act l D cI cJ cZ cH (ad 0) (ad 28) (ad 32) (ad 33) (ad 34) (ad 36) (ad 1) (ad 6) (ad 7) (ad 8) (ad 14) (ad 20) (ad 24) (ad 22) (ad 2) (ad 10) (ad 26) (ad 12) (ad 16) (ad 4) (ad 5) (ad 18) (ad 51) (ad 55) (ad 49) (ad 29) (ad 30) (ad 31) (ad 44) (ad 45) (flL 11 (Z 0)) (flL 12 (Z 0)) (flL 7 (Z 32)) (flI 3 (Z 32)) (flI 2 (Z 32)) (flI 4 (Z 32)) (flI 6 (Z 32)) (flI 5 (Z 32)) (tcZ Z 2) (trZ Z 2) (flI 14 (Z 1)) (flI 13 (Z 1)) (tcZ Z 1) (trZ Z 1) (arI (Z 30)) (flI 1 (Z 29)) (flI 6 (Z 29)) (flI 9 (Z 29)) (flI 7 (Z 29)) (flI 8 (Z 29)) (flI 4 (Z 29)) (flI 5 (Z 29)) (arI (Z 31)) (flI 3 (Z 29)) (xs (i + 1).toNatClampNeg) (xs (i + 2).toNatClampNeg) (xs (i + 3).toNatClampNeg) e1) gzL_38 rfl rfl rfl eL_X11_act ⟨Nat.le_of_ble_eq_true rfl, Nat.le_of_ble_eq_true rfl⟩ rfl 0 (by decide) rfl (sh_0 hS) rfl [0, 32, 1, 6, 7, 4, 5, 29, 30, 31] (zc_cons rfl (sh_0 hS) (zc_cons rfl (sh_32 hS) (zc_cons rfl (sh_1 hS) (zc_cons rfl (sh_6 hS) (zc_cons rfl (sh_7 hS) (zc_cons rfl (sh_4 hS) (zc_cons rfl (sh_5 hS) (zc_cons rfl (sh_29 hS) (zc_cons rfl (sh_30 hS) (zc_cons rfl (sh_31 hS) zc_nil)))))))))) (zc_cons rfl (zs (sh_0 hS) rfl) (zc_cons rfl (zs (sh_32 hS) rfl) (zc_cons rfl (zs (sh_1 hS) rfl) (zc_cons rfl rfl (zc_cons rfl rfl (zc_cons rfl (zs (sh_4 hS) rfl) (zc_cons rfl (zs (sh_5 hS) rfl) (zc_cons rfl rfl (zc_cons rfl rfl (zc_cons rfl rfl zc_nil)))))))))) (setl_out rfl) rfl rfl (Nat.le_of_ble_eq_true rfl) hcs hss rfl dL_law_464 ?_
  refine ii_aload_n 1 dL_law_467 rfl ?_
  refine ii_aload_n 3 dL_law_468 rfl ?_
  refine ii_iload_n 0 dL_law_469 rfl ?_
  refine ii_iconst dL_law_470 kc1 ?_
  refine ii_iadd dL_law_471 ?_
  refine ii_sld hX hbl hbA (hin 1 (by decide)) dL_law_472 ?_
  refine ii_aload_n 3 dL_law_473 rfl ?_
  refine ii_iload_n 0 dL_law_474 rfl ?_
  refine ii_iconst dL_law_475 kc2 ?_
  refine ii_iadd dL_law_476 ?_
  refine ii_sld hX hbl hbA (hin 2 (by decide)) dL_law_477 ?_
  refine ii_aload_n 3 dL_law_478 rfl ?_
  refine ii_iload_n 0 dL_law_479 rfl ?_
  refine ii_iconst dL_law_480 kc3 ?_
  refine ii_iadd dL_law_481 ?_
  refine ii_sld hX hbl hbA (hin 3 (by decide)) dL_law_482 ?_
  refine ii_callZi (nW := 79) (ad := ad) (Z := (setl Z [(31, .inl (cI, 50, .inl o1.2.2.2.2.2.2.2.2.2.2.2.1)), (30, .inl (cI, 50, .inl o1.2.2.2.1)), (29, .inr (7, [.ref (ad 30), .int o1.2.2.2.2.1, .ref (ad 31), .int o1.2.2.2.2.2.2.2.2.2.2.2.2, .int o1.2.2.2.2.2.2.2.2.2.1, .int o1.2.2.2.2.2.2.2.2.2.2.1, .int o1.2.2.2.2.2.1, .int o1.2.2.2.2.2.2.2.1, .int o1.2.2.2.2.2.2.2.2.1, .int o1.2.2.2.2.2.2.1])), (7, .inl (cI, 1664, .inl o1.2.1)), (6, .inr (8, [.int (104 : Int32), .int (16 : Int32), .ref (ad 7), .int o1.2.2.1]))])) (setl (setl Z [(31, .inl (cI, 50, .inl o1.2.2.2.2.2.2.2.2.2.2.2.1)), (30, .inl (cI, 50, .inl o1.2.2.2.1)), (29, .inr (7, [.ref (ad 30), .int o1.2.2.2.2.1, .ref (ad 31), .int o1.2.2.2.2.2.2.2.2.2.2.2.2, .int o1.2.2.2.2.2.2.2.2.2.1, .int o1.2.2.2.2.2.2.2.2.2.2.1, .int o1.2.2.2.2.2.1, .int o1.2.2.2.2.2.2.2.1, .int o1.2.2.2.2.2.2.2.2.1, .int o1.2.2.2.2.2.2.1])), (7, .inl (cI, 1664, .inl o1.2.1)), (6, .inr (8, [.int (104 : Int32), .int (16 : Int32), .ref (ad 7), .int o1.2.2.1]))]) [(63, .inl (cI, 70, .inl o2.2.2.2.2.2.1)), (62, .inl (cI, 70, .inl o2.2.2.2.2.2.2)), (61, .inl (cI, 70, .inl o2.2.2.1)), (58, .inl (cI, 1951, .inl o2.2.1)), (57, .inr (12, [.ref (ad 58), .ref (ad 59), .ref (ad 60), .long (flL 11 (Z 0)), .long (flL 12 (Z 0)), .int o2.2.2.2.1, .ref (ad 61), .ref (ad 62), .int o2.2.2.2.2.1, .ref (ad 63), .ref (ad 64), .ref (ad 65), .ref (ad 66), .ref (ad 67), .ref (ad 68), .ref (ad 69), .ref (ad 70), .ref (ad 71), .ref (ad 72), .ref (ad 73), .ref (ad 74), .ref (ad 75), .ref (ad 76), .ref (ad 77), .ref (ad 78)]))]) (tl := tl) (As := [.int (xs (i + 1).toNatClampNeg), .int (xs (i + 2).toNatClampNeg), .int (xs (i + 3).toNatClampNeg)]) (st := [.int o1.1]) (c_X12_act l D cI cJ cZ cH (ad 57) (ad 72) (ad 77) (ad 70) (ad 65) (ad 59) (ad 60) (ad 76) (ad 75) (ad 68) (ad 66) (ad 74) (ad 69) (ad 71) (ad 78) (ad 58) (ad 61) (ad 73) (ad 67) (ad 64) (ad 63) (ad 62) (flL 11 (Z 0)) (flL 12 (Z 0)) (arI (Z 58)) (arI (Z 61)) (flI 5 (Z 57)) (flI 8 (Z 57)) (arI (Z 63)) (arI (Z 62)) (xs (i + 1).toNatClampNeg) (xs (i + 2).toNatClampNeg) (xs (i + 3).toNatClampNeg) e2) gzL_42 rfl rfl rfl eL_X12_act ⟨Nat.le_of_ble_eq_true rfl, Nat.le_of_ble_eq_true rfl⟩ rfl 57 (by decide) rfl (zs (sh_57a hS ha1 ha2) rfl) rfl [57, 58, 61, 63, 62] (zc_cons rfl (zs (sh_57a hS ha1 ha2) rfl) (zc_cons rfl (zs (sh_58 hS) rfl) (zc_cons rfl (zs (sh_61 hS) rfl) (zc_cons rfl (zs (sh_63 hS) rfl) (zc_cons rfl (zs (sh_62 hS) rfl) zc_nil))))) (zc_cons rfl rfl (zc_cons rfl rfl (zc_cons rfl rfl (zc_cons rfl rfl (zc_cons rfl rfl zc_nil))))) (setl_out rfl) rfl rfl (Nat.le_of_ble_eq_true rfl) hcs hss rfl dL_law_483 ?_
  refine ii_icmp_eq (tgt := 1813) (r := ()) (ET := some ()) (EF := none) (if_pos q1) dL_law_486 (by decide) (fun _ => ?_) (fun z => absurd z (by simp))
  exact kk _ _ _ ⟨setl (setl Z [(31, .inl (cI, 50, .inl o1.2.2.2.2.2.2.2.2.2.2.2.1)), (30, .inl (cI, 50, .inl o1.2.2.2.1)), (29, .inr (7, [.ref (ad 30), .int o1.2.2.2.2.1, .ref (ad 31), .int o1.2.2.2.2.2.2.2.2.2.2.2.2, .int o1.2.2.2.2.2.2.2.2.2.1, .int o1.2.2.2.2.2.2.2.2.2.2.1, .int o1.2.2.2.2.2.1, .int o1.2.2.2.2.2.2.2.1, .int o1.2.2.2.2.2.2.2.2.1, .int o1.2.2.2.2.2.2.1])), (7, .inl (cI, 1664, .inl o1.2.1)), (6, .inr (8, [.int (104 : Int32), .int (16 : Int32), .ref (ad 7), .int o1.2.2.1]))]) [(63, .inl (cI, 70, .inl o2.2.2.2.2.2.1)), (62, .inl (cI, 70, .inl o2.2.2.2.2.2.2)), (61, .inl (cI, 70, .inl o2.2.2.1)), (58, .inl (cI, 1951, .inl o2.2.1)), (57, .inr (12, [.ref (ad 58), .ref (ad 59), .ref (ad 60), .long (flL 11 (Z 0)), .long (flL 12 (Z 0)), .int o2.2.2.2.1, .ref (ad 61), .ref (ad 62), .int o2.2.2.2.2.1, .ref (ad 63), .ref (ad 64), .ref (ad 65), .ref (ad 66), .ref (ad 67), .ref (ad 68), .ref (ad 69), .ref (ad 70), .ref (ad 71), .ref (ad 72), .ref (ad 73), .ref (ad 74), .ref (ad 75), .ref (ad 76), .ref (ad 77), .ref (ad 78)]))], tl, rfl, law_fin (tc' := (va_up (tcZ Z) 2 o1.2.1)) (tr' := (va_up (trZ Z) 2 o1.2.2.1)) (nar' := (flI 13 (Z 1))) (nam' := (flI 14 (Z 1))) (st' := o2.2.1) hS (ok_cons ok_31 (ok_cons ok_30 (ok_cons ok_29 (ok_cons ok_7 (ok_cons ok_6 ok_nil))))) (ok_cons ok_63 (ok_cons ok_62 (ok_cons ok_61 (ok_cons ok_58 (ok_cons ok_57 ok_nil))))) rfl rfl rfl rfl rfl rfl rfl q2 hs1 hs2 hs3 rfl rfl him, hb1, hb2⟩

theorem dL_law_491 : decode cL_law 491 = .ok (.aload_n 1, 1) := by decide +kernel
theorem dL_law_492 : decode cL_law 492 = .ok (.aload_n 0, 1) := by decide +kernel
theorem dL_law_493 : decode cL_law 493 = .ok (.iload_n 3, 1) := by decide +kernel
theorem dL_law_494 : decode cL_law 494 = .ok (.iconst 1, 1) := by decide +kernel
theorem dL_law_495 : decode cL_law 495 = .ok (.iadd, 1) := by decide +kernel
theorem dL_law_496 : decode cL_law 496 = .ok (.iaload, 1) := by decide +kernel
theorem dL_law_497 : decode cL_law 497 = .ok (.aload_n 0, 1) := by decide +kernel
theorem dL_law_498 : decode cL_law 498 = .ok (.iload_n 3, 1) := by decide +kernel
theorem dL_law_499 : decode cL_law 499 = .ok (.iconst 2, 1) := by decide +kernel
theorem dL_law_500 : decode cL_law 500 = .ok (.iadd, 1) := by decide +kernel
theorem dL_law_501 : decode cL_law 501 = .ok (.iaload, 1) := by decide +kernel
theorem dL_law_502 : decode cL_law 502 = .ok (.invokevirtual 43, 3) := by decide +kernel
theorem dL_law_505 : decode cL_law 505 = .ok (.aload_n 2, 1) := by decide +kernel
theorem dL_law_506 : decode cL_law 506 = .ok (.aload_n 0, 1) := by decide +kernel
theorem dL_law_507 : decode cL_law 507 = .ok (.iload_n 3, 1) := by decide +kernel
theorem dL_law_508 : decode cL_law 508 = .ok (.iconst 1, 1) := by decide +kernel
theorem dL_law_509 : decode cL_law 509 = .ok (.iadd, 1) := by decide +kernel
theorem dL_law_510 : decode cL_law 510 = .ok (.iaload, 1) := by decide +kernel
theorem dL_law_511 : decode cL_law 511 = .ok (.aload_n 0, 1) := by decide +kernel
theorem dL_law_512 : decode cL_law 512 = .ok (.iload_n 3, 1) := by decide +kernel
theorem dL_law_513 : decode cL_law 513 = .ok (.iconst 2, 1) := by decide +kernel
theorem dL_law_514 : decode cL_law 514 = .ok (.iadd, 1) := by decide +kernel
theorem dL_law_515 : decode cL_law 515 = .ok (.iaload, 1) := by decide +kernel
theorem dL_law_516 : decode cL_law 516 = .ok (.invokevirtual 46, 3) := by decide +kernel
theorem dL_law_519 : decode cL_law 519 = .ok (.if_icmp .eq 1294, 3) := by decide +kernel
theorem eL_X11_force : yX11_force.cls = RX11 ∧ yX11_force.cls ≠ "java/lang/invoke/MethodHandle" ∧ yX11_force.cls ≠ "java/lang/invoke/VarHandle" ∧ (parseMethodDescriptor yX11_force.desc).map (fun d => d.parameters.length) = some 2 := by decide +kernel
theorem eL_X12_force : yX12_force.cls = RX12 ∧ yX12_force.cls ≠ "java/lang/invoke/MethodHandle" ∧ yX12_force.cls ≠ "java/lang/invoke/VarHandle" ∧ (parseMethodDescriptor yX12_force.desc).map (fun d => d.parameters.length) = some 2 := by decide +kernel
set_option maxHeartbeats 4000000 in
set_option maxRecDepth 100000 in
theorem law_6 {l : Launch} {p : Program} {e : Env} {s : State} {m : MethodId} {below : List Frame} {meth : Method} {c : Code} {D : va_G} {A : Nat → Prop} {cells slots : Nat} {Q : State → Prop} {b L : Nat} {xs : Nat → Int32} {i : Int32} {cI cJ cZ cH : ClassId} {ad : Nat → Nat} {ws : va_W} (hX : va_X b L xs s s.heap) (hbl : b < s.heap.size) (hbA : ¬ A b) (hin : ∀ j : Nat, j < 8 → vp_in (i + nI j) L) (hL : LawS cI cJ cZ cH ad cells slots ws) (kk : ∀ cells slots ws, LawS cI cJ cZ cH ad cells slots ws → WX p l e room_1 s m #[.ref b] below meth c code RL lwG D [(cI, .int), (cJ, .long), (cZ, .boolean), (cH, .object "TinHouse$House")] A 4 cells slots Q ws 1813 [(3, .int i), (2, .ref (ad 57)), (1, .ref (ad 0)), (0, .ref b)] []) : WX p l e room_1 s m #[.ref b] below meth c code RL lwG D [(cI, .int), (cJ, .long), (cZ, .boolean), (cH, .object "TinHouse$House")] A 4 cells slots Q ws 491 [(3, .int i), (2, .ref (ad 57)), (1, .ref (ad 0)), (0, .ref b)] [] := by
  obtain ⟨Z, tl, rfl, ⟨hS, h, hs1, hs2, hs3, ha1, ha2, him⟩, hb1, hb2⟩ := hL
  have hcs : cells ≤ room_1.cells := Nat.le_trans (Nat.le_add_right _ _) hb1
  have hss : slots ≤ room_1.slots := Nat.le_trans (Nat.le_add_right _ _) hb2
  refine ii_aload_n 2 dL_law_491 rfl ?_
  refine ii_aload_n 3 dL_law_492 rfl ?_
  refine ii_iload_n 0 dL_law_493 rfl ?_
  refine ii_iconst dL_law_494 kc1 ?_
  refine ii_iadd dL_law_495 ?_
  refine ii_sld hX hbl hbA (hin 1 (by decide)) dL_law_496 ?_
  refine ii_aload_n 3 dL_law_497 rfl ?_
  refine ii_iload_n 0 dL_law_498 rfl ?_
  refine ii_iconst dL_law_499 kc2 ?_
  refine ii_iadd dL_law_500 ?_
  refine ii_sld hX hbl hbA (hin 2 (by decide)) dL_law_501 ?_
  obtain ⟨o1, o2, e1, e2, q1⟩ := (P_force h _ _ : Two (F_X11_force (tcZ Z 2) (trZ Z 2) (xs (i + 1).toNatClampNeg) (xs (i + 2).toNatClampNeg)) (F_X12_force (arI (Z 58)) (xs (i + 1).toNatClampNeg) (xs (i + 2).toNatClampNeg)) _)
  refine ii_callZi (nW := 79) (ad := ad) (Z := Z) (setl Z []) (tl := tl) (As := [.int (xs (i + 1).toNatClampNeg), .int (xs (i + 2).toNatClampNeg)]) (st := []) (c_X11_force l D cI cJ cZ cH (ad 0) (ad 28) (ad 32) (ad 33) (ad 34) (ad 36) (ad 1) (ad 6) (ad 7) (ad 8) (ad 14) (ad 20) (ad 24) (ad 22) (ad 2) (ad 10) (ad 26) (ad 12) (ad 16) (ad 4) (ad 18) (ad 51) (ad 55) (ad 49) (ad 29) (ad 44) (ad 45) (flL 11 (Z 0)) (flL 12 (Z 0)) (flL 7 (Z 32)) (flI 3 (Z 32)) (flI 2 (Z 32)) (flI 4 (Z 32)) (flI 6 (Z 32)) (flI 5 (Z 32)) (tcZ Z 2) (trZ Z 2) (flI 14 (Z 1)) (flI 13 (Z 1)) (xs (i + 1).toNatClampNeg) (xs (i + 2).toNatClampNeg) e1) gzL_43 rfl rfl rfl eL_X11_force ⟨Nat.le_of_ble_eq_true rfl, Nat.le_of_ble_eq_true rfl⟩ rfl 0 (by decide) rfl (sh_0 hS) rfl [0, 32, 1, 6, 7] (zc_cons rfl (sh_0 hS) (zc_cons rfl (sh_32 hS) (zc_cons rfl (sh_1 hS) (zc_cons rfl (sh_6 hS) (zc_cons rfl (sh_7 hS) zc_nil))))) (zc_cons rfl (zs (sh_0 hS) rfl) (zc_cons rfl (zs (sh_32 hS) rfl) (zc_cons rfl (zs (sh_1 hS) rfl) (zc_cons rfl (zs (sh_6 hS) rfl) (zc_cons rfl (zs (sh_7 hS) rfl) zc_nil))))) (setl_out rfl) rfl rfl (Nat.le_of_ble_eq_true rfl) hcs hss rfl dL_law_502 ?_
  refine ii_aload_n 1 dL_law_505 rfl ?_
  refine ii_aload_n 3 dL_law_506 rfl ?_
  refine ii_iload_n 0 dL_law_507 rfl ?_
  refine ii_iconst dL_law_508 kc1 ?_
  refine ii_iadd dL_law_509 ?_
  refine ii_sld hX hbl hbA (hin 1 (by decide)) dL_law_510 ?_
  refine ii_aload_n 3 dL_law_511 rfl ?_
  refine ii_iload_n 0 dL_law_512 rfl ?_
  refine ii_iconst dL_law_513 kc2 ?_
  refine ii_iadd dL_law_514 ?_
  refine ii_sld hX hbl hbA (hin 2 (by decide)) dL_law_515 ?_
  refine ii_callZi (nW := 79) (ad := ad) (Z := (setl Z [])) (setl (setl Z []) []) (tl := tl) (As := [.int (xs (i + 1).toNatClampNeg), .int (xs (i + 2).toNatClampNeg)]) (st := [.int o1]) (c_X12_force l D cI cJ cZ cH (ad 57) (ad 72) (ad 77) (ad 70) (ad 65) (ad 59) (ad 60) (ad 76) (ad 75) (ad 68) (ad 66) (ad 74) (ad 69) (ad 71) (ad 78) (ad 58) (ad 61) (ad 73) (ad 67) (ad 64) (ad 63) (ad 62) (flL 11 (Z 0)) (flL 12 (Z 0)) (arI (Z 58)) (flI 5 (Z 57)) (flI 8 (Z 57)) (xs (i + 1).toNatClampNeg) (xs (i + 2).toNatClampNeg) e2) gzL_46 rfl rfl rfl eL_X12_force ⟨Nat.le_of_ble_eq_true rfl, Nat.le_of_ble_eq_true rfl⟩ rfl 57 (by decide) rfl (zs (sh_57a hS ha1 ha2) rfl) rfl [57, 58] (zc_cons rfl (zs (sh_57a hS ha1 ha2) rfl) (zc_cons rfl (zs (sh_58 hS) rfl) zc_nil)) (zc_cons rfl (zs (sh_57a hS ha1 ha2) rfl) (zc_cons rfl (zs (sh_58 hS) rfl) zc_nil)) (setl_out rfl) rfl rfl (Nat.le_of_ble_eq_true rfl) hcs hss rfl dL_law_516 ?_
  refine ii_icmp_eq (tgt := 1813) (r := ()) (ET := some ()) (EF := none) (if_pos q1) dL_law_519 (by decide) (fun _ => ?_) (fun z => absurd z (by simp))
  exact kk _ _ _ ⟨setl (setl Z []) [], tl, rfl, law_fin (tc' := (tcZ Z)) (tr' := (trZ Z)) (nar' := (flI 13 (Z 1))) (nam' := (flI 14 (Z 1))) (st' := (arI (Z 58))) hS ok_nil ok_nil rfl rfl rfl rfl rfl rfl rfl h hs1 hs2 hs3 ha1 ha2 him, hb1, hb2⟩

theorem dL_law_524 : decode cL_law 524 = .ok (.aload_n 1, 1) := by decide +kernel
theorem dL_law_525 : decode cL_law 525 = .ok (.aload_n 0, 1) := by decide +kernel
theorem dL_law_526 : decode cL_law 526 = .ok (.iload_n 3, 1) := by decide +kernel
theorem dL_law_527 : decode cL_law 527 = .ok (.iconst 1, 1) := by decide +kernel
theorem dL_law_528 : decode cL_law 528 = .ok (.iadd, 1) := by decide +kernel
theorem dL_law_529 : decode cL_law 529 = .ok (.iaload, 1) := by decide +kernel
theorem dL_law_530 : decode cL_law 530 = .ok (.aload_n 0, 1) := by decide +kernel
theorem dL_law_531 : decode cL_law 531 = .ok (.iload_n 3, 1) := by decide +kernel
theorem dL_law_532 : decode cL_law 532 = .ok (.iconst 2, 1) := by decide +kernel
theorem dL_law_533 : decode cL_law 533 = .ok (.iadd, 1) := by decide +kernel
theorem dL_law_534 : decode cL_law 534 = .ok (.iaload, 1) := by decide +kernel
theorem dL_law_535 : decode cL_law 535 = .ok (.aload_n 0, 1) := by decide +kernel
theorem dL_law_536 : decode cL_law 536 = .ok (.iload_n 3, 1) := by decide +kernel
theorem dL_law_537 : decode cL_law 537 = .ok (.iconst 3, 1) := by decide +kernel
theorem dL_law_538 : decode cL_law 538 = .ok (.iadd, 1) := by decide +kernel
theorem dL_law_539 : decode cL_law 539 = .ok (.iaload, 1) := by decide +kernel
theorem dL_law_540 : decode cL_law 540 = .ok (.aload_n 0, 1) := by decide +kernel
theorem dL_law_541 : decode cL_law 541 = .ok (.iload_n 3, 1) := by decide +kernel
theorem dL_law_542 : decode cL_law 542 = .ok (.iconst 4, 1) := by decide +kernel
theorem dL_law_543 : decode cL_law 543 = .ok (.iadd, 1) := by decide +kernel
theorem dL_law_544 : decode cL_law 544 = .ok (.iaload, 1) := by decide +kernel
theorem dL_law_545 : decode cL_law 545 = .ok (.aload_n 0, 1) := by decide +kernel
theorem dL_law_546 : decode cL_law 546 = .ok (.iload_n 3, 1) := by decide +kernel
theorem dL_law_547 : decode cL_law 547 = .ok (.iconst 5, 1) := by decide +kernel
theorem dL_law_548 : decode cL_law 548 = .ok (.iadd, 1) := by decide +kernel
theorem dL_law_549 : decode cL_law 549 = .ok (.iaload, 1) := by decide +kernel
theorem dL_law_550 : decode cL_law 550 = .ok (.invokevirtual 47, 3) := by decide +kernel
theorem dL_law_553 : decode cL_law 553 = .ok (.aload_n 2, 1) := by decide +kernel
theorem dL_law_554 : decode cL_law 554 = .ok (.aload_n 0, 1) := by decide +kernel
theorem dL_law_555 : decode cL_law 555 = .ok (.iload_n 3, 1) := by decide +kernel
theorem dL_law_556 : decode cL_law 556 = .ok (.iconst 1, 1) := by decide +kernel
theorem dL_law_557 : decode cL_law 557 = .ok (.iadd, 1) := by decide +kernel
theorem dL_law_558 : decode cL_law 558 = .ok (.iaload, 1) := by decide +kernel
theorem dL_law_559 : decode cL_law 559 = .ok (.aload_n 0, 1) := by decide +kernel
theorem dL_law_560 : decode cL_law 560 = .ok (.iload_n 3, 1) := by decide +kernel
theorem dL_law_561 : decode cL_law 561 = .ok (.iconst 2, 1) := by decide +kernel
theorem dL_law_562 : decode cL_law 562 = .ok (.iadd, 1) := by decide +kernel
theorem dL_law_563 : decode cL_law 563 = .ok (.iaload, 1) := by decide +kernel
theorem dL_law_564 : decode cL_law 564 = .ok (.aload_n 0, 1) := by decide +kernel
theorem dL_law_565 : decode cL_law 565 = .ok (.iload_n 3, 1) := by decide +kernel
theorem dL_law_566 : decode cL_law 566 = .ok (.iconst 3, 1) := by decide +kernel
theorem dL_law_567 : decode cL_law 567 = .ok (.iadd, 1) := by decide +kernel
theorem dL_law_568 : decode cL_law 568 = .ok (.iaload, 1) := by decide +kernel
theorem dL_law_569 : decode cL_law 569 = .ok (.aload_n 0, 1) := by decide +kernel
theorem dL_law_570 : decode cL_law 570 = .ok (.iload_n 3, 1) := by decide +kernel
theorem dL_law_571 : decode cL_law 571 = .ok (.iconst 4, 1) := by decide +kernel
theorem dL_law_572 : decode cL_law 572 = .ok (.iadd, 1) := by decide +kernel
theorem dL_law_573 : decode cL_law 573 = .ok (.iaload, 1) := by decide +kernel
theorem dL_law_574 : decode cL_law 574 = .ok (.aload_n 0, 1) := by decide +kernel
theorem dL_law_575 : decode cL_law 575 = .ok (.iload_n 3, 1) := by decide +kernel
theorem dL_law_576 : decode cL_law 576 = .ok (.iconst 5, 1) := by decide +kernel
theorem dL_law_577 : decode cL_law 577 = .ok (.iadd, 1) := by decide +kernel
theorem dL_law_578 : decode cL_law 578 = .ok (.iaload, 1) := by decide +kernel
theorem dL_law_579 : decode cL_law 579 = .ok (.invokevirtual 51, 3) := by decide +kernel
theorem dL_law_582 : decode cL_law 582 = .ok (.if_icmp .eq 1231, 3) := by decide +kernel
theorem eL_X11_debt : yX11_debt.cls = RX11 ∧ yX11_debt.cls ≠ "java/lang/invoke/MethodHandle" ∧ yX11_debt.cls ≠ "java/lang/invoke/VarHandle" ∧ (parseMethodDescriptor yX11_debt.desc).map (fun d => d.parameters.length) = some 5 := by decide +kernel
theorem eL_X12_debt : yX12_debt.cls = RX12 ∧ yX12_debt.cls ≠ "java/lang/invoke/MethodHandle" ∧ yX12_debt.cls ≠ "java/lang/invoke/VarHandle" ∧ (parseMethodDescriptor yX12_debt.desc).map (fun d => d.parameters.length) = some 5 := by decide +kernel
set_option maxHeartbeats 4000000 in
set_option maxRecDepth 100000 in
theorem law_7 {l : Launch} {p : Program} {e : Env} {s : State} {m : MethodId} {below : List Frame} {meth : Method} {c : Code} {D : va_G} {A : Nat → Prop} {cells slots : Nat} {Q : State → Prop} {b L : Nat} {xs : Nat → Int32} {i : Int32} {cI cJ cZ cH : ClassId} {ad : Nat → Nat} {ws : va_W} (hX : va_X b L xs s s.heap) (hbl : b < s.heap.size) (hbA : ¬ A b) (hin : ∀ j : Nat, j < 8 → vp_in (i + nI j) L) (hL : LawS cI cJ cZ cH ad cells slots ws) (kk : ∀ cells slots ws, LawS cI cJ cZ cH ad cells slots ws → WX p l e room_1 s m #[.ref b] below meth c code RL lwG D [(cI, .int), (cJ, .long), (cZ, .boolean), (cH, .object "TinHouse$House")] A 4 cells slots Q ws 1813 [(3, .int i), (2, .ref (ad 57)), (1, .ref (ad 0)), (0, .ref b)] []) : WX p l e room_1 s m #[.ref b] below meth c code RL lwG D [(cI, .int), (cJ, .long), (cZ, .boolean), (cH, .object "TinHouse$House")] A 4 cells slots Q ws 524 [(3, .int i), (2, .ref (ad 57)), (1, .ref (ad 0)), (0, .ref b)] [] := by
  obtain ⟨Z, tl, rfl, ⟨hS, h, hs1, hs2, hs3, ha1, ha2, him⟩, hb1, hb2⟩ := hL
  have hcs : cells ≤ room_1.cells := Nat.le_trans (Nat.le_add_right _ _) hb1
  have hss : slots ≤ room_1.slots := Nat.le_trans (Nat.le_add_right _ _) hb2
  refine ii_aload_n 2 dL_law_524 rfl ?_
  refine ii_aload_n 3 dL_law_525 rfl ?_
  refine ii_iload_n 0 dL_law_526 rfl ?_
  refine ii_iconst dL_law_527 kc1 ?_
  refine ii_iadd dL_law_528 ?_
  refine ii_sld hX hbl hbA (hin 1 (by decide)) dL_law_529 ?_
  refine ii_aload_n 3 dL_law_530 rfl ?_
  refine ii_iload_n 0 dL_law_531 rfl ?_
  refine ii_iconst dL_law_532 kc2 ?_
  refine ii_iadd dL_law_533 ?_
  refine ii_sld hX hbl hbA (hin 2 (by decide)) dL_law_534 ?_
  refine ii_aload_n 3 dL_law_535 rfl ?_
  refine ii_iload_n 0 dL_law_536 rfl ?_
  refine ii_iconst dL_law_537 kc3 ?_
  refine ii_iadd dL_law_538 ?_
  refine ii_sld hX hbl hbA (hin 3 (by decide)) dL_law_539 ?_
  refine ii_aload_n 3 dL_law_540 rfl ?_
  refine ii_iload_n 0 dL_law_541 rfl ?_
  refine ii_iconst dL_law_542 kc4 ?_
  refine ii_iadd dL_law_543 ?_
  refine ii_sld hX hbl hbA (hin 4 (by decide)) dL_law_544 ?_
  refine ii_aload_n 3 dL_law_545 rfl ?_
  refine ii_iload_n 0 dL_law_546 rfl ?_
  refine ii_iconst dL_law_547 kc5 ?_
  refine ii_iadd dL_law_548 ?_
  refine ii_sld hX hbl hbA (hin 5 (by decide)) dL_law_549 ?_
  obtain ⟨o1, o2, e1, e2, q1, q2⟩ := (P_debt h _ _ _ _ _ : Two (F_X11_debt (tcZ Z 3) (trZ Z 3) (trZ Z 0) (xs (i + 1).toNatClampNeg) (xs (i + 2).toNatClampNeg) (xs (i + 3).toNatClampNeg) (xs (i + 4).toNatClampNeg) (xs (i + 5).toNatClampNeg)) (F_X12_debt (arI (Z 58)) (xs (i + 1).toNatClampNeg) (xs (i + 2).toNatClampNeg) (xs (i + 3).toNatClampNeg) (xs (i + 4).toNatClampNeg) (xs (i + 5).toNatClampNeg)) _)
  refine ii_callZi (nW := 79) (ad := ad) (Z := Z) (setl Z [(9, .inl (cI, 280, .inl o1.2.1)), (8, .inr (8, [.int (7 : Int32), .int (40 : Int32), .ref (ad 9), .int o1.2.2]))]) (tl := tl) (As := [.int (xs (i + 1).toNatClampNeg), .int (xs (i + 2).toNatClampNeg), .int (xs (i + 3).toNatClampNeg), .int (xs (i + 4).toNatClampNeg), .int (xs (i + 5).toNatClampNeg)]) (st := []) (c_X11_debt l D cI cJ cZ cH (ad 0) (ad 28) (ad 32) (ad 34) (ad 36) (ad 1) (ad 6) (ad 8) (ad 9) (ad 14) (ad 20) (ad 24) (ad 22) (ad 2) (ad 3) (ad 10) (ad 26) (ad 12) (ad 16) (ad 4) (ad 18) (ad 51) (ad 55) (ad 49) (ad 29) (ad 44) (ad 45) (flL 11 (Z 0)) (flL 12 (Z 0)) (tcZ Z 3) (trZ Z 3) (trZ Z 0) (flI 14 (Z 1)) (flI 13 (Z 1)) (xs (i + 1).toNatClampNeg) (xs (i + 2).toNatClampNeg) (xs (i + 3).toNatClampNeg) (xs (i + 4).toNatClampNeg) (xs (i + 5).toNatClampNeg) e1) gzL_47 rfl rfl rfl eL_X11_debt ⟨Nat.le_of_ble_eq_true rfl, Nat.le_of_ble_eq_true rfl⟩ rfl 0 (by decide) rfl (sh_0 hS) rfl [0, 1, 8, 9, 2] (zc_cons rfl (sh_0 hS) (zc_cons rfl (sh_1 hS) (zc_cons rfl (sh_8 hS) (zc_cons rfl (sh_9 hS) (zc_cons rfl (sh_2 hS) zc_nil))))) (zc_cons rfl (zs (sh_0 hS) rfl) (zc_cons rfl (zs (sh_1 hS) rfl) (zc_cons rfl rfl (zc_cons rfl rfl (zc_cons rfl (zs (sh_2 hS) rfl) zc_nil))))) (setl_out rfl) rfl rfl (Nat.le_of_ble_eq_true rfl) hcs hss rfl dL_law_550 ?_
  refine ii_aload_n 1 dL_law_553 rfl ?_
  refine ii_aload_n 3 dL_law_554 rfl ?_
  refine ii_iload_n 0 dL_law_555 rfl ?_
  refine ii_iconst dL_law_556 kc1 ?_
  refine ii_iadd dL_law_557 ?_
  refine ii_sld hX hbl hbA (hin 1 (by decide)) dL_law_558 ?_
  refine ii_aload_n 3 dL_law_559 rfl ?_
  refine ii_iload_n 0 dL_law_560 rfl ?_
  refine ii_iconst dL_law_561 kc2 ?_
  refine ii_iadd dL_law_562 ?_
  refine ii_sld hX hbl hbA (hin 2 (by decide)) dL_law_563 ?_
  refine ii_aload_n 3 dL_law_564 rfl ?_
  refine ii_iload_n 0 dL_law_565 rfl ?_
  refine ii_iconst dL_law_566 kc3 ?_
  refine ii_iadd dL_law_567 ?_
  refine ii_sld hX hbl hbA (hin 3 (by decide)) dL_law_568 ?_
  refine ii_aload_n 3 dL_law_569 rfl ?_
  refine ii_iload_n 0 dL_law_570 rfl ?_
  refine ii_iconst dL_law_571 kc4 ?_
  refine ii_iadd dL_law_572 ?_
  refine ii_sld hX hbl hbA (hin 4 (by decide)) dL_law_573 ?_
  refine ii_aload_n 3 dL_law_574 rfl ?_
  refine ii_iload_n 0 dL_law_575 rfl ?_
  refine ii_iconst dL_law_576 kc5 ?_
  refine ii_iadd dL_law_577 ?_
  refine ii_sld hX hbl hbA (hin 5 (by decide)) dL_law_578 ?_
  refine ii_callZi (nW := 79) (ad := ad) (Z := (setl Z [(9, .inl (cI, 280, .inl o1.2.1)), (8, .inr (8, [.int (7 : Int32), .int (40 : Int32), .ref (ad 9), .int o1.2.2]))])) (setl (setl Z [(9, .inl (cI, 280, .inl o1.2.1)), (8, .inr (8, [.int (7 : Int32), .int (40 : Int32), .ref (ad 9), .int o1.2.2]))]) [(58, .inl (cI, 1951, .inl o2.2))]) (tl := tl) (As := [.int (xs (i + 1).toNatClampNeg), .int (xs (i + 2).toNatClampNeg), .int (xs (i + 3).toNatClampNeg), .int (xs (i + 4).toNatClampNeg), .int (xs (i + 5).toNatClampNeg)]) (st := [.int o1.1]) (c_X12_debt l D cI cJ cZ cH (ad 57) (ad 72) (ad 77) (ad 70) (ad 65) (ad 59) (ad 60) (ad 76) (ad 75) (ad 68) (ad 66) (ad 74) (ad 69) (ad 71) (ad 78) (ad 58) (ad 61) (ad 73) (ad 67) (ad 64) (ad 63) (ad 62) (flL 11 (Z 0)) (flL 12 (Z 0)) (arI (Z 58)) (flI 5 (Z 57)) (flI 8 (Z 57)) (xs (i + 1).toNatClampNeg) (xs (i + 2).toNatClampNeg) (xs (i + 3).toNatClampNeg) (xs (i + 4).toNatClampNeg) (xs (i + 5).toNatClampNeg) e2) gzL_51 rfl rfl rfl eL_X12_debt ⟨Nat.le_of_ble_eq_true rfl, Nat.le_of_ble_eq_true rfl⟩ rfl 57 (by decide) rfl (zs (sh_57a hS ha1 ha2) rfl) rfl [57, 58] (zc_cons rfl (zs (sh_57a hS ha1 ha2) rfl) (zc_cons rfl (zs (sh_58 hS) rfl) zc_nil)) (zc_cons rfl (zs (sh_57a hS ha1 ha2) rfl) (zc_cons rfl rfl zc_nil)) (setl_out rfl) rfl rfl (Nat.le_of_ble_eq_true rfl) hcs hss rfl dL_law_579 ?_
  refine ii_icmp_eq (tgt := 1813) (r := ()) (ET := some ()) (EF := none) (if_pos q1) dL_law_582 (by decide) (fun _ => ?_) (fun z => absurd z (by simp))
  exact kk _ _ _ ⟨setl (setl Z [(9, .inl (cI, 280, .inl o1.2.1)), (8, .inr (8, [.int (7 : Int32), .int (40 : Int32), .ref (ad 9), .int o1.2.2]))]) [(58, .inl (cI, 1951, .inl o2.2))], tl, rfl, law_fin (tc' := (va_up (tcZ Z) 3 o1.2.1)) (tr' := (va_up (trZ Z) 3 o1.2.2)) (nar' := (flI 13 (Z 1))) (nam' := (flI 14 (Z 1))) (st' := o2.2) hS (ok_cons ok_9 (ok_cons ok_8 ok_nil)) (ok_cons ok_58 ok_nil) rfl rfl rfl rfl rfl rfl rfl q2 hs1 hs2 hs3 ha1 ha2 him, hb1, hb2⟩

theorem dL_law_587 : decode cL_law 587 = .ok (.aload_n 1, 1) := by decide +kernel
theorem dL_law_588 : decode cL_law 588 = .ok (.aload_n 0, 1) := by decide +kernel
theorem dL_law_589 : decode cL_law 589 = .ok (.iload_n 3, 1) := by decide +kernel
theorem dL_law_590 : decode cL_law 590 = .ok (.iconst 1, 1) := by decide +kernel
theorem dL_law_591 : decode cL_law 591 = .ok (.iadd, 1) := by decide +kernel
theorem dL_law_592 : decode cL_law 592 = .ok (.iaload, 1) := by decide +kernel
theorem dL_law_593 : decode cL_law 593 = .ok (.aload_n 0, 1) := by decide +kernel
theorem dL_law_594 : decode cL_law 594 = .ok (.iload_n 3, 1) := by decide +kernel
theorem dL_law_595 : decode cL_law 595 = .ok (.iconst 2, 1) := by decide +kernel
theorem dL_law_596 : decode cL_law 596 = .ok (.iadd, 1) := by decide +kernel
theorem dL_law_597 : decode cL_law 597 = .ok (.iaload, 1) := by decide +kernel
theorem dL_law_598 : decode cL_law 598 = .ok (.aload_n 0, 1) := by decide +kernel
theorem dL_law_599 : decode cL_law 599 = .ok (.iload_n 3, 1) := by decide +kernel
theorem dL_law_600 : decode cL_law 600 = .ok (.iconst 3, 1) := by decide +kernel
theorem dL_law_601 : decode cL_law 601 = .ok (.iadd, 1) := by decide +kernel
theorem dL_law_602 : decode cL_law 602 = .ok (.iaload, 1) := by decide +kernel
theorem dL_law_603 : decode cL_law 603 = .ok (.invokevirtual 52, 3) := by decide +kernel
theorem dL_law_606 : decode cL_law 606 = .ok (.aload_n 2, 1) := by decide +kernel
theorem dL_law_607 : decode cL_law 607 = .ok (.aload_n 0, 1) := by decide +kernel
theorem dL_law_608 : decode cL_law 608 = .ok (.iload_n 3, 1) := by decide +kernel
theorem dL_law_609 : decode cL_law 609 = .ok (.iconst 1, 1) := by decide +kernel
theorem dL_law_610 : decode cL_law 610 = .ok (.iadd, 1) := by decide +kernel
theorem dL_law_611 : decode cL_law 611 = .ok (.iaload, 1) := by decide +kernel
theorem dL_law_612 : decode cL_law 612 = .ok (.aload_n 0, 1) := by decide +kernel
theorem dL_law_613 : decode cL_law 613 = .ok (.iload_n 3, 1) := by decide +kernel
theorem dL_law_614 : decode cL_law 614 = .ok (.iconst 2, 1) := by decide +kernel
theorem dL_law_615 : decode cL_law 615 = .ok (.iadd, 1) := by decide +kernel
theorem dL_law_616 : decode cL_law 616 = .ok (.iaload, 1) := by decide +kernel
theorem dL_law_617 : decode cL_law 617 = .ok (.aload_n 0, 1) := by decide +kernel
theorem dL_law_618 : decode cL_law 618 = .ok (.iload_n 3, 1) := by decide +kernel
theorem dL_law_619 : decode cL_law 619 = .ok (.iconst 3, 1) := by decide +kernel
theorem dL_law_620 : decode cL_law 620 = .ok (.iadd, 1) := by decide +kernel
theorem dL_law_621 : decode cL_law 621 = .ok (.iaload, 1) := by decide +kernel
theorem dL_law_622 : decode cL_law 622 = .ok (.invokevirtual 55, 3) := by decide +kernel
theorem dL_law_625 : decode cL_law 625 = .ok (.if_icmp .eq 1188, 3) := by decide +kernel
theorem eL_X11_pay : yX11_pay.cls = RX11 ∧ yX11_pay.cls ≠ "java/lang/invoke/MethodHandle" ∧ yX11_pay.cls ≠ "java/lang/invoke/VarHandle" ∧ (parseMethodDescriptor yX11_pay.desc).map (fun d => d.parameters.length) = some 3 := by decide +kernel
theorem eL_X12_pay : yX12_pay.cls = RX12 ∧ yX12_pay.cls ≠ "java/lang/invoke/MethodHandle" ∧ yX12_pay.cls ≠ "java/lang/invoke/VarHandle" ∧ (parseMethodDescriptor yX12_pay.desc).map (fun d => d.parameters.length) = some 3 := by decide +kernel
set_option maxHeartbeats 4000000 in
set_option maxRecDepth 100000 in
theorem law_8 {l : Launch} {p : Program} {e : Env} {s : State} {m : MethodId} {below : List Frame} {meth : Method} {c : Code} {D : va_G} {A : Nat → Prop} {cells slots : Nat} {Q : State → Prop} {b L : Nat} {xs : Nat → Int32} {i : Int32} {cI cJ cZ cH : ClassId} {ad : Nat → Nat} {ws : va_W} (hX : va_X b L xs s s.heap) (hbl : b < s.heap.size) (hbA : ¬ A b) (hin : ∀ j : Nat, j < 8 → vp_in (i + nI j) L) (hL : LawS cI cJ cZ cH ad cells slots ws) (kk : ∀ cells slots ws, LawS cI cJ cZ cH ad cells slots ws → WX p l e room_1 s m #[.ref b] below meth c code RL lwG D [(cI, .int), (cJ, .long), (cZ, .boolean), (cH, .object "TinHouse$House")] A 4 cells slots Q ws 1813 [(3, .int i), (2, .ref (ad 57)), (1, .ref (ad 0)), (0, .ref b)] []) : WX p l e room_1 s m #[.ref b] below meth c code RL lwG D [(cI, .int), (cJ, .long), (cZ, .boolean), (cH, .object "TinHouse$House")] A 4 cells slots Q ws 587 [(3, .int i), (2, .ref (ad 57)), (1, .ref (ad 0)), (0, .ref b)] [] := by
  obtain ⟨Z, tl, rfl, ⟨hS, h, hs1, hs2, hs3, ha1, ha2, him⟩, hb1, hb2⟩ := hL
  have hcs : cells ≤ room_1.cells := Nat.le_trans (Nat.le_add_right _ _) hb1
  have hss : slots ≤ room_1.slots := Nat.le_trans (Nat.le_add_right _ _) hb2
  refine ii_aload_n 2 dL_law_587 rfl ?_
  refine ii_aload_n 3 dL_law_588 rfl ?_
  refine ii_iload_n 0 dL_law_589 rfl ?_
  refine ii_iconst dL_law_590 kc1 ?_
  refine ii_iadd dL_law_591 ?_
  refine ii_sld hX hbl hbA (hin 1 (by decide)) dL_law_592 ?_
  refine ii_aload_n 3 dL_law_593 rfl ?_
  refine ii_iload_n 0 dL_law_594 rfl ?_
  refine ii_iconst dL_law_595 kc2 ?_
  refine ii_iadd dL_law_596 ?_
  refine ii_sld hX hbl hbA (hin 2 (by decide)) dL_law_597 ?_
  refine ii_aload_n 3 dL_law_598 rfl ?_
  refine ii_iload_n 0 dL_law_599 rfl ?_
  refine ii_iconst dL_law_600 kc3 ?_
  refine ii_iadd dL_law_601 ?_
  refine ii_sld hX hbl hbA (hin 3 (by decide)) dL_law_602 ?_
  obtain ⟨o1, o2, e1, e2, q1, q2⟩ := (P_pay h _ _ _ : Two (F_X11_pay (tcZ Z 3) (trZ Z 3) (tcZ Z 4) (trZ Z 4) (xs (i + 1).toNatClampNeg) (xs (i + 2).toNatClampNeg) (xs (i + 3).toNatClampNeg)) (F_X12_pay (arI (Z 58)) (xs (i + 1).toNatClampNeg) (xs (i + 2).toNatClampNeg) (xs (i + 3).toNatClampNeg)) _)
  refine ii_callZi (nW := 79) (ad := ad) (Z := Z) (setl Z [(11, .inl (cI, 180, .inl o1.2.1)), (10, .inr (8, [.int (3 : Int32), .int (60 : Int32), .ref (ad 11), .int o1.2.2]))]) (tl := tl) (As := [.int (xs (i + 1).toNatClampNeg), .int (xs (i + 2).toNatClampNeg), .int (xs (i + 3).toNatClampNeg)]) (st := []) (c_X11_pay l D cI cJ cZ cH (ad 0) (ad 28) (ad 32) (ad 34) (ad 36) (ad 1) (ad 6) (ad 8) (ad 9) (ad 14) (ad 20) (ad 24) (ad 22) (ad 2) (ad 10) (ad 11) (ad 26) (ad 12) (ad 16) (ad 4) (ad 18) (ad 51) (ad 55) (ad 49) (ad 29) (ad 44) (ad 45) (flL 11 (Z 0)) (flL 12 (Z 0)) (tcZ Z 3) (trZ Z 3) (flI 14 (Z 1)) (flI 13 (Z 1)) (tcZ Z 4) (trZ Z 4) (xs (i + 1).toNatClampNeg) (xs (i + 2).toNatClampNeg) (xs (i + 3).toNatClampNeg) e1) gzL_52 rfl rfl rfl eL_X11_pay ⟨Nat.le_of_ble_eq_true rfl, Nat.le_of_ble_eq_true rfl⟩ rfl 0 (by decide) rfl (sh_0 hS) rfl [0, 1, 8, 9, 10, 11] (zc_cons rfl (sh_0 hS) (zc_cons rfl (sh_1 hS) (zc_cons rfl (sh_8 hS) (zc_cons rfl (sh_9 hS) (zc_cons rfl (sh_10 hS) (zc_cons rfl (sh_11 hS) zc_nil)))))) (zc_cons rfl (zs (sh_0 hS) rfl) (zc_cons rfl (zs (sh_1 hS) rfl) (zc_cons rfl (zs (sh_8 hS) rfl) (zc_cons rfl (zs (sh_9 hS) rfl) (zc_cons rfl rfl (zc_cons rfl rfl zc_nil)))))) (setl_out rfl) rfl rfl (Nat.le_of_ble_eq_true rfl) hcs hss rfl dL_law_603 ?_
  refine ii_aload_n 1 dL_law_606 rfl ?_
  refine ii_aload_n 3 dL_law_607 rfl ?_
  refine ii_iload_n 0 dL_law_608 rfl ?_
  refine ii_iconst dL_law_609 kc1 ?_
  refine ii_iadd dL_law_610 ?_
  refine ii_sld hX hbl hbA (hin 1 (by decide)) dL_law_611 ?_
  refine ii_aload_n 3 dL_law_612 rfl ?_
  refine ii_iload_n 0 dL_law_613 rfl ?_
  refine ii_iconst dL_law_614 kc2 ?_
  refine ii_iadd dL_law_615 ?_
  refine ii_sld hX hbl hbA (hin 2 (by decide)) dL_law_616 ?_
  refine ii_aload_n 3 dL_law_617 rfl ?_
  refine ii_iload_n 0 dL_law_618 rfl ?_
  refine ii_iconst dL_law_619 kc3 ?_
  refine ii_iadd dL_law_620 ?_
  refine ii_sld hX hbl hbA (hin 3 (by decide)) dL_law_621 ?_
  refine ii_callZi (nW := 79) (ad := ad) (Z := (setl Z [(11, .inl (cI, 180, .inl o1.2.1)), (10, .inr (8, [.int (3 : Int32), .int (60 : Int32), .ref (ad 11), .int o1.2.2]))])) (setl (setl Z [(11, .inl (cI, 180, .inl o1.2.1)), (10, .inr (8, [.int (3 : Int32), .int (60 : Int32), .ref (ad 11), .int o1.2.2]))]) [(58, .inl (cI, 1951, .inl o2.2))]) (tl := tl) (As := [.int (xs (i + 1).toNatClampNeg), .int (xs (i + 2).toNatClampNeg), .int (xs (i + 3).toNatClampNeg)]) (st := [.int o1.1]) (c_X12_pay l D cI cJ cZ cH (ad 57) (ad 72) (ad 77) (ad 70) (ad 65) (ad 59) (ad 60) (ad 76) (ad 75) (ad 68) (ad 66) (ad 74) (ad 69) (ad 71) (ad 78) (ad 58) (ad 61) (ad 73) (ad 67) (ad 64) (ad 63) (ad 62) (flL 11 (Z 0)) (flL 12 (Z 0)) (arI (Z 58)) (flI 5 (Z 57)) (flI 8 (Z 57)) (xs (i + 1).toNatClampNeg) (xs (i + 2).toNatClampNeg) (xs (i + 3).toNatClampNeg) e2) gzL_55 rfl rfl rfl eL_X12_pay ⟨Nat.le_of_ble_eq_true rfl, Nat.le_of_ble_eq_true rfl⟩ rfl 57 (by decide) rfl (zs (sh_57a hS ha1 ha2) rfl) rfl [57, 58] (zc_cons rfl (zs (sh_57a hS ha1 ha2) rfl) (zc_cons rfl (zs (sh_58 hS) rfl) zc_nil)) (zc_cons rfl (zs (sh_57a hS ha1 ha2) rfl) (zc_cons rfl rfl zc_nil)) (setl_out rfl) rfl rfl (Nat.le_of_ble_eq_true rfl) hcs hss rfl dL_law_622 ?_
  refine ii_icmp_eq (tgt := 1813) (r := ()) (ET := some ()) (EF := none) (if_pos q1) dL_law_625 (by decide) (fun _ => ?_) (fun z => absurd z (by simp))
  exact kk _ _ _ ⟨setl (setl Z [(11, .inl (cI, 180, .inl o1.2.1)), (10, .inr (8, [.int (3 : Int32), .int (60 : Int32), .ref (ad 11), .int o1.2.2]))]) [(58, .inl (cI, 1951, .inl o2.2))], tl, rfl, law_fin (tc' := (va_up (tcZ Z) 4 o1.2.1)) (tr' := (va_up (trZ Z) 4 o1.2.2)) (nar' := (flI 13 (Z 1))) (nam' := (flI 14 (Z 1))) (st' := o2.2) hS (ok_cons ok_11 (ok_cons ok_10 ok_nil)) (ok_cons ok_58 ok_nil) rfl rfl rfl rfl rfl rfl rfl q2 hs1 hs2 hs3 ha1 ha2 him, hb1, hb2⟩

theorem dL_law_630 : decode cL_law 630 = .ok (.aload_n 1, 1) := by decide +kernel
theorem dL_law_631 : decode cL_law 631 = .ok (.aload_n 0, 1) := by decide +kernel
theorem dL_law_632 : decode cL_law 632 = .ok (.iload_n 3, 1) := by decide +kernel
theorem dL_law_633 : decode cL_law 633 = .ok (.iconst 1, 1) := by decide +kernel
theorem dL_law_634 : decode cL_law 634 = .ok (.iadd, 1) := by decide +kernel
theorem dL_law_635 : decode cL_law 635 = .ok (.iaload, 1) := by decide +kernel
theorem dL_law_636 : decode cL_law 636 = .ok (.aload_n 0, 1) := by decide +kernel
theorem dL_law_637 : decode cL_law 637 = .ok (.iload_n 3, 1) := by decide +kernel
theorem dL_law_638 : decode cL_law 638 = .ok (.iconst 2, 1) := by decide +kernel
theorem dL_law_639 : decode cL_law 639 = .ok (.iadd, 1) := by decide +kernel
theorem dL_law_640 : decode cL_law 640 = .ok (.iaload, 1) := by decide +kernel
theorem dL_law_641 : decode cL_law 641 = .ok (.invokevirtual 56, 3) := by decide +kernel
theorem dL_law_644 : decode cL_law 644 = .ok (.aload_n 2, 1) := by decide +kernel
theorem dL_law_645 : decode cL_law 645 = .ok (.aload_n 0, 1) := by decide +kernel
theorem dL_law_646 : decode cL_law 646 = .ok (.iload_n 3, 1) := by decide +kernel
theorem dL_law_647 : decode cL_law 647 = .ok (.iconst 1, 1) := by decide +kernel
theorem dL_law_648 : decode cL_law 648 = .ok (.iadd, 1) := by decide +kernel
theorem dL_law_649 : decode cL_law 649 = .ok (.iaload, 1) := by decide +kernel
theorem dL_law_650 : decode cL_law 650 = .ok (.aload_n 0, 1) := by decide +kernel
theorem dL_law_651 : decode cL_law 651 = .ok (.iload_n 3, 1) := by decide +kernel
theorem dL_law_652 : decode cL_law 652 = .ok (.iconst 2, 1) := by decide +kernel
theorem dL_law_653 : decode cL_law 653 = .ok (.iadd, 1) := by decide +kernel
theorem dL_law_654 : decode cL_law 654 = .ok (.iaload, 1) := by decide +kernel
theorem dL_law_655 : decode cL_law 655 = .ok (.invokevirtual 59, 3) := by decide +kernel
theorem dL_law_658 : decode cL_law 658 = .ok (.if_icmp .eq 1155, 3) := by decide +kernel
theorem eL_X11_seal : yX11_seal.cls = RX11 ∧ yX11_seal.cls ≠ "java/lang/invoke/MethodHandle" ∧ yX11_seal.cls ≠ "java/lang/invoke/VarHandle" ∧ (parseMethodDescriptor yX11_seal.desc).map (fun d => d.parameters.length) = some 2 := by decide +kernel
theorem eL_X12_seal : yX12_seal.cls = RX12 ∧ yX12_seal.cls ≠ "java/lang/invoke/MethodHandle" ∧ yX12_seal.cls ≠ "java/lang/invoke/VarHandle" ∧ (parseMethodDescriptor yX12_seal.desc).map (fun d => d.parameters.length) = some 2 := by decide +kernel
set_option maxHeartbeats 4000000 in
set_option maxRecDepth 100000 in
theorem law_9 {l : Launch} {p : Program} {e : Env} {s : State} {m : MethodId} {below : List Frame} {meth : Method} {c : Code} {D : va_G} {A : Nat → Prop} {cells slots : Nat} {Q : State → Prop} {b L : Nat} {xs : Nat → Int32} {i : Int32} {cI cJ cZ cH : ClassId} {ad : Nat → Nat} {ws : va_W} (hX : va_X b L xs s s.heap) (hbl : b < s.heap.size) (hbA : ¬ A b) (hin : ∀ j : Nat, j < 8 → vp_in (i + nI j) L) (hL : LawS cI cJ cZ cH ad cells slots ws) (kk : ∀ cells slots ws, LawS cI cJ cZ cH ad cells slots ws → WX p l e room_1 s m #[.ref b] below meth c code RL lwG D [(cI, .int), (cJ, .long), (cZ, .boolean), (cH, .object "TinHouse$House")] A 4 cells slots Q ws 1813 [(3, .int i), (2, .ref (ad 57)), (1, .ref (ad 0)), (0, .ref b)] []) : WX p l e room_1 s m #[.ref b] below meth c code RL lwG D [(cI, .int), (cJ, .long), (cZ, .boolean), (cH, .object "TinHouse$House")] A 4 cells slots Q ws 630 [(3, .int i), (2, .ref (ad 57)), (1, .ref (ad 0)), (0, .ref b)] [] := by
  obtain ⟨Z, tl, rfl, ⟨hS, h, hs1, hs2, hs3, ha1, ha2, him⟩, hb1, hb2⟩ := hL
  have hcs : cells ≤ room_1.cells := Nat.le_trans (Nat.le_add_right _ _) hb1
  have hss : slots ≤ room_1.slots := Nat.le_trans (Nat.le_add_right _ _) hb2
  refine ii_aload_n 2 dL_law_630 rfl ?_
  refine ii_aload_n 3 dL_law_631 rfl ?_
  refine ii_iload_n 0 dL_law_632 rfl ?_
  refine ii_iconst dL_law_633 kc1 ?_
  refine ii_iadd dL_law_634 ?_
  refine ii_sld hX hbl hbA (hin 1 (by decide)) dL_law_635 ?_
  refine ii_aload_n 3 dL_law_636 rfl ?_
  refine ii_iload_n 0 dL_law_637 rfl ?_
  refine ii_iconst dL_law_638 kc2 ?_
  refine ii_iadd dL_law_639 ?_
  refine ii_sld hX hbl hbA (hin 2 (by decide)) dL_law_640 ?_
  obtain ⟨o1, o2, e1, e2, q1, q2⟩ := (P_seal h _ _ : Two (F_X11_seal (tcZ Z 3) (trZ Z 3) (xs (i + 1).toNatClampNeg) (xs (i + 2).toNatClampNeg)) (F_X12_seal (arI (Z 58)) (xs (i + 1).toNatClampNeg) (xs (i + 2).toNatClampNeg)) _)
  refine ii_callZi (nW := 79) (ad := ad) (Z := Z) (setl Z [(9, .inl (cI, 280, .inl o1.2))]) (tl := tl) (As := [.int (xs (i + 1).toNatClampNeg), .int (xs (i + 2).toNatClampNeg)]) (st := []) (c_X11_seal l D cI cJ cZ cH (ad 0) (ad 28) (ad 32) (ad 34) (ad 36) (ad 1) (ad 6) (ad 8) (ad 9) (ad 14) (ad 20) (ad 24) (ad 22) (ad 2) (ad 10) (ad 26) (ad 12) (ad 16) (ad 4) (ad 18) (ad 51) (ad 55) (ad 49) (ad 29) (ad 44) (ad 45) (flL 11 (Z 0)) (flL 12 (Z 0)) (tcZ Z 3) (trZ Z 3) (flI 14 (Z 1)) (flI 13 (Z 1)) (xs (i + 1).toNatClampNeg) (xs (i + 2).toNatClampNeg) e1) gzL_56 rfl rfl rfl eL_X11_seal ⟨Nat.le_of_ble_eq_true rfl, Nat.le_of_ble_eq_true rfl⟩ rfl 0 (by decide) rfl (sh_0 hS) rfl [0, 1, 8, 9] (zc_cons rfl (sh_0 hS) (zc_cons rfl (sh_1 hS) (zc_cons rfl (sh_8 hS) (zc_cons rfl (sh_9 hS) zc_nil)))) (zc_cons rfl (zs (sh_0 hS) rfl) (zc_cons rfl (zs (sh_1 hS) rfl) (zc_cons rfl (zs (sh_8 hS) rfl) (zc_cons rfl rfl zc_nil)))) (setl_out rfl) rfl rfl (Nat.le_of_ble_eq_true rfl) hcs hss rfl dL_law_641 ?_
  refine ii_aload_n 1 dL_law_644 rfl ?_
  refine ii_aload_n 3 dL_law_645 rfl ?_
  refine ii_iload_n 0 dL_law_646 rfl ?_
  refine ii_iconst dL_law_647 kc1 ?_
  refine ii_iadd dL_law_648 ?_
  refine ii_sld hX hbl hbA (hin 1 (by decide)) dL_law_649 ?_
  refine ii_aload_n 3 dL_law_650 rfl ?_
  refine ii_iload_n 0 dL_law_651 rfl ?_
  refine ii_iconst dL_law_652 kc2 ?_
  refine ii_iadd dL_law_653 ?_
  refine ii_sld hX hbl hbA (hin 2 (by decide)) dL_law_654 ?_
  refine ii_callZi (nW := 79) (ad := ad) (Z := (setl Z [(9, .inl (cI, 280, .inl o1.2))])) (setl (setl Z [(9, .inl (cI, 280, .inl o1.2))]) [(58, .inl (cI, 1951, .inl o2.2))]) (tl := tl) (As := [.int (xs (i + 1).toNatClampNeg), .int (xs (i + 2).toNatClampNeg)]) (st := [.int o1.1]) (c_X12_seal l D cI cJ cZ cH (ad 57) (ad 72) (ad 77) (ad 70) (ad 65) (ad 59) (ad 60) (ad 76) (ad 75) (ad 68) (ad 66) (ad 74) (ad 69) (ad 71) (ad 78) (ad 58) (ad 61) (ad 73) (ad 67) (ad 64) (ad 63) (ad 62) (flL 11 (Z 0)) (flL 12 (Z 0)) (arI (Z 58)) (flI 5 (Z 57)) (flI 8 (Z 57)) (xs (i + 1).toNatClampNeg) (xs (i + 2).toNatClampNeg) e2) gzL_59 rfl rfl rfl eL_X12_seal ⟨Nat.le_of_ble_eq_true rfl, Nat.le_of_ble_eq_true rfl⟩ rfl 57 (by decide) rfl (zs (sh_57a hS ha1 ha2) rfl) rfl [57, 58] (zc_cons rfl (zs (sh_57a hS ha1 ha2) rfl) (zc_cons rfl (zs (sh_58 hS) rfl) zc_nil)) (zc_cons rfl (zs (sh_57a hS ha1 ha2) rfl) (zc_cons rfl rfl zc_nil)) (setl_out rfl) rfl rfl (Nat.le_of_ble_eq_true rfl) hcs hss rfl dL_law_655 ?_
  refine ii_icmp_eq (tgt := 1813) (r := ()) (ET := some ()) (EF := none) (if_pos q1) dL_law_658 (by decide) (fun _ => ?_) (fun z => absurd z (by simp))
  exact kk _ _ _ ⟨setl (setl Z [(9, .inl (cI, 280, .inl o1.2))]) [(58, .inl (cI, 1951, .inl o2.2))], tl, rfl, law_fin (tc' := (va_up (tcZ Z) 3 o1.2)) (tr' := (trZ Z)) (nar' := (flI 13 (Z 1))) (nam' := (flI 14 (Z 1))) (st' := o2.2) hS (ok_cons ok_9 ok_nil) (ok_cons ok_58 ok_nil) rfl rfl rfl rfl rfl rfl rfl q2 hs1 hs2 hs3 ha1 ha2 him, hb1, hb2⟩

theorem dL_law_663 : decode cL_law 663 = .ok (.aload_n 1, 1) := by decide +kernel
theorem dL_law_664 : decode cL_law 664 = .ok (.aload_n 0, 1) := by decide +kernel
theorem dL_law_665 : decode cL_law 665 = .ok (.iload_n 3, 1) := by decide +kernel
theorem dL_law_666 : decode cL_law 666 = .ok (.iconst 1, 1) := by decide +kernel
theorem dL_law_667 : decode cL_law 667 = .ok (.iadd, 1) := by decide +kernel
theorem dL_law_668 : decode cL_law 668 = .ok (.iaload, 1) := by decide +kernel
theorem dL_law_669 : decode cL_law 669 = .ok (.aload_n 0, 1) := by decide +kernel
theorem dL_law_670 : decode cL_law 670 = .ok (.iload_n 3, 1) := by decide +kernel
theorem dL_law_671 : decode cL_law 671 = .ok (.iconst 2, 1) := by decide +kernel
theorem dL_law_672 : decode cL_law 672 = .ok (.iadd, 1) := by decide +kernel
theorem dL_law_673 : decode cL_law 673 = .ok (.iaload, 1) := by decide +kernel
theorem dL_law_674 : decode cL_law 674 = .ok (.invokevirtual 60, 3) := by decide +kernel
theorem dL_law_677 : decode cL_law 677 = .ok (.aload_n 2, 1) := by decide +kernel
theorem dL_law_678 : decode cL_law 678 = .ok (.aload_n 0, 1) := by decide +kernel
theorem dL_law_679 : decode cL_law 679 = .ok (.iload_n 3, 1) := by decide +kernel
theorem dL_law_680 : decode cL_law 680 = .ok (.iconst 1, 1) := by decide +kernel
theorem dL_law_681 : decode cL_law 681 = .ok (.iadd, 1) := by decide +kernel
theorem dL_law_682 : decode cL_law 682 = .ok (.iaload, 1) := by decide +kernel
theorem dL_law_683 : decode cL_law 683 = .ok (.aload_n 0, 1) := by decide +kernel
theorem dL_law_684 : decode cL_law 684 = .ok (.iload_n 3, 1) := by decide +kernel
theorem dL_law_685 : decode cL_law 685 = .ok (.iconst 2, 1) := by decide +kernel
theorem dL_law_686 : decode cL_law 686 = .ok (.iadd, 1) := by decide +kernel
theorem dL_law_687 : decode cL_law 687 = .ok (.iaload, 1) := by decide +kernel
theorem dL_law_688 : decode cL_law 688 = .ok (.invokevirtual 63, 3) := by decide +kernel
theorem dL_law_691 : decode cL_law 691 = .ok (.if_icmp .eq 1122, 3) := by decide +kernel
theorem eL_X11_breaks : yX11_breaks.cls = RX11 ∧ yX11_breaks.cls ≠ "java/lang/invoke/MethodHandle" ∧ yX11_breaks.cls ≠ "java/lang/invoke/VarHandle" ∧ (parseMethodDescriptor yX11_breaks.desc).map (fun d => d.parameters.length) = some 2 := by decide +kernel
theorem eL_X12_breaks : yX12_breaks.cls = RX12 ∧ yX12_breaks.cls ≠ "java/lang/invoke/MethodHandle" ∧ yX12_breaks.cls ≠ "java/lang/invoke/VarHandle" ∧ (parseMethodDescriptor yX12_breaks.desc).map (fun d => d.parameters.length) = some 2 := by decide +kernel
set_option maxHeartbeats 4000000 in
set_option maxRecDepth 100000 in
theorem law_10 {l : Launch} {p : Program} {e : Env} {s : State} {m : MethodId} {below : List Frame} {meth : Method} {c : Code} {D : va_G} {A : Nat → Prop} {cells slots : Nat} {Q : State → Prop} {b L : Nat} {xs : Nat → Int32} {i : Int32} {cI cJ cZ cH : ClassId} {ad : Nat → Nat} {ws : va_W} (hX : va_X b L xs s s.heap) (hbl : b < s.heap.size) (hbA : ¬ A b) (hin : ∀ j : Nat, j < 8 → vp_in (i + nI j) L) (hL : LawS cI cJ cZ cH ad cells slots ws) (kk : ∀ cells slots ws, LawS cI cJ cZ cH ad cells slots ws → WX p l e room_1 s m #[.ref b] below meth c code RL lwG D [(cI, .int), (cJ, .long), (cZ, .boolean), (cH, .object "TinHouse$House")] A 4 cells slots Q ws 1813 [(3, .int i), (2, .ref (ad 57)), (1, .ref (ad 0)), (0, .ref b)] []) : WX p l e room_1 s m #[.ref b] below meth c code RL lwG D [(cI, .int), (cJ, .long), (cZ, .boolean), (cH, .object "TinHouse$House")] A 4 cells slots Q ws 663 [(3, .int i), (2, .ref (ad 57)), (1, .ref (ad 0)), (0, .ref b)] [] := by
  obtain ⟨Z, tl, rfl, ⟨hS, h, hs1, hs2, hs3, ha1, ha2, him⟩, hb1, hb2⟩ := hL
  have hcs : cells ≤ room_1.cells := Nat.le_trans (Nat.le_add_right _ _) hb1
  have hss : slots ≤ room_1.slots := Nat.le_trans (Nat.le_add_right _ _) hb2
  refine ii_aload_n 2 dL_law_663 rfl ?_
  refine ii_aload_n 3 dL_law_664 rfl ?_
  refine ii_iload_n 0 dL_law_665 rfl ?_
  refine ii_iconst dL_law_666 kc1 ?_
  refine ii_iadd dL_law_667 ?_
  refine ii_sld hX hbl hbA (hin 1 (by decide)) dL_law_668 ?_
  refine ii_aload_n 3 dL_law_669 rfl ?_
  refine ii_iload_n 0 dL_law_670 rfl ?_
  refine ii_iconst dL_law_671 kc2 ?_
  refine ii_iadd dL_law_672 ?_
  refine ii_sld hX hbl hbA (hin 2 (by decide)) dL_law_673 ?_
  obtain ⟨o1, o2, e1, e2, q1, q2⟩ := (P_breaks h _ _ : Two (F_X11_breaks (tcZ Z 3) (trZ Z 3) (xs (i + 1).toNatClampNeg) (xs (i + 2).toNatClampNeg)) (F_X12_breaks (arI (Z 58)) (xs (i + 1).toNatClampNeg) (xs (i + 2).toNatClampNeg)) _)
  refine ii_callZi (nW := 79) (ad := ad) (Z := Z) (setl Z [(9, .inl (cI, 280, .inl o1.2))]) (tl := tl) (As := [.int (xs (i + 1).toNatClampNeg), .int (xs (i + 2).toNatClampNeg)]) (st := []) (c_X11_breaks l D cI cJ cZ cH (ad 0) (ad 28) (ad 32) (ad 34) (ad 36) (ad 1) (ad 6) (ad 8) (ad 9) (ad 14) (ad 20) (ad 24) (ad 22) (ad 2) (ad 10) (ad 26) (ad 12) (ad 16) (ad 4) (ad 18) (ad 51) (ad 55) (ad 49) (ad 29) (ad 44) (ad 45) (flL 11 (Z 0)) (flL 12 (Z 0)) (tcZ Z 3) (trZ Z 3) (flI 14 (Z 1)) (flI 13 (Z 1)) (xs (i + 1).toNatClampNeg) (xs (i + 2).toNatClampNeg) e1) gzL_60 rfl rfl rfl eL_X11_breaks ⟨Nat.le_of_ble_eq_true rfl, Nat.le_of_ble_eq_true rfl⟩ rfl 0 (by decide) rfl (sh_0 hS) rfl [0, 1, 8, 9] (zc_cons rfl (sh_0 hS) (zc_cons rfl (sh_1 hS) (zc_cons rfl (sh_8 hS) (zc_cons rfl (sh_9 hS) zc_nil)))) (zc_cons rfl (zs (sh_0 hS) rfl) (zc_cons rfl (zs (sh_1 hS) rfl) (zc_cons rfl (zs (sh_8 hS) rfl) (zc_cons rfl rfl zc_nil)))) (setl_out rfl) rfl rfl (Nat.le_of_ble_eq_true rfl) hcs hss rfl dL_law_674 ?_
  refine ii_aload_n 1 dL_law_677 rfl ?_
  refine ii_aload_n 3 dL_law_678 rfl ?_
  refine ii_iload_n 0 dL_law_679 rfl ?_
  refine ii_iconst dL_law_680 kc1 ?_
  refine ii_iadd dL_law_681 ?_
  refine ii_sld hX hbl hbA (hin 1 (by decide)) dL_law_682 ?_
  refine ii_aload_n 3 dL_law_683 rfl ?_
  refine ii_iload_n 0 dL_law_684 rfl ?_
  refine ii_iconst dL_law_685 kc2 ?_
  refine ii_iadd dL_law_686 ?_
  refine ii_sld hX hbl hbA (hin 2 (by decide)) dL_law_687 ?_
  refine ii_callZi (nW := 79) (ad := ad) (Z := (setl Z [(9, .inl (cI, 280, .inl o1.2))])) (setl (setl Z [(9, .inl (cI, 280, .inl o1.2))]) [(58, .inl (cI, 1951, .inl o2.2))]) (tl := tl) (As := [.int (xs (i + 1).toNatClampNeg), .int (xs (i + 2).toNatClampNeg)]) (st := [.int o1.1]) (c_X12_breaks l D cI cJ cZ cH (ad 57) (ad 72) (ad 77) (ad 70) (ad 65) (ad 59) (ad 60) (ad 76) (ad 75) (ad 68) (ad 66) (ad 74) (ad 69) (ad 71) (ad 78) (ad 58) (ad 61) (ad 73) (ad 67) (ad 64) (ad 63) (ad 62) (flL 11 (Z 0)) (flL 12 (Z 0)) (arI (Z 58)) (flI 5 (Z 57)) (flI 8 (Z 57)) (xs (i + 1).toNatClampNeg) (xs (i + 2).toNatClampNeg) e2) gzL_63 rfl rfl rfl eL_X12_breaks ⟨Nat.le_of_ble_eq_true rfl, Nat.le_of_ble_eq_true rfl⟩ rfl 57 (by decide) rfl (zs (sh_57a hS ha1 ha2) rfl) rfl [57, 58] (zc_cons rfl (zs (sh_57a hS ha1 ha2) rfl) (zc_cons rfl (zs (sh_58 hS) rfl) zc_nil)) (zc_cons rfl (zs (sh_57a hS ha1 ha2) rfl) (zc_cons rfl rfl zc_nil)) (setl_out rfl) rfl rfl (Nat.le_of_ble_eq_true rfl) hcs hss rfl dL_law_688 ?_
  refine ii_icmp_eq (tgt := 1813) (r := ()) (ET := some ()) (EF := none) (if_pos q1) dL_law_691 (by decide) (fun _ => ?_) (fun z => absurd z (by simp))
  exact kk _ _ _ ⟨setl (setl Z [(9, .inl (cI, 280, .inl o1.2))]) [(58, .inl (cI, 1951, .inl o2.2))], tl, rfl, law_fin (tc' := (va_up (tcZ Z) 3 o1.2)) (tr' := (trZ Z)) (nar' := (flI 13 (Z 1))) (nam' := (flI 14 (Z 1))) (st' := o2.2) hS (ok_cons ok_9 ok_nil) (ok_cons ok_58 ok_nil) rfl rfl rfl rfl rfl rfl rfl q2 hs1 hs2 hs3 ha1 ha2 him, hb1, hb2⟩

