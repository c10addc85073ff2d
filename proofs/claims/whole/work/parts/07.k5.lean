theorem v_1_32 : Cond.classLink RX0 9 RX8 ∈ lwG := lwG_of (mt_1 (List.mem_of_getElem? (i := 32) (by decide +kernel))) rfl
theorem xlX0_9 {a : Cond} : Cond.classLink RX0 9 RX8 ∈ a :: lwG := List.mem_cons_of_mem _ v_1_32
theorem v_1_33 : Cond.instantiable RX8 4 ∈ lwG := lwG_of (mt_1 (List.mem_of_getElem? (i := 33) (by decide +kernel))) rfl
theorem v_1_3 : Cond.initialized RX8 ∈ lwG := lwG_of (mt_1 (List.mem_of_getElem? (i := 3) (by decide +kernel))) rfl
theorem xiX8 {a : Cond} : Cond.instantiable RX8 4 ∈ a :: lwG := List.mem_cons_of_mem _ v_1_33
theorem xnX8 {a : Cond} : Cond.initialized RX8 ∈ a :: lwG := List.mem_cons_of_mem _ v_1_3
theorem v_1_26 : Cond.classLink RX11 9 RX0 ∈ lwG := lwG_of (mt_1 (List.mem_of_getElem? (i := 26) (by decide +kernel))) rfl
theorem xlX11_9 {a : Cond} : Cond.classLink RX11 9 RX0 ∈ a :: lwG := List.mem_cons_of_mem _ v_1_26
theorem v_1_27 : Cond.instantiable RX0 15 ∈ lwG := lwG_of (mt_1 (List.mem_of_getElem? (i := 27) (by decide +kernel))) rfl
theorem v_1_2 : Cond.initialized RX0 ∈ lwG := lwG_of (mt_1 (List.mem_of_getElem? (i := 2) (by decide +kernel))) rfl
theorem xiX0 {a : Cond} : Cond.instantiable RX0 15 ∈ a :: lwG := List.mem_cons_of_mem _ v_1_27
theorem xnX0 {a : Cond} : Cond.initialized RX0 ∈ a :: lwG := List.mem_cons_of_mem _ v_1_2
theorem v_1_162 : Cond.classLink RX11 20 RX7 ∈ lwG := lwG_of (mt_1 (List.mem_of_getElem? (i := 162) (by decide +kernel))) rfl
theorem xlX11_20 {a : Cond} : Cond.classLink RX11 20 RX7 ∈ a :: lwG := List.mem_cons_of_mem _ v_1_162
theorem v_1_163 : Cond.instantiable RX7 10 ∈ lwG := lwG_of (mt_1 (List.mem_of_getElem? (i := 163) (by decide +kernel))) rfl
theorem v_1_5 : Cond.initialized RX7 ∈ lwG := lwG_of (mt_1 (List.mem_of_getElem? (i := 5) (by decide +kernel))) rfl
theorem xiX7 {a : Cond} : Cond.instantiable RX7 10 ∈ a :: lwG := List.mem_cons_of_mem _ v_1_163
theorem xnX7 {a : Cond} : Cond.initialized RX7 ∈ a :: lwG := List.mem_cons_of_mem _ v_1_5
theorem v_1_203 : Cond.classLink RX11 27 RX1 ∈ lwG := lwG_of (mt_1 (List.mem_of_getElem? (i := 203) (by decide +kernel))) rfl
theorem xlX11_27 {a : Cond} : Cond.classLink RX11 27 RX1 ∈ a :: lwG := List.mem_cons_of_mem _ v_1_203
theorem v_1_204 : Cond.instantiable RX1 8 ∈ lwG := lwG_of (mt_1 (List.mem_of_getElem? (i := 204) (by decide +kernel))) rfl
theorem v_1_6 : Cond.initialized RX1 ∈ lwG := lwG_of (mt_1 (List.mem_of_getElem? (i := 6) (by decide +kernel))) rfl
theorem xiX1 {a : Cond} : Cond.instantiable RX1 8 ∈ a :: lwG := List.mem_cons_of_mem _ v_1_204
theorem xnX1 {a : Cond} : Cond.initialized RX1 ∈ a :: lwG := List.mem_cons_of_mem _ v_1_6
theorem v_1_235 : Cond.classLink RX11 36 RX2 ∈ lwG := lwG_of (mt_1 (List.mem_of_getElem? (i := 235) (by decide +kernel))) rfl
theorem xlX11_36 {a : Cond} : Cond.classLink RX11 36 RX2 ∈ a :: lwG := List.mem_cons_of_mem _ v_1_235
theorem v_1_236 : Cond.instantiable RX2 3 ∈ lwG := lwG_of (mt_1 (List.mem_of_getElem? (i := 236) (by decide +kernel))) rfl
theorem v_1_7 : Cond.initialized RX2 ∈ lwG := lwG_of (mt_1 (List.mem_of_getElem? (i := 7) (by decide +kernel))) rfl
theorem xiX2 {a : Cond} : Cond.instantiable RX2 3 ∈ a :: lwG := List.mem_cons_of_mem _ v_1_236
theorem xnX2 {a : Cond} : Cond.initialized RX2 ∈ a :: lwG := List.mem_cons_of_mem _ v_1_7
theorem v_2_11 : Cond.classLink RX11 45 RX4 ∈ lwG := lwG_of (mt_2 (List.mem_of_getElem? (i := 11) (by decide +kernel))) rfl
theorem xlX11_45 {a : Cond} : Cond.classLink RX11 45 RX4 ∈ a :: lwG := List.mem_cons_of_mem _ v_2_11
theorem v_2_12 : Cond.instantiable RX4 9 ∈ lwG := lwG_of (mt_2 (List.mem_of_getElem? (i := 12) (by decide +kernel))) rfl
theorem v_1_8 : Cond.initialized RX4 ∈ lwG := lwG_of (mt_1 (List.mem_of_getElem? (i := 8) (by decide +kernel))) rfl
theorem xiX4 {a : Cond} : Cond.instantiable RX4 9 ∈ a :: lwG := List.mem_cons_of_mem _ v_2_12
theorem xnX4 {a : Cond} : Cond.initialized RX4 ∈ a :: lwG := List.mem_cons_of_mem _ v_1_8
theorem v_2_45 : Cond.classLink RX11 54 RX9 ∈ lwG := lwG_of (mt_2 (List.mem_of_getElem? (i := 45) (by decide +kernel))) rfl
theorem xlX11_54 {a : Cond} : Cond.classLink RX11 54 RX9 ∈ a :: lwG := List.mem_cons_of_mem _ v_2_45
theorem v_2_46 : Cond.instantiable RX9 2 ∈ lwG := lwG_of (mt_2 (List.mem_of_getElem? (i := 46) (by decide +kernel))) rfl
theorem v_1_9 : Cond.initialized RX9 ∈ lwG := lwG_of (mt_1 (List.mem_of_getElem? (i := 9) (by decide +kernel))) rfl
theorem xiX9 {a : Cond} : Cond.instantiable RX9 2 ∈ a :: lwG := List.mem_cons_of_mem _ v_2_46
theorem xnX9 {a : Cond} : Cond.initialized RX9 ∈ a :: lwG := List.mem_cons_of_mem _ v_1_9
theorem v_2_58 : Cond.classLink RX11 61 RX10 ∈ lwG := lwG_of (mt_2 (List.mem_of_getElem? (i := 58) (by decide +kernel))) rfl
theorem xlX11_61 {a : Cond} : Cond.classLink RX11 61 RX10 ∈ a :: lwG := List.mem_cons_of_mem _ v_2_58
theorem v_2_59 : Cond.instantiable RX10 4 ∈ lwG := lwG_of (mt_2 (List.mem_of_getElem? (i := 59) (by decide +kernel))) rfl
theorem v_1_10 : Cond.initialized RX10 ∈ lwG := lwG_of (mt_1 (List.mem_of_getElem? (i := 10) (by decide +kernel))) rfl
theorem xiX10 {a : Cond} : Cond.instantiable RX10 4 ∈ a :: lwG := List.mem_cons_of_mem _ v_2_59
theorem xnX10 {a : Cond} : Cond.initialized RX10 ∈ a :: lwG := List.mem_cons_of_mem _ v_1_10
theorem v_2_77 : Cond.classLink RX11 68 RX6 ∈ lwG := lwG_of (mt_2 (List.mem_of_getElem? (i := 77) (by decide +kernel))) rfl
theorem xlX11_68 {a : Cond} : Cond.classLink RX11 68 RX6 ∈ a :: lwG := List.mem_cons_of_mem _ v_2_77
theorem v_2_78 : Cond.instantiable RX6 2 ∈ lwG := lwG_of (mt_2 (List.mem_of_getElem? (i := 78) (by decide +kernel))) rfl
theorem v_1_11 : Cond.initialized RX6 ∈ lwG := lwG_of (mt_1 (List.mem_of_getElem? (i := 11) (by decide +kernel))) rfl
theorem xiX6 {a : Cond} : Cond.instantiable RX6 2 ∈ a :: lwG := List.mem_cons_of_mem _ v_2_78
theorem xnX6 {a : Cond} : Cond.initialized RX6 ∈ a :: lwG := List.mem_cons_of_mem _ v_1_11
theorem v_2_90 : Cond.classLink RX11 75 RX3 ∈ lwG := lwG_of (mt_2 (List.mem_of_getElem? (i := 90) (by decide +kernel))) rfl
theorem xlX11_75 {a : Cond} : Cond.classLink RX11 75 RX3 ∈ a :: lwG := List.mem_cons_of_mem _ v_2_90
theorem v_2_91 : Cond.instantiable RX3 4 ∈ lwG := lwG_of (mt_2 (List.mem_of_getElem? (i := 91) (by decide +kernel))) rfl
theorem v_1_12 : Cond.initialized RX3 ∈ lwG := lwG_of (mt_1 (List.mem_of_getElem? (i := 12) (by decide +kernel))) rfl
theorem xiX3 {a : Cond} : Cond.instantiable RX3 4 ∈ a :: lwG := List.mem_cons_of_mem _ v_2_91
theorem xnX3 {a : Cond} : Cond.initialized RX3 ∈ a :: lwG := List.mem_cons_of_mem _ v_1_12
theorem v_2_109 : Cond.classLink RX11 82 RX5 ∈ lwG := lwG_of (mt_2 (List.mem_of_getElem? (i := 109) (by decide +kernel))) rfl
theorem xlX11_82 {a : Cond} : Cond.classLink RX11 82 RX5 ∈ a :: lwG := List.mem_cons_of_mem _ v_2_109
theorem v_2_110 : Cond.instantiable RX5 5 ∈ lwG := lwG_of (mt_2 (List.mem_of_getElem? (i := 110) (by decide +kernel))) rfl
theorem v_1_13 : Cond.initialized RX5 ∈ lwG := lwG_of (mt_1 (List.mem_of_getElem? (i := 13) (by decide +kernel))) rfl
theorem xiX5 {a : Cond} : Cond.instantiable RX5 5 ∈ a :: lwG := List.mem_cons_of_mem _ v_2_110
theorem xnX5 {a : Cond} : Cond.initialized RX5 ∈ a :: lwG := List.mem_cons_of_mem _ v_1_13
theorem v_1_18 : Cond.classLink RL 7 RX11 ∈ lwG := lwG_of (mt_1 (List.mem_of_getElem? (i := 18) (by decide +kernel))) rfl
theorem xlL_7 : Cond.classLink RL 7 RX11 ∈ lwG := v_1_18
theorem v_1_19 : Cond.instantiable RX11 13 ∈ lwG := lwG_of (mt_1 (List.mem_of_getElem? (i := 19) (by decide +kernel))) rfl
theorem v_1_1 : Cond.initialized RX11 ∈ lwG := lwG_of (mt_1 (List.mem_of_getElem? (i := 1) (by decide +kernel))) rfl
theorem xiX11 {a : Cond} : Cond.instantiable RX11 13 ∈ a :: lwG := List.mem_cons_of_mem _ v_1_19
theorem xnX11 {a : Cond} : Cond.initialized RX11 ∈ a :: lwG := List.mem_cons_of_mem _ v_1_1
theorem v_5_109 : Cond.classLink RL 10 RX12 ∈ lwG := lwG_of (mt_5 (List.mem_of_getElem? (i := 109) (by decide +kernel))) rfl
theorem xlL_10 : Cond.classLink RL 10 RX12 ∈ lwG := v_5_109
theorem v_5_110 : Cond.instantiable RX12 25 ∈ lwG := lwG_of (mt_5 (List.mem_of_getElem? (i := 110) (by decide +kernel))) rfl
theorem v_1_14 : Cond.initialized RX12 ∈ lwG := lwG_of (mt_1 (List.mem_of_getElem? (i := 14) (by decide +kernel))) rfl
theorem xiX12 {a : Cond} : Cond.instantiable RX12 25 ∈ a :: lwG := List.mem_cons_of_mem _ v_5_110
theorem xnX12 {a : Cond} : Cond.initialized RX12 ∈ a :: lwG := List.mem_cons_of_mem _ v_1_14
theorem v_1_65 : Cond.arrayClass FieldType.int ∈ lwG := lwG_of (mt_1 (List.mem_of_getElem? (i := 65) (by decide +kernel))) rfl
theorem xa_int {a : Cond} : Cond.arrayClass FieldType.int ∈ a :: lwG := List.mem_cons_of_mem _ v_1_65
theorem v_1_234 : Cond.arrayClass FieldType.long ∈ lwG := lwG_of (mt_1 (List.mem_of_getElem? (i := 234) (by decide +kernel))) rfl
theorem xa_long {a : Cond} : Cond.arrayClass FieldType.long ∈ a :: lwG := List.mem_cons_of_mem _ v_1_234
theorem v_5_191 : Cond.arrayClass FieldType.boolean ∈ lwG := lwG_of (mt_5 (List.mem_of_getElem? (i := 191) (by decide +kernel))) rfl
theorem xa_boolean {a : Cond} : Cond.arrayClass FieldType.boolean ∈ a :: lwG := List.mem_cons_of_mem _ v_5_191
theorem v_1_165 : Cond.instanceMethod yX7_init ∈ lwG := lwG_of (mt_1 (List.mem_of_getElem? (i := 165) (by decide +kernel))) rfl
theorem nX11_22 {a : Cond} : Cond.instanceMethod yX7_init ∈ a :: lwG := List.mem_cons_of_mem _ v_1_165
theorem gzX11_22 {a : Cond} : GoodIn (a :: lwG) wzX7_init := goodG azX7_init
theorem v_1_24 : Cond.instanceMethod objectInit ∈ lwG := lwG_of (mt_1 (List.mem_of_getElem? (i := 24) (by decide +kernel))) rfl
theorem xo_i {a : Cond} : Cond.instanceMethod objectInit ∈ a :: lwG := List.mem_cons_of_mem _ v_1_24
theorem v_1_25 : Cond.code objectInit ⟨#[0xb1]⟩ 1 none ∈ lwG := lwG_of (mt_1 (List.mem_of_getElem? (i := 25) (by decide +kernel))) rfl
theorem xo_c {a : Cond} : Cond.code objectInit ⟨#[0xb1]⟩ 1 none ∈ a :: lwG := List.mem_cons_of_mem _ v_1_25
section II
variable {p : Program} {l : Launch} {e : Env} {R : Room} {s : State} {m : MethodId} {args : Array Value} {below : List Frame} {meth : Method} {c : Code} {cc : ByteArray} {own : String} {Ts : List Cond} {D : va_G} {tys : List (ClassId × FieldType)} {A : Nat → Prop} {nL cells slots : Nat} {Q : State → Prop} {ws ws' : va_W} {pc : Nat} {lv : List (Nat × Value)} {st : List Value}

theorem ii_newI {n : Int32} {N' t0 : Nat} {cA : ClassId} (hw : Cond.arrayClass FieldType.int ∈ Ts) (ht : tys[t0]? = some (cA, .int)) (hn : ¬ n < 0) (hN : n.toNatClampNeg = N') (hby : N' * componentBytes .int ≤ 536870912) (hc1 : cells + 1 ≤ R.cells) (hs1 : slots + N' ≤ R.slots) (d : decode cc pc = .ok (.newarray .int, 2)) (kk : ∀ q, WX p l e R s m args below meth c cc own Ts D tys A nL (cells + 1) (slots + N') Q (ws ++ [(q, .inl (cA, N', .inl (fun _ => 0)))]) (pc + 2) lv (.ref q :: st)) : WX p l e R s m args below meth c cc own Ts D tys A nL cells slots Q ws pc lv (.int n :: st) := by
  intro C H locs ls hP hD hS hl
  obtain ⟨hx, hb, hml, hown, hts, hK, hlk, hA, hZ⟩ := id C
  refine va_newa (atype := .int) hx hb (hts _ hw) rfl hK hP hD hS hA (a0 := (N', .inl (fun _ => 0))) (fun _ => rfl) hn hN hby hc1 hs1 d (fun q cB H1 hK1 hP1 hD1 hS1 => ?_)
  have e1 := va_nm_int (hK.2 t0 _ ht).2
  have e2 := va_nm_int (hK1.2 tys.length (cB, .int) (by rw [List.getElem?_append_right (Nat.le_refl _), Nat.sub_self]; rfl)).2
  have e3 : cB = cA := Option.some.inj (e2.symm.trans e1)
  subst e3
  exact kk q C H1 locs ls hP1 hD1 hS1 hl

theorem ii_newJ {n : Int32} {N' t0 : Nat} {cA : ClassId} (hw : Cond.arrayClass FieldType.long ∈ Ts) (ht : tys[t0]? = some (cA, .long)) (hn : ¬ n < 0) (hN : n.toNatClampNeg = N') (hby : N' * componentBytes .long ≤ 536870912) (hc1 : cells + 1 ≤ R.cells) (hs1 : slots + N' ≤ R.slots) (d : decode cc pc = .ok (.newarray .long, 2)) (kk : ∀ q, WX p l e R s m args below meth c cc own Ts D tys A nL (cells + 1) (slots + N') Q (ws ++ [(q, .inl (cA, N', .inr (.inl (fun _ => 0))))]) (pc + 2) lv (.ref q :: st)) : WX p l e R s m args below meth c cc own Ts D tys A nL cells slots Q ws pc lv (.int n :: st) := by
  intro C H locs ls hP hD hS hl
  obtain ⟨hx, hb, hml, hown, hts, hK, hlk, hA, hZ⟩ := id C
  refine va_newa (atype := .long) hx hb (hts _ hw) rfl hK hP hD hS hA (a0 := (N', .inr (.inl (fun _ => 0)))) (fun _ => rfl) hn hN hby hc1 hs1 d (fun q cB H1 hK1 hP1 hD1 hS1 => ?_)
  have e1 := va_nm_long (hK.2 t0 _ ht).2
  have e2 := va_nm_long (hK1.2 tys.length (cB, .long) (by rw [List.getElem?_append_right (Nat.le_refl _), Nat.sub_self]; rfl)).2
  have e3 : cB = cA := Option.some.inj (e2.symm.trans e1)
  subst e3
  exact kk q C H1 locs ls hP1 hD1 hS1 hl

theorem ii_newZ {n : Int32} {N' t0 : Nat} {cA : ClassId} (hw : Cond.arrayClass FieldType.boolean ∈ Ts) (ht : tys[t0]? = some (cA, .boolean)) (hn : ¬ n < 0) (hN : n.toNatClampNeg = N') (hby : N' * componentBytes .boolean ≤ 536870912) (hc1 : cells + 1 ≤ R.cells) (hs1 : slots + N' ≤ R.slots) (d : decode cc pc = .ok (.newarray .boolean, 2)) (kk : ∀ q, WX p l e R s m args below meth c cc own Ts D tys A nL (cells + 1) (slots + N') Q (ws ++ [(q, .inl (cA, N', .inl (fun _ => 0)))]) (pc + 2) lv (.ref q :: st)) : WX p l e R s m args below meth c cc own Ts D tys A nL cells slots Q ws pc lv (.int n :: st) := by
  intro C H locs ls hP hD hS hl
  obtain ⟨hx, hb, hml, hown, hts, hK, hlk, hA, hZ⟩ := id C
  refine va_newa (atype := .boolean) hx hb (hts _ hw) rfl hK hP hD hS hA (a0 := (N', .inl (fun _ => 0))) (fun _ => rfl) hn hN hby hc1 hs1 d (fun q cB H1 hK1 hP1 hD1 hS1 => ?_)
  have e1 := va_nm_boolean (hK.2 t0 _ ht).2
  have e2 := va_nm_boolean (hK1.2 tys.length (cB, .boolean) (by rw [List.getElem?_append_right (Nat.le_refl _), Nat.sub_self]; rfl)).2
  have e3 : cB = cA := Option.some.inj (e2.symm.trans e1)
  subst e3
  exact kk q C H1 locs ls hP1 hD1 hS1 hl

theorem ii_new {C : String} {T : u_T} {N ci index : Nat} {fs : List Value} {ty : Nat → FieldType} (hin : ∀ w ∈ u_ws C T N, w ∈ Ts) (hty : ∀ k, k < N → parseFieldDescriptor (T k).2.2.1 = some (ty k)) (h1 : Cond.classLink own index C ∈ Ts) (h2 : Cond.instantiable C N ∈ Ts) (h3 : Cond.initialized C ∈ Ts) (hc : vwCl[ci]? = some (C, T, N)) (hfs : ∀ j, j < N → defaultValue (ty j) = vp_V fs j) (hc1 : cells + 1 ≤ R.cells) (hs1 : slots + N ≤ R.slots) (d : decode cc pc = .ok (.new index, 3)) (kk : ∀ q, WX p l e R s m args below meth c cc own Ts D tys A nL (cells + 1) (slots + N) Q (ws ++ [(q, .inr (ci, fs))]) (pc + 3) lv (.ref q :: st)) : WX p l e R s m args below meth c cc own Ts D tys A nL cells slots Q ws pc lv st := by
  intro C H locs ls hP hD hS hl
  obtain ⟨hx, hb, hml, hown, hts, hK, hlk, hA, hZ⟩ := id C
  exact va_new hx hb hts hin ty hty hown (hts _ h1) (hts _ h2) (hts _ h3) hK hP hD hS hA hc hfs hc1 hs1 d (fun q H1 hP1 hD1 hS1 => kk q C H1 locs ls hP1 hD1 hS1 hl)
theorem ii_newq {Cn : String} {n : Int32} {N' index t0 : Nat} {cA : ClassId} (h1 : Cond.classLink own index Cn ∈ Ts) (h2 : va_AO Cn s) (ht : tys[t0]? = some (cA, .object Cn)) (hn : ¬ n < 0) (hN : n.toNatClampNeg = N') (hby : N' * 4 ≤ 536870912) (hc1 : cells + 1 ≤ R.cells) (hs1 : slots + N' ≤ R.slots) (d : decode cc pc = .ok (.anewarray index, 3)) (kk : ∀ q, WX p l e R s m args below meth c cc own Ts D tys A nL (cells + 1) (slots + N') Q (ws ++ [(q, .inl (cA, N', .inr (.inr (.inr (.inr (fun _ => none))))))]) (pc + 3) lv (.ref q :: st)) : WX p l e R s m args below meth c cc own Ts D tys A nL cells slots Q ws pc lv (.int n :: st) := by
  intro C H locs ls hP hD hS hl
  obtain ⟨hx, hb, hml, hown, hts, hK, hlk, hA, hZ⟩ := id C
  refine va_newq hx hb hown (hts _ h1) h2 hK hP hD hS hA hn hN hby hc1 hs1 d (fun q cB H1 hK1 hP1 hD1 hS1 => ?_)
  obtain ⟨-, -, -, -, -, e1⟩ := (hK.2 t0 _ ht).2
  obtain ⟨-, -, -, -, -, e2⟩ := (hK1.2 tys.length (cB, .object Cn) (by rw [List.getElem?_append_right (Nat.le_refl _), Nat.sub_self]; rfl)).2
  have e3 : cB = cA := Option.some.inj (e2.symm.trans e1)
  subst e3
  exact kk q C H1 locs ls hP1 hD1 hS1 hl
theorem ii_putF {C : String} {T : u_T} {N ci index a : Nat} {fs : List Value} {v : Value} {ty0 : Nat → FieldType} (hin2 : meth.name = "<init>") (hin : ∀ w ∈ u_ws C T N, w ∈ Ts) (hty : ∀ k, k < N → parseFieldDescriptor (T k).2.2.1 = some (ty0 k)) (hnm : ∀ a, a < N → ∀ b, b < N → a ≠ b → (T a).2.1 ≠ (T b).2.1) (q0 : Nat) (he : ws[q0]? = some (a, .inr (ci, fs))) (hc : vwCl[ci]? = some (C, T, N)) (k : Nat) (hk : k < N) (hlink : Cond.fieldLink own index (T k).1 (T k).2.1 (T k).2.2.1 ∈ Ts) (hfin : (T k).2.2.2 = true) (hdecl : (T k).1 = own) (hn : narrow (ty0 k) v = v) (hfit : fits (ty0 k) v = true) (hlen : k < fs.length) (d : decode cc pc = .ok (.putfield index, 3)) (hws : ws.set q0 (a, .inr (ci, fs.set k v)) = ws') (kk : WX p l e R s m args below meth c cc own Ts D tys A nL cells slots Q ws' (pc + 3) lv st) : WX p l e R s m args below meth c cc own Ts D tys A nL cells slots Q ws pc lv (v :: .ref a :: st) := by
  intro C H locs ls hP hD hS hl
  obtain ⟨hx, hb, hml, hown, hts, hK, hlk, hA, hZ⟩ := id C
  subst hws
  exact va_putF hx hb hts hin ty0 hty hnm hown hK hP hD hS q0 he hc k hk (hts _ hlink) (fun _ h9 => h9) hfin hin2 hdecl (hty k hk) hn hfit hlen d (fun H1 locs1 hP hD hS => kk C H1 locs1 ls hP hD hS hl)
theorem ii_obj {idx a : Nat} (h1 : Cond.methodLink own idx objectInit ∈ Ts) (h2 : Cond.instanceMethod objectInit ∈ Ts) (h3 : Cond.code objectInit ⟨#[0xb1]⟩ 1 none ∈ Ts) (hf : 1 ≤ R.frames) (hlo : 20 ≤ R.locals) (hst : (st.map fun v => v.category).sum ≤ 8) (d : decode cc pc = .ok (.invokespecial idx, 3)) (kk : WX p l e R s m args below meth c cc own Ts D tys A nL cells slots Q ws (pc + 3) lv st) : WX p l e R s m args below meth c cc own Ts D tys A nL cells slots Q ws pc lv (.ref a :: st) := by
  intro C H locs ls hP hD hS hl
  obtain ⟨hx, hb, hml, hown, hts, hK, hlk, hA, hZ⟩ := id C
  refine W.objInit hx hb hown (hts _ h1) (hts _ h2) (hts _ h3) rfl (by rw [hml]; exact hl.1) rfl d hf ?_ ?_
  · have h9 := lv_room (m := m) (pc := pc) (ls := ls) (rest := st) hst
    have h8 : 2 * (F0 m pc ls (.ref a :: st)).monitorRoom = 2 * (F0 m pc ls st).monitorRoom := rfl
    omega
  · exact W.eq (g2 := F0 m (pc + 3) ls st) rfl (kk C H locs ls hP hD hS hl)
theorem ii_iastC {a n : Nat} {cA : ClassId} {f : Nat → Int32} {i x : Int32} (q0 t0 : Nat) (ha : ws[q0]? = some (a, .inl (cA, n, .inl f))) (ht : tys[t0]? = some (cA, .int)) (hin : vp_in i n) (d : decode cc pc = .ok (.iastore, 1)) (hws : ws.set q0 (a, .inl (cA, n, .inl (upd f i.toNatClampNeg x))) = ws') (kk : WX p l e R s m args below meth c cc own Ts D tys A nL cells slots Q ws' (pc + 1) lv st) : WX p l e R s m args below meth c cc own Ts D tys A nL cells slots Q ws pc lv (.int x :: .int i :: .ref a :: st) := by
  intro C H locs ls hP hD hS hl
  obtain ⟨hx, hb, hml, hown, hts, hK, hlk, hA, hZ⟩ := id C
  subst hws
  exact va_iast hx hb hK hP hD hS q0 t0 ha ht hin d (fun H1 locs1 hP hD hS => kk C H1 locs1 ls hP hD hS hl)
theorem ii_ws (is : List Nat) (hn : va_nd is = true) (h : is.map (fun i => ws[i]?) = ws'.map some) (kk : WX p l e R s m args below meth c cc own Ts D tys A nL cells slots Q ws' pc lv st) : WX p l e R s m args below meth c cc own Ts D tys A nL cells slots Q ws pc lv st := by
  intro C H locs ls hP hD hS hl
  obtain ⟨hx, hb, hml, hown, hts, hK, hlk, hA, hZ⟩ := id C
  have hP2 := hP.sub (ws' := ws') is (by
    have h9 := congrArg (fun (z : List (Option (Nat × va_E))) => z.filterMap id) h
    simpa [List.filterMap_map, Function.comp_def] using h9)
  exact kk C H locs ls hP2 (hD.sub is hn h) hS hl
end II
def CTc (l : Launch) (y : MethodName) (wy : List Cond) (rm : Room) (D : va_G) (tys : List (ClassId × FieldType)) (av : List Value) (ws : va_W) (wf : (Nat → Nat) → va_W) : Prop := ∀ sz : Nat, Met l y wy rm (ii_Pre D tys av ws sz) (va_Qv (fun (_ : Nat → Nat) => True) (fun u t => va_P D vwCl (wf u) t.heap ∧ va_D (va_A ws sz) (wf u)) (va_A ws sz)) rm.cells rm.slots (va_A ws sz)
theorem ii_metC {l : Launch} {y : MethodName} {wy wy' : List Cond} {rm : Room} {D : va_G} {tys : List (ClassId × FieldType)} {av : List Value} {ws : va_W} {wf : (Nat → Nat) → va_W} {cc : ByteArray} {maxL : Nat} {lv0 : List (Nat × Value)} {own : String} (hy : plainName y.cls = true) (ho : y.cls = own) (hyn : y.name = "<init>") (hw : wy = Cond.code y cc maxL none :: wy') (hlv : lv_args 0 av = lv0) (hlen : (lg_sl av).length ≤ maxL)
    (body : ∀ {p : Program} {e : Env} {s : State} {m : MethodId} {args : Array Value} {below : List Frame} {meth : Method} {c : Code} {A : Nat → Prop} {Q : State → Prop}, meth.name = "<init>" → (∀ (u : Nat → Nat) (pc : Nat) (lv : List (Nat × Value)), decode cc pc = .ok (.return_, 1) → WX p l e rm s m args below meth c cc own wy D tys A maxL rm.cells rm.slots Q (wf u) pc lv []) → WX p l e rm s m args below meth c cc own wy D tys A maxL 0 0 Q ws 0 lv0 []) : CTc l y wy rm D tys av ws wf := by
  subst ho
  intro sz
  refine Met.ofW (cc := cc) (maxL := maxL) (ret := none) hy hw ?_
  intro p e s m args below meth c s₁ B hml hv
  obtain ⟨rfl, hsz, hP, hK, hD0, hZ⟩ := hv
  have hx := B.exec
  have hb := B.bytes
  have hr := B.returns
  have hts := atoms_spec (ws := wy) B.pre
  have hown : s.vm.findClass y.cls = some m.cls := findClass_of_methodNamed B.named
  have hlocks := B.notSynchronized
  have hin : meth.name = "<init>" := (name_of_methodNamed B.named B.method).1.trans hyn
  subst hsz
  have hD := hD0.self (sz := s.heap.size)
  have hA : ∀ q : Nat, s.heap.size ≤ q → va_A ws s.heap.size q := fun q h => Or.inr h
  have hl := lv_entry av (n := maxL) hlen
  rw [hlv] at hl
  rw [lg_entry_eq]
  refine body (Q := MQ below _ _ s rm.cells rm.slots (va_A ws s.heap.size)) hin ?_ ⟨hx, hb, hml, hown, hts, hK, hlocks, hA, hZ⟩ s.heap [] _ hP hD va_S.rf hl
  intro u pc lv d C H locs ls hP hD hS hl
  exact W.vret hx hb hr (fun t ht hW => ⟨⟨u, rfl, trivial, by rw [ht]; exact hP, hD⟩, hS.F ht⟩) hS.2.2 d

def ii_PreX (D : va_G) (tys : List (ClassId × FieldType)) (av : List Value) (ws : va_W) (sz : Nat) : Array Value → State → Prop := fun a U => ii_Pre D tys av ws sz a U ∧ va_AO "TinHouse$House" U ∧ va_Nw (.methodLinkNest RX11 22 yX7_init RX11) U
theorem ii_blindX {D : va_G} {tys : List (ClassId × FieldType)} {av : List Value} {ws : va_W} {sz : Nat} : FrameBlind (ii_PreX D tys av ws sz) := fun a U g mk q => ⟨ii_blind a U g mk q.1, q.2.1.moved (U := U.calling g mk a) (Vm.Alike.refl U.vm), va_Nw.same rfl (U := U.calling g mk a) rfl q.2.2⟩
def CTx (l : Launch) (y : MethodName) (wy : List Cond) (rm : Room) (D : va_G) (tys : List (ClassId × FieldType)) (av : List Value) (ws : va_W) (wf : (Nat → Nat) → va_W) : Prop := ∀ sz : Nat, Met l y wy rm (ii_PreX D tys av ws sz) (va_Qv (fun (_ : Nat → Nat) => True) (fun u t => va_P D vwCl (wf u) t.heap ∧ va_D (va_A ws sz) (wf u)) (va_A ws sz)) rm.cells rm.slots (va_A ws sz)
theorem ii_metX {l : Launch} {y : MethodName} {wy wy' : List Cond} {rm : Room} {D : va_G} {tys : List (ClassId × FieldType)} {av : List Value} {ws : va_W} {wf : (Nat → Nat) → va_W} {cc : ByteArray} {maxL : Nat} {lv0 : List (Nat × Value)} {own : String} (hy : plainName y.cls = true) (ho : y.cls = own) (hyn : y.name = "<init>") (hw : wy = Cond.code y cc maxL none :: wy') (hlv : lv_args 0 av = lv0) (hlen : (lg_sl av).length ≤ maxL)
    (body : ∀ {p : Program} {e : Env} {s : State} {m : MethodId} {args : Array Value} {below : List Frame} {meth : Method} {c : Code} {A : Nat → Prop} {Q : State → Prop}, meth.name = "<init>" → va_AO "TinHouse$House" s → va_Nw (.methodLinkNest RX11 22 yX7_init RX11) s → (∀ (u : Nat → Nat) (pc : Nat) (lv : List (Nat × Value)), decode cc pc = .ok (.return_, 1) → WX p l e rm s m args below meth c cc own wy D tys A maxL rm.cells rm.slots Q (wf u) pc lv []) → WX p l e rm s m args below meth c cc own wy D tys A maxL 0 0 Q ws 0 lv0 []) : CTx l y wy rm D tys av ws wf := by
  subst ho
  intro sz
  refine Met.ofW (cc := cc) (maxL := maxL) (ret := none) hy hw ?_
  intro p e s m args below meth c s₁ B hml hv
  obtain ⟨⟨rfl, hsz, hP, hK, hD0, hZ⟩, hao, hnw⟩ := hv
  have hx := B.exec
  have hb := B.bytes
  have hr := B.returns
  have hts := atoms_spec (ws := wy) B.pre
  have hown : s.vm.findClass y.cls = some m.cls := findClass_of_methodNamed B.named
  have hlocks := B.notSynchronized
  have hin : meth.name = "<init>" := (name_of_methodNamed B.named B.method).1.trans hyn
  subst hsz
  have hD := hD0.self (sz := s.heap.size)
  have hA : ∀ q : Nat, s.heap.size ≤ q → va_A ws s.heap.size q := fun q h => Or.inr h
  have hl := lv_entry av (n := maxL) hlen
  rw [hlv] at hl
  rw [lg_entry_eq]
  refine body (Q := MQ below _ _ s rm.cells rm.slots (va_A ws s.heap.size)) hin hao hnw ?_ ⟨hx, hb, hml, hown, hts, hK, hlocks, hA, hZ⟩ s.heap [] _ hP hD va_S.rf hl
  intro u pc lv d C H locs ls hP hD hS hl
  exact W.vret hx hb hr (fun t ht hW => ⟨⟨u, rfl, trivial, by rw [ht]; exact hP, hD⟩, hS.F ht⟩) hS.2.2 d

section II
variable {p : Program} {l : Launch} {e : Env} {R : Room} {s : State} {m : MethodId} {args : Array Value} {below : List Frame} {meth : Method} {c : Code} {cc : ByteArray} {own : String} {Ts : List Cond} {D : va_G} {tys : List (ClassId × FieldType)} {A : Nat → Prop} {nL cells slots : Nat} {Q : State → Prop} {ws ws' : va_W} {pc : Nat} {lv : List (Nat × Value)} {st : List Value}

theorem ii_callCI {y : MethodName} {wy wy' : List Cond} {bytes : ByteArray} {maxL n idx b : Nat} {rm : Room} {As sk : List Value} {wc wr : va_W} {wf wN : (Nat → Nat) → va_W} (hc : CTc l y wy rm D tys (.ref b :: As) wc wf) (hG : GoodIn Ts wy) (hw : wy = Cond.code y bytes maxL none :: wy') (hl1 : Cond.methodLink own idx y ∈ Ts) (hn1 : Cond.instanceMethod y ∈ Ts) (hi1 : Cond.initialized y.cls ∈ Ts) (hy1 : y.name = "<init>") (hd : y.cls ≠ "java/lang/invoke/MethodHandle" ∧ y.cls ≠ "java/lang/invoke/VarHandle" ∧ (parseMethodDescriptor y.desc).map (fun d => d.parameters.length) = some n) (hR : rm.frames + 1 ≤ R.frames ∧ 8 + (maxL + 11) + rm.locals ≤ R.locals) (hn : As.length = n)
    (isC isR : List Nat) (hC : isC.map (fun i => ws[i]?) = wc.map some) (hnd : va_nd isC = true) (hRr : isR.map (fun i => ws[i]?) = wr.map some) (hnr : va_nd isR = true) (hdis : ∀ i ∈ isR, i ∉ isC) (hN : ∀ u, wr ++ wf u = wN u) (hst : (st.map fun v => v.category).sum ≤ 8) (hcs : cells + rm.cells ≤ R.cells) (hss : slots + rm.slots ≤ R.slots) (hsk : sk = As.reverse ++ .ref b :: st) (d : decode cc pc = .ok (.invokespecial idx, 3)) (kk : ∀ u, WX p l e R s m args below meth c cc own Ts D tys A nL (cells + rm.cells) (slots + rm.slots) Q (wN u) (pc + 3) lv st) : WX p l e R s m args below meth c cc own Ts D tys A nL cells slots Q ws pc lv sk := by
  intro C H locs ls hP hD hS hl
  obtain ⟨hx, hb, hml, hown, hts, hK, hlk, hA, hZ⟩ := id C
  have hPc := hP.sub (ws' := wc) isC (by
    have h9 := congrArg (fun (z : List (Option (Nat × va_E))) => z.filterMap id) hC
    simpa [List.filterMap_map, Function.comp_def] using h9)
  have hDc := hD.sub isC hnd hC
  have hFc := va_free (wc := wc) hD hS hA isC hC
  have hpre : ∀ U : State, U.heap = H → s.WarmedH U.vm → ii_Pre D tys (.ref b :: As) wc H.size (.ref b :: As).toArray U := fun U hU hW => ⟨rfl, by rw [hU], by rw [hU]; exact hPc, va_K.moved hW.alike hK, hDc.weaken (fun _ _ _ _ => trivial), by rw [hU]; exact hZ.go hW.alike hFc (fun a h1 h2 => hS.2.1 a h1 h2)⟩
  refine va_callv (va_runI (As := As) (rest := st) ⟨hx, hb, hml, hown, hts⟩ (hc H.size) (cwI n hts hG hw rfl rfl (hts _ hi1) (hts _ hl1) (hts _ hn1) hy1 hd hR) ⟨ii_blind, hpre⟩ rfl hn hl.1 hsk (lv_room hst) d ⟨hcs, hss⟩) hS (fun q _ h => hFc q h) hFc (fun u t H1 locs1 ht hvm hw hB hz1 hk1 hS1 => ?_)
  obtain ⟨hP1, hD1⟩ := hB
  rw [ht] at hP1
  obtain ⟨hP2, hD2⟩ := va_join (wr := wr) (w1 := wf u) hP hD isC isR hC hRr hnr hdis hk1 hFc hP1 hD1
  rw [hN u] at hP2 hD2
  exact kk u C H1 locs1 ls hP2 hD2 hS1 hl

theorem ii_callCN {y : MethodName} {wy wy' : List Cond} {bytes : ByteArray} {maxL n idx b : Nat} {rm : Room} {host : String} {As sk : List Value} {wc wr : va_W} {wf wN : (Nat → Nat) → va_W} (hc : CTc l y wy rm D tys (.ref b :: As) wc wf) (hG : GoodIn Ts wy) (hw : wy = Cond.code y bytes maxL none :: wy') (hl1 : va_Nw (.methodLinkNest own idx y host) s) (hn1 : Cond.instanceMethod y ∈ Ts) (hi1 : Cond.initialized y.cls ∈ Ts) (hy1 : y.name = "<init>") (hd : y.cls ≠ "java/lang/invoke/MethodHandle" ∧ y.cls ≠ "java/lang/invoke/VarHandle" ∧ (parseMethodDescriptor y.desc).map (fun d => d.parameters.length) = some n) (hR : rm.frames + 1 ≤ R.frames ∧ 8 + (maxL + 11) + rm.locals ≤ R.locals) (hn : As.length = n)
    (isC isR : List Nat) (hC : isC.map (fun i => ws[i]?) = wc.map some) (hnd : va_nd isC = true) (hRr : isR.map (fun i => ws[i]?) = wr.map some) (hnr : va_nd isR = true) (hdis : ∀ i ∈ isR, i ∉ isC) (hN : ∀ u, wr ++ wf u = wN u) (hst : (st.map fun v => v.category).sum ≤ 8) (hcs : cells + rm.cells ≤ R.cells) (hss : slots + rm.slots ≤ R.slots) (hsk : sk = As.reverse ++ .ref b :: st) (d : decode cc pc = .ok (.invokespecial idx, 3)) (kk : ∀ u, WX p l e R s m args below meth c cc own Ts D tys A nL (cells + rm.cells) (slots + rm.slots) Q (wN u) (pc + 3) lv st) : WX p l e R s m args below meth c cc own Ts D tys A nL cells slots Q ws pc lv sk := by
  intro C H locs ls hP hD hS hl
  obtain ⟨hx, hb, hml, hown, hts, hK, hlk, hA, hZ⟩ := id C
  have hPc := hP.sub (ws' := wc) isC (by
    have h9 := congrArg (fun (z : List (Option (Nat × va_E))) => z.filterMap id) hC
    simpa [List.filterMap_map, Function.comp_def] using h9)
  have hDc := hD.sub isC hnd hC
  have hFc := va_free (wc := wc) hD hS hA isC hC
  have hpre : ∀ U : State, U.heap = H → s.WarmedH U.vm → ii_Pre D tys (.ref b :: As) wc H.size (.ref b :: As).toArray U := fun U hU hW => ⟨rfl, by rw [hU], by rw [hU]; exact hPc, va_K.moved hW.alike hK, hDc.weaken (fun _ _ _ _ => trivial), by rw [hU]; exact hZ.go hW.alike hFc (fun a h1 h2 => hS.2.1 a h1 h2)⟩
  refine va_callv (va_runIN (As := As) (rest := st) ⟨hx, hb, hml, hown, hts⟩ (hc H.size) ⟨va_cnB n hts hG hw rfl rfl hl1 (hts _ hi1) hd hR, hy1, hts _ hn1⟩ ⟨ii_blind, hpre⟩ rfl hn hl.1 hsk (lv_room hst) d ⟨hcs, hss⟩) hS (fun q _ h => hFc q h) hFc (fun u t H1 locs1 ht hvm hw hB hz1 hk1 hS1 => ?_)
  obtain ⟨hP1, hD1⟩ := hB
  rw [ht] at hP1
  obtain ⟨hP2, hD2⟩ := va_join (wr := wr) (w1 := wf u) hP hD isC isR hC hRr hnr hdis hk1 hFc hP1 hD1
  rw [hN u] at hP2 hD2
  exact kk u C H1 locs1 ls hP2 hD2 hS1 hl

theorem ii_callCX {y : MethodName} {wy wy' : List Cond} {bytes : ByteArray} {maxL n idx b : Nat} {rm : Room} {As sk : List Value} {wc wr : va_W} {wf wN : (Nat → Nat) → va_W} (hao : va_AO "TinHouse$House" s) (hnw : va_Nw (.methodLinkNest RX11 22 yX7_init RX11) s) (hc : CTx l y wy rm D tys (.ref b :: As) wc wf) (hG : GoodIn Ts wy) (hw : wy = Cond.code y bytes maxL none :: wy') (hl1 : Cond.methodLink own idx y ∈ Ts) (hn1 : Cond.instanceMethod y ∈ Ts) (hi1 : Cond.initialized y.cls ∈ Ts) (hy1 : y.name = "<init>") (hd : y.cls ≠ "java/lang/invoke/MethodHandle" ∧ y.cls ≠ "java/lang/invoke/VarHandle" ∧ (parseMethodDescriptor y.desc).map (fun d => d.parameters.length) = some n) (hR : rm.frames + 1 ≤ R.frames ∧ 8 + (maxL + 11) + rm.locals ≤ R.locals) (hn : As.length = n)
    (isC isR : List Nat) (hC : isC.map (fun i => ws[i]?) = wc.map some) (hnd : va_nd isC = true) (hRr : isR.map (fun i => ws[i]?) = wr.map some) (hnr : va_nd isR = true) (hdis : ∀ i ∈ isR, i ∉ isC) (hN : ∀ u, wr ++ wf u = wN u) (hst : (st.map fun v => v.category).sum ≤ 8) (hcs : cells + rm.cells ≤ R.cells) (hss : slots + rm.slots ≤ R.slots) (hsk : sk = As.reverse ++ .ref b :: st) (d : decode cc pc = .ok (.invokespecial idx, 3)) (kk : ∀ u, WX p l e R s m args below meth c cc own Ts D tys A nL (cells + rm.cells) (slots + rm.slots) Q (wN u) (pc + 3) lv st) : WX p l e R s m args below meth c cc own Ts D tys A nL cells slots Q ws pc lv sk := by
  intro C H locs ls hP hD hS hl
  obtain ⟨hx, hb, hml, hown, hts, hK, hlk, hA, hZ⟩ := id C
  have hPc := hP.sub (ws' := wc) isC (by
    have h9 := congrArg (fun (z : List (Option (Nat × va_E))) => z.filterMap id) hC
    simpa [List.filterMap_map, Function.comp_def] using h9)
  have hDc := hD.sub isC hnd hC
  have hFc := va_free (wc := wc) hD hS hA isC hC
  have hpre : ∀ U : State, U.heap = H → s.WarmedH U.vm → ii_Pre D tys (.ref b :: As) wc H.size (.ref b :: As).toArray U := fun U hU hW => ⟨rfl, by rw [hU], by rw [hU]; exact hPc, va_K.moved hW.alike hK, hDc.weaken (fun _ _ _ _ => trivial), by rw [hU]; exact hZ.go hW.alike hFc (fun a h1 h2 => hS.2.1 a h1 h2)⟩
  have hpreX : ∀ U : State, U.heap = H → s.WarmedH U.vm → ii_PreX D tys (.ref b :: As) wc H.size (.ref b :: As).toArray U := fun U hU hW => ⟨hpre U hU hW, hao.moved hW.alike, va_Nw.warmM hW hnw⟩
  refine va_callv (va_runI (As := As) (rest := st) ⟨hx, hb, hml, hown, hts⟩ (hc H.size) (cwI n hts hG hw rfl rfl (hts _ hi1) (hts _ hl1) (hts _ hn1) hy1 hd hR) ⟨ii_blindX, hpreX⟩ rfl hn hl.1 hsk (lv_room hst) d ⟨hcs, hss⟩) hS (fun q _ h => hFc q h) hFc (fun u t H1 locs1 ht hvm hw hB hz1 hk1 hS1 => ?_)
  obtain ⟨hP1, hD1⟩ := hB
  rw [ht] at hP1
  obtain ⟨hP2, hD2⟩ := va_join (wr := wr) (w1 := wf u) hP hD isC isR hC hRr hnr hdis hk1 hFc hP1 hD1
  rw [hN u] at hP2 hD2
  exact kk u C H1 locs1 ls hP2 hD2 hS1 hl

end II
