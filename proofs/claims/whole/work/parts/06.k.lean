set_option maxHeartbeats 4000000 in
set_option maxRecDepth 100000 in
theorem c_X12_purseOf (l : Launch) (D : va_G) (cI cJ cZ cH : ClassId) (a_this a_this_before a_this_bestLead a_this_can a_this_given a_this_images a_this_isKept a_this_lead a_this_load a_this_most a_this_net a_this_on a_this_owes a_this_row a_this_silver a_this_st a_this_step a_this_to a_this_together a_this_value a_this_waits a_this_with : Nat) (v_this_above : Int64) (v_this_below : Int64) (v_this_st : Nat → Int32) (v_this_steps : Int32) (v_this_waiting : Int32) (p0 : Int32) (p1 : Int32) {res : Int32} (h : F_X12_purseOf v_this_st p0 p1 = some res) : CTi l yX12_purseOf wzX12_purseOf { frames := 0, cells := 0, slots := 0, locals := 0 } D [(cI, .int), (cJ, .long), (cZ, .boolean), (cH, .object "TinHouse$House")] [.ref a_this, .int p0, .int p1] [(a_this, .inr (12, [.ref a_this_st, .ref a_this_images, .ref a_this_isKept, .long v_this_above, .long v_this_below, .int v_this_steps, .ref a_this_step, .ref a_this_with, .int v_this_waiting, .ref a_this_waits, .ref a_this_value, .ref a_this_given, .ref a_this_net, .ref a_this_together, .ref a_this_most, .ref a_this_owes, .ref a_this_can, .ref a_this_row, .ref a_this_before, .ref a_this_to, .ref a_this_on, .ref a_this_load, .ref a_this_lead, .ref a_this_bestLead, .ref a_this_silver])), (a_this_st, .inl (cI, 1951, .inl v_this_st))] res [(a_this, .inr (12, [.ref a_this_st, .ref a_this_images, .ref a_this_isKept, .long v_this_above, .long v_this_below, .int v_this_steps, .ref a_this_step, .ref a_this_with, .int v_this_waiting, .ref a_this_waits, .ref a_this_value, .ref a_this_given, .ref a_this_net, .ref a_this_together, .ref a_this_most, .ref a_this_owes, .ref a_this_can, .ref a_this_row, .ref a_this_before, .ref a_this_to, .ref a_this_on, .ref a_this_load, .ref a_this_lead, .ref a_this_bestLead, .ref a_this_silver])), (a_this_st, .inl (cI, 1951, .inl v_this_st))] := by
  unfold F_X12_purseOf at h
  refine ii_metI (own := RX12) (lv0 := [(0, .ref a_this), (1, .int p0), (2, .int p1)]) (by decide) rfl rfl rfl (Nat.le_of_ble_eq_true rfl) (fun {p e s m args below meth c A Q} hQ => ?_)
  refine ii_aload_n 0 dX12_purseOf_0 rfl ?_
  refine ii_get (C := RX12) (T := TX12) (N := 25) (ci := 12) izX12 0 rfl rfl 0 (by decide) kX12_7 rfl dX12_purseOf_1 ?_
  refine ii_sipush dX12_purseOf_4 ks1552 ?_
  refine ii_bipush dX12_purseOf_7 kb13 ?_
  refine ii_iload_n 1 dX12_purseOf_9 rfl ?_
  refine ii_imul dX12_purseOf_10 ?_
  refine ii_iadd dX12_purseOf_11 ?_
  refine ii_iload_n 2 dX12_purseOf_12 rfl ?_
  refine ii_iadd dX12_purseOf_13 ?_
  refine ii_iald h 1 0 rfl rfl dX12_purseOf_14 (fun t_1 h => ?_)
  cases h
  exact hQ _ _ dX12_purseOf_15
set_option maxHeartbeats 4000000 in
set_option maxRecDepth 100000 in
theorem c_X12_purse (l : Launch) (D : va_G) (cI cJ cZ cH : ClassId) (a_this a_this_before a_this_bestLead a_this_can a_this_given a_this_images a_this_isKept a_this_lead a_this_load a_this_most a_this_net a_this_on a_this_owes a_this_row a_this_silver a_this_st a_this_step a_this_to a_this_together a_this_value a_this_waits a_this_with : Nat) (v_this_above : Int64) (v_this_below : Int64) (v_this_st : Nat → Int32) (v_this_steps : Int32) (v_this_waiting : Int32) (p0 : Int32) (p1 : Int32) (p2 : Int32) {res : Int32 × (Nat → Int32)} (h : F_X12_purse v_this_st p0 p1 p2 = some res) : CTi l yX12_purse wzX12_purse { frames := 2, cells := 0, slots := 0, locals := 47 } D [(cI, .int), (cJ, .long), (cZ, .boolean), (cH, .object "TinHouse$House")] [.ref a_this, .int p0, .int p1, .int p2] [(a_this, .inr (12, [.ref a_this_st, .ref a_this_images, .ref a_this_isKept, .long v_this_above, .long v_this_below, .int v_this_steps, .ref a_this_step, .ref a_this_with, .int v_this_waiting, .ref a_this_waits, .ref a_this_value, .ref a_this_given, .ref a_this_net, .ref a_this_together, .ref a_this_most, .ref a_this_owes, .ref a_this_can, .ref a_this_row, .ref a_this_before, .ref a_this_to, .ref a_this_on, .ref a_this_load, .ref a_this_lead, .ref a_this_bestLead, .ref a_this_silver])), (a_this_st, .inl (cI, 1951, .inl v_this_st))] res.1 [(a_this, .inr (12, [.ref a_this_st, .ref a_this_images, .ref a_this_isKept, .long v_this_above, .long v_this_below, .int v_this_steps, .ref a_this_step, .ref a_this_with, .int v_this_waiting, .ref a_this_waits, .ref a_this_value, .ref a_this_given, .ref a_this_net, .ref a_this_together, .ref a_this_most, .ref a_this_owes, .ref a_this_can, .ref a_this_row, .ref a_this_before, .ref a_this_to, .ref a_this_on, .ref a_this_load, .ref a_this_lead, .ref a_this_bestLead, .ref a_this_silver])), (a_this_st, .inl (cI, 1951, .inl res.2))] := by
  unfold F_X12_purse at h
  refine ii_metI (own := RX12) (lv0 := [(0, .ref a_this), (1, .int p0), (2, .int p1), (3, .int p2)]) (by decide) rfl rfl rfl (Nat.le_of_ble_eq_true rfl) (fun {p e s m args below meth c A Q} hQ => ?_)
  refine ii_aload_n 0 dX12_purse_0 rfl ?_
  refine ii_iconst dX12_purse_1 kc0 ?_
  refine ii_iload_n 1 dX12_purse_2 rfl ?_
  obtain ⟨c_1, hc_1, h⟩ := bnd h
  refine ii_callVi (As := [.int (0 : Int32), .int p0]) (ws' := [(a_this, .inr (12, [.ref a_this_st, .ref a_this_images, .ref a_this_isKept, .long v_this_above, .long v_this_below, .int v_this_steps, .ref a_this_step, .ref a_this_with, .int v_this_waiting, .ref a_this_waits, .ref a_this_value, .ref a_this_given, .ref a_this_net, .ref a_this_together, .ref a_this_most, .ref a_this_owes, .ref a_this_can, .ref a_this_row, .ref a_this_before, .ref a_this_to, .ref a_this_on, .ref a_this_load, .ref a_this_lead, .ref a_this_bestLead, .ref a_this_silver])), (a_this_st, .inl (cI, 1951, .inl v_this_st))]) (st := []) (c_X12_is l D cI cJ cZ cH a_this a_this_before a_this_bestLead a_this_can a_this_given a_this_images a_this_isKept a_this_lead a_this_load a_this_most a_this_net a_this_on a_this_owes a_this_row a_this_silver a_this_st a_this_step a_this_to a_this_together a_this_value a_this_waits a_this_with v_this_above v_this_below v_this_st v_this_steps v_this_waiting (0 : Int32) p0 hc_1) gzX12_173 rfl rfl rfl eV_X12_is ⟨Nat.le_of_ble_eq_true rfl, Nat.le_of_ble_eq_true rfl⟩ rfl 0 rfl rfl [0, 1] rfl rfl rfl rfl rfl (Nat.le_of_ble_eq_true rfl) (Nat.le_refl _) (Nat.le_refl _) rfl dX12_purse_3 ?_
  refine ii_if_eq (tgt := 28) h dX12_purse_6 (by decide) (fun h => ?_) (fun h => ?_)
  · skip
    refine ii_bipush dX12_purse_28 kbm2 ?_
    cases h
    exact hQ _ _ dX12_purse_30
  · skip
    refine ii_iload_n 2 dX12_purse_9 rfl ?_
    obtain ⟨c_2, hc_2, h⟩ := bnd h
    refine ii_callSi (As := [.int p1]) (ws' := [(a_this, .inr (12, [.ref a_this_st, .ref a_this_images, .ref a_this_isKept, .long v_this_above, .long v_this_below, .int v_this_steps, .ref a_this_step, .ref a_this_with, .int v_this_waiting, .ref a_this_waits, .ref a_this_value, .ref a_this_given, .ref a_this_net, .ref a_this_together, .ref a_this_most, .ref a_this_owes, .ref a_this_can, .ref a_this_row, .ref a_this_before, .ref a_this_to, .ref a_this_on, .ref a_this_load, .ref a_this_lead, .ref a_this_bestLead, .ref a_this_silver])), (a_this_st, .inl (cI, 1951, .inl v_this_st))]) (st := []) (c_X12_isSeason l D cI cJ cZ cH p1 hc_2) gzX12_153 rfl rfl rfl eS_X12_isSeason ⟨Nat.le_of_ble_eq_true rfl, Nat.le_of_ble_eq_true rfl⟩ rfl [] rfl rfl rfl rfl rfl (Nat.le_of_ble_eq_true rfl) (Nat.le_refl _) (Nat.le_refl _) rfl dX12_purse_10 ?_
    refine ii_if_eq (tgt := 28) h dX12_purse_13 (by decide) (fun h => ?_) (fun h => ?_)
    · skip
      refine ii_bipush dX12_purse_28 kbm2 ?_
      cases h
      exact hQ _ _ dX12_purse_30
    · skip
      refine ii_iload_n 3 dX12_purse_16 rfl ?_
      refine ii_i2l dX12_purse_17 ?_
      refine ii_lconst dX12_purse_18 kl1 ?_
      refine ii_ldc2 (v := 10000) dX12_purse_19 kX12_202 ?_
      obtain ⟨c_3, hc_3, h⟩ := bnd h
      refine ii_callSi (As := [.long p2.toInt64, .long (1 : Int64), .long (10000 : Int64)]) (ws' := [(a_this, .inr (12, [.ref a_this_st, .ref a_this_images, .ref a_this_isKept, .long v_this_above, .long v_this_below, .int v_this_steps, .ref a_this_step, .ref a_this_with, .int v_this_waiting, .ref a_this_waits, .ref a_this_value, .ref a_this_given, .ref a_this_net, .ref a_this_together, .ref a_this_most, .ref a_this_owes, .ref a_this_can, .ref a_this_row, .ref a_this_before, .ref a_this_to, .ref a_this_on, .ref a_this_load, .ref a_this_lead, .ref a_this_bestLead, .ref a_this_silver])), (a_this_st, .inl (cI, 1951, .inl v_this_st))]) (st := []) (c_X12_in l D cI cJ cZ cH p2.toInt64 (1 : Int64) (10000 : Int64) hc_3) gzX12_79 rfl rfl rfl eS_X12_in ⟨Nat.le_of_ble_eq_true rfl, Nat.le_of_ble_eq_true rfl⟩ rfl [] rfl rfl rfl rfl rfl (Nat.le_of_ble_eq_true rfl) (Nat.le_refl _) (Nat.le_refl _) rfl dX12_purse_22 ?_
      refine ii_if_ne (tgt := 31) h dX12_purse_25 (by decide) (fun h => ?_) (fun h => ?_)
      · skip
        refine ii_aload_n 0 dX12_purse_31 rfl ?_
        refine ii_get (C := RX12) (T := TX12) (N := 25) (ci := 12) izX12 0 rfl rfl 0 (by decide) kX12_7 rfl dX12_purse_32 ?_
        refine ii_iconst dX12_purse_35 kc4 ?_
        refine ii_iald h 1 0 rfl rfl dX12_purse_36 (fun t_4 h => ?_)
        refine ii_iconst dX12_purse_37 kc3 ?_
        refine ii_icmp_ne (tgt := 44) h dX12_purse_38 (by decide) (fun h => ?_) (fun h => ?_)
        · skip
          refine ii_sipush dX12_purse_44 ks1552 ?_
          refine ii_bipush dX12_purse_47 kb13 ?_
          refine ii_aload_n 0 dX12_purse_49 rfl ?_
          refine ii_get (C := RX12) (T := TX12) (N := 25) (ci := 12) izX12 0 rfl rfl 0 (by decide) kX12_7 rfl dX12_purse_50 ?_
          refine ii_iconst dX12_purse_53 kc4 ?_
          refine ii_iald h 1 0 rfl rfl dX12_purse_54 (fun t_5 h => ?_)
          refine ii_imul dX12_purse_55 ?_
          refine ii_iadd dX12_purse_56 ?_
          refine ii_topI h (fun x_6 h => ?_)
          refine ii_istore (lv' := [(4, .int x_6), (0, .ref a_this), (1, .int p0), (2, .int p1), (3, .int p2)]) dX12_purse_57 (by decide) rfl ?_
          refine ii_aload_n 1 dX12_purse_59 rfl ?_
          refine ii_get (C := RX12) (T := TX12) (N := 25) (ci := 12) izX12 0 rfl rfl 0 (by decide) kX12_7 rfl dX12_purse_60 ?_
          refine ii_iload 0 dX12_purse_63 rfl ?_
          refine ii_iload_n 2 dX12_purse_65 rfl ?_
          refine ii_iast (fun g_7 => [(a_this, .inr (12, [.ref a_this_st, .ref a_this_images, .ref a_this_isKept, .long v_this_above, .long v_this_below, .int v_this_steps, .ref a_this_step, .ref a_this_with, .int v_this_waiting, .ref a_this_waits, .ref a_this_value, .ref a_this_given, .ref a_this_net, .ref a_this_together, .ref a_this_most, .ref a_this_owes, .ref a_this_can, .ref a_this_row, .ref a_this_before, .ref a_this_to, .ref a_this_on, .ref a_this_load, .ref a_this_lead, .ref a_this_bestLead, .ref a_this_silver])), (a_this_st, .inl (cI, 1951, .inl g_7))]) h 1 0 rfl rfl dX12_purse_66 (fun _ => rfl) (fun g_7 h => ?_)
          refine ii_aload_n 1 dX12_purse_67 rfl ?_
          refine ii_get (C := RX12) (T := TX12) (N := 25) (ci := 12) izX12 0 rfl rfl 0 (by decide) kX12_7 rfl dX12_purse_68 ?_
          refine ii_iload 0 dX12_purse_71 rfl ?_
          refine ii_iconst dX12_purse_73 kc1 ?_
          refine ii_iadd dX12_purse_74 ?_
          refine ii_iload_n 3 dX12_purse_75 rfl ?_
          refine ii_iast (fun g_8 => [(a_this, .inr (12, [.ref a_this_st, .ref a_this_images, .ref a_this_isKept, .long v_this_above, .long v_this_below, .int v_this_steps, .ref a_this_step, .ref a_this_with, .int v_this_waiting, .ref a_this_waits, .ref a_this_value, .ref a_this_given, .ref a_this_net, .ref a_this_together, .ref a_this_most, .ref a_this_owes, .ref a_this_can, .ref a_this_row, .ref a_this_before, .ref a_this_to, .ref a_this_on, .ref a_this_load, .ref a_this_lead, .ref a_this_bestLead, .ref a_this_silver])), (a_this_st, .inl (cI, 1951, .inl g_8))]) h 1 0 rfl rfl dX12_purse_76 (fun _ => rfl) (fun g_8 h => ?_)
          refine ii_aload_n 1 dX12_purse_77 rfl ?_
          refine ii_get (C := RX12) (T := TX12) (N := 25) (ci := 12) izX12 0 rfl rfl 0 (by decide) kX12_7 rfl dX12_purse_78 ?_
          refine ii_iload 0 dX12_purse_81 rfl ?_
          refine ii_iconst dX12_purse_83 kc2 ?_
          refine ii_iadd dX12_purse_84 ?_
          refine ii_iload_n 4 dX12_purse_85 rfl ?_
          refine ii_iast (fun g_9 => [(a_this, .inr (12, [.ref a_this_st, .ref a_this_images, .ref a_this_isKept, .long v_this_above, .long v_this_below, .int v_this_steps, .ref a_this_step, .ref a_this_with, .int v_this_waiting, .ref a_this_waits, .ref a_this_value, .ref a_this_given, .ref a_this_net, .ref a_this_together, .ref a_this_most, .ref a_this_owes, .ref a_this_can, .ref a_this_row, .ref a_this_before, .ref a_this_to, .ref a_this_on, .ref a_this_load, .ref a_this_lead, .ref a_this_bestLead, .ref a_this_silver])), (a_this_st, .inl (cI, 1951, .inl g_9))]) h 1 0 rfl rfl dX12_purse_86 (fun _ => rfl) (fun g_9 h => ?_)
          refine ii_iconst dX12_purse_87 kc0 ?_
          refine ii_istore (lv' := [(5, .int (0 : Int32)), (4, .int x_6), (0, .ref a_this), (1, .int p0), (2, .int p1), (3, .int p2)]) dX12_purse_88 (by decide) rfl ?_
          refine ii_lv [2, 1, 0] rfl ?_
          obtain ⟨x_11, hl_10, h⟩ := bnd h
          refine ii_loopX (fun s_10 => [(a_this, .inr (12, [.ref a_this_st, .ref a_this_images, .ref a_this_isKept, .long v_this_above, .long v_this_below, .int v_this_steps, .ref a_this_step, .ref a_this_with, .int v_this_waiting, .ref a_this_waits, .ref a_this_value, .ref a_this_given, .ref a_this_net, .ref a_this_together, .ref a_this_most, .ref a_this_owes, .ref a_this_can, .ref a_this_row, .ref a_this_before, .ref a_this_to, .ref a_this_on, .ref a_this_load, .ref a_this_lead, .ref a_this_bestLead, .ref a_this_silver])), (a_this_st, .inl (cI, 1951, .inl s_10.2))]) (fun s_10 => [(0, .ref a_this), (4, .int x_6), (5, .int s_10.1)]) (fun x_11 => [(a_this, .inr (12, [.ref a_this_st, .ref a_this_images, .ref a_this_isKept, .long v_this_above, .long v_this_below, .int v_this_steps, .ref a_this_step, .ref a_this_with, .int v_this_waiting, .ref a_this_waits, .ref a_this_value, .ref a_this_given, .ref a_this_net, .ref a_this_together, .ref a_this_most, .ref a_this_owes, .ref a_this_can, .ref a_this_row, .ref a_this_before, .ref a_this_to, .ref a_this_on, .ref a_this_load, .ref a_this_lead, .ref a_this_bestLead, .ref a_this_silver])), (a_this_st, .inl (cI, 1951, .inl x_11.2))]) (fun x_11 => [(0, .ref a_this)]) 116 hl_10 rfl rfl ?_ (fun s_10 o h hb_10 hr_10 hx_10 => ?_)
          · skip
            refine ii_aload_n 0 dX12_purse_116 rfl ?_
            refine ii_iconst dX12_purse_117 kc4 ?_
            obtain ⟨c_14, hc_14, h⟩ := bnd h
            refine ii_callVi (As := [.int (4 : Int32)]) (ws' := [(a_this, .inr (12, [.ref a_this_st, .ref a_this_images, .ref a_this_isKept, .long v_this_above, .long v_this_below, .int v_this_steps, .ref a_this_step, .ref a_this_with, .int v_this_waiting, .ref a_this_waits, .ref a_this_value, .ref a_this_given, .ref a_this_net, .ref a_this_together, .ref a_this_most, .ref a_this_owes, .ref a_this_can, .ref a_this_row, .ref a_this_before, .ref a_this_to, .ref a_this_on, .ref a_this_load, .ref a_this_lead, .ref a_this_bestLead, .ref a_this_silver])), (a_this_st, .inl (cI, 1951, .inl c_14.2))]) (st := []) (c_X12_one l D cI cJ cZ cH a_this a_this_before a_this_bestLead a_this_can a_this_given a_this_images a_this_isKept a_this_lead a_this_load a_this_most a_this_net a_this_on a_this_owes a_this_row a_this_silver a_this_st a_this_step a_this_to a_this_together a_this_value a_this_waits a_this_with v_this_above v_this_below x_11.2 v_this_steps v_this_waiting (4 : Int32) hc_14) gzX12_91 rfl rfl rfl eV_X12_one ⟨Nat.le_of_ble_eq_true rfl, Nat.le_of_ble_eq_true rfl⟩ rfl 0 rfl rfl [0, 1] rfl rfl rfl rfl rfl (Nat.le_of_ble_eq_true rfl) (Nat.le_refl _) (Nat.le_refl _) rfl dX12_purse_118 ?_
            cases h
            exact hQ _ _ dX12_purse_121
          · skip
            refine ii_iload 2 dX12_purse_90 rfl ?_
            refine ii_bipush dX12_purse_92 kb10 ?_
            refine ii_icmp_ge (tgt := 116) h dX12_purse_94 (by decide) (fun h => ?_) (fun h => ?_)
            · skip
              refine ii_lv [0] rfl ?_
              cases h
              exact hx_10 (s_10.1, s_10.2) (hr_10 _ rfl)
            · skip
              refine ii_aload_n 0 dX12_purse_97 rfl ?_
              refine ii_get (C := RX12) (T := TX12) (N := 25) (ci := 12) izX12 0 rfl rfl 0 (by decide) kX12_7 rfl dX12_purse_98 ?_
              refine ii_iload 1 dX12_purse_101 rfl ?_
              refine ii_iconst dX12_purse_103 kc3 ?_
              refine ii_iadd dX12_purse_104 ?_
              refine ii_iload 2 dX12_purse_105 rfl ?_
              refine ii_iadd dX12_purse_107 ?_
              refine ii_iconst dX12_purse_108 kc0 ?_
              refine ii_iast (fun g_12 => [(a_this, .inr (12, [.ref a_this_st, .ref a_this_images, .ref a_this_isKept, .long v_this_above, .long v_this_below, .int v_this_steps, .ref a_this_step, .ref a_this_with, .int v_this_waiting, .ref a_this_waits, .ref a_this_value, .ref a_this_given, .ref a_this_net, .ref a_this_together, .ref a_this_most, .ref a_this_owes, .ref a_this_can, .ref a_this_row, .ref a_this_before, .ref a_this_to, .ref a_this_on, .ref a_this_load, .ref a_this_lead, .ref a_this_bestLead, .ref a_this_silver])), (a_this_st, .inl (cI, 1951, .inl g_12))]) h 1 0 rfl rfl dX12_purse_109 (fun _ => rfl) (fun g_12 h => ?_)
              refine ii_iinc (fun x_13 => [(5, .int x_13), (0, .ref a_this), (4, .int x_6)]) h 2 dX12_purse_110 rfl kc1 (by decide) (fun _ => rfl) (fun x_13 h => ?_)
              refine ii_goto (tgt := 90) dX12_purse_113 (by decide) ?_
              refine ii_lv [1, 2, 0] rfl ?_
              cases h
              exact hb_10 (x_13, g_12) rfl
        · skip
          refine ii_bipush dX12_purse_41 kbm4 ?_
          cases h
          exact hQ _ _ dX12_purse_43
      · skip
        refine ii_bipush dX12_purse_28 kbm2 ?_
        cases h
        exact hQ _ _ dX12_purse_30
set_option maxHeartbeats 4000000 in
set_option maxRecDepth 100000 in
theorem c_X12_shares (l : Launch) (D : va_G) (cI cJ cZ cH : ClassId) (a_this a_this_before a_this_bestLead a_this_can a_this_given a_this_images a_this_isKept a_this_lead a_this_load a_this_most a_this_net a_this_on a_this_owes a_this_row a_this_silver a_this_st a_this_step a_this_to a_this_together a_this_value a_this_waits a_this_with : Nat) (v_this_above : Int64) (v_this_below : Int64) (v_this_st : Nat → Int32) (v_this_steps : Int32) (v_this_waiting : Int32) (p0 : Int32) {res : Int32} (h : F_X12_shares v_this_st p0 = some res) : CTi l yX12_shares wzX12_shares { frames := 1, cells := 0, slots := 0, locals := 22 } D [(cI, .int), (cJ, .long), (cZ, .boolean), (cH, .object "TinHouse$House")] [.ref a_this, .int p0] [(a_this, .inr (12, [.ref a_this_st, .ref a_this_images, .ref a_this_isKept, .long v_this_above, .long v_this_below, .int v_this_steps, .ref a_this_step, .ref a_this_with, .int v_this_waiting, .ref a_this_waits, .ref a_this_value, .ref a_this_given, .ref a_this_net, .ref a_this_together, .ref a_this_most, .ref a_this_owes, .ref a_this_can, .ref a_this_row, .ref a_this_before, .ref a_this_to, .ref a_this_on, .ref a_this_load, .ref a_this_lead, .ref a_this_bestLead, .ref a_this_silver])), (a_this_st, .inl (cI, 1951, .inl v_this_st))] res [(a_this, .inr (12, [.ref a_this_st, .ref a_this_images, .ref a_this_isKept, .long v_this_above, .long v_this_below, .int v_this_steps, .ref a_this_step, .ref a_this_with, .int v_this_waiting, .ref a_this_waits, .ref a_this_value, .ref a_this_given, .ref a_this_net, .ref a_this_together, .ref a_this_most, .ref a_this_owes, .ref a_this_can, .ref a_this_row, .ref a_this_before, .ref a_this_to, .ref a_this_on, .ref a_this_load, .ref a_this_lead, .ref a_this_bestLead, .ref a_this_silver])), (a_this_st, .inl (cI, 1951, .inl v_this_st))] := by
  unfold F_X12_shares at h
  refine ii_metI (own := RX12) (lv0 := [(0, .ref a_this), (1, .int p0)]) (by decide) rfl rfl rfl (Nat.le_of_ble_eq_true rfl) (fun {p e s m args below meth c A Q} hQ => ?_)
  refine ii_iconst dX12_shares_0 kc0 ?_
  refine ii_istore_n (lv' := [(2, .int (0 : Int32)), (0, .ref a_this), (1, .int p0)]) dX12_shares_1 rfl (by decide) rfl ?_
  refine ii_iconst dX12_shares_2 kc0 ?_
  refine ii_istore_n (lv' := [(3, .int (0 : Int32)), (2, .int (0 : Int32)), (0, .ref a_this), (1, .int p0)]) dX12_shares_3 rfl (by decide) rfl ?_
  refine ii_lv [2, 3, 1, 0] rfl ?_
  obtain ⟨x_2, hl_1, h⟩ := bnd h
  refine ii_loopX (fun s_1 => [(a_this, .inr (12, [.ref a_this_st, .ref a_this_images, .ref a_this_isKept, .long v_this_above, .long v_this_below, .int v_this_steps, .ref a_this_step, .ref a_this_with, .int v_this_waiting, .ref a_this_waits, .ref a_this_value, .ref a_this_given, .ref a_this_net, .ref a_this_together, .ref a_this_most, .ref a_this_owes, .ref a_this_can, .ref a_this_row, .ref a_this_before, .ref a_this_to, .ref a_this_on, .ref a_this_load, .ref a_this_lead, .ref a_this_bestLead, .ref a_this_silver])), (a_this_st, .inl (cI, 1951, .inl v_this_st))]) (fun s_1 => [(0, .ref a_this), (1, .int p0), (2, .int s_1.1), (3, .int s_1.2)]) (fun x_2 => [(a_this, .inr (12, [.ref a_this_st, .ref a_this_images, .ref a_this_isKept, .long v_this_above, .long v_this_below, .int v_this_steps, .ref a_this_step, .ref a_this_with, .int v_this_waiting, .ref a_this_waits, .ref a_this_value, .ref a_this_given, .ref a_this_net, .ref a_this_together, .ref a_this_most, .ref a_this_owes, .ref a_this_can, .ref a_this_row, .ref a_this_before, .ref a_this_to, .ref a_this_on, .ref a_this_load, .ref a_this_lead, .ref a_this_bestLead, .ref a_this_silver])), (a_this_st, .inl (cI, 1951, .inl v_this_st))]) (fun x_2 => [(2, .int x_2.1)]) 27 hl_1 rfl rfl ?_ (fun s_1 o h hb_1 hr_1 hx_1 => ?_)
  · skip
    refine ii_iload_n 0 dX12_shares_27 rfl ?_
    cases h
    exact hQ _ _ dX12_shares_28
  · skip
    refine ii_iload_n 3 dX12_shares_4 rfl ?_
    refine ii_bipush dX12_shares_5 kb10 ?_
    refine ii_icmp_ge (tgt := 27) h dX12_shares_7 (by decide) (fun h => ?_) (fun h => ?_)
    · skip
      refine ii_lv [2] rfl ?_
      cases h
      exact hx_1 (s_1.1, s_1.2) (hr_1 _ rfl)
    · skip
      refine ii_iload_n 2 dX12_shares_10 rfl ?_
      refine ii_aload_n 0 dX12_shares_11 rfl ?_
      refine ii_iload_n 1 dX12_shares_12 rfl ?_
      refine ii_iconst dX12_shares_13 kc3 ?_
      refine ii_iload_n 3 dX12_shares_14 rfl ?_
      refine ii_iadd dX12_shares_15 ?_
      obtain ⟨c_3, hc_3, h⟩ := bnd h
      refine ii_callVi (As := [.int p0, .int ((3 : Int32) + s_1.2)]) (ws' := [(a_this, .inr (12, [.ref a_this_st, .ref a_this_images, .ref a_this_isKept, .long v_this_above, .long v_this_below, .int v_this_steps, .ref a_this_step, .ref a_this_with, .int v_this_waiting, .ref a_this_waits, .ref a_this_value, .ref a_this_given, .ref a_this_net, .ref a_this_together, .ref a_this_most, .ref a_this_owes, .ref a_this_can, .ref a_this_row, .ref a_this_before, .ref a_this_to, .ref a_this_on, .ref a_this_load, .ref a_this_lead, .ref a_this_bestLead, .ref a_this_silver])), (a_this_st, .inl (cI, 1951, .inl v_this_st))]) (st := [.int s_1.1]) (c_X12_purseOf l D cI cJ cZ cH a_this a_this_before a_this_bestLead a_this_can a_this_given a_this_images a_this_isKept a_this_lead a_this_load a_this_most a_this_net a_this_on a_this_owes a_this_row a_this_silver a_this_st a_this_step a_this_to a_this_together a_this_value a_this_waits a_this_with v_this_above v_this_below v_this_st v_this_steps v_this_waiting p0 ((3 : Int32) + s_1.2) hc_3) gzX12_204 rfl rfl rfl eV_X12_purseOf ⟨Nat.le_of_ble_eq_true rfl, Nat.le_of_ble_eq_true rfl⟩ rfl 0 rfl rfl [0, 1] rfl rfl rfl rfl rfl (Nat.le_of_ble_eq_true rfl) (Nat.le_refl _) (Nat.le_refl _) rfl dX12_shares_16 ?_
      refine ii_iadd dX12_shares_19 ?_
      refine ii_topI h (fun x_4 h => ?_)
      refine ii_istore_n (lv' := [(2, .int x_4), (0, .ref a_this), (1, .int p0), (3, .int s_1.2)]) dX12_shares_20 rfl (by decide) rfl ?_
      refine ii_iinc (fun x_5 => [(3, .int x_5), (2, .int x_4), (0, .ref a_this), (1, .int p0)]) h 3 dX12_shares_21 rfl kc1 (by decide) (fun _ => rfl) (fun x_5 h => ?_)
      refine ii_goto (tgt := 4) dX12_shares_24 (by decide) ?_
      refine ii_lv [2, 3, 1, 0] rfl ?_
      cases h
      exact hb_1 (x_4, x_5) rfl
set_option maxHeartbeats 4000000 in
set_option maxRecDepth 100000 in
theorem c_X12_share (l : Launch) (D : va_G) (cI cJ cZ cH : ClassId) (a_this a_this_before a_this_bestLead a_this_can a_this_given a_this_images a_this_isKept a_this_lead a_this_load a_this_most a_this_net a_this_on a_this_owes a_this_row a_this_silver a_this_st a_this_step a_this_to a_this_together a_this_value a_this_waits a_this_with : Nat) (v_this_above : Int64) (v_this_below : Int64) (v_this_st : Nat → Int32) (v_this_steps : Int32) (v_this_waiting : Int32) (p0 : Int32) (p1 : Int32) (p2 : Int32) {res : Int32 × (Nat → Int32)} (h : F_X12_share v_this_st p0 p1 p2 = some res) : CTi l yX12_share wzX12_share { frames := 2, cells := 0, slots := 0, locals := 47 } D [(cI, .int), (cJ, .long), (cZ, .boolean), (cH, .object "TinHouse$House")] [.ref a_this, .int p0, .int p1, .int p2] [(a_this, .inr (12, [.ref a_this_st, .ref a_this_images, .ref a_this_isKept, .long v_this_above, .long v_this_below, .int v_this_steps, .ref a_this_step, .ref a_this_with, .int v_this_waiting, .ref a_this_waits, .ref a_this_value, .ref a_this_given, .ref a_this_net, .ref a_this_together, .ref a_this_most, .ref a_this_owes, .ref a_this_can, .ref a_this_row, .ref a_this_before, .ref a_this_to, .ref a_this_on, .ref a_this_load, .ref a_this_lead, .ref a_this_bestLead, .ref a_this_silver])), (a_this_st, .inl (cI, 1951, .inl v_this_st))] res.1 [(a_this, .inr (12, [.ref a_this_st, .ref a_this_images, .ref a_this_isKept, .long v_this_above, .long v_this_below, .int v_this_steps, .ref a_this_step, .ref a_this_with, .int v_this_waiting, .ref a_this_waits, .ref a_this_value, .ref a_this_given, .ref a_this_net, .ref a_this_together, .ref a_this_most, .ref a_this_owes, .ref a_this_can, .ref a_this_row, .ref a_this_before, .ref a_this_to, .ref a_this_on, .ref a_this_load, .ref a_this_lead, .ref a_this_bestLead, .ref a_this_silver])), (a_this_st, .inl (cI, 1951, .inl res.2))] := by
  unfold F_X12_share at h
  refine ii_metI (own := RX12) (lv0 := [(0, .ref a_this), (1, .int p0), (2, .int p1), (3, .int p2)]) (by decide) rfl rfl rfl (Nat.le_of_ble_eq_true rfl) (fun {p e s m args below meth c A Q} hQ => ?_)
  refine ii_aload_n 0 dX12_share_0 rfl ?_
  refine ii_iconst dX12_share_1 kc4 ?_
  refine ii_iload_n 1 dX12_share_2 rfl ?_
  obtain ⟨c_1, hc_1, h⟩ := bnd h
  refine ii_callVi (As := [.int (4 : Int32), .int p0]) (ws' := [(a_this, .inr (12, [.ref a_this_st, .ref a_this_images, .ref a_this_isKept, .long v_this_above, .long v_this_below, .int v_this_steps, .ref a_this_step, .ref a_this_with, .int v_this_waiting, .ref a_this_waits, .ref a_this_value, .ref a_this_given, .ref a_this_net, .ref a_this_together, .ref a_this_most, .ref a_this_owes, .ref a_this_can, .ref a_this_row, .ref a_this_before, .ref a_this_to, .ref a_this_on, .ref a_this_load, .ref a_this_lead, .ref a_this_bestLead, .ref a_this_silver])), (a_this_st, .inl (cI, 1951, .inl v_this_st))]) (st := []) (c_X12_is l D cI cJ cZ cH a_this a_this_before a_this_bestLead a_this_can a_this_given a_this_images a_this_isKept a_this_lead a_this_load a_this_most a_this_net a_this_on a_this_owes a_this_row a_this_silver a_this_st a_this_step a_this_to a_this_together a_this_value a_this_waits a_this_with v_this_above v_this_below v_this_st v_this_steps v_this_waiting (4 : Int32) p0 hc_1) gzX12_173 rfl rfl rfl eV_X12_is ⟨Nat.le_of_ble_eq_true rfl, Nat.le_of_ble_eq_true rfl⟩ rfl 0 rfl rfl [0, 1] rfl rfl rfl rfl rfl (Nat.le_of_ble_eq_true rfl) (Nat.le_refl _) (Nat.le_refl _) rfl dX12_share_3 ?_
  refine ii_if_eq (tgt := 30) h dX12_share_6 (by decide) (fun h => ?_) (fun h => ?_)
  · skip
    refine ii_bipush dX12_share_30 kbm2 ?_
    cases h
    exact hQ _ _ dX12_share_32
  · skip
    refine ii_aload_n 0 dX12_share_9 rfl ?_
    refine ii_iconst dX12_share_10 kc0 ?_
    refine ii_iload_n 2 dX12_share_11 rfl ?_
    obtain ⟨c_2, hc_2, h⟩ := bnd h
    refine ii_callVi (As := [.int (0 : Int32), .int p1]) (ws' := [(a_this, .inr (12, [.ref a_this_st, .ref a_this_images, .ref a_this_isKept, .long v_this_above, .long v_this_below, .int v_this_steps, .ref a_this_step, .ref a_this_with, .int v_this_waiting, .ref a_this_waits, .ref a_this_value, .ref a_this_given, .ref a_this_net, .ref a_this_together, .ref a_this_most, .ref a_this_owes, .ref a_this_can, .ref a_this_row, .ref a_this_before, .ref a_this_to, .ref a_this_on, .ref a_this_load, .ref a_this_lead, .ref a_this_bestLead, .ref a_this_silver])), (a_this_st, .inl (cI, 1951, .inl v_this_st))]) (st := []) (c_X12_is l D cI cJ cZ cH a_this a_this_before a_this_bestLead a_this_can a_this_given a_this_images a_this_isKept a_this_lead a_this_load a_this_most a_this_net a_this_on a_this_owes a_this_row a_this_silver a_this_st a_this_step a_this_to a_this_together a_this_value a_this_waits a_this_with v_this_above v_this_below v_this_st v_this_steps v_this_waiting (0 : Int32) p1 hc_2) gzX12_173 rfl rfl rfl eV_X12_is ⟨Nat.le_of_ble_eq_true rfl, Nat.le_of_ble_eq_true rfl⟩ rfl 0 rfl rfl [0, 1] rfl rfl rfl rfl rfl (Nat.le_of_ble_eq_true rfl) (Nat.le_refl _) (Nat.le_refl _) rfl dX12_share_12 ?_
    refine ii_if_eq (tgt := 30) h dX12_share_15 (by decide) (fun h => ?_) (fun h => ?_)
    · skip
      refine ii_bipush dX12_share_30 kbm2 ?_
      cases h
      exact hQ _ _ dX12_share_32
    · skip
      refine ii_iload_n 3 dX12_share_18 rfl ?_
      refine ii_i2l dX12_share_19 ?_
      refine ii_lconst dX12_share_20 kl1 ?_
      refine ii_ldc2 (v := 30) dX12_share_21 kX12_207 ?_
      obtain ⟨c_3, hc_3, h⟩ := bnd h
      refine ii_callSi (As := [.long p2.toInt64, .long (1 : Int64), .long (30 : Int64)]) (ws' := [(a_this, .inr (12, [.ref a_this_st, .ref a_this_images, .ref a_this_isKept, .long v_this_above, .long v_this_below, .int v_this_steps, .ref a_this_step, .ref a_this_with, .int v_this_waiting, .ref a_this_waits, .ref a_this_value, .ref a_this_given, .ref a_this_net, .ref a_this_together, .ref a_this_most, .ref a_this_owes, .ref a_this_can, .ref a_this_row, .ref a_this_before, .ref a_this_to, .ref a_this_on, .ref a_this_load, .ref a_this_lead, .ref a_this_bestLead, .ref a_this_silver])), (a_this_st, .inl (cI, 1951, .inl v_this_st))]) (st := []) (c_X12_in l D cI cJ cZ cH p2.toInt64 (1 : Int64) (30 : Int64) hc_3) gzX12_79 rfl rfl rfl eS_X12_in ⟨Nat.le_of_ble_eq_true rfl, Nat.le_of_ble_eq_true rfl⟩ rfl [] rfl rfl rfl rfl rfl (Nat.le_of_ble_eq_true rfl) (Nat.le_refl _) (Nat.le_refl _) rfl dX12_share_24 ?_
      refine ii_if_ne (tgt := 33) h dX12_share_27 (by decide) (fun h => ?_) (fun h => ?_)
      · skip
        refine ii_aload_n 0 dX12_share_33 rfl ?_
        refine ii_iload_n 1 dX12_share_34 rfl ?_
        obtain ⟨c_4, hc_4, h⟩ := bnd h
        refine ii_callVi (As := [.int p0]) (ws' := [(a_this, .inr (12, [.ref a_this_st, .ref a_this_images, .ref a_this_isKept, .long v_this_above, .long v_this_below, .int v_this_steps, .ref a_this_step, .ref a_this_with, .int v_this_waiting, .ref a_this_waits, .ref a_this_value, .ref a_this_given, .ref a_this_net, .ref a_this_together, .ref a_this_most, .ref a_this_owes, .ref a_this_can, .ref a_this_row, .ref a_this_before, .ref a_this_to, .ref a_this_on, .ref a_this_load, .ref a_this_lead, .ref a_this_bestLead, .ref a_this_silver])), (a_this_st, .inl (cI, 1951, .inl v_this_st))]) (st := []) (c_X12_shares l D cI cJ cZ cH a_this a_this_before a_this_bestLead a_this_can a_this_given a_this_images a_this_isKept a_this_lead a_this_load a_this_most a_this_net a_this_on a_this_owes a_this_row a_this_silver a_this_st a_this_step a_this_to a_this_together a_this_value a_this_waits a_this_with v_this_above v_this_below v_this_st v_this_steps v_this_waiting p0 hc_4) gzX12_209 rfl rfl rfl eV_X12_shares ⟨Nat.le_of_ble_eq_true rfl, Nat.le_of_ble_eq_true rfl⟩ rfl 0 rfl rfl [0, 1] rfl rfl rfl rfl rfl (Nat.le_of_ble_eq_true rfl) (Nat.le_refl _) (Nat.le_refl _) rfl dX12_share_35 ?_
        refine ii_iload_n 3 dX12_share_38 rfl ?_
        refine ii_iadd dX12_share_39 ?_
        refine ii_bipush dX12_share_40 kb30 ?_
        refine ii_icmp_le (tgt := 48) h dX12_share_42 (by decide) (fun h => ?_) (fun h => ?_)
        · skip
          refine ii_aload_n 0 dX12_share_48 rfl ?_
          refine ii_get (C := RX12) (T := TX12) (N := 25) (ci := 12) izX12 0 rfl rfl 0 (by decide) kX12_7 rfl dX12_share_49 ?_
          refine ii_sipush dX12_share_52 ks1552 ?_
          refine ii_bipush dX12_share_55 kb13 ?_
          refine ii_iload_n 1 dX12_share_57 rfl ?_
          refine ii_imul dX12_share_58 ?_
          refine ii_iadd dX12_share_59 ?_
          refine ii_iconst dX12_share_60 kc3 ?_
          refine ii_iadd dX12_share_61 ?_
          refine ii_iload_n 2 dX12_share_62 rfl ?_
          refine ii_iadd dX12_share_63 ?_
          refine ii_dup2 dX12_share_64 rfl rfl ?_
          refine ii_iald h 1 0 rfl rfl dX12_share_65 (fun t_5 h => ?_)
          refine ii_iload_n 3 dX12_share_66 rfl ?_
          refine ii_iadd dX12_share_67 ?_
          refine ii_iast (fun g_6 => [(a_this, .inr (12, [.ref a_this_st, .ref a_this_images, .ref a_this_isKept, .long v_this_above, .long v_this_below, .int v_this_steps, .ref a_this_step, .ref a_this_with, .int v_this_waiting, .ref a_this_waits, .ref a_this_value, .ref a_this_given, .ref a_this_net, .ref a_this_together, .ref a_this_most, .ref a_this_owes, .ref a_this_can, .ref a_this_row, .ref a_this_before, .ref a_this_to, .ref a_this_on, .ref a_this_load, .ref a_this_lead, .ref a_this_bestLead, .ref a_this_silver])), (a_this_st, .inl (cI, 1951, .inl g_6))]) h 1 0 rfl rfl dX12_share_68 (fun _ => rfl) (fun g_6 h => ?_)
          refine ii_aload_n 0 dX12_share_69 rfl ?_
          refine ii_iload_n 1 dX12_share_70 rfl ?_
          refine ii_iconst dX12_share_71 kc3 ?_
          refine ii_iload_n 2 dX12_share_72 rfl ?_
          refine ii_iadd dX12_share_73 ?_
          obtain ⟨c_7, hc_7, h⟩ := bnd h
          refine ii_callVi (As := [.int p0, .int ((3 : Int32) + p1)]) (ws' := [(a_this, .inr (12, [.ref a_this_st, .ref a_this_images, .ref a_this_isKept, .long v_this_above, .long v_this_below, .int v_this_steps, .ref a_this_step, .ref a_this_with, .int v_this_waiting, .ref a_this_waits, .ref a_this_value, .ref a_this_given, .ref a_this_net, .ref a_this_together, .ref a_this_most, .ref a_this_owes, .ref a_this_can, .ref a_this_row, .ref a_this_before, .ref a_this_to, .ref a_this_on, .ref a_this_load, .ref a_this_lead, .ref a_this_bestLead, .ref a_this_silver])), (a_this_st, .inl (cI, 1951, .inl g_6))]) (st := []) (c_X12_purseOf l D cI cJ cZ cH a_this a_this_before a_this_bestLead a_this_can a_this_given a_this_images a_this_isKept a_this_lead a_this_load a_this_most a_this_net a_this_on a_this_owes a_this_row a_this_silver a_this_st a_this_step a_this_to a_this_together a_this_value a_this_waits a_this_with v_this_above v_this_below g_6 v_this_steps v_this_waiting p0 ((3 : Int32) + p1) hc_7) gzX12_204 rfl rfl rfl eV_X12_purseOf ⟨Nat.le_of_ble_eq_true rfl, Nat.le_of_ble_eq_true rfl⟩ rfl 0 rfl rfl [0, 1] rfl rfl rfl rfl rfl (Nat.le_of_ble_eq_true rfl) (Nat.le_refl _) (Nat.le_refl _) rfl dX12_share_74 ?_
          cases h
          exact hQ _ _ dX12_share_77
        · skip
          refine ii_bipush dX12_share_45 kbm3 ?_
          cases h
          exact hQ _ _ dX12_share_47
      · skip
        refine ii_bipush dX12_share_30 kbm2 ?_
        cases h
        exact hQ _ _ dX12_share_32
set_option maxHeartbeats 4000000 in
set_option maxRecDepth 100000 in
theorem c_X12_leave (l : Launch) (D : va_G) (cI cJ cZ cH : ClassId) (a_this a_this_before a_this_bestLead a_this_can a_this_given a_this_images a_this_isKept a_this_lead a_this_load a_this_most a_this_net a_this_on a_this_owes a_this_row a_this_silver a_this_st a_this_step a_this_to a_this_together a_this_value a_this_waits a_this_with : Nat) (v_this_above : Int64) (v_this_below : Int64) (v_this_given : Nat → Int64) (v_this_st : Nat → Int32) (v_this_step : Nat → Int32) (v_this_steps : Int32) (v_this_value : Nat → Int64) (v_this_waiting : Int32) (v_this_waits : Nat → Int32) (v_this_with : Nat → Int32) (p0 : Int32) (p1 : Int32) (p2 : Int32) {res : Int32 × (Nat → Int64) × (Nat → Int32) × (Nat → Int32) × Int32 × (Nat → Int64) × Int32 × (Nat → Int32) × (Nat → Int32)} (h : F_X12_leave v_this_given v_this_st v_this_step v_this_steps v_this_value v_this_waiting v_this_waits v_this_with p0 p1 p2 = some res) : CTi l yX12_leave wzX12_leave { frames := 5, cells := 0, slots := 0, locals := 124 } D [(cI, .int), (cJ, .long), (cZ, .boolean), (cH, .object "TinHouse$House")] [.ref a_this, .int p0, .int p1, .int p2] [(a_this, .inr (12, [.ref a_this_st, .ref a_this_images, .ref a_this_isKept, .long v_this_above, .long v_this_below, .int v_this_steps, .ref a_this_step, .ref a_this_with, .int v_this_waiting, .ref a_this_waits, .ref a_this_value, .ref a_this_given, .ref a_this_net, .ref a_this_together, .ref a_this_most, .ref a_this_owes, .ref a_this_can, .ref a_this_row, .ref a_this_before, .ref a_this_to, .ref a_this_on, .ref a_this_load, .ref a_this_lead, .ref a_this_bestLead, .ref a_this_silver])), (a_this_given, .inl (cJ, 5, .inr (.inl v_this_given))), (a_this_st, .inl (cI, 1951, .inl v_this_st)), (a_this_step, .inl (cI, 70, .inl v_this_step)), (a_this_value, .inl (cJ, 70, .inr (.inl v_this_value))), (a_this_waits, .inl (cI, 70, .inl v_this_waits)), (a_this_with, .inl (cI, 70, .inl v_this_with))] res.1 [(a_this, .inr (12, [.ref a_this_st, .ref a_this_images, .ref a_this_isKept, .long v_this_above, .long v_this_below, .int res.2.2.2.2.1, .ref a_this_step, .ref a_this_with, .int res.2.2.2.2.2.2.1, .ref a_this_waits, .ref a_this_value, .ref a_this_given, .ref a_this_net, .ref a_this_together, .ref a_this_most, .ref a_this_owes, .ref a_this_can, .ref a_this_row, .ref a_this_before, .ref a_this_to, .ref a_this_on, .ref a_this_load, .ref a_this_lead, .ref a_this_bestLead, .ref a_this_silver])), (a_this_given, .inl (cJ, 5, .inr (.inl res.2.1))), (a_this_st, .inl (cI, 1951, .inl res.2.2.1)), (a_this_step, .inl (cI, 70, .inl res.2.2.2.1)), (a_this_value, .inl (cJ, 70, .inr (.inl res.2.2.2.2.2.1))), (a_this_waits, .inl (cI, 70, .inl res.2.2.2.2.2.2.2.1)), (a_this_with, .inl (cI, 70, .inl res.2.2.2.2.2.2.2.2))] := by
  unfold F_X12_leave at h
  refine ii_metI (own := RX12) (lv0 := [(0, .ref a_this), (1, .int p0), (2, .int p1), (3, .int p2)]) (by decide) rfl rfl rfl (Nat.le_of_ble_eq_true rfl) (fun {p e s m args below meth c A Q} hQ => ?_)
  refine ii_aload_n 0 dX12_leave_0 rfl ?_
  refine ii_iconst dX12_leave_1 kc4 ?_
  refine ii_iload_n 1 dX12_leave_2 rfl ?_
  obtain ⟨c_1, hc_1, h⟩ := bnd h
  refine ii_callVi (As := [.int (4 : Int32), .int p0]) (ws' := [(a_this, .inr (12, [.ref a_this_st, .ref a_this_images, .ref a_this_isKept, .long v_this_above, .long v_this_below, .int v_this_steps, .ref a_this_step, .ref a_this_with, .int v_this_waiting, .ref a_this_waits, .ref a_this_value, .ref a_this_given, .ref a_this_net, .ref a_this_together, .ref a_this_most, .ref a_this_owes, .ref a_this_can, .ref a_this_row, .ref a_this_before, .ref a_this_to, .ref a_this_on, .ref a_this_load, .ref a_this_lead, .ref a_this_bestLead, .ref a_this_silver])), (a_this_given, .inl (cJ, 5, .inr (.inl v_this_given))), (a_this_st, .inl (cI, 1951, .inl v_this_st)), (a_this_step, .inl (cI, 70, .inl v_this_step)), (a_this_value, .inl (cJ, 70, .inr (.inl v_this_value))), (a_this_waits, .inl (cI, 70, .inl v_this_waits)), (a_this_with, .inl (cI, 70, .inl v_this_with))]) (st := []) (c_X12_is l D cI cJ cZ cH a_this a_this_before a_this_bestLead a_this_can a_this_given a_this_images a_this_isKept a_this_lead a_this_load a_this_most a_this_net a_this_on a_this_owes a_this_row a_this_silver a_this_st a_this_step a_this_to a_this_together a_this_value a_this_waits a_this_with v_this_above v_this_below v_this_st v_this_steps v_this_waiting (4 : Int32) p0 hc_1) gzX12_173 rfl rfl rfl eV_X12_is ⟨Nat.le_of_ble_eq_true rfl, Nat.le_of_ble_eq_true rfl⟩ rfl 0 rfl rfl [0, 2] rfl rfl rfl rfl rfl (Nat.le_of_ble_eq_true rfl) (Nat.le_refl _) (Nat.le_refl _) rfl dX12_leave_3 ?_
  refine ii_if_eq (tgt := 36) h dX12_leave_6 (by decide) (fun h => ?_) (fun h => ?_)
  · skip
    refine ii_bipush dX12_leave_36 kbm2 ?_
    cases h
    exact hQ _ _ dX12_leave_38
  · skip
    refine ii_aload_n 0 dX12_leave_9 rfl ?_
    refine ii_iconst dX12_leave_10 kc0 ?_
    refine ii_iload_n 2 dX12_leave_11 rfl ?_
    obtain ⟨c_2, hc_2, h⟩ := bnd h
    refine ii_callVi (As := [.int (0 : Int32), .int p1]) (ws' := [(a_this, .inr (12, [.ref a_this_st, .ref a_this_images, .ref a_this_isKept, .long v_this_above, .long v_this_below, .int v_this_steps, .ref a_this_step, .ref a_this_with, .int v_this_waiting, .ref a_this_waits, .ref a_this_value, .ref a_this_given, .ref a_this_net, .ref a_this_together, .ref a_this_most, .ref a_this_owes, .ref a_this_can, .ref a_this_row, .ref a_this_before, .ref a_this_to, .ref a_this_on, .ref a_this_load, .ref a_this_lead, .ref a_this_bestLead, .ref a_this_silver])), (a_this_given, .inl (cJ, 5, .inr (.inl v_this_given))), (a_this_st, .inl (cI, 1951, .inl v_this_st)), (a_this_step, .inl (cI, 70, .inl v_this_step)), (a_this_value, .inl (cJ, 70, .inr (.inl v_this_value))), (a_this_waits, .inl (cI, 70, .inl v_this_waits)), (a_this_with, .inl (cI, 70, .inl v_this_with))]) (st := []) (c_X12_is l D cI cJ cZ cH a_this a_this_before a_this_bestLead a_this_can a_this_given a_this_images a_this_isKept a_this_lead a_this_load a_this_most a_this_net a_this_on a_this_owes a_this_row a_this_silver a_this_st a_this_step a_this_to a_this_together a_this_value a_this_waits a_this_with v_this_above v_this_below v_this_st v_this_steps v_this_waiting (0 : Int32) p1 hc_2) gzX12_173 rfl rfl rfl eV_X12_is ⟨Nat.le_of_ble_eq_true rfl, Nat.le_of_ble_eq_true rfl⟩ rfl 0 rfl rfl [0, 2] rfl rfl rfl rfl rfl (Nat.le_of_ble_eq_true rfl) (Nat.le_refl _) (Nat.le_refl _) rfl dX12_leave_12 ?_
    refine ii_if_eq (tgt := 36) h dX12_leave_15 (by decide) (fun h => ?_) (fun h => ?_)
    · skip
      refine ii_bipush dX12_leave_36 kbm2 ?_
      cases h
      exact hQ _ _ dX12_leave_38
    · skip
      refine ii_iload_n 3 dX12_leave_18 rfl ?_
      refine ii_i2l dX12_leave_19 ?_
      refine ii_lconst dX12_leave_20 kl0 ?_
      refine ii_aload_n 0 dX12_leave_21 rfl ?_
      refine ii_iload_n 1 dX12_leave_22 rfl ?_
      refine ii_iconst dX12_leave_23 kc1 ?_
      obtain ⟨c_3, hc_3, h⟩ := bnd h
      refine ii_callVi (As := [.int p0, .int (1 : Int32)]) (ws' := [(a_this, .inr (12, [.ref a_this_st, .ref a_this_images, .ref a_this_isKept, .long v_this_above, .long v_this_below, .int v_this_steps, .ref a_this_step, .ref a_this_with, .int v_this_waiting, .ref a_this_waits, .ref a_this_value, .ref a_this_given, .ref a_this_net, .ref a_this_together, .ref a_this_most, .ref a_this_owes, .ref a_this_can, .ref a_this_row, .ref a_this_before, .ref a_this_to, .ref a_this_on, .ref a_this_load, .ref a_this_lead, .ref a_this_bestLead, .ref a_this_silver])), (a_this_given, .inl (cJ, 5, .inr (.inl v_this_given))), (a_this_st, .inl (cI, 1951, .inl v_this_st)), (a_this_step, .inl (cI, 70, .inl v_this_step)), (a_this_value, .inl (cJ, 70, .inr (.inl v_this_value))), (a_this_waits, .inl (cI, 70, .inl v_this_waits)), (a_this_with, .inl (cI, 70, .inl v_this_with))]) (st := [.long (0 : Int64), .long p2.toInt64]) (c_X12_purseOf l D cI cJ cZ cH a_this a_this_before a_this_bestLead a_this_can a_this_given a_this_images a_this_isKept a_this_lead a_this_load a_this_most a_this_net a_this_on a_this_owes a_this_row a_this_silver a_this_st a_this_step a_this_to a_this_together a_this_value a_this_waits a_this_with v_this_above v_this_below v_this_st v_this_steps v_this_waiting p0 (1 : Int32) hc_3) gzX12_204 rfl rfl rfl eV_X12_purseOf ⟨Nat.le_of_ble_eq_true rfl, Nat.le_of_ble_eq_true rfl⟩ rfl 0 rfl rfl [0, 2] rfl rfl rfl rfl rfl (Nat.le_of_ble_eq_true rfl) (Nat.le_refl _) (Nat.le_refl _) rfl dX12_leave_24 ?_
      refine ii_iconst dX12_leave_27 kc1 ?_
      refine ii_isub dX12_leave_28 ?_
      refine ii_i2l dX12_leave_29 ?_
      obtain ⟨c_4, hc_4, h⟩ := bnd h
      refine ii_callSi (As := [.long p2.toInt64, .long (0 : Int64), .long ((c_3 - (1 : Int32)).toInt64)]) (ws' := [(a_this, .inr (12, [.ref a_this_st, .ref a_this_images, .ref a_this_isKept, .long v_this_above, .long v_this_below, .int v_this_steps, .ref a_this_step, .ref a_this_with, .int v_this_waiting, .ref a_this_waits, .ref a_this_value, .ref a_this_given, .ref a_this_net, .ref a_this_together, .ref a_this_most, .ref a_this_owes, .ref a_this_can, .ref a_this_row, .ref a_this_before, .ref a_this_to, .ref a_this_on, .ref a_this_load, .ref a_this_lead, .ref a_this_bestLead, .ref a_this_silver])), (a_this_given, .inl (cJ, 5, .inr (.inl v_this_given))), (a_this_st, .inl (cI, 1951, .inl v_this_st)), (a_this_step, .inl (cI, 70, .inl v_this_step)), (a_this_value, .inl (cJ, 70, .inr (.inl v_this_value))), (a_this_waits, .inl (cI, 70, .inl v_this_waits)), (a_this_with, .inl (cI, 70, .inl v_this_with))]) (st := []) (c_X12_in l D cI cJ cZ cH p2.toInt64 (0 : Int64) ((c_3 - (1 : Int32)).toInt64) hc_4) gzX12_79 rfl rfl rfl eS_X12_in ⟨Nat.le_of_ble_eq_true rfl, Nat.le_of_ble_eq_true rfl⟩ rfl [] rfl rfl rfl rfl rfl (Nat.le_of_ble_eq_true rfl) (Nat.le_refl _) (Nat.le_refl _) rfl dX12_leave_30 ?_
      refine ii_if_ne (tgt := 39) h dX12_leave_33 (by decide) (fun h => ?_) (fun h => ?_)
      · skip
        refine ii_aload_n 0 dX12_leave_39 rfl ?_
        refine ii_iload_n 1 dX12_leave_40 rfl ?_
        refine ii_iconst dX12_leave_41 kc3 ?_
        refine ii_iload_n 2 dX12_leave_42 rfl ?_
        refine ii_iadd dX12_leave_43 ?_
        obtain ⟨c_5, hc_5, h⟩ := bnd h
        refine ii_callVi (As := [.int p0, .int ((3 : Int32) + p1)]) (ws' := [(a_this, .inr (12, [.ref a_this_st, .ref a_this_images, .ref a_this_isKept, .long v_this_above, .long v_this_below, .int v_this_steps, .ref a_this_step, .ref a_this_with, .int v_this_waiting, .ref a_this_waits, .ref a_this_value, .ref a_this_given, .ref a_this_net, .ref a_this_together, .ref a_this_most, .ref a_this_owes, .ref a_this_can, .ref a_this_row, .ref a_this_before, .ref a_this_to, .ref a_this_on, .ref a_this_load, .ref a_this_lead, .ref a_this_bestLead, .ref a_this_silver])), (a_this_given, .inl (cJ, 5, .inr (.inl v_this_given))), (a_this_st, .inl (cI, 1951, .inl v_this_st)), (a_this_step, .inl (cI, 70, .inl v_this_step)), (a_this_value, .inl (cJ, 70, .inr (.inl v_this_value))), (a_this_waits, .inl (cI, 70, .inl v_this_waits)), (a_this_with, .inl (cI, 70, .inl v_this_with))]) (st := []) (c_X12_purseOf l D cI cJ cZ cH a_this a_this_before a_this_bestLead a_this_can a_this_given a_this_images a_this_isKept a_this_lead a_this_load a_this_most a_this_net a_this_on a_this_owes a_this_row a_this_silver a_this_st a_this_step a_this_to a_this_together a_this_value a_this_waits a_this_with v_this_above v_this_below v_this_st v_this_steps v_this_waiting p0 ((3 : Int32) + p1) hc_5) gzX12_204 rfl rfl rfl eV_X12_purseOf ⟨Nat.le_of_ble_eq_true rfl, Nat.le_of_ble_eq_true rfl⟩ rfl 0 rfl rfl [0, 2] rfl rfl rfl rfl rfl (Nat.le_of_ble_eq_true rfl) (Nat.le_refl _) (Nat.le_refl _) rfl dX12_leave_44 ?_
        refine ii_istore (lv' := [(4, .int c_5), (0, .ref a_this), (1, .int p0), (2, .int p1), (3, .int p2)]) dX12_leave_47 (by decide) rfl ?_
        refine ii_iload 0 dX12_leave_49 rfl ?_
        refine ii_if_ne (tgt := 57) h dX12_leave_51 (by decide) (fun h => ?_) (fun h => ?_)
        · skip
          refine ii_aload_n 1 dX12_leave_57 rfl ?_
          refine ii_iload_n 2 dX12_leave_58 rfl ?_
          refine ii_iconst dX12_leave_59 kc2 ?_
          obtain ⟨c_6, hc_6, h⟩ := bnd h
          refine ii_callVi (As := [.int p0, .int (2 : Int32)]) (ws' := [(a_this, .inr (12, [.ref a_this_st, .ref a_this_images, .ref a_this_isKept, .long v_this_above, .long v_this_below, .int v_this_steps, .ref a_this_step, .ref a_this_with, .int v_this_waiting, .ref a_this_waits, .ref a_this_value, .ref a_this_given, .ref a_this_net, .ref a_this_together, .ref a_this_most, .ref a_this_owes, .ref a_this_can, .ref a_this_row, .ref a_this_before, .ref a_this_to, .ref a_this_on, .ref a_this_load, .ref a_this_lead, .ref a_this_bestLead, .ref a_this_silver])), (a_this_given, .inl (cJ, 5, .inr (.inl v_this_given))), (a_this_st, .inl (cI, 1951, .inl v_this_st)), (a_this_step, .inl (cI, 70, .inl v_this_step)), (a_this_value, .inl (cJ, 70, .inr (.inl v_this_value))), (a_this_waits, .inl (cI, 70, .inl v_this_waits)), (a_this_with, .inl (cI, 70, .inl v_this_with))]) (st := []) (c_X12_purseOf l D cI cJ cZ cH a_this a_this_before a_this_bestLead a_this_can a_this_given a_this_images a_this_isKept a_this_lead a_this_load a_this_most a_this_net a_this_on a_this_owes a_this_row a_this_silver a_this_st a_this_step a_this_to a_this_together a_this_value a_this_waits a_this_with v_this_above v_this_below v_this_st v_this_steps v_this_waiting p0 (2 : Int32) hc_6) gzX12_204 rfl rfl rfl eV_X12_purseOf ⟨Nat.le_of_ble_eq_true rfl, Nat.le_of_ble_eq_true rfl⟩ rfl 0 rfl rfl [0, 2] rfl rfl rfl rfl rfl (Nat.le_of_ble_eq_true rfl) (Nat.le_refl _) (Nat.le_refl _) rfl dX12_leave_60 ?_
          refine ii_iload 0 dX12_leave_63 rfl ?_
          refine ii_imul dX12_leave_65 ?_
          refine ii_topI h (fun x_7 h => ?_)
          refine ii_istore (lv' := [(5, .int x_7), (4, .int c_5), (0, .ref a_this), (1, .int p0), (2, .int p1), (3, .int p2)]) dX12_leave_66 (by decide) rfl ?_
          refine ii_aload_n 2 dX12_leave_68 rfl ?_
          refine ii_iconst dX12_leave_69 kc2 ?_
          refine ii_iconst dX12_leave_70 kc0 ?_
          refine ii_aload_n 2 dX12_leave_71 rfl ?_
          refine ii_iload_n 4 dX12_leave_72 rfl ?_
          refine ii_aload_n 2 dX12_leave_73 rfl ?_
          refine ii_iload_n 3 dX12_leave_74 rfl ?_
          refine ii_iconst dX12_leave_75 kc0 ?_
          obtain ⟨c_8, hc_8, h⟩ := bnd h
          refine ii_callVi (As := [.int p0, .int (0 : Int32)]) (ws' := [(a_this, .inr (12, [.ref a_this_st, .ref a_this_images, .ref a_this_isKept, .long v_this_above, .long v_this_below, .int v_this_steps, .ref a_this_step, .ref a_this_with, .int v_this_waiting, .ref a_this_waits, .ref a_this_value, .ref a_this_given, .ref a_this_net, .ref a_this_together, .ref a_this_most, .ref a_this_owes, .ref a_this_can, .ref a_this_row, .ref a_this_before, .ref a_this_to, .ref a_this_on, .ref a_this_load, .ref a_this_lead, .ref a_this_bestLead, .ref a_this_silver])), (a_this_given, .inl (cJ, 5, .inr (.inl v_this_given))), (a_this_st, .inl (cI, 1951, .inl v_this_st)), (a_this_step, .inl (cI, 70, .inl v_this_step)), (a_this_value, .inl (cJ, 70, .inr (.inl v_this_value))), (a_this_waits, .inl (cI, 70, .inl v_this_waits)), (a_this_with, .inl (cI, 70, .inl v_this_with))]) (st := [.int p1, .ref a_this, .int (0 : Int32), .int (2 : Int32), .ref a_this]) (c_X12_purseOf l D cI cJ cZ cH a_this a_this_before a_this_bestLead a_this_can a_this_given a_this_images a_this_isKept a_this_lead a_this_load a_this_most a_this_net a_this_on a_this_owes a_this_row a_this_silver a_this_st a_this_step a_this_to a_this_together a_this_value a_this_waits a_this_with v_this_above v_this_below v_this_st v_this_steps v_this_waiting p0 (0 : Int32) hc_8) gzX12_204 rfl rfl rfl eV_X12_purseOf ⟨Nat.le_of_ble_eq_true rfl, Nat.le_of_ble_eq_true rfl⟩ rfl 0 rfl rfl [0, 2] rfl rfl rfl rfl rfl (Nat.le_of_ble_eq_true rfl) (Nat.le_refl _) (Nat.le_refl _) rfl dX12_leave_76 ?_
          obtain ⟨c_9, hc_9, h⟩ := bnd h
          refine ii_callVi (As := [.int p1, .int c_8]) (ws' := [(a_this, .inr (12, [.ref a_this_st, .ref a_this_images, .ref a_this_isKept, .long v_this_above, .long v_this_below, .int v_this_steps, .ref a_this_step, .ref a_this_with, .int v_this_waiting, .ref a_this_waits, .ref a_this_value, .ref a_this_given, .ref a_this_net, .ref a_this_together, .ref a_this_most, .ref a_this_owes, .ref a_this_can, .ref a_this_row, .ref a_this_before, .ref a_this_to, .ref a_this_on, .ref a_this_load, .ref a_this_lead, .ref a_this_bestLead, .ref a_this_silver])), (a_this_given, .inl (cJ, 5, .inr (.inl v_this_given))), (a_this_st, .inl (cI, 1951, .inl v_this_st)), (a_this_step, .inl (cI, 70, .inl v_this_step)), (a_this_value, .inl (cJ, 70, .inr (.inl v_this_value))), (a_this_waits, .inl (cI, 70, .inl v_this_waits)), (a_this_with, .inl (cI, 70, .inl v_this_with))]) (st := [.int (0 : Int32), .int (2 : Int32), .ref a_this]) (c_X12_kin l D cI cJ cZ cH a_this a_this_before a_this_bestLead a_this_can a_this_given a_this_images a_this_isKept a_this_lead a_this_load a_this_most a_this_net a_this_on a_this_owes a_this_row a_this_silver a_this_st a_this_step a_this_to a_this_together a_this_value a_this_waits a_this_with v_this_above v_this_below v_this_st v_this_steps v_this_waiting p1 c_8 hc_9) gzX12_182 rfl rfl rfl eV_X12_kin ⟨Nat.le_of_ble_eq_true rfl, Nat.le_of_ble_eq_true rfl⟩ rfl 0 rfl rfl [0, 2] rfl rfl rfl rfl rfl (Nat.le_of_ble_eq_true rfl) (Nat.le_refl _) (Nat.le_refl _) rfl dX12_leave_79 ?_
          refine ii_aload_n 2 dX12_leave_82 rfl ?_
          refine ii_iload_n 4 dX12_leave_83 rfl ?_
          obtain ⟨c_10, hc_10, h⟩ := bnd h
          refine ii_callVi (As := [.int p1]) (ws' := [(a_this, .inr (12, [.ref a_this_st, .ref a_this_images, .ref a_this_isKept, .long v_this_above, .long v_this_below, .int v_this_steps, .ref a_this_step, .ref a_this_with, .int v_this_waiting, .ref a_this_waits, .ref a_this_value, .ref a_this_given, .ref a_this_net, .ref a_this_together, .ref a_this_most, .ref a_this_owes, .ref a_this_can, .ref a_this_row, .ref a_this_before, .ref a_this_to, .ref a_this_on, .ref a_this_load, .ref a_this_lead, .ref a_this_bestLead, .ref a_this_silver])), (a_this_given, .inl (cJ, 5, .inr (.inl v_this_given))), (a_this_st, .inl (cI, 1951, .inl v_this_st)), (a_this_step, .inl (cI, 70, .inl v_this_step)), (a_this_value, .inl (cJ, 70, .inr (.inl v_this_value))), (a_this_waits, .inl (cI, 70, .inl v_this_waits)), (a_this_with, .inl (cI, 70, .inl v_this_with))]) (st := [.int c_9, .int (0 : Int32), .int (2 : Int32), .ref a_this]) (c_X12_town l D cI cJ cZ cH a_this a_this_before a_this_bestLead a_this_can a_this_given a_this_images a_this_isKept a_this_lead a_this_load a_this_most a_this_net a_this_on a_this_owes a_this_row a_this_silver a_this_st a_this_step a_this_to a_this_together a_this_value a_this_waits a_this_with v_this_above v_this_below v_this_st v_this_steps v_this_waiting p1 hc_10) gzX12_185 rfl rfl rfl eV_X12_town ⟨Nat.le_of_ble_eq_true rfl, Nat.le_of_ble_eq_true rfl⟩ rfl 0 rfl rfl [0, 2] rfl rfl rfl rfl rfl (Nat.le_of_ble_eq_true rfl) (Nat.le_refl _) (Nat.le_refl _) rfl dX12_leave_84 ?_
          refine ii_iload_n 5 dX12_leave_87 rfl ?_
          refine ii_iload 0 dX12_leave_88 rfl ?_
          refine ii_i2l dX12_leave_90 ?_
          refine ii_sipush dX12_leave_91 ks200 ?_
          obtain ⟨c_11, hc_11, h⟩ := bnd h
          refine ii_callVi (As := [.int (2 : Int32), .int (0 : Int32), .int c_9, .int c_10, .int p2, .long x_7.toInt64, .int (200 : Int32)]) (ws' := [(a_this, .inr (12, [.ref a_this_st, .ref a_this_images, .ref a_this_isKept, .long v_this_above, .long v_this_below, .int c_11.2.2.2.1, .ref a_this_step, .ref a_this_with, .int c_11.2.2.2.2.2.1, .ref a_this_waits, .ref a_this_value, .ref a_this_given, .ref a_this_net, .ref a_this_together, .ref a_this_most, .ref a_this_owes, .ref a_this_can, .ref a_this_row, .ref a_this_before, .ref a_this_to, .ref a_this_on, .ref a_this_load, .ref a_this_lead, .ref a_this_bestLead, .ref a_this_silver])), (a_this_given, .inl (cJ, 5, .inr (.inl c_11.2.1))), (a_this_st, .inl (cI, 1951, .inl v_this_st)), (a_this_step, .inl (cI, 70, .inl c_11.2.2.1)), (a_this_value, .inl (cJ, 70, .inr (.inl c_11.2.2.2.2.1))), (a_this_waits, .inl (cI, 70, .inl c_11.2.2.2.2.2.2.1)), (a_this_with, .inl (cI, 70, .inl c_11.2.2.2.2.2.2.2))]) (st := []) (c_X12_told l D cI cJ cZ cH a_this a_this_before a_this_bestLead a_this_can a_this_given a_this_images a_this_isKept a_this_lead a_this_load a_this_most a_this_net a_this_on a_this_owes a_this_row a_this_silver a_this_st a_this_step a_this_to a_this_together a_this_value a_this_waits a_this_with v_this_above v_this_below v_this_given v_this_st v_this_step v_this_steps v_this_value v_this_waiting v_this_waits v_this_with (2 : Int32) (0 : Int32) c_9 c_10 p2 x_7.toInt64 (200 : Int32) hc_11) gzX12_188 rfl rfl rfl eV_X12_told ⟨Nat.le_of_ble_eq_true rfl, Nat.le_of_ble_eq_true rfl⟩ rfl 0 rfl rfl [0, 1, 2, 3, 4, 5, 6] rfl rfl rfl rfl rfl (Nat.le_of_ble_eq_true rfl) (Nat.le_refl _) (Nat.le_refl _) rfl dX12_leave_94 ?_
          refine ii_istore (lv' := [(6, .int c_11.1), (5, .int x_7), (4, .int c_5), (0, .ref a_this), (1, .int p0), (2, .int p1), (3, .int p2)]) dX12_leave_97 (by decide) rfl ?_
          refine ii_aload_n 3 dX12_leave_99 rfl ?_
          refine ii_get (C := RX12) (T := TX12) (N := 25) (ci := 12) izX12 0 rfl rfl 0 (by decide) kX12_7 rfl dX12_leave_100 ?_
          refine ii_sipush dX12_leave_103 ks1552 ?_
          refine ii_bipush dX12_leave_106 kb13 ?_
          refine ii_iload_n 4 dX12_leave_108 rfl ?_
          refine ii_imul dX12_leave_109 ?_
          refine ii_iadd dX12_leave_110 ?_
          refine ii_iconst dX12_leave_111 kc3 ?_
          refine ii_iadd dX12_leave_112 ?_
          refine ii_iload_n 5 dX12_leave_113 rfl ?_
          refine ii_iadd dX12_leave_114 ?_
          refine ii_iconst dX12_leave_115 kc0 ?_
          refine ii_iast (fun g_12 => [(a_this, .inr (12, [.ref a_this_st, .ref a_this_images, .ref a_this_isKept, .long v_this_above, .long v_this_below, .int c_11.2.2.2.1, .ref a_this_step, .ref a_this_with, .int c_11.2.2.2.2.2.1, .ref a_this_waits, .ref a_this_value, .ref a_this_given, .ref a_this_net, .ref a_this_together, .ref a_this_most, .ref a_this_owes, .ref a_this_can, .ref a_this_row, .ref a_this_before, .ref a_this_to, .ref a_this_on, .ref a_this_load, .ref a_this_lead, .ref a_this_bestLead, .ref a_this_silver])), (a_this_given, .inl (cJ, 5, .inr (.inl c_11.2.1))), (a_this_st, .inl (cI, 1951, .inl g_12)), (a_this_step, .inl (cI, 70, .inl c_11.2.2.1)), (a_this_value, .inl (cJ, 70, .inr (.inl c_11.2.2.2.2.1))), (a_this_waits, .inl (cI, 70, .inl c_11.2.2.2.2.2.2.1)), (a_this_with, .inl (cI, 70, .inl c_11.2.2.2.2.2.2.2))]) h 2 0 rfl rfl dX12_leave_116 (fun _ => rfl) (fun g_12 h => ?_)
          refine ii_iload 1 dX12_leave_117 rfl ?_
          refine ii_iload 0 dX12_leave_119 rfl ?_
          refine ii_imul dX12_leave_121 ?_
          refine ii_bipush dX12_leave_122 kb100 ?_
          refine ii_idiv h dX12_leave_124 (fun t_13 h => ?_)
          cases h
          exact hQ _ _ dX12_leave_125
        · skip
          refine ii_bipush dX12_leave_54 kbm3 ?_
          cases h
          exact hQ _ _ dX12_leave_56
      · skip
        refine ii_bipush dX12_leave_36 kbm2 ?_
        cases h
        exact hQ _ _ dX12_leave_38
set_option maxHeartbeats 4000000 in
set_option maxRecDepth 100000 in
theorem c_X12_parted (l : Launch) (D : va_G) (cI cJ cZ cH : ClassId) (a_this a_this_before a_this_bestLead a_this_can a_this_given a_this_images a_this_isKept a_this_lead a_this_load a_this_most a_this_net a_this_on a_this_owes a_this_row a_this_silver a_this_st a_this_step a_this_to a_this_together a_this_value a_this_waits a_this_with : Nat) (v_this_above : Int64) (v_this_below : Int64) (v_this_st : Nat → Int32) (v_this_steps : Int32) (v_this_waiting : Int32) (p0 : Int32) (p1 : Int32) (p2 : Int32) {res : Int32} (h : F_X12_parted v_this_st p0 p1 p2 = some res) : CTi l yX12_parted wzX12_parted { frames := 2, cells := 0, slots := 0, locals := 47 } D [(cI, .int), (cJ, .long), (cZ, .boolean), (cH, .object "TinHouse$House")] [.ref a_this, .int p0, .int p1, .int p2] [(a_this, .inr (12, [.ref a_this_st, .ref a_this_images, .ref a_this_isKept, .long v_this_above, .long v_this_below, .int v_this_steps, .ref a_this_step, .ref a_this_with, .int v_this_waiting, .ref a_this_waits, .ref a_this_value, .ref a_this_given, .ref a_this_net, .ref a_this_together, .ref a_this_most, .ref a_this_owes, .ref a_this_can, .ref a_this_row, .ref a_this_before, .ref a_this_to, .ref a_this_on, .ref a_this_load, .ref a_this_lead, .ref a_this_bestLead, .ref a_this_silver])), (a_this_st, .inl (cI, 1951, .inl v_this_st))] res [(a_this, .inr (12, [.ref a_this_st, .ref a_this_images, .ref a_this_isKept, .long v_this_above, .long v_this_below, .int v_this_steps, .ref a_this_step, .ref a_this_with, .int v_this_waiting, .ref a_this_waits, .ref a_this_value, .ref a_this_given, .ref a_this_net, .ref a_this_together, .ref a_this_most, .ref a_this_owes, .ref a_this_can, .ref a_this_row, .ref a_this_before, .ref a_this_to, .ref a_this_on, .ref a_this_load, .ref a_this_lead, .ref a_this_bestLead, .ref a_this_silver])), (a_this_st, .inl (cI, 1951, .inl v_this_st))] := by
  unfold F_X12_parted at h
  refine ii_metI (own := RX12) (lv0 := [(0, .ref a_this), (1, .int p0), (2, .int p1), (3, .int p2)]) (by decide) rfl rfl rfl (Nat.le_of_ble_eq_true rfl) (fun {p e s m args below meth c A Q} hQ => ?_)
  refine ii_aload_n 0 dX12_parted_0 rfl ?_
  refine ii_iconst dX12_parted_1 kc4 ?_
  refine ii_iload_n 1 dX12_parted_2 rfl ?_
  obtain ⟨c_1, hc_1, h⟩ := bnd h
  refine ii_callVi (As := [.int (4 : Int32), .int p0]) (ws' := [(a_this, .inr (12, [.ref a_this_st, .ref a_this_images, .ref a_this_isKept, .long v_this_above, .long v_this_below, .int v_this_steps, .ref a_this_step, .ref a_this_with, .int v_this_waiting, .ref a_this_waits, .ref a_this_value, .ref a_this_given, .ref a_this_net, .ref a_this_together, .ref a_this_most, .ref a_this_owes, .ref a_this_can, .ref a_this_row, .ref a_this_before, .ref a_this_to, .ref a_this_on, .ref a_this_load, .ref a_this_lead, .ref a_this_bestLead, .ref a_this_silver])), (a_this_st, .inl (cI, 1951, .inl v_this_st))]) (st := []) (c_X12_is l D cI cJ cZ cH a_this a_this_before a_this_bestLead a_this_can a_this_given a_this_images a_this_isKept a_this_lead a_this_load a_this_most a_this_net a_this_on a_this_owes a_this_row a_this_silver a_this_st a_this_step a_this_to a_this_together a_this_value a_this_waits a_this_with v_this_above v_this_below v_this_st v_this_steps v_this_waiting (4 : Int32) p0 hc_1) gzX12_173 rfl rfl rfl eV_X12_is ⟨Nat.le_of_ble_eq_true rfl, Nat.le_of_ble_eq_true rfl⟩ rfl 0 rfl rfl [0, 1] rfl rfl rfl rfl rfl (Nat.le_of_ble_eq_true rfl) (Nat.le_refl _) (Nat.le_refl _) rfl dX12_parted_3 ?_
  refine ii_if_eq (tgt := 30) h dX12_parted_6 (by decide) (fun h => ?_) (fun h => ?_)
  · skip
    refine ii_bipush dX12_parted_30 kbm2 ?_
    cases h
    exact hQ _ _ dX12_parted_32
  · skip
    refine ii_iload_n 2 dX12_parted_9 rfl ?_
    refine ii_i2l dX12_parted_10 ?_
    refine ii_lconst dX12_parted_11 kl0 ?_
    refine ii_ldc2 (v := 100000000) dX12_parted_12 kX12_212 ?_
    obtain ⟨c_2, hc_2, h⟩ := bnd h
    refine ii_callSi (As := [.long p1.toInt64, .long (0 : Int64), .long (100000000 : Int64)]) (ws' := [(a_this, .inr (12, [.ref a_this_st, .ref a_this_images, .ref a_this_isKept, .long v_this_above, .long v_this_below, .int v_this_steps, .ref a_this_step, .ref a_this_with, .int v_this_waiting, .ref a_this_waits, .ref a_this_value, .ref a_this_given, .ref a_this_net, .ref a_this_together, .ref a_this_most, .ref a_this_owes, .ref a_this_can, .ref a_this_row, .ref a_this_before, .ref a_this_to, .ref a_this_on, .ref a_this_load, .ref a_this_lead, .ref a_this_bestLead, .ref a_this_silver])), (a_this_st, .inl (cI, 1951, .inl v_this_st))]) (st := []) (c_X12_in l D cI cJ cZ cH p1.toInt64 (0 : Int64) (100000000 : Int64) hc_2) gzX12_79 rfl rfl rfl eS_X12_in ⟨Nat.le_of_ble_eq_true rfl, Nat.le_of_ble_eq_true rfl⟩ rfl [] rfl rfl rfl rfl rfl (Nat.le_of_ble_eq_true rfl) (Nat.le_refl _) (Nat.le_refl _) rfl dX12_parted_15 ?_
    refine ii_if_eq (tgt := 30) h dX12_parted_18 (by decide) (fun h => ?_) (fun h => ?_)
    · skip
      refine ii_bipush dX12_parted_30 kbm2 ?_
      cases h
      exact hQ _ _ dX12_parted_32
    · skip
      refine ii_aload_n 0 dX12_parted_21 rfl ?_
      refine ii_iconst dX12_parted_22 kc0 ?_
      refine ii_iload_n 3 dX12_parted_23 rfl ?_
      obtain ⟨c_3, hc_3, h⟩ := bnd h
      refine ii_callVi (As := [.int (0 : Int32), .int p2]) (ws' := [(a_this, .inr (12, [.ref a_this_st, .ref a_this_images, .ref a_this_isKept, .long v_this_above, .long v_this_below, .int v_this_steps, .ref a_this_step, .ref a_this_with, .int v_this_waiting, .ref a_this_waits, .ref a_this_value, .ref a_this_given, .ref a_this_net, .ref a_this_together, .ref a_this_most, .ref a_this_owes, .ref a_this_can, .ref a_this_row, .ref a_this_before, .ref a_this_to, .ref a_this_on, .ref a_this_load, .ref a_this_lead, .ref a_this_bestLead, .ref a_this_silver])), (a_this_st, .inl (cI, 1951, .inl v_this_st))]) (st := []) (c_X12_is l D cI cJ cZ cH a_this a_this_before a_this_bestLead a_this_can a_this_given a_this_images a_this_isKept a_this_lead a_this_load a_this_most a_this_net a_this_on a_this_owes a_this_row a_this_silver a_this_st a_this_step a_this_to a_this_together a_this_value a_this_waits a_this_with v_this_above v_this_below v_this_st v_this_steps v_this_waiting (0 : Int32) p2 hc_3) gzX12_173 rfl rfl rfl eV_X12_is ⟨Nat.le_of_ble_eq_true rfl, Nat.le_of_ble_eq_true rfl⟩ rfl 0 rfl rfl [0, 1] rfl rfl rfl rfl rfl (Nat.le_of_ble_eq_true rfl) (Nat.le_refl _) (Nat.le_refl _) rfl dX12_parted_24 ?_
      refine ii_if_ne (tgt := 33) h dX12_parted_27 (by decide) (fun h => ?_) (fun h => ?_)
      · skip
        refine ii_iload_n 2 dX12_parted_33 rfl ?_
        refine ii_iconst dX12_parted_34 kc3 ?_
        refine ii_idiv h dX12_parted_35 (fun t_4 h => ?_)
        refine ii_istore (lv' := [(4, .int t_4), (0, .ref a_this), (1, .int p0), (2, .int p1), (3, .int p2)]) dX12_parted_36 (by decide) rfl ?_
        refine ii_aload_n 1 dX12_parted_38 rfl ?_
        refine ii_iload_n 2 dX12_parted_39 rfl ?_
        obtain ⟨c_5, hc_5, h⟩ := bnd h
        refine ii_callVi (As := [.int p0]) (ws' := [(a_this, .inr (12, [.ref a_this_st, .ref a_this_images, .ref a_this_isKept, .long v_this_above, .long v_this_below, .int v_this_steps, .ref a_this_step, .ref a_this_with, .int v_this_waiting, .ref a_this_waits, .ref a_this_value, .ref a_this_given, .ref a_this_net, .ref a_this_together, .ref a_this_most, .ref a_this_owes, .ref a_this_can, .ref a_this_row, .ref a_this_before, .ref a_this_to, .ref a_this_on, .ref a_this_load, .ref a_this_lead, .ref a_this_bestLead, .ref a_this_silver])), (a_this_st, .inl (cI, 1951, .inl v_this_st))]) (st := []) (c_X12_shares l D cI cJ cZ cH a_this a_this_before a_this_bestLead a_this_can a_this_given a_this_images a_this_isKept a_this_lead a_this_load a_this_most a_this_net a_this_on a_this_owes a_this_row a_this_silver a_this_st a_this_step a_this_to a_this_together a_this_value a_this_waits a_this_with v_this_above v_this_below v_this_st v_this_steps v_this_waiting p0 hc_5) gzX12_209 rfl rfl rfl eV_X12_shares ⟨Nat.le_of_ble_eq_true rfl, Nat.le_of_ble_eq_true rfl⟩ rfl 0 rfl rfl [0, 1] rfl rfl rfl rfl rfl (Nat.le_of_ble_eq_true rfl) (Nat.le_refl _) (Nat.le_refl _) rfl dX12_parted_40 ?_
        refine ii_istore (lv' := [(5, .int c_5), (4, .int t_4), (0, .ref a_this), (1, .int p0), (2, .int p1), (3, .int p2)]) dX12_parted_43 (by decide) rfl ?_
        refine ii_iload_n 4 dX12_parted_45 rfl ?_
        refine ii_iload 1 dX12_parted_46 rfl ?_
        refine ii_isub dX12_parted_48 ?_
        refine ii_topI h (fun x_6 h => ?_)
        refine ii_istore (lv' := [(6, .int x_6), (5, .int c_5), (4, .int t_4), (0, .ref a_this), (1, .int p0), (2, .int p1), (3, .int p2)]) dX12_parted_49 (by decide) rfl ?_
        refine ii_iconst dX12_parted_51 kc0 ?_
        refine ii_istore (lv' := [(7, .int (0 : Int32)), (6, .int x_6), (5, .int c_5), (4, .int t_4), (0, .ref a_this), (1, .int p0), (2, .int p1), (3, .int p2)]) dX12_parted_52 (by decide) rfl ?_
        refine ii_iconst dX12_parted_54 kc0 ?_
        refine ii_istore (lv' := [(8, .int (0 : Int32)), (7, .int (0 : Int32)), (6, .int x_6), (5, .int c_5), (4, .int t_4), (0, .ref a_this), (1, .int p0), (2, .int p1), (3, .int p2)]) dX12_parted_55 (by decide) rfl ?_
        refine ii_iconst dX12_parted_57 kc0 ?_
        refine ii_istore (lv' := [(9, .int (0 : Int32)), (8, .int (0 : Int32)), (7, .int (0 : Int32)), (6, .int x_6), (5, .int c_5), (4, .int t_4), (0, .ref a_this), (1, .int p0), (2, .int p1), (3, .int p2)]) dX12_parted_58 (by decide) rfl ?_
        refine ii_lv [6, 7, 8, 9, 5, 4, 3, 2, 1, 0] rfl ?_
        obtain ⟨x_8, hl_7, h⟩ := bnd h
        refine ii_loopX (fun s_7 => [(a_this, .inr (12, [.ref a_this_st, .ref a_this_images, .ref a_this_isKept, .long v_this_above, .long v_this_below, .int v_this_steps, .ref a_this_step, .ref a_this_with, .int v_this_waiting, .ref a_this_waits, .ref a_this_value, .ref a_this_given, .ref a_this_net, .ref a_this_together, .ref a_this_most, .ref a_this_owes, .ref a_this_can, .ref a_this_row, .ref a_this_before, .ref a_this_to, .ref a_this_on, .ref a_this_load, .ref a_this_lead, .ref a_this_bestLead, .ref a_this_silver])), (a_this_st, .inl (cI, 1951, .inl v_this_st))]) (fun s_7 => [(0, .ref a_this), (1, .int p0), (2, .int p1), (3, .int p2), (4, .int t_4), (5, .int c_5), (6, .int x_6), (7, .int s_7.1), (8, .int s_7.2.1), (9, .int s_7.2.2)]) (fun x_8 => [(a_this, .inr (12, [.ref a_this_st, .ref a_this_images, .ref a_this_isKept, .long v_this_above, .long v_this_below, .int v_this_steps, .ref a_this_step, .ref a_this_with, .int v_this_waiting, .ref a_this_waits, .ref a_this_value, .ref a_this_given, .ref a_this_net, .ref a_this_together, .ref a_this_most, .ref a_this_owes, .ref a_this_can, .ref a_this_row, .ref a_this_before, .ref a_this_to, .ref a_this_on, .ref a_this_load, .ref a_this_lead, .ref a_this_bestLead, .ref a_this_silver])), (a_this_st, .inl (cI, 1951, .inl v_this_st))]) (fun x_8 => [(0, .ref a_this), (1, .int p0), (3, .int p2), (4, .int t_4), (6, .int x_6), (7, .int x_8.1), (8, .int x_8.2.1)]) 123 hl_7 rfl rfl ?_ (fun s_7 o h hb_7 hr_7 hx_7 => ?_)
        · skip
          refine ii_iload 4 dX12_parted_123 rfl ?_
          refine ii_iload 6 dX12_parted_125 rfl ?_
          refine ii_isub dX12_parted_127 ?_
          refine ii_topI h (fun x_14 h => ?_)
          refine ii_istore (lv' := [(6, .int x_14), (0, .ref a_this), (1, .int p0), (3, .int p2), (4, .int t_4), (7, .int x_8.1), (8, .int x_8.2.1)]) dX12_parted_128 (by decide) rfl ?_
          refine ii_iload_n 3 dX12_parted_130 rfl ?_
          refine ii_aload_n 1 dX12_parted_131 rfl ?_
          refine ii_iload_n 2 dX12_parted_132 rfl ?_
          refine ii_iconst dX12_parted_133 kc0 ?_
          obtain ⟨c_15, hc_15, h⟩ := bnd h
          refine ii_callVi (As := [.int p0, .int (0 : Int32)]) (ws' := [(a_this, .inr (12, [.ref a_this_st, .ref a_this_images, .ref a_this_isKept, .long v_this_above, .long v_this_below, .int v_this_steps, .ref a_this_step, .ref a_this_with, .int v_this_waiting, .ref a_this_waits, .ref a_this_value, .ref a_this_given, .ref a_this_net, .ref a_this_together, .ref a_this_most, .ref a_this_owes, .ref a_this_can, .ref a_this_row, .ref a_this_before, .ref a_this_to, .ref a_this_on, .ref a_this_load, .ref a_this_lead, .ref a_this_bestLead, .ref a_this_silver])), (a_this_st, .inl (cI, 1951, .inl v_this_st))]) (st := [.int p2]) (c_X12_purseOf l D cI cJ cZ cH a_this a_this_before a_this_bestLead a_this_can a_this_given a_this_images a_this_isKept a_this_lead a_this_load a_this_most a_this_net a_this_on a_this_owes a_this_row a_this_silver a_this_st a_this_step a_this_to a_this_together a_this_value a_this_waits a_this_with v_this_above v_this_below v_this_st v_this_steps v_this_waiting p0 (0 : Int32) hc_15) gzX12_204 rfl rfl rfl eV_X12_purseOf ⟨Nat.le_of_ble_eq_true rfl, Nat.le_of_ble_eq_true rfl⟩ rfl 0 rfl rfl [0, 1] rfl rfl rfl rfl rfl (Nat.le_of_ble_eq_true rfl) (Nat.le_refl _) (Nat.le_refl _) rfl dX12_parted_134 ?_
          refine ii_jn h (fun j_16 => [(a_this, .inr (12, [.ref a_this_st, .ref a_this_images, .ref a_this_isKept, .long v_this_above, .long v_this_below, .int v_this_steps, .ref a_this_step, .ref a_this_with, .int v_this_waiting, .ref a_this_waits, .ref a_this_value, .ref a_this_given, .ref a_this_net, .ref a_this_together, .ref a_this_most, .ref a_this_owes, .ref a_this_can, .ref a_this_row, .ref a_this_before, .ref a_this_to, .ref a_this_on, .ref a_this_load, .ref a_this_lead, .ref a_this_bestLead, .ref a_this_silver])), (a_this_st, .inl (cI, 1951, .inl v_this_st))]) (fun j_16 => []) 153 (fun j_16 => [.int j_16]) (fun j_16 h => ?_) (fun j_16 h hjj_16 => ?_)
          · skip
            cases h
            exact hQ _ _ dX12_parted_153
          · skip
            refine ii_icmp_ne (tgt := 151) h dX12_parted_137 (by decide) (fun h => ?_) (fun h => ?_)
            · skip
              refine ii_iload 5 dX12_parted_151 rfl ?_
              refine ii_lv [] rfl ?_
              cases h
              exact hjj_16
            · skip
              refine ii_iload 5 dX12_parted_140 rfl ?_
              refine ii_iload 4 dX12_parted_142 rfl ?_
              refine ii_iadd dX12_parted_144 ?_
              refine ii_iload 0 dX12_parted_145 rfl ?_
              refine ii_iadd dX12_parted_147 ?_
              refine ii_goto (tgt := 153) dX12_parted_148 (by decide) ?_
              refine ii_lv [] rfl ?_
              cases h
              exact hjj_16
        · skip
          refine ii_iload 9 dX12_parted_60 rfl ?_
          refine ii_bipush dX12_parted_62 kb10 ?_
          refine ii_icmp_ge (tgt := 123) h dX12_parted_64 (by decide) (fun h => ?_) (fun h => ?_)
          · skip
            refine ii_lv [0, 1, 3, 4, 6, 7, 8] rfl ?_
            cases h
            exact hx_7 (s_7.1, s_7.2.1, s_7.2.2) (hr_7 _ rfl)
          · skip
            refine ii_iload 5 dX12_parted_67 rfl ?_
            refine ii_if_le (tgt := 123) h dX12_parted_69 (by decide) (fun h => ?_) (fun h => ?_)
            · skip
              refine ii_lv [0, 1, 3, 4, 6, 7, 8] rfl ?_
              cases h
              exact hx_7 (s_7.1, s_7.2.1, s_7.2.2) (hr_7 _ rfl)
            · skip
              refine ii_iload_n 2 dX12_parted_72 rfl ?_
              refine ii_iload 4 dX12_parted_73 rfl ?_
              refine ii_isub dX12_parted_75 ?_
              refine ii_i2l dX12_parted_76 ?_
              refine ii_aload_n 0 dX12_parted_77 rfl ?_
              refine ii_iload_n 1 dX12_parted_78 rfl ?_
              refine ii_iconst dX12_parted_79 kc3 ?_
              refine ii_iload 9 dX12_parted_80 rfl ?_
              refine ii_iadd dX12_parted_82 ?_
              obtain ⟨c_9, hc_9, h⟩ := bnd h
              refine ii_callVi (As := [.int p0, .int ((3 : Int32) + s_7.2.2)]) (ws' := [(a_this, .inr (12, [.ref a_this_st, .ref a_this_images, .ref a_this_isKept, .long v_this_above, .long v_this_below, .int v_this_steps, .ref a_this_step, .ref a_this_with, .int v_this_waiting, .ref a_this_waits, .ref a_this_value, .ref a_this_given, .ref a_this_net, .ref a_this_together, .ref a_this_most, .ref a_this_owes, .ref a_this_can, .ref a_this_row, .ref a_this_before, .ref a_this_to, .ref a_this_on, .ref a_this_load, .ref a_this_lead, .ref a_this_bestLead, .ref a_this_silver])), (a_this_st, .inl (cI, 1951, .inl v_this_st))]) (st := [.long ((p1 - t_4).toInt64)]) (c_X12_purseOf l D cI cJ cZ cH a_this a_this_before a_this_bestLead a_this_can a_this_given a_this_images a_this_isKept a_this_lead a_this_load a_this_most a_this_net a_this_on a_this_owes a_this_row a_this_silver a_this_st a_this_step a_this_to a_this_together a_this_value a_this_waits a_this_with v_this_above v_this_below v_this_st v_this_steps v_this_waiting p0 ((3 : Int32) + s_7.2.2) hc_9) gzX12_204 rfl rfl rfl eV_X12_purseOf ⟨Nat.le_of_ble_eq_true rfl, Nat.le_of_ble_eq_true rfl⟩ rfl 0 rfl rfl [0, 1] rfl rfl rfl rfl rfl (Nat.le_of_ble_eq_true rfl) (Nat.le_refl _) (Nat.le_refl _) rfl dX12_parted_83 ?_
              refine ii_i2l dX12_parted_86 ?_
              refine ii_lmul dX12_parted_87 ?_
              refine ii_iload 5 dX12_parted_88 rfl ?_
              refine ii_i2l dX12_parted_90 ?_
              refine ii_ldiv h dX12_parted_91 (fun t_10 h => ?_)
              refine ii_l2i dX12_parted_92 ?_
              refine ii_istore (lv' := [(10, .int t_10.toInt32), (0, .ref a_this), (1, .int p0), (2, .int p1), (3, .int p2), (4, .int t_4), (5, .int c_5), (6, .int x_6), (7, .int s_7.1), (8, .int s_7.2.1), (9, .int s_7.2.2)]) dX12_parted_93 (by decide) rfl ?_
              refine ii_iload 9 dX12_parted_95 rfl ?_
              refine ii_iload 0 dX12_parted_97 rfl ?_
              refine ii_iadd dX12_parted_99 ?_
              refine ii_topI h (fun x_11 h => ?_)
              refine ii_istore (lv' := [(8, .int x_11), (10, .int t_10.toInt32), (0, .ref a_this), (1, .int p0), (2, .int p1), (3, .int p2), (4, .int t_4), (5, .int c_5), (6, .int x_6), (7, .int s_7.1), (9, .int s_7.2.2)]) dX12_parted_100 (by decide) rfl ?_
              refine ii_iload 10 dX12_parted_102 rfl ?_
              refine ii_iload_n 5 dX12_parted_104 rfl ?_
              refine ii_jn h (fun j_12 => [(a_this, .inr (12, [.ref a_this_st, .ref a_this_images, .ref a_this_isKept, .long v_this_above, .long v_this_below, .int v_this_steps, .ref a_this_step, .ref a_this_with, .int v_this_waiting, .ref a_this_waits, .ref a_this_value, .ref a_this_given, .ref a_this_net, .ref a_this_together, .ref a_this_most, .ref a_this_owes, .ref a_this_can, .ref a_this_row, .ref a_this_before, .ref a_this_to, .ref a_this_on, .ref a_this_load, .ref a_this_lead, .ref a_this_bestLead, .ref a_this_silver])), (a_this_st, .inl (cI, 1951, .inl v_this_st))]) (fun j_12 => [(0, .ref a_this), (1, .int p0), (2, .int p1), (3, .int p2), (4, .int t_4), (5, .int c_5), (6, .int x_6), (8, .int x_11), (9, .int s_7.2.2)]) 115 (fun j_12 => [.int j_12]) (fun j_12 h => ?_) (fun j_12 h hjj_12 => ?_)
              · skip
                refine ii_istore (lv' := [(7, .int j_12), (0, .ref a_this), (1, .int p0), (2, .int p1), (3, .int p2), (4, .int t_4), (5, .int c_5), (6, .int x_6), (8, .int x_11), (9, .int s_7.2.2)]) dX12_parted_115 (by decide) rfl ?_
                refine ii_iinc (fun x_13 => [(9, .int x_13), (7, .int j_12), (0, .ref a_this), (1, .int p0), (2, .int p1), (3, .int p2), (4, .int t_4), (5, .int c_5), (6, .int x_6), (8, .int x_11)]) h 9 dX12_parted_117 rfl kc1 (by decide) (fun _ => rfl) (fun x_13 h => ?_)
                refine ii_goto (tgt := 60) dX12_parted_120 (by decide) ?_
                refine ii_lv [2, 3, 4, 5, 6, 7, 8, 1, 9, 0] rfl ?_
                cases h
                exact hb_7 (j_12, x_11, x_13) rfl
              · skip
                refine ii_icmp_ne (tgt := 113) h dX12_parted_105 (by decide) (fun h => ?_) (fun h => ?_)
                · skip
                  refine ii_iload 9 dX12_parted_113 rfl ?_
                  refine ii_lv [2, 3, 4, 5, 6, 7, 8, 0, 10] rfl ?_
                  cases h
                  exact hjj_12
                · skip
                  refine ii_iload 1 dX12_parted_108 rfl ?_
                  refine ii_goto (tgt := 115) dX12_parted_110 (by decide) ?_
                  refine ii_lv [2, 3, 4, 5, 6, 7, 8, 0, 10] rfl ?_
                  cases h
                  exact hjj_12
      · skip
        refine ii_bipush dX12_parted_30 kbm2 ?_
        cases h
        exact hQ _ _ dX12_parted_32
set_option maxHeartbeats 4000000 in
set_option maxRecDepth 100000 in
theorem c_X12_gate (l : Launch) (D : va_G) (cI cJ cZ cH : ClassId) (a_this a_this_before a_this_bestLead a_this_can a_this_given a_this_images a_this_isKept a_this_lead a_this_load a_this_most a_this_net a_this_on a_this_owes a_this_row a_this_silver a_this_st a_this_step a_this_to a_this_together a_this_value a_this_waits a_this_with : Nat) (v_this_above : Int64) (v_this_below : Int64) (v_this_st : Nat → Int32) (v_this_steps : Int32) (v_this_waiting : Int32) (p0 : Int32) {res : Int32 × (Nat → Int32)} (h : F_X12_gate v_this_st p0 = some res) : CTi l yX12_gate wzX12_gate { frames := 1, cells := 0, slots := 0, locals := 25 } D [(cI, .int), (cJ, .long), (cZ, .boolean), (cH, .object "TinHouse$House")] [.ref a_this, .int p0] [(a_this, .inr (12, [.ref a_this_st, .ref a_this_images, .ref a_this_isKept, .long v_this_above, .long v_this_below, .int v_this_steps, .ref a_this_step, .ref a_this_with, .int v_this_waiting, .ref a_this_waits, .ref a_this_value, .ref a_this_given, .ref a_this_net, .ref a_this_together, .ref a_this_most, .ref a_this_owes, .ref a_this_can, .ref a_this_row, .ref a_this_before, .ref a_this_to, .ref a_this_on, .ref a_this_load, .ref a_this_lead, .ref a_this_bestLead, .ref a_this_silver])), (a_this_st, .inl (cI, 1951, .inl v_this_st))] res.1 [(a_this, .inr (12, [.ref a_this_st, .ref a_this_images, .ref a_this_isKept, .long v_this_above, .long v_this_below, .int v_this_steps, .ref a_this_step, .ref a_this_with, .int v_this_waiting, .ref a_this_waits, .ref a_this_value, .ref a_this_given, .ref a_this_net, .ref a_this_together, .ref a_this_most, .ref a_this_owes, .ref a_this_can, .ref a_this_row, .ref a_this_before, .ref a_this_to, .ref a_this_on, .ref a_this_load, .ref a_this_lead, .ref a_this_bestLead, .ref a_this_silver])), (a_this_st, .inl (cI, 1951, .inl res.2))] := by
  unfold F_X12_gate at h
  refine ii_metI (own := RX12) (lv0 := [(0, .ref a_this), (1, .int p0)]) (by decide) rfl rfl rfl (Nat.le_of_ble_eq_true rfl) (fun {p e s m args below meth c A Q} hQ => ?_)
  refine ii_iload_n 1 dX12_gate_0 rfl ?_
  refine ii_i2l dX12_gate_1 ?_
  refine ii_lconst dX12_gate_2 kl0 ?_
  refine ii_lconst dX12_gate_3 kl1 ?_
  obtain ⟨c_1, hc_1, h⟩ := bnd h
  refine ii_callSi (As := [.long p0.toInt64, .long (0 : Int64), .long (1 : Int64)]) (ws' := [(a_this, .inr (12, [.ref a_this_st, .ref a_this_images, .ref a_this_isKept, .long v_this_above, .long v_this_below, .int v_this_steps, .ref a_this_step, .ref a_this_with, .int v_this_waiting, .ref a_this_waits, .ref a_this_value, .ref a_this_given, .ref a_this_net, .ref a_this_together, .ref a_this_most, .ref a_this_owes, .ref a_this_can, .ref a_this_row, .ref a_this_before, .ref a_this_to, .ref a_this_on, .ref a_this_load, .ref a_this_lead, .ref a_this_bestLead, .ref a_this_silver])), (a_this_st, .inl (cI, 1951, .inl v_this_st))]) (st := []) (c_X12_in l D cI cJ cZ cH p0.toInt64 (0 : Int64) (1 : Int64) hc_1) gzX12_79 rfl rfl rfl eS_X12_in ⟨Nat.le_of_ble_eq_true rfl, Nat.le_of_ble_eq_true rfl⟩ rfl [] rfl rfl rfl rfl rfl (Nat.le_of_ble_eq_true rfl) (Nat.le_refl _) (Nat.le_refl _) rfl dX12_gate_4 ?_
  refine ii_if_ne (tgt := 13) h dX12_gate_7 (by decide) (fun h => ?_) (fun h => ?_)
  · skip
    refine ii_aload_n 0 dX12_gate_13 rfl ?_
    refine ii_get (C := RX12) (T := TX12) (N := 25) (ci := 12) izX12 0 rfl rfl 0 (by decide) kX12_7 rfl dX12_gate_14 ?_
    refine ii_iconst dX12_gate_17 kc5 ?_
    refine ii_iald h 1 0 rfl rfl dX12_gate_18 (fun t_2 h => ?_)
    refine ii_bipush dX12_gate_19 kb6 ?_
    refine ii_icmp_ne (tgt := 27) h dX12_gate_21 (by decide) (fun h => ?_) (fun h => ?_)
    · skip
      refine ii_aload_n 0 dX12_gate_27 rfl ?_
      refine ii_get (C := RX12) (T := TX12) (N := 25) (ci := 12) izX12 0 rfl rfl 0 (by decide) kX12_7 rfl dX12_gate_28 ?_
      refine ii_sipush dX12_gate_31 ks1591 ?_
      refine ii_aload_n 0 dX12_gate_34 rfl ?_
      refine ii_get (C := RX12) (T := TX12) (N := 25) (ci := 12) izX12 0 rfl rfl 0 (by decide) kX12_7 rfl dX12_gate_35 ?_
      refine ii_iconst dX12_gate_38 kc5 ?_
      refine ii_iald h 1 0 rfl rfl dX12_gate_39 (fun t_3 h => ?_)
      refine ii_iadd dX12_gate_40 ?_
      refine ii_iload_n 1 dX12_gate_41 rfl ?_
      refine ii_iast (fun g_4 => [(a_this, .inr (12, [.ref a_this_st, .ref a_this_images, .ref a_this_isKept, .long v_this_above, .long v_this_below, .int v_this_steps, .ref a_this_step, .ref a_this_with, .int v_this_waiting, .ref a_this_waits, .ref a_this_value, .ref a_this_given, .ref a_this_net, .ref a_this_together, .ref a_this_most, .ref a_this_owes, .ref a_this_can, .ref a_this_row, .ref a_this_before, .ref a_this_to, .ref a_this_on, .ref a_this_load, .ref a_this_lead, .ref a_this_bestLead, .ref a_this_silver])), (a_this_st, .inl (cI, 1951, .inl g_4))]) h 1 0 rfl rfl dX12_gate_42 (fun _ => rfl) (fun g_4 h => ?_)
      refine ii_aload_n 0 dX12_gate_43 rfl ?_
      refine ii_iconst dX12_gate_44 kc5 ?_
      obtain ⟨c_5, hc_5, h⟩ := bnd h
      refine ii_callVi (As := [.int (5 : Int32)]) (ws' := [(a_this, .inr (12, [.ref a_this_st, .ref a_this_images, .ref a_this_isKept, .long v_this_above, .long v_this_below, .int v_this_steps, .ref a_this_step, .ref a_this_with, .int v_this_waiting, .ref a_this_waits, .ref a_this_value, .ref a_this_given, .ref a_this_net, .ref a_this_together, .ref a_this_most, .ref a_this_owes, .ref a_this_can, .ref a_this_row, .ref a_this_before, .ref a_this_to, .ref a_this_on, .ref a_this_load, .ref a_this_lead, .ref a_this_bestLead, .ref a_this_silver])), (a_this_st, .inl (cI, 1951, .inl c_5.2))]) (st := []) (c_X12_one l D cI cJ cZ cH a_this a_this_before a_this_bestLead a_this_can a_this_given a_this_images a_this_isKept a_this_lead a_this_load a_this_most a_this_net a_this_on a_this_owes a_this_row a_this_silver a_this_st a_this_step a_this_to a_this_together a_this_value a_this_waits a_this_with v_this_above v_this_below g_4 v_this_steps v_this_waiting (5 : Int32) hc_5) gzX12_91 rfl rfl rfl eV_X12_one ⟨Nat.le_of_ble_eq_true rfl, Nat.le_of_ble_eq_true rfl⟩ rfl 0 rfl rfl [0, 1] rfl rfl rfl rfl rfl (Nat.le_of_ble_eq_true rfl) (Nat.le_refl _) (Nat.le_refl _) rfl dX12_gate_45 ?_
      refine ii_iconst dX12_gate_48 kc1 ?_
      refine ii_iadd dX12_gate_49 ?_
      cases h
      exact hQ _ _ dX12_gate_50
    · skip
      refine ii_bipush dX12_gate_24 kbm4 ?_
      cases h
      exact hQ _ _ dX12_gate_26
  · skip
    refine ii_bipush dX12_gate_10 kbm2 ?_
    cases h
    exact hQ _ _ dX12_gate_12
set_option maxHeartbeats 4000000 in
set_option maxRecDepth 100000 in
theorem c_X12_isWeight (l : Launch) (D : va_G) (cI cJ cZ cH : ClassId) (p0 : Int32) {res : Int32} (h : F_X12_isWeight p0 = some res) : CTi l yX12_isWeight wzX12_isWeight { frames := 1, cells := 0, slots := 0, locals := 25 } D [(cI, .int), (cJ, .long), (cZ, .boolean), (cH, .object "TinHouse$House")] [.int p0] [] res [] := by
  unfold F_X12_isWeight at h
  refine ii_metZ (own := RX12) (lv0 := [(0, .int p0)]) (by decide) rfl rfl rfl (Nat.le_of_ble_eq_true rfl) (fun {p e s m args below meth c A Q} hQ => ?_)
  refine ii_iload_n 0 dX12_isWeight_0 rfl ?_
  refine ii_i2l dX12_isWeight_1 ?_
  refine ii_lconst dX12_isWeight_2 kl1 ?_
  refine ii_ldc2 (v := 1000000) dX12_isWeight_3 kX12_177 ?_
  obtain ⟨c_1, hc_1, h⟩ := bnd h
  refine ii_callSi (As := [.long p0.toInt64, .long (1 : Int64), .long (1000000 : Int64)]) (ws' := []) (st := []) (c_X12_in l D cI cJ cZ cH p0.toInt64 (1 : Int64) (1000000 : Int64) hc_1) gzX12_79 rfl rfl rfl eS_X12_in ⟨Nat.le_of_ble_eq_true rfl, Nat.le_of_ble_eq_true rfl⟩ rfl [] rfl rfl rfl rfl rfl (Nat.le_of_ble_eq_true rfl) (Nat.le_refl _) (Nat.le_refl _) rfl dX12_isWeight_6 ?_
  refine ii_topB h (fun t_2 hz_3 h => ?_)
  cases h
  exact hQ _ _ dX12_isWeight_9 hz_3
set_option maxHeartbeats 4000000 in
set_option maxRecDepth 100000 in
theorem c_X12_wideOf (l : Launch) (D : va_G) (cI cJ cZ cH : ClassId) (a_this a_this_before a_this_bestLead a_this_can a_this_given a_this_images a_this_isKept a_this_lead a_this_load a_this_most a_this_net a_this_on a_this_owes a_this_row a_this_silver a_this_st a_this_step a_this_to a_this_together a_this_value a_this_waits a_this_with : Nat) (v_this_above : Int64) (v_this_below : Int64) (v_this_given : Nat → Int64) (v_this_st : Nat → Int32) (v_this_step : Nat → Int32) (v_this_steps : Int32) (v_this_value : Nat → Int64) (v_this_waiting : Int32) (v_this_waits : Nat → Int32) (v_this_with : Nat → Int32) (p0 : Int32) (p1 : Int32) (p2 : Int32) {res : Int32 × (Nat → Int64) × (Nat → Int32) × Int32 × (Nat → Int64) × Int32 × (Nat → Int32) × (Nat → Int32)} (h : F_X12_wideOf v_this_given v_this_st v_this_step v_this_steps v_this_value v_this_waiting v_this_waits v_this_with p0 p1 p2 = some res) : CTi l yX12_wideOf wzX12_wideOf { frames := 5, cells := 0, slots := 0, locals := 124 } D [(cI, .int), (cJ, .long), (cZ, .boolean), (cH, .object "TinHouse$House")] [.ref a_this, .int p0, .int p1, .int p2] [(a_this, .inr (12, [.ref a_this_st, .ref a_this_images, .ref a_this_isKept, .long v_this_above, .long v_this_below, .int v_this_steps, .ref a_this_step, .ref a_this_with, .int v_this_waiting, .ref a_this_waits, .ref a_this_value, .ref a_this_given, .ref a_this_net, .ref a_this_together, .ref a_this_most, .ref a_this_owes, .ref a_this_can, .ref a_this_row, .ref a_this_before, .ref a_this_to, .ref a_this_on, .ref a_this_load, .ref a_this_lead, .ref a_this_bestLead, .ref a_this_silver])), (a_this_given, .inl (cJ, 5, .inr (.inl v_this_given))), (a_this_st, .inl (cI, 1951, .inl v_this_st)), (a_this_step, .inl (cI, 70, .inl v_this_step)), (a_this_value, .inl (cJ, 70, .inr (.inl v_this_value))), (a_this_waits, .inl (cI, 70, .inl v_this_waits)), (a_this_with, .inl (cI, 70, .inl v_this_with))] res.1 [(a_this, .inr (12, [.ref a_this_st, .ref a_this_images, .ref a_this_isKept, .long v_this_above, .long v_this_below, .int res.2.2.2.1, .ref a_this_step, .ref a_this_with, .int res.2.2.2.2.2.1, .ref a_this_waits, .ref a_this_value, .ref a_this_given, .ref a_this_net, .ref a_this_together, .ref a_this_most, .ref a_this_owes, .ref a_this_can, .ref a_this_row, .ref a_this_before, .ref a_this_to, .ref a_this_on, .ref a_this_load, .ref a_this_lead, .ref a_this_bestLead, .ref a_this_silver])), (a_this_given, .inl (cJ, 5, .inr (.inl res.2.1))), (a_this_st, .inl (cI, 1951, .inl v_this_st)), (a_this_step, .inl (cI, 70, .inl res.2.2.1)), (a_this_value, .inl (cJ, 70, .inr (.inl res.2.2.2.2.1))), (a_this_waits, .inl (cI, 70, .inl res.2.2.2.2.2.2.1)), (a_this_with, .inl (cI, 70, .inl res.2.2.2.2.2.2.2))] := by
  unfold F_X12_wideOf at h
  refine ii_metI (own := RX12) (lv0 := [(0, .ref a_this), (1, .int p0), (2, .int p1), (3, .int p2)]) (by decide) rfl rfl rfl (Nat.le_of_ble_eq_true rfl) (fun {p e s m args below meth c A Q} hQ => ?_)
  refine ii_iload_n 2 dX12_wideOf_0 rfl ?_
  refine ii_istore (lv' := [(4, .int p1), (0, .ref a_this), (1, .int p0), (2, .int p1), (3, .int p2)]) dX12_wideOf_1 (by decide) rfl ?_
  refine ii_iconst dX12_wideOf_3 kc0 ?_
  refine ii_istore (lv' := [(5, .int (0 : Int32)), (4, .int p1), (0, .ref a_this), (1, .int p0), (2, .int p1), (3, .int p2)]) dX12_wideOf_4 (by decide) rfl ?_
  refine ii_lv [2, 3, 5, 1, 0] rfl ?_
  obtain ⟨x_2, hl_1, h⟩ := bnd h
  refine ii_loopX (fun s_1 => [(a_this, .inr (12, [.ref a_this_st, .ref a_this_images, .ref a_this_isKept, .long v_this_above, .long v_this_below, .int s_1.2.2.2.2.1, .ref a_this_step, .ref a_this_with, .int s_1.2.2.2.2.2.2.1, .ref a_this_waits, .ref a_this_value, .ref a_this_given, .ref a_this_net, .ref a_this_together, .ref a_this_most, .ref a_this_owes, .ref a_this_can, .ref a_this_row, .ref a_this_before, .ref a_this_to, .ref a_this_on, .ref a_this_load, .ref a_this_lead, .ref a_this_bestLead, .ref a_this_silver])), (a_this_given, .inl (cJ, 5, .inr (.inl s_1.2.2.1))), (a_this_st, .inl (cI, 1951, .inl v_this_st)), (a_this_step, .inl (cI, 70, .inl s_1.2.2.2.1)), (a_this_value, .inl (cJ, 70, .inr (.inl s_1.2.2.2.2.2.1))), (a_this_waits, .inl (cI, 70, .inl s_1.2.2.2.2.2.2.2.1)), (a_this_with, .inl (cI, 70, .inl s_1.2.2.2.2.2.2.2.2))]) (fun s_1 => [(0, .ref a_this), (1, .int p0), (3, .int p2), (4, .int s_1.1), (5, .int s_1.2.1)]) (fun x_2 => [(a_this, .inr (12, [.ref a_this_st, .ref a_this_images, .ref a_this_isKept, .long v_this_above, .long v_this_below, .int x_2.2.2.2.2.1, .ref a_this_step, .ref a_this_with, .int x_2.2.2.2.2.2.2.1, .ref a_this_waits, .ref a_this_value, .ref a_this_given, .ref a_this_net, .ref a_this_together, .ref a_this_most, .ref a_this_owes, .ref a_this_can, .ref a_this_row, .ref a_this_before, .ref a_this_to, .ref a_this_on, .ref a_this_load, .ref a_this_lead, .ref a_this_bestLead, .ref a_this_silver])), (a_this_given, .inl (cJ, 5, .inr (.inl x_2.2.2.1))), (a_this_st, .inl (cI, 1951, .inl v_this_st)), (a_this_step, .inl (cI, 70, .inl x_2.2.2.2.1)), (a_this_value, .inl (cJ, 70, .inr (.inl x_2.2.2.2.2.2.1))), (a_this_waits, .inl (cI, 70, .inl x_2.2.2.2.2.2.2.2.1)), (a_this_with, .inl (cI, 70, .inl x_2.2.2.2.2.2.2.2.2))]) (fun x_2 => [(4, .int x_2.1)]) 85 hl_1 rfl rfl ?_ (fun s_1 o h hb_1 hr_1 hx_1 => ?_)
  · skip
    refine ii_iload 0 dX12_wideOf_85 rfl ?_
    cases h
    exact hQ _ _ dX12_wideOf_87
  · skip
    refine ii_iload 4 dX12_wideOf_6 rfl ?_
    refine ii_aload_n 0 dX12_wideOf_8 rfl ?_
    refine ii_get (C := RX12) (T := TX12) (N := 25) (ci := 12) izX12 0 rfl rfl 0 (by decide) kX12_7 rfl dX12_wideOf_9 ?_
    refine ii_iconst dX12_wideOf_12 kc5 ?_
    refine ii_iald h 2 0 rfl rfl dX12_wideOf_13 (fun t_3 h => ?_)
    refine ii_icmp_ge (tgt := 85) h dX12_wideOf_14 (by decide) (fun h => ?_) (fun h => ?_)
    · skip
      refine ii_lv [3] rfl ?_
      cases h
      exact hx_1 (s_1.1, s_1.2.1, s_1.2.2.1, s_1.2.2.2.1, s_1.2.2.2.2.1, s_1.2.2.2.2.2.1, s_1.2.2.2.2.2.2.1, s_1.2.2.2.2.2.2.2.1, s_1.2.2.2.2.2.2.2.2) (hr_1 _ rfl)
    · skip
      refine ii_aload_n 0 dX12_wideOf_17 rfl ?_
      refine ii_get (C := RX12) (T := TX12) (N := 25) (ci := 12) izX12 0 rfl rfl 0 (by decide) kX12_7 rfl dX12_wideOf_18 ?_
      refine ii_sipush dX12_wideOf_21 ks1591 ?_
      refine ii_iload 4 dX12_wideOf_24 rfl ?_
      refine ii_iadd dX12_wideOf_26 ?_
      refine ii_iald h 2 0 rfl rfl dX12_wideOf_27 (fun t_4 h => ?_)
      refine ii_istore (lv' := [(6, .int t_4), (0, .ref a_this), (1, .int p0), (3, .int p2), (4, .int s_1.1), (5, .int s_1.2.1)]) dX12_wideOf_28 (by decide) rfl ?_
      refine ii_aload_n 1 dX12_wideOf_30 rfl ?_
      refine ii_iconst dX12_wideOf_31 kc0 ?_
      refine ii_iload 5 dX12_wideOf_32 rfl ?_
      refine ii_aload_n 1 dX12_wideOf_34 rfl ?_
      refine ii_iload_n 2 dX12_wideOf_35 rfl ?_
      obtain ⟨c_5, hc_5, h⟩ := bnd h
      refine ii_callVi (As := [.int p0]) (ws' := [(a_this, .inr (12, [.ref a_this_st, .ref a_this_images, .ref a_this_isKept, .long v_this_above, .long v_this_below, .int s_1.2.2.2.2.1, .ref a_this_step, .ref a_this_with, .int s_1.2.2.2.2.2.2.1, .ref a_this_waits, .ref a_this_value, .ref a_this_given, .ref a_this_net, .ref a_this_together, .ref a_this_most, .ref a_this_owes, .ref a_this_can, .ref a_this_row, .ref a_this_before, .ref a_this_to, .ref a_this_on, .ref a_this_load, .ref a_this_lead, .ref a_this_bestLead, .ref a_this_silver])), (a_this_given, .inl (cJ, 5, .inr (.inl s_1.2.2.1))), (a_this_st, .inl (cI, 1951, .inl v_this_st)), (a_this_step, .inl (cI, 70, .inl s_1.2.2.2.1)), (a_this_value, .inl (cJ, 70, .inr (.inl s_1.2.2.2.2.2.1))), (a_this_waits, .inl (cI, 70, .inl s_1.2.2.2.2.2.2.2.1)), (a_this_with, .inl (cI, 70, .inl s_1.2.2.2.2.2.2.2.2))]) (st := [.int s_1.2.1, .int (0 : Int32), .ref a_this]) (c_X12_town l D cI cJ cZ cH a_this a_this_before a_this_bestLead a_this_can a_this_given a_this_images a_this_isKept a_this_lead a_this_load a_this_most a_this_net a_this_on a_this_owes a_this_row a_this_silver a_this_st a_this_step a_this_to a_this_together a_this_value a_this_waits a_this_with v_this_above v_this_below v_this_st s_1.2.2.2.2.1 s_1.2.2.2.2.2.2.1 p0 hc_5) gzX12_185 rfl rfl rfl eV_X12_town ⟨Nat.le_of_ble_eq_true rfl, Nat.le_of_ble_eq_true rfl⟩ rfl 0 rfl rfl [0, 2] rfl rfl rfl rfl rfl (Nat.le_of_ble_eq_true rfl) (Nat.le_refl _) (Nat.le_refl _) rfl dX12_wideOf_36 ?_
      refine ii_iload 0 dX12_wideOf_39 rfl ?_
      refine ii_jn h (fun j_6 => [(a_this, .inr (12, [.ref a_this_st, .ref a_this_images, .ref a_this_isKept, .long v_this_above, .long v_this_below, .int s_1.2.2.2.2.1, .ref a_this_step, .ref a_this_with, .int s_1.2.2.2.2.2.2.1, .ref a_this_waits, .ref a_this_value, .ref a_this_given, .ref a_this_net, .ref a_this_together, .ref a_this_most, .ref a_this_owes, .ref a_this_can, .ref a_this_row, .ref a_this_before, .ref a_this_to, .ref a_this_on, .ref a_this_load, .ref a_this_lead, .ref a_this_bestLead, .ref a_this_silver])), (a_this_given, .inl (cJ, 5, .inr (.inl s_1.2.2.1))), (a_this_st, .inl (cI, 1951, .inl v_this_st)), (a_this_step, .inl (cI, 70, .inl s_1.2.2.2.1)), (a_this_value, .inl (cJ, 70, .inr (.inl s_1.2.2.2.2.2.1))), (a_this_waits, .inl (cI, 70, .inl s_1.2.2.2.2.2.2.2.1)), (a_this_with, .inl (cI, 70, .inl s_1.2.2.2.2.2.2.2.2))]) (fun j_6 => [(0, .ref a_this), (1, .int p0), (3, .int p2), (4, .int s_1.1), (5, .int s_1.2.1), (6, .int t_4)]) 49 (fun j_6 => [.int j_6, .int s_1.2.1, .int (0 : Int32), .ref a_this]) (fun j_6 h => ?_) (fun j_6 h hjj_6 => ?_)
      · skip
        refine ii_iload 5 dX12_wideOf_49 rfl ?_
        refine ii_iload_n 2 dX12_wideOf_51 rfl ?_
        refine ii_iload 3 dX12_wideOf_52 rfl ?_
        refine ii_i2l dX12_wideOf_54 ?_
        refine ii_bipush dX12_wideOf_55 kb100 ?_
        obtain ⟨c_7, hc_7, h⟩ := bnd h
        refine ii_callVi (As := [.int (0 : Int32), .int s_1.2.1, .int j_6, .int t_4, .int p2, .long s_1.1.toInt64, .int (100 : Int32)]) (ws' := [(a_this, .inr (12, [.ref a_this_st, .ref a_this_images, .ref a_this_isKept, .long v_this_above, .long v_this_below, .int c_7.2.2.2.1, .ref a_this_step, .ref a_this_with, .int c_7.2.2.2.2.2.1, .ref a_this_waits, .ref a_this_value, .ref a_this_given, .ref a_this_net, .ref a_this_together, .ref a_this_most, .ref a_this_owes, .ref a_this_can, .ref a_this_row, .ref a_this_before, .ref a_this_to, .ref a_this_on, .ref a_this_load, .ref a_this_lead, .ref a_this_bestLead, .ref a_this_silver])), (a_this_given, .inl (cJ, 5, .inr (.inl c_7.2.1))), (a_this_st, .inl (cI, 1951, .inl v_this_st)), (a_this_step, .inl (cI, 70, .inl c_7.2.2.1)), (a_this_value, .inl (cJ, 70, .inr (.inl c_7.2.2.2.2.1))), (a_this_waits, .inl (cI, 70, .inl c_7.2.2.2.2.2.2.1)), (a_this_with, .inl (cI, 70, .inl c_7.2.2.2.2.2.2.2))]) (st := []) (c_X12_told l D cI cJ cZ cH a_this a_this_before a_this_bestLead a_this_can a_this_given a_this_images a_this_isKept a_this_lead a_this_load a_this_most a_this_net a_this_on a_this_owes a_this_row a_this_silver a_this_st a_this_step a_this_to a_this_together a_this_value a_this_waits a_this_with v_this_above v_this_below s_1.2.2.1 v_this_st s_1.2.2.2.1 s_1.2.2.2.2.1 s_1.2.2.2.2.2.1 s_1.2.2.2.2.2.2.1 s_1.2.2.2.2.2.2.2.1 s_1.2.2.2.2.2.2.2.2 (0 : Int32) s_1.2.1 j_6 t_4 p2 s_1.1.toInt64 (100 : Int32) hc_7) gzX12_188 rfl rfl rfl eV_X12_told ⟨Nat.le_of_ble_eq_true rfl, Nat.le_of_ble_eq_true rfl⟩ rfl 0 rfl rfl [0, 1, 2, 3, 4, 5, 6] rfl rfl rfl rfl rfl (Nat.le_of_ble_eq_true rfl) (Nat.le_refl _) (Nat.le_refl _) rfl dX12_wideOf_57 ?_
        refine ii_istore (lv' := [(7, .int c_7.1), (0, .ref a_this), (1, .int p0), (3, .int p2), (4, .int s_1.1), (5, .int s_1.2.1), (6, .int t_4)]) dX12_wideOf_60 (by decide) rfl ?_
        refine ii_iload 4 dX12_wideOf_62 rfl ?_
        refine ii_iload 4 dX12_wideOf_64 rfl ?_
        refine ii_i2l dX12_wideOf_66 ?_
        refine ii_iload 0 dX12_wideOf_67 rfl ?_
        refine ii_i2l dX12_wideOf_69 ?_
        refine ii_lmul dX12_wideOf_70 ?_
        refine ii_ldc2 (v := 100) dX12_wideOf_71 kX12_214 ?_
        refine ii_ldiv h dX12_wideOf_74 (fun t_8 h => ?_)
        refine ii_l2i dX12_wideOf_75 ?_
        refine ii_isub dX12_wideOf_76 ?_
        refine ii_topI h (fun x_9 h => ?_)
        refine ii_istore (lv' := [(4, .int x_9), (7, .int c_7.1), (0, .ref a_this), (1, .int p0), (3, .int p2), (5, .int s_1.2.1), (6, .int t_4)]) dX12_wideOf_77 (by decide) rfl ?_
        refine ii_iinc (fun x_10 => [(5, .int x_10), (4, .int x_9), (7, .int c_7.1), (0, .ref a_this), (1, .int p0), (3, .int p2), (6, .int t_4)]) h 5 dX12_wideOf_79 rfl kc1 (by decide) (fun _ => rfl) (fun x_10 h => ?_)
        refine ii_goto (tgt := 6) dX12_wideOf_82 (by decide) ?_
        refine ii_lv [3, 4, 5, 1, 0] rfl ?_
        cases h
        exact hb_1 (x_9, x_10, c_7.2.1, c_7.2.2.1, c_7.2.2.2.1, c_7.2.2.2.2.1, c_7.2.2.2.2.2.1, c_7.2.2.2.2.2.2.1, c_7.2.2.2.2.2.2.2) rfl
      · skip
        refine ii_icmp_ne (tgt := 48) h dX12_wideOf_41 (by decide) (fun h => ?_) (fun h => ?_)
        · skip
          refine ii_iconst dX12_wideOf_48 kc0 ?_
          refine ii_lv [1, 2, 3, 4, 5, 0] rfl ?_
          cases h
          exact hjj_6
        · skip
          refine ii_iconst dX12_wideOf_44 kc1 ?_
          refine ii_goto (tgt := 49) dX12_wideOf_45 (by decide) ?_
          refine ii_lv [1, 2, 3, 4, 5, 0] rfl ?_
          cases h
          exact hjj_6
set_option maxHeartbeats 4000000 in
set_option maxRecDepth 100000 in
theorem c_X12_wide (l : Launch) (D : va_G) (cI cJ cZ cH : ClassId) (a_this a_this_before a_this_bestLead a_this_can a_this_given a_this_images a_this_isKept a_this_lead a_this_load a_this_most a_this_net a_this_on a_this_owes a_this_row a_this_silver a_this_st a_this_step a_this_to a_this_together a_this_value a_this_waits a_this_with : Nat) (v_this_above : Int64) (v_this_below : Int64) (v_this_given : Nat → Int64) (v_this_st : Nat → Int32) (v_this_step : Nat → Int32) (v_this_steps : Int32) (v_this_value : Nat → Int64) (v_this_waiting : Int32) (v_this_waits : Nat → Int32) (v_this_with : Nat → Int32) (p0 : Int32) (p1 : Int32) (p2 : Int32) {res : Int32 × (Nat → Int64) × (Nat → Int32) × Int32 × (Nat → Int64) × Int32 × (Nat → Int32) × (Nat → Int32)} (h : F_X12_wide v_this_given v_this_st v_this_step v_this_steps v_this_value v_this_waiting v_this_waits v_this_with p0 p1 p2 = some res) : CTi l yX12_wide wzX12_wide { frames := 6, cells := 0, slots := 0, locals := 151 } D [(cI, .int), (cJ, .long), (cZ, .boolean), (cH, .object "TinHouse$House")] [.ref a_this, .int p0, .int p1, .int p2] [(a_this, .inr (12, [.ref a_this_st, .ref a_this_images, .ref a_this_isKept, .long v_this_above, .long v_this_below, .int v_this_steps, .ref a_this_step, .ref a_this_with, .int v_this_waiting, .ref a_this_waits, .ref a_this_value, .ref a_this_given, .ref a_this_net, .ref a_this_together, .ref a_this_most, .ref a_this_owes, .ref a_this_can, .ref a_this_row, .ref a_this_before, .ref a_this_to, .ref a_this_on, .ref a_this_load, .ref a_this_lead, .ref a_this_bestLead, .ref a_this_silver])), (a_this_given, .inl (cJ, 5, .inr (.inl v_this_given))), (a_this_st, .inl (cI, 1951, .inl v_this_st)), (a_this_step, .inl (cI, 70, .inl v_this_step)), (a_this_value, .inl (cJ, 70, .inr (.inl v_this_value))), (a_this_waits, .inl (cI, 70, .inl v_this_waits)), (a_this_with, .inl (cI, 70, .inl v_this_with))] res.1 [(a_this, .inr (12, [.ref a_this_st, .ref a_this_images, .ref a_this_isKept, .long v_this_above, .long v_this_below, .int res.2.2.2.1, .ref a_this_step, .ref a_this_with, .int res.2.2.2.2.2.1, .ref a_this_waits, .ref a_this_value, .ref a_this_given, .ref a_this_net, .ref a_this_together, .ref a_this_most, .ref a_this_owes, .ref a_this_can, .ref a_this_row, .ref a_this_before, .ref a_this_to, .ref a_this_on, .ref a_this_load, .ref a_this_lead, .ref a_this_bestLead, .ref a_this_silver])), (a_this_given, .inl (cJ, 5, .inr (.inl res.2.1))), (a_this_st, .inl (cI, 1951, .inl v_this_st)), (a_this_step, .inl (cI, 70, .inl res.2.2.1)), (a_this_value, .inl (cJ, 70, .inr (.inl res.2.2.2.2.1))), (a_this_waits, .inl (cI, 70, .inl res.2.2.2.2.2.2.1)), (a_this_with, .inl (cI, 70, .inl res.2.2.2.2.2.2.2))] := by
  unfold F_X12_wide at h
  refine ii_metI (own := RX12) (lv0 := [(0, .ref a_this), (1, .int p0), (2, .int p1), (3, .int p2)]) (by decide) rfl rfl rfl (Nat.le_of_ble_eq_true rfl) (fun {p e s m args below meth c A Q} hQ => ?_)
  refine ii_aload_n 0 dX12_wide_0 rfl ?_
  refine ii_iconst dX12_wide_1 kc0 ?_
  refine ii_iload_n 1 dX12_wide_2 rfl ?_
  obtain ⟨c_1, hc_1, h⟩ := bnd h
  refine ii_callVi (As := [.int (0 : Int32), .int p0]) (ws' := [(a_this, .inr (12, [.ref a_this_st, .ref a_this_images, .ref a_this_isKept, .long v_this_above, .long v_this_below, .int v_this_steps, .ref a_this_step, .ref a_this_with, .int v_this_waiting, .ref a_this_waits, .ref a_this_value, .ref a_this_given, .ref a_this_net, .ref a_this_together, .ref a_this_most, .ref a_this_owes, .ref a_this_can, .ref a_this_row, .ref a_this_before, .ref a_this_to, .ref a_this_on, .ref a_this_load, .ref a_this_lead, .ref a_this_bestLead, .ref a_this_silver])), (a_this_given, .inl (cJ, 5, .inr (.inl v_this_given))), (a_this_st, .inl (cI, 1951, .inl v_this_st)), (a_this_step, .inl (cI, 70, .inl v_this_step)), (a_this_value, .inl (cJ, 70, .inr (.inl v_this_value))), (a_this_waits, .inl (cI, 70, .inl v_this_waits)), (a_this_with, .inl (cI, 70, .inl v_this_with))]) (st := []) (c_X12_is l D cI cJ cZ cH a_this a_this_before a_this_bestLead a_this_can a_this_given a_this_images a_this_isKept a_this_lead a_this_load a_this_most a_this_net a_this_on a_this_owes a_this_row a_this_silver a_this_st a_this_step a_this_to a_this_together a_this_value a_this_waits a_this_with v_this_above v_this_below v_this_st v_this_steps v_this_waiting (0 : Int32) p0 hc_1) gzX12_173 rfl rfl rfl eV_X12_is ⟨Nat.le_of_ble_eq_true rfl, Nat.le_of_ble_eq_true rfl⟩ rfl 0 rfl rfl [0, 2] rfl rfl rfl rfl rfl (Nat.le_of_ble_eq_true rfl) (Nat.le_refl _) (Nat.le_refl _) rfl dX12_wide_3 ?_
  refine ii_jn h (fun j_2 => [(a_this, .inr (12, [.ref a_this_st, .ref a_this_images, .ref a_this_isKept, .long v_this_above, .long v_this_below, .int j_2.2.2.2.1, .ref a_this_step, .ref a_this_with, .int j_2.2.2.2.2.2.1, .ref a_this_waits, .ref a_this_value, .ref a_this_given, .ref a_this_net, .ref a_this_together, .ref a_this_most, .ref a_this_owes, .ref a_this_can, .ref a_this_row, .ref a_this_before, .ref a_this_to, .ref a_this_on, .ref a_this_load, .ref a_this_lead, .ref a_this_bestLead, .ref a_this_silver])), (a_this_given, .inl (cJ, 5, .inr (.inl j_2.2.1))), (a_this_st, .inl (cI, 1951, .inl v_this_st)), (a_this_step, .inl (cI, 70, .inl j_2.2.2.1)), (a_this_value, .inl (cJ, 70, .inr (.inl j_2.2.2.2.2.1))), (a_this_waits, .inl (cI, 70, .inl j_2.2.2.2.2.2.2.1)), (a_this_with, .inl (cI, 70, .inl j_2.2.2.2.2.2.2.2))]) (fun j_2 => []) 35 (fun j_2 => [.int j_2.1]) (fun j_2 h => ?_) (fun j_2 h hjj_2 => ?_)
  · skip
    cases h
    exact hQ _ _ dX12_wide_35
  · skip
    refine ii_if_eq (tgt := 33) h dX12_wide_6 (by decide) (fun h => ?_) (fun h => ?_)
    · skip
      refine ii_bipush dX12_wide_33 kbm2 ?_
      refine ii_lv [] rfl ?_
      cases h
      exact hjj_2
    · skip
      refine ii_iload_n 2 dX12_wide_9 rfl ?_
      obtain ⟨c_3, hc_3, h⟩ := bnd h
      refine ii_callSi (As := [.int p1]) (ws' := [(a_this, .inr (12, [.ref a_this_st, .ref a_this_images, .ref a_this_isKept, .long v_this_above, .long v_this_below, .int v_this_steps, .ref a_this_step, .ref a_this_with, .int v_this_waiting, .ref a_this_waits, .ref a_this_value, .ref a_this_given, .ref a_this_net, .ref a_this_together, .ref a_this_most, .ref a_this_owes, .ref a_this_can, .ref a_this_row, .ref a_this_before, .ref a_this_to, .ref a_this_on, .ref a_this_load, .ref a_this_lead, .ref a_this_bestLead, .ref a_this_silver])), (a_this_given, .inl (cJ, 5, .inr (.inl v_this_given))), (a_this_st, .inl (cI, 1951, .inl v_this_st)), (a_this_step, .inl (cI, 70, .inl v_this_step)), (a_this_value, .inl (cJ, 70, .inr (.inl v_this_value))), (a_this_waits, .inl (cI, 70, .inl v_this_waits)), (a_this_with, .inl (cI, 70, .inl v_this_with))]) (st := []) (c_X12_isWeight l D cI cJ cZ cH p1 hc_3) gzX12_216 rfl rfl rfl eS_X12_isWeight ⟨Nat.le_of_ble_eq_true rfl, Nat.le_of_ble_eq_true rfl⟩ rfl [] rfl rfl rfl rfl rfl (Nat.le_of_ble_eq_true rfl) (Nat.le_refl _) (Nat.le_refl _) rfl dX12_wide_10 ?_
      refine ii_if_eq (tgt := 33) h dX12_wide_13 (by decide) (fun h => ?_) (fun h => ?_)
      · skip
        refine ii_bipush dX12_wide_33 kbm2 ?_
        refine ii_lv [] rfl ?_
        cases h
        exact hjj_2
      · skip
        refine ii_iload_n 3 dX12_wide_16 rfl ?_
        obtain ⟨c_4, hc_4, h⟩ := bnd h
        refine ii_callSi (As := [.int p2]) (ws' := [(a_this, .inr (12, [.ref a_this_st, .ref a_this_images, .ref a_this_isKept, .long v_this_above, .long v_this_below, .int v_this_steps, .ref a_this_step, .ref a_this_with, .int v_this_waiting, .ref a_this_waits, .ref a_this_value, .ref a_this_given, .ref a_this_net, .ref a_this_together, .ref a_this_most, .ref a_this_owes, .ref a_this_can, .ref a_this_row, .ref a_this_before, .ref a_this_to, .ref a_this_on, .ref a_this_load, .ref a_this_lead, .ref a_this_bestLead, .ref a_this_silver])), (a_this_given, .inl (cJ, 5, .inr (.inl v_this_given))), (a_this_st, .inl (cI, 1951, .inl v_this_st)), (a_this_step, .inl (cI, 70, .inl v_this_step)), (a_this_value, .inl (cJ, 70, .inr (.inl v_this_value))), (a_this_waits, .inl (cI, 70, .inl v_this_waits)), (a_this_with, .inl (cI, 70, .inl v_this_with))]) (st := []) (c_X12_isSeason l D cI cJ cZ cH p2 hc_4) gzX12_153 rfl rfl rfl eS_X12_isSeason ⟨Nat.le_of_ble_eq_true rfl, Nat.le_of_ble_eq_true rfl⟩ rfl [] rfl rfl rfl rfl rfl (Nat.le_of_ble_eq_true rfl) (Nat.le_refl _) (Nat.le_refl _) rfl dX12_wide_17 ?_
        refine ii_if_eq (tgt := 33) h dX12_wide_20 (by decide) (fun h => ?_) (fun h => ?_)
        · skip
          refine ii_bipush dX12_wide_33 kbm2 ?_
          refine ii_lv [] rfl ?_
          cases h
          exact hjj_2
        · skip
          refine ii_aload_n 0 dX12_wide_23 rfl ?_
          refine ii_iload_n 1 dX12_wide_24 rfl ?_
          refine ii_iload_n 2 dX12_wide_25 rfl ?_
          refine ii_iload_n 3 dX12_wide_26 rfl ?_
          obtain ⟨c_5, hc_5, h⟩ := bnd h
          refine ii_callVi (As := [.int p0, .int p1, .int p2]) (ws' := [(a_this, .inr (12, [.ref a_this_st, .ref a_this_images, .ref a_this_isKept, .long v_this_above, .long v_this_below, .int c_5.2.2.2.1, .ref a_this_step, .ref a_this_with, .int c_5.2.2.2.2.2.1, .ref a_this_waits, .ref a_this_value, .ref a_this_given, .ref a_this_net, .ref a_this_together, .ref a_this_most, .ref a_this_owes, .ref a_this_can, .ref a_this_row, .ref a_this_before, .ref a_this_to, .ref a_this_on, .ref a_this_load, .ref a_this_lead, .ref a_this_bestLead, .ref a_this_silver])), (a_this_given, .inl (cJ, 5, .inr (.inl c_5.2.1))), (a_this_st, .inl (cI, 1951, .inl v_this_st)), (a_this_step, .inl (cI, 70, .inl c_5.2.2.1)), (a_this_value, .inl (cJ, 70, .inr (.inl c_5.2.2.2.2.1))), (a_this_waits, .inl (cI, 70, .inl c_5.2.2.2.2.2.2.1)), (a_this_with, .inl (cI, 70, .inl c_5.2.2.2.2.2.2.2))]) (st := []) (c_X12_wideOf l D cI cJ cZ cH a_this a_this_before a_this_bestLead a_this_can a_this_given a_this_images a_this_isKept a_this_lead a_this_load a_this_most a_this_net a_this_on a_this_owes a_this_row a_this_silver a_this_st a_this_step a_this_to a_this_together a_this_value a_this_waits a_this_with v_this_above v_this_below v_this_given v_this_st v_this_step v_this_steps v_this_value v_this_waiting v_this_waits v_this_with p0 p1 p2 hc_5) gzX12_219 rfl rfl rfl eV_X12_wideOf ⟨Nat.le_of_ble_eq_true rfl, Nat.le_of_ble_eq_true rfl⟩ rfl 0 rfl rfl [0, 1, 2, 3, 4, 5, 6] rfl rfl rfl rfl rfl (Nat.le_of_ble_eq_true rfl) (Nat.le_refl _) (Nat.le_refl _) rfl dX12_wide_27 ?_
          refine ii_goto (tgt := 35) dX12_wide_30 (by decide) ?_
          refine ii_lv [] rfl ?_
          cases h
          exact hjj_2
set_option maxHeartbeats 4000000 in
set_option maxRecDepth 100000 in
theorem c_X12_narrow (l : Launch) (D : va_G) (cI cJ cZ cH : ClassId) (a_this a_this_before a_this_bestLead a_this_can a_this_given a_this_images a_this_isKept a_this_lead a_this_load a_this_most a_this_net a_this_on a_this_owes a_this_row a_this_silver a_this_st a_this_step a_this_to a_this_together a_this_value a_this_waits a_this_with : Nat) (v_this_above : Int64) (v_this_below : Int64) (v_this_st : Nat → Int32) (v_this_steps : Int32) (v_this_waiting : Int32) (p0 : Int32) {res : Int32 × (Nat → Int32)} (h : F_X12_narrow v_this_st p0 = some res) : CTi l yX12_narrow wzX12_narrow { frames := 1, cells := 0, slots := 0, locals := 25 } D [(cI, .int), (cJ, .long), (cZ, .boolean), (cH, .object "TinHouse$House")] [.ref a_this, .int p0] [(a_this, .inr (12, [.ref a_this_st, .ref a_this_images, .ref a_this_isKept, .long v_this_above, .long v_this_below, .int v_this_steps, .ref a_this_step, .ref a_this_with, .int v_this_waiting, .ref a_this_waits, .ref a_this_value, .ref a_this_given, .ref a_this_net, .ref a_this_together, .ref a_this_most, .ref a_this_owes, .ref a_this_can, .ref a_this_row, .ref a_this_before, .ref a_this_to, .ref a_this_on, .ref a_this_load, .ref a_this_lead, .ref a_this_bestLead, .ref a_this_silver])), (a_this_st, .inl (cI, 1951, .inl v_this_st))] res.1 [(a_this, .inr (12, [.ref a_this_st, .ref a_this_images, .ref a_this_isKept, .long v_this_above, .long v_this_below, .int v_this_steps, .ref a_this_step, .ref a_this_with, .int v_this_waiting, .ref a_this_waits, .ref a_this_value, .ref a_this_given, .ref a_this_net, .ref a_this_together, .ref a_this_most, .ref a_this_owes, .ref a_this_can, .ref a_this_row, .ref a_this_before, .ref a_this_to, .ref a_this_on, .ref a_this_load, .ref a_this_lead, .ref a_this_bestLead, .ref a_this_silver])), (a_this_st, .inl (cI, 1951, .inl res.2))] := by
  unfold F_X12_narrow at h
  refine ii_metI (own := RX12) (lv0 := [(0, .ref a_this), (1, .int p0)]) (by decide) rfl rfl rfl (Nat.le_of_ble_eq_true rfl) (fun {p e s m args below meth c A Q} hQ => ?_)
  refine ii_iload_n 1 dX12_narrow_0 rfl ?_
  refine ii_i2l dX12_narrow_1 ?_
  refine ii_ldc2 (v := 2) dX12_narrow_2 kX12_168 ?_
  refine ii_ldc2 (v := 100) dX12_narrow_5 kX12_214 ?_
  obtain ⟨c_1, hc_1, h⟩ := bnd h
  refine ii_callSi (As := [.long p0.toInt64, .long (2 : Int64), .long (100 : Int64)]) (ws' := [(a_this, .inr (12, [.ref a_this_st, .ref a_this_images, .ref a_this_isKept, .long v_this_above, .long v_this_below, .int v_this_steps, .ref a_this_step, .ref a_this_with, .int v_this_waiting, .ref a_this_waits, .ref a_this_value, .ref a_this_given, .ref a_this_net, .ref a_this_together, .ref a_this_most, .ref a_this_owes, .ref a_this_can, .ref a_this_row, .ref a_this_before, .ref a_this_to, .ref a_this_on, .ref a_this_load, .ref a_this_lead, .ref a_this_bestLead, .ref a_this_silver])), (a_this_st, .inl (cI, 1951, .inl v_this_st))]) (st := []) (c_X12_in l D cI cJ cZ cH p0.toInt64 (2 : Int64) (100 : Int64) hc_1) gzX12_79 rfl rfl rfl eS_X12_in ⟨Nat.le_of_ble_eq_true rfl, Nat.le_of_ble_eq_true rfl⟩ rfl [] rfl rfl rfl rfl rfl (Nat.le_of_ble_eq_true rfl) (Nat.le_refl _) (Nat.le_refl _) rfl dX12_narrow_8 ?_
  refine ii_jn h (fun j_2 => [(a_this, .inr (12, [.ref a_this_st, .ref a_this_images, .ref a_this_isKept, .long v_this_above, .long v_this_below, .int v_this_steps, .ref a_this_step, .ref a_this_with, .int v_this_waiting, .ref a_this_waits, .ref a_this_value, .ref a_this_given, .ref a_this_net, .ref a_this_together, .ref a_this_most, .ref a_this_owes, .ref a_this_can, .ref a_this_row, .ref a_this_before, .ref a_this_to, .ref a_this_on, .ref a_this_load, .ref a_this_lead, .ref a_this_bestLead, .ref a_this_silver])), (a_this_st, .inl (cI, 1951, .inl j_2.2))]) (fun j_2 => []) 26 (fun j_2 => [.int j_2.1]) (fun j_2 h => ?_) (fun j_2 h hjj_2 => ?_)
  · skip
    cases h
    exact hQ _ _ dX12_narrow_26
  · skip
    refine ii_if_eq (tgt := 24) h dX12_narrow_11 (by decide) (fun h => ?_) (fun h => ?_)
    · skip
      refine ii_bipush dX12_narrow_24 kbm2 ?_
      refine ii_lv [] rfl ?_
      cases h
      exact hjj_2
    · skip
      refine ii_aload_n 0 dX12_narrow_14 rfl ?_
      refine ii_bipush dX12_narrow_15 kb11 ?_
      refine ii_iload_n 1 dX12_narrow_17 rfl ?_
      obtain ⟨c_3, hc_3, h⟩ := bnd h
      refine ii_callVi (As := [.int (11 : Int32), .int p0]) (ws' := [(a_this, .inr (12, [.ref a_this_st, .ref a_this_images, .ref a_this_isKept, .long v_this_above, .long v_this_below, .int v_this_steps, .ref a_this_step, .ref a_this_with, .int v_this_waiting, .ref a_this_waits, .ref a_this_value, .ref a_this_given, .ref a_this_net, .ref a_this_together, .ref a_this_most, .ref a_this_owes, .ref a_this_can, .ref a_this_row, .ref a_this_before, .ref a_this_to, .ref a_this_on, .ref a_this_load, .ref a_this_lead, .ref a_this_bestLead, .ref a_this_silver])), (a_this_st, .inl (cI, 1951, .inl c_3.2))]) (st := []) (c_X12_puts l D cI cJ cZ cH a_this a_this_before a_this_bestLead a_this_can a_this_given a_this_images a_this_isKept a_this_lead a_this_load a_this_most a_this_net a_this_on a_this_owes a_this_row a_this_silver a_this_st a_this_step a_this_to a_this_together a_this_value a_this_waits a_this_with v_this_above v_this_below v_this_st v_this_steps v_this_waiting (11 : Int32) p0 hc_3) gzX12_144 rfl rfl rfl eV_X12_puts ⟨Nat.le_of_ble_eq_true rfl, Nat.le_of_ble_eq_true rfl⟩ rfl 0 rfl rfl [0, 1] rfl rfl rfl rfl rfl (Nat.le_of_ble_eq_true rfl) (Nat.le_refl _) (Nat.le_refl _) rfl dX12_narrow_18 ?_
      refine ii_goto (tgt := 26) dX12_narrow_21 (by decide) ?_
      refine ii_lv [] rfl ?_
      cases h
      exact hjj_2
set_option maxHeartbeats 4000000 in
set_option maxRecDepth 100000 in
theorem c_X12_divisor (l : Launch) (D : va_G) (cI cJ cZ cH : ClassId) (p0 : Int64) (p1 : Int64) {res : Int64} (h : F_X12_divisor p0 p1 = some res) : CTl l yX12_divisor wzX12_divisor { frames := 0, cells := 0, slots := 0, locals := 0 } D [(cI, .int), (cJ, .long), (cZ, .boolean), (cH, .object "TinHouse$House")] [.long p0, .long p1] [] res [] := by
  unfold F_X12_divisor at h
  refine ii_metL (own := RX12) (lv0 := [(0, .long p0), (2, .long p1)]) (by decide) rfl rfl rfl (Nat.le_of_ble_eq_true rfl) (fun {p e s m args below meth c A Q} hQ => ?_)
  refine ii_lload_n 0 dX12_divisor_0 rfl ?_
  refine ii_lstore (lv' := [(4, .long p0), (0, .long p0), (2, .long p1)]) dX12_divisor_1 (by decide) rfl ?_
  refine ii_lload_n 2 dX12_divisor_3 rfl ?_
  refine ii_lstore (lv' := [(6, .long p1), (4, .long p0), (0, .long p0), (2, .long p1)]) dX12_divisor_4 (by decide) rfl ?_
  refine ii_lv [1, 0] rfl ?_
  obtain ⟨x_2, hl_1, h⟩ := bnd h
  refine ii_loopX (fun s_1 => []) (fun s_1 => [(4, .long s_1.1), (6, .long s_1.2)]) (fun x_2 => []) (fun x_2 => [(4, .long x_2.1)]) 31 hl_1 rfl rfl ?_ (fun s_1 o h hb_1 hr_1 hx_1 => ?_)
  · skip
    refine ii_lload 0 dX12_divisor_31 rfl ?_
    cases h
    exact hQ _ _ dX12_divisor_33
  · skip
    refine ii_lload 1 dX12_divisor_6 rfl ?_
    refine ii_lconst dX12_divisor_8 kl0 ?_
    refine ii_lcmp_eq (tgt := 31) h dX12_divisor_9 dX12_divisor_10 (by decide) (fun h => ?_) (fun h => ?_)
    · skip
      refine ii_lv [0] rfl ?_
      cases h
      exact hx_1 (s_1.1, s_1.2) (hr_1 _ rfl)
    · skip
      refine ii_lload 0 dX12_divisor_13 rfl ?_
      refine ii_lload 1 dX12_divisor_15 rfl ?_
      refine ii_lrem h dX12_divisor_17 (fun t_3 h => ?_)
      refine ii_lstore (lv' := [(8, .long t_3), (4, .long s_1.1), (6, .long s_1.2)]) dX12_divisor_18 (by decide) rfl ?_
      refine ii_lload 2 dX12_divisor_20 rfl ?_
      refine ii_lstore (lv' := [(4, .long s_1.2), (8, .long t_3), (6, .long s_1.2)]) dX12_divisor_22 (by decide) rfl ?_
      refine ii_lload 1 dX12_divisor_24 rfl ?_
      refine ii_lstore (lv' := [(6, .long t_3), (4, .long s_1.2), (8, .long t_3)]) dX12_divisor_26 (by decide) rfl ?_
      refine ii_goto (tgt := 6) dX12_divisor_28 (by decide) ?_
      refine ii_lv [1, 0] rfl ?_
      cases h
      exact hb_1 (s_1.2, t_3) rfl
set_option maxHeartbeats 4000000 in
set_option maxRecDepth 100000 in
theorem c_X12_tellsFraction (l : Launch) (D : va_G) (cI cJ cZ cH : ClassId) (a_this a_this_before a_this_bestLead a_this_can a_this_given a_this_images a_this_isKept a_this_lead a_this_load a_this_most a_this_net a_this_on a_this_owes a_this_row a_this_silver a_this_st a_this_step a_this_to a_this_together a_this_value a_this_waits a_this_with : Nat) (v_this_above : Int64) (v_this_below : Int64) (v_this_steps : Int32) (v_this_waiting : Int32) (p0 : Int64) (p1 : Int64) {res : Int32 × Int64 × Int64} (h : F_X12_tellsFraction v_this_above v_this_below p0 p1 = some res) : CTi l yX12_tellsFraction wzX12_tellsFraction { frames := 1, cells := 0, slots := 0, locals := 29 } D [(cI, .int), (cJ, .long), (cZ, .boolean), (cH, .object "TinHouse$House")] [.ref a_this, .long p0, .long p1] [(a_this, .inr (12, [.ref a_this_st, .ref a_this_images, .ref a_this_isKept, .long v_this_above, .long v_this_below, .int v_this_steps, .ref a_this_step, .ref a_this_with, .int v_this_waiting, .ref a_this_waits, .ref a_this_value, .ref a_this_given, .ref a_this_net, .ref a_this_together, .ref a_this_most, .ref a_this_owes, .ref a_this_can, .ref a_this_row, .ref a_this_before, .ref a_this_to, .ref a_this_on, .ref a_this_load, .ref a_this_lead, .ref a_this_bestLead, .ref a_this_silver]))] res.1 [(a_this, .inr (12, [.ref a_this_st, .ref a_this_images, .ref a_this_isKept, .long res.2.1, .long res.2.2, .int v_this_steps, .ref a_this_step, .ref a_this_with, .int v_this_waiting, .ref a_this_waits, .ref a_this_value, .ref a_this_given, .ref a_this_net, .ref a_this_together, .ref a_this_most, .ref a_this_owes, .ref a_this_can, .ref a_this_row, .ref a_this_before, .ref a_this_to, .ref a_this_on, .ref a_this_load, .ref a_this_lead, .ref a_this_bestLead, .ref a_this_silver]))] := by
  unfold F_X12_tellsFraction at h
  refine ii_metI (own := RX12) (lv0 := [(0, .ref a_this), (1, .long p0), (3, .long p1)]) (by decide) rfl rfl rfl (Nat.le_of_ble_eq_true rfl) (fun {p e s m args below meth c A Q} hQ => ?_)
  refine ii_lload_n 1 dX12_tellsFraction_0 rfl ?_
  refine ii_lload_n 2 dX12_tellsFraction_1 rfl ?_
  obtain ⟨c_1, hc_1, h⟩ := bnd h
  refine ii_callSl (As := [.long p0, .long p1]) (ws' := [(a_this, .inr (12, [.ref a_this_st, .ref a_this_images, .ref a_this_isKept, .long v_this_above, .long v_this_below, .int v_this_steps, .ref a_this_step, .ref a_this_with, .int v_this_waiting, .ref a_this_waits, .ref a_this_value, .ref a_this_given, .ref a_this_net, .ref a_this_together, .ref a_this_most, .ref a_this_owes, .ref a_this_can, .ref a_this_row, .ref a_this_before, .ref a_this_to, .ref a_this_on, .ref a_this_load, .ref a_this_lead, .ref a_this_bestLead, .ref a_this_silver]))]) (st := []) (c_X12_divisor l D cI cJ cZ cH p0 p1 hc_1) gzX12_223 rfl rfl rfl eS_X12_divisor ⟨Nat.le_of_ble_eq_true rfl, Nat.le_of_ble_eq_true rfl⟩ rfl [] rfl rfl rfl rfl rfl (Nat.le_of_ble_eq_true rfl) (Nat.le_refl _) (Nat.le_refl _) rfl dX12_tellsFraction_2 ?_
  refine ii_lstore (lv' := [(5, .long c_1), (0, .ref a_this), (1, .long p0), (3, .long p1)]) dX12_tellsFraction_5 (by decide) rfl ?_
  refine ii_aload_n 1 dX12_tellsFraction_7 rfl ?_
  refine ii_lload_n 2 dX12_tellsFraction_8 rfl ?_
  refine ii_lload 0 dX12_tellsFraction_9 rfl ?_
  refine ii_ldiv h dX12_tellsFraction_11 (fun t_2 h => ?_)
  refine ii_put (C := RX12) (T := TX12) (N := 25) (ci := 12) (ty0 := tyX12) (ws' := [(a_this, .inr (12, [.ref a_this_st, .ref a_this_images, .ref a_this_isKept, .long t_2, .long v_this_below, .int v_this_steps, .ref a_this_step, .ref a_this_with, .int v_this_waiting, .ref a_this_waits, .ref a_this_value, .ref a_this_given, .ref a_this_net, .ref a_this_together, .ref a_this_most, .ref a_this_owes, .ref a_this_can, .ref a_this_row, .ref a_this_before, .ref a_this_to, .ref a_this_on, .ref a_this_load, .ref a_this_lead, .ref a_this_bestLead, .ref a_this_silver]))]) izX12 tyX12_ok nmX12 0 rfl rfl 3 (by decide) kX12_227 rfl rfl rfl (Nat.le_of_ble_eq_true rfl) dX12_tellsFraction_12 rfl ?_
  refine ii_aload_n 1 dX12_tellsFraction_15 rfl ?_
  refine ii_lload_n 3 dX12_tellsFraction_16 rfl ?_
  refine ii_lload 0 dX12_tellsFraction_17 rfl ?_
  refine ii_ldiv h dX12_tellsFraction_19 (fun t_3 h => ?_)
  refine ii_put (C := RX12) (T := TX12) (N := 25) (ci := 12) (ty0 := tyX12) (ws' := [(a_this, .inr (12, [.ref a_this_st, .ref a_this_images, .ref a_this_isKept, .long t_2, .long t_3, .int v_this_steps, .ref a_this_step, .ref a_this_with, .int v_this_waiting, .ref a_this_waits, .ref a_this_value, .ref a_this_given, .ref a_this_net, .ref a_this_together, .ref a_this_most, .ref a_this_owes, .ref a_this_can, .ref a_this_row, .ref a_this_before, .ref a_this_to, .ref a_this_on, .ref a_this_load, .ref a_this_lead, .ref a_this_bestLead, .ref a_this_silver]))]) izX12 tyX12_ok nmX12 0 rfl rfl 4 (by decide) kX12_75 rfl rfl rfl (Nat.le_of_ble_eq_true rfl) dX12_tellsFraction_20 rfl ?_
  refine ii_iconst dX12_tellsFraction_23 kc1 ?_
  cases h
  exact hQ _ _ dX12_tellsFraction_24
set_option maxHeartbeats 4000000 in
set_option maxRecDepth 100000 in
theorem c_X12_mean (l : Launch) (D : va_G) (cI cJ cZ cH : ClassId) (a_this a_this_before a_this_bestLead a_this_can a_this_given a_this_images a_this_isKept a_this_lead a_this_load a_this_most a_this_net a_this_on a_this_owes a_this_row a_this_silver a_this_st a_this_step a_this_to a_this_together a_this_value a_this_waits a_this_with : Nat) (v_this_above : Int64) (v_this_below : Int64) (v_this_st : Nat → Int32) (v_this_steps : Int32) (v_this_waiting : Int32) (p0 : Int32) {res : Int32 × Int64 × Int64} (h : F_X12_mean v_this_above v_this_below v_this_st p0 = some res) : CTi l yX12_mean wzX12_mean { frames := 2, cells := 0, slots := 0, locals := 55 } D [(cI, .int), (cJ, .long), (cZ, .boolean), (cH, .object "TinHouse$House")] [.ref a_this, .int p0] [(a_this, .inr (12, [.ref a_this_st, .ref a_this_images, .ref a_this_isKept, .long v_this_above, .long v_this_below, .int v_this_steps, .ref a_this_step, .ref a_this_with, .int v_this_waiting, .ref a_this_waits, .ref a_this_value, .ref a_this_given, .ref a_this_net, .ref a_this_together, .ref a_this_most, .ref a_this_owes, .ref a_this_can, .ref a_this_row, .ref a_this_before, .ref a_this_to, .ref a_this_on, .ref a_this_load, .ref a_this_lead, .ref a_this_bestLead, .ref a_this_silver])), (a_this_st, .inl (cI, 1951, .inl v_this_st))] res.1 [(a_this, .inr (12, [.ref a_this_st, .ref a_this_images, .ref a_this_isKept, .long res.2.1, .long res.2.2, .int v_this_steps, .ref a_this_step, .ref a_this_with, .int v_this_waiting, .ref a_this_waits, .ref a_this_value, .ref a_this_given, .ref a_this_net, .ref a_this_together, .ref a_this_most, .ref a_this_owes, .ref a_this_can, .ref a_this_row, .ref a_this_before, .ref a_this_to, .ref a_this_on, .ref a_this_load, .ref a_this_lead, .ref a_this_bestLead, .ref a_this_silver])), (a_this_st, .inl (cI, 1951, .inl v_this_st))] := by
  unfold F_X12_mean at h
  refine ii_metI (own := RX12) (lv0 := [(0, .ref a_this), (1, .int p0)]) (by decide) rfl rfl rfl (Nat.le_of_ble_eq_true rfl) (fun {p e s m args below meth c A Q} hQ => ?_)
  refine ii_iload_n 1 dX12_mean_0 rfl ?_
  obtain ⟨c_1, hc_1, h⟩ := bnd h
  refine ii_callSi (As := [.int p0]) (ws' := [(a_this, .inr (12, [.ref a_this_st, .ref a_this_images, .ref a_this_isKept, .long v_this_above, .long v_this_below, .int v_this_steps, .ref a_this_step, .ref a_this_with, .int v_this_waiting, .ref a_this_waits, .ref a_this_value, .ref a_this_given, .ref a_this_net, .ref a_this_together, .ref a_this_most, .ref a_this_owes, .ref a_this_can, .ref a_this_row, .ref a_this_before, .ref a_this_to, .ref a_this_on, .ref a_this_load, .ref a_this_lead, .ref a_this_bestLead, .ref a_this_silver])), (a_this_st, .inl (cI, 1951, .inl v_this_st))]) (st := []) (c_X12_isWeight l D cI cJ cZ cH p0 hc_1) gzX12_216 rfl rfl rfl eS_X12_isWeight ⟨Nat.le_of_ble_eq_true rfl, Nat.le_of_ble_eq_true rfl⟩ rfl [] rfl rfl rfl rfl rfl (Nat.le_of_ble_eq_true rfl) (Nat.le_refl _) (Nat.le_refl _) rfl dX12_mean_1 ?_
  refine ii_jn h (fun j_2 => [(a_this, .inr (12, [.ref a_this_st, .ref a_this_images, .ref a_this_isKept, .long j_2.2.1, .long j_2.2.2, .int v_this_steps, .ref a_this_step, .ref a_this_with, .int v_this_waiting, .ref a_this_waits, .ref a_this_value, .ref a_this_given, .ref a_this_net, .ref a_this_together, .ref a_this_most, .ref a_this_owes, .ref a_this_can, .ref a_this_row, .ref a_this_before, .ref a_this_to, .ref a_this_on, .ref a_this_load, .ref a_this_lead, .ref a_this_bestLead, .ref a_this_silver])), (a_this_st, .inl (cI, 1951, .inl v_this_st))]) (fun j_2 => []) 37 (fun j_2 => [.int j_2.1]) (fun j_2 h => ?_) (fun j_2 h hjj_2 => ?_)
  · skip
    cases h
    exact hQ _ _ dX12_mean_37
  · skip
    refine ii_if_eq (tgt := 35) h dX12_mean_4 (by decide) (fun h => ?_) (fun h => ?_)
    · skip
      refine ii_bipush dX12_mean_35 kbm2 ?_
      refine ii_lv [] rfl ?_
      cases h
      exact hjj_2
    · skip
      refine ii_aload_n 0 dX12_mean_7 rfl ?_
      refine ii_iload_n 1 dX12_mean_8 rfl ?_
      refine ii_i2l dX12_mean_9 ?_
      refine ii_aload_n 0 dX12_mean_10 rfl ?_
      refine ii_get (C := RX12) (T := TX12) (N := 25) (ci := 12) izX12 0 rfl rfl 0 (by decide) kX12_7 rfl dX12_mean_11 ?_
      refine ii_bipush dX12_mean_14 kb11 ?_
      refine ii_iald h 1 0 rfl rfl dX12_mean_16 (fun t_3 h => ?_)
      refine ii_iconst dX12_mean_17 kc1 ?_
      refine ii_isub dX12_mean_18 ?_
      refine ii_i2l dX12_mean_19 ?_
      refine ii_lmul dX12_mean_20 ?_
      refine ii_aload_n 0 dX12_mean_21 rfl ?_
      refine ii_get (C := RX12) (T := TX12) (N := 25) (ci := 12) izX12 0 rfl rfl 0 (by decide) kX12_7 rfl dX12_mean_22 ?_
      refine ii_bipush dX12_mean_25 kb11 ?_
      refine ii_iald h 1 0 rfl rfl dX12_mean_27 (fun t_4 h => ?_)
      refine ii_i2l dX12_mean_28 ?_
      obtain ⟨c_5, hc_5, h⟩ := bnd h
      refine ii_callVi (As := [.long (p0.toInt64 * ((t_3 - (1 : Int32)).toInt64)), .long t_4.toInt64]) (ws' := [(a_this, .inr (12, [.ref a_this_st, .ref a_this_images, .ref a_this_isKept, .long c_5.2.1, .long c_5.2.2, .int v_this_steps, .ref a_this_step, .ref a_this_with, .int v_this_waiting, .ref a_this_waits, .ref a_this_value, .ref a_this_given, .ref a_this_net, .ref a_this_together, .ref a_this_most, .ref a_this_owes, .ref a_this_can, .ref a_this_row, .ref a_this_before, .ref a_this_to, .ref a_this_on, .ref a_this_load, .ref a_this_lead, .ref a_this_bestLead, .ref a_this_silver])), (a_this_st, .inl (cI, 1951, .inl v_this_st))]) (st := []) (c_X12_tellsFraction l D cI cJ cZ cH a_this a_this_before a_this_bestLead a_this_can a_this_given a_this_images a_this_isKept a_this_lead a_this_load a_this_most a_this_net a_this_on a_this_owes a_this_row a_this_silver a_this_st a_this_step a_this_to a_this_together a_this_value a_this_waits a_this_with v_this_above v_this_below v_this_steps v_this_waiting (p0.toInt64 * ((t_3 - (1 : Int32)).toInt64)) t_4.toInt64 hc_5) gzX12_230 rfl rfl rfl eV_X12_tellsFraction ⟨Nat.le_of_ble_eq_true rfl, Nat.le_of_ble_eq_true rfl⟩ rfl 0 rfl rfl [0] rfl rfl rfl rfl rfl (Nat.le_of_ble_eq_true rfl) (Nat.le_refl _) (Nat.le_refl _) rfl dX12_mean_29 ?_
      refine ii_goto (tgt := 37) dX12_mean_32 (by decide) ?_
      refine ii_lv [] rfl ?_
      cases h
      exact hjj_2
set_option maxHeartbeats 4000000 in
set_option maxRecDepth 100000 in
theorem c_X12_better (l : Launch) (D : va_G) (cI cJ cZ cH : ClassId) (a_this a_this_before a_this_bestLead a_this_can a_this_given a_this_images a_this_isKept a_this_lead a_this_load a_this_most a_this_net a_this_on a_this_owes a_this_row a_this_silver a_this_st a_this_step a_this_to a_this_together a_this_value a_this_waits a_this_with : Nat) (v_this_above : Int64) (v_this_below : Int64) (v_this_given : Nat → Int64) (v_this_st : Nat → Int32) (v_this_step : Nat → Int32) (v_this_steps : Int32) (v_this_value : Nat → Int64) (v_this_waiting : Int32) (v_this_waits : Nat → Int32) (v_this_with : Nat → Int32) (p0 : Int32) (p1 : Int32) (p2 : Int32) {res : Int32 × (Nat → Int64) × (Nat → Int32) × Int32 × (Nat → Int64) × Int32 × (Nat → Int32) × (Nat → Int32)} (h : F_X12_better v_this_given v_this_st v_this_step v_this_steps v_this_value v_this_waiting v_this_waits v_this_with p0 p1 p2 = some res) : CTi l yX12_better wzX12_better { frames := 6, cells := 0, slots := 0, locals := 151 } D [(cI, .int), (cJ, .long), (cZ, .boolean), (cH, .object "TinHouse$House")] [.ref a_this, .int p0, .int p1, .int p2] [(a_this, .inr (12, [.ref a_this_st, .ref a_this_images, .ref a_this_isKept, .long v_this_above, .long v_this_below, .int v_this_steps, .ref a_this_step, .ref a_this_with, .int v_this_waiting, .ref a_this_waits, .ref a_this_value, .ref a_this_given, .ref a_this_net, .ref a_this_together, .ref a_this_most, .ref a_this_owes, .ref a_this_can, .ref a_this_row, .ref a_this_before, .ref a_this_to, .ref a_this_on, .ref a_this_load, .ref a_this_lead, .ref a_this_bestLead, .ref a_this_silver])), (a_this_given, .inl (cJ, 5, .inr (.inl v_this_given))), (a_this_st, .inl (cI, 1951, .inl v_this_st)), (a_this_step, .inl (cI, 70, .inl v_this_step)), (a_this_value, .inl (cJ, 70, .inr (.inl v_this_value))), (a_this_waits, .inl (cI, 70, .inl v_this_waits)), (a_this_with, .inl (cI, 70, .inl v_this_with))] res.1 [(a_this, .inr (12, [.ref a_this_st, .ref a_this_images, .ref a_this_isKept, .long v_this_above, .long v_this_below, .int res.2.2.2.1, .ref a_this_step, .ref a_this_with, .int res.2.2.2.2.2.1, .ref a_this_waits, .ref a_this_value, .ref a_this_given, .ref a_this_net, .ref a_this_together, .ref a_this_most, .ref a_this_owes, .ref a_this_can, .ref a_this_row, .ref a_this_before, .ref a_this_to, .ref a_this_on, .ref a_this_load, .ref a_this_lead, .ref a_this_bestLead, .ref a_this_silver])), (a_this_given, .inl (cJ, 5, .inr (.inl res.2.1))), (a_this_st, .inl (cI, 1951, .inl v_this_st)), (a_this_step, .inl (cI, 70, .inl res.2.2.1)), (a_this_value, .inl (cJ, 70, .inr (.inl res.2.2.2.2.1))), (a_this_waits, .inl (cI, 70, .inl res.2.2.2.2.2.2.1)), (a_this_with, .inl (cI, 70, .inl res.2.2.2.2.2.2.2))] := by
  unfold F_X12_better at h
  refine ii_metI (own := RX12) (lv0 := [(0, .ref a_this), (1, .int p0), (2, .int p1), (3, .int p2)]) (by decide) rfl rfl rfl (Nat.le_of_ble_eq_true rfl) (fun {p e s m args below meth c A Q} hQ => ?_)
  refine ii_aload_n 0 dX12_better_0 rfl ?_
  refine ii_iconst dX12_better_1 kc0 ?_
  refine ii_iload_n 1 dX12_better_2 rfl ?_
  obtain ⟨c_1, hc_1, h⟩ := bnd h
  refine ii_callVi (As := [.int (0 : Int32), .int p0]) (ws' := [(a_this, .inr (12, [.ref a_this_st, .ref a_this_images, .ref a_this_isKept, .long v_this_above, .long v_this_below, .int v_this_steps, .ref a_this_step, .ref a_this_with, .int v_this_waiting, .ref a_this_waits, .ref a_this_value, .ref a_this_given, .ref a_this_net, .ref a_this_together, .ref a_this_most, .ref a_this_owes, .ref a_this_can, .ref a_this_row, .ref a_this_before, .ref a_this_to, .ref a_this_on, .ref a_this_load, .ref a_this_lead, .ref a_this_bestLead, .ref a_this_silver])), (a_this_given, .inl (cJ, 5, .inr (.inl v_this_given))), (a_this_st, .inl (cI, 1951, .inl v_this_st)), (a_this_step, .inl (cI, 70, .inl v_this_step)), (a_this_value, .inl (cJ, 70, .inr (.inl v_this_value))), (a_this_waits, .inl (cI, 70, .inl v_this_waits)), (a_this_with, .inl (cI, 70, .inl v_this_with))]) (st := []) (c_X12_is l D cI cJ cZ cH a_this a_this_before a_this_bestLead a_this_can a_this_given a_this_images a_this_isKept a_this_lead a_this_load a_this_most a_this_net a_this_on a_this_owes a_this_row a_this_silver a_this_st a_this_step a_this_to a_this_together a_this_value a_this_waits a_this_with v_this_above v_this_below v_this_st v_this_steps v_this_waiting (0 : Int32) p0 hc_1) gzX12_173 rfl rfl rfl eV_X12_is ⟨Nat.le_of_ble_eq_true rfl, Nat.le_of_ble_eq_true rfl⟩ rfl 0 rfl rfl [0, 2] rfl rfl rfl rfl rfl (Nat.le_of_ble_eq_true rfl) (Nat.le_refl _) (Nat.le_refl _) rfl dX12_better_3 ?_
  refine ii_if_eq (tgt := 23) h dX12_better_6 (by decide) (fun h => ?_) (fun h => ?_)
  · skip
    refine ii_bipush dX12_better_23 kbm2 ?_
    cases h
    exact hQ _ _ dX12_better_25
  · skip
    refine ii_iload_n 2 dX12_better_9 rfl ?_
    obtain ⟨c_2, hc_2, h⟩ := bnd h
    refine ii_callSi (As := [.int p1]) (ws' := [(a_this, .inr (12, [.ref a_this_st, .ref a_this_images, .ref a_this_isKept, .long v_this_above, .long v_this_below, .int v_this_steps, .ref a_this_step, .ref a_this_with, .int v_this_waiting, .ref a_this_waits, .ref a_this_value, .ref a_this_given, .ref a_this_net, .ref a_this_together, .ref a_this_most, .ref a_this_owes, .ref a_this_can, .ref a_this_row, .ref a_this_before, .ref a_this_to, .ref a_this_on, .ref a_this_load, .ref a_this_lead, .ref a_this_bestLead, .ref a_this_silver])), (a_this_given, .inl (cJ, 5, .inr (.inl v_this_given))), (a_this_st, .inl (cI, 1951, .inl v_this_st)), (a_this_step, .inl (cI, 70, .inl v_this_step)), (a_this_value, .inl (cJ, 70, .inr (.inl v_this_value))), (a_this_waits, .inl (cI, 70, .inl v_this_waits)), (a_this_with, .inl (cI, 70, .inl v_this_with))]) (st := []) (c_X12_isWeight l D cI cJ cZ cH p1 hc_2) gzX12_216 rfl rfl rfl eS_X12_isWeight ⟨Nat.le_of_ble_eq_true rfl, Nat.le_of_ble_eq_true rfl⟩ rfl [] rfl rfl rfl rfl rfl (Nat.le_of_ble_eq_true rfl) (Nat.le_refl _) (Nat.le_refl _) rfl dX12_better_10 ?_
    refine ii_if_eq (tgt := 23) h dX12_better_13 (by decide) (fun h => ?_) (fun h => ?_)
    · skip
      refine ii_bipush dX12_better_23 kbm2 ?_
      cases h
      exact hQ _ _ dX12_better_25
    · skip
      refine ii_iload_n 3 dX12_better_16 rfl ?_
      obtain ⟨c_3, hc_3, h⟩ := bnd h
      refine ii_callSi (As := [.int p2]) (ws' := [(a_this, .inr (12, [.ref a_this_st, .ref a_this_images, .ref a_this_isKept, .long v_this_above, .long v_this_below, .int v_this_steps, .ref a_this_step, .ref a_this_with, .int v_this_waiting, .ref a_this_waits, .ref a_this_value, .ref a_this_given, .ref a_this_net, .ref a_this_together, .ref a_this_most, .ref a_this_owes, .ref a_this_can, .ref a_this_row, .ref a_this_before, .ref a_this_to, .ref a_this_on, .ref a_this_load, .ref a_this_lead, .ref a_this_bestLead, .ref a_this_silver])), (a_this_given, .inl (cJ, 5, .inr (.inl v_this_given))), (a_this_st, .inl (cI, 1951, .inl v_this_st)), (a_this_step, .inl (cI, 70, .inl v_this_step)), (a_this_value, .inl (cJ, 70, .inr (.inl v_this_value))), (a_this_waits, .inl (cI, 70, .inl v_this_waits)), (a_this_with, .inl (cI, 70, .inl v_this_with))]) (st := []) (c_X12_isSeason l D cI cJ cZ cH p2 hc_3) gzX12_153 rfl rfl rfl eS_X12_isSeason ⟨Nat.le_of_ble_eq_true rfl, Nat.le_of_ble_eq_true rfl⟩ rfl [] rfl rfl rfl rfl rfl (Nat.le_of_ble_eq_true rfl) (Nat.le_refl _) (Nat.le_refl _) rfl dX12_better_17 ?_
      refine ii_if_ne (tgt := 26) h dX12_better_20 (by decide) (fun h => ?_) (fun h => ?_)
      · skip
        refine ii_iload_n 2 dX12_better_26 rfl ?_
        refine ii_i2l dX12_better_27 ?_
        refine ii_aload_n 0 dX12_better_28 rfl ?_
        refine ii_get (C := RX12) (T := TX12) (N := 25) (ci := 12) izX12 0 rfl rfl 0 (by decide) kX12_7 rfl dX12_better_29 ?_
        refine ii_bipush dX12_better_32 kb11 ?_
        refine ii_iald h 2 0 rfl rfl dX12_better_34 (fun t_4 h => ?_)
        refine ii_iconst dX12_better_35 kc1 ?_
        refine ii_isub dX12_better_36 ?_
        refine ii_i2l dX12_better_37 ?_
        refine ii_lmul dX12_better_38 ?_
        refine ii_aload_n 0 dX12_better_39 rfl ?_
        refine ii_iload_n 1 dX12_better_40 rfl ?_
        refine ii_iload_n 2 dX12_better_41 rfl ?_
        refine ii_iload_n 3 dX12_better_42 rfl ?_
        obtain ⟨c_5, hc_5, h⟩ := bnd h
        refine ii_callVi (As := [.int p0, .int p1, .int p2]) (ws' := [(a_this, .inr (12, [.ref a_this_st, .ref a_this_images, .ref a_this_isKept, .long v_this_above, .long v_this_below, .int c_5.2.2.2.1, .ref a_this_step, .ref a_this_with, .int c_5.2.2.2.2.2.1, .ref a_this_waits, .ref a_this_value, .ref a_this_given, .ref a_this_net, .ref a_this_together, .ref a_this_most, .ref a_this_owes, .ref a_this_can, .ref a_this_row, .ref a_this_before, .ref a_this_to, .ref a_this_on, .ref a_this_load, .ref a_this_lead, .ref a_this_bestLead, .ref a_this_silver])), (a_this_given, .inl (cJ, 5, .inr (.inl c_5.2.1))), (a_this_st, .inl (cI, 1951, .inl v_this_st)), (a_this_step, .inl (cI, 70, .inl c_5.2.2.1)), (a_this_value, .inl (cJ, 70, .inr (.inl c_5.2.2.2.2.1))), (a_this_waits, .inl (cI, 70, .inl c_5.2.2.2.2.2.2.1)), (a_this_with, .inl (cI, 70, .inl c_5.2.2.2.2.2.2.2))]) (st := [.long (p1.toInt64 * ((t_4 - (1 : Int32)).toInt64))]) (c_X12_wideOf l D cI cJ cZ cH a_this a_this_before a_this_bestLead a_this_can a_this_given a_this_images a_this_isKept a_this_lead a_this_load a_this_most a_this_net a_this_on a_this_owes a_this_row a_this_silver a_this_st a_this_step a_this_to a_this_together a_this_value a_this_waits a_this_with v_this_above v_this_below v_this_given v_this_st v_this_step v_this_steps v_this_value v_this_waiting v_this_waits v_this_with p0 p1 p2 hc_5) gzX12_219 rfl rfl rfl eV_X12_wideOf ⟨Nat.le_of_ble_eq_true rfl, Nat.le_of_ble_eq_true rfl⟩ rfl 0 rfl rfl [0, 1, 2, 3, 4, 5, 6] rfl rfl rfl rfl rfl (Nat.le_of_ble_eq_true rfl) (Nat.le_refl _) (Nat.le_refl _) rfl dX12_better_43 ?_
        refine ii_i2l dX12_better_46 ?_
        refine ii_aload_n 0 dX12_better_47 rfl ?_
        refine ii_get (C := RX12) (T := TX12) (N := 25) (ci := 12) izX12 0 rfl rfl 0 (by decide) kX12_7 rfl dX12_better_48 ?_
        refine ii_bipush dX12_better_51 kb11 ?_
        refine ii_iald h 2 0 rfl rfl dX12_better_53 (fun t_6 h => ?_)
        refine ii_i2l dX12_better_54 ?_
        refine ii_lmul dX12_better_55 ?_
        refine ii_jn h (fun j_7 => [(a_this, .inr (12, [.ref a_this_st, .ref a_this_images, .ref a_this_isKept, .long v_this_above, .long v_this_below, .int c_5.2.2.2.1, .ref a_this_step, .ref a_this_with, .int c_5.2.2.2.2.2.1, .ref a_this_waits, .ref a_this_value, .ref a_this_given, .ref a_this_net, .ref a_this_together, .ref a_this_most, .ref a_this_owes, .ref a_this_can, .ref a_this_row, .ref a_this_before, .ref a_this_to, .ref a_this_on, .ref a_this_load, .ref a_this_lead, .ref a_this_bestLead, .ref a_this_silver])), (a_this_given, .inl (cJ, 5, .inr (.inl c_5.2.1))), (a_this_st, .inl (cI, 1951, .inl v_this_st)), (a_this_step, .inl (cI, 70, .inl c_5.2.2.1)), (a_this_value, .inl (cJ, 70, .inr (.inl c_5.2.2.2.2.1))), (a_this_waits, .inl (cI, 70, .inl c_5.2.2.2.2.2.2.1)), (a_this_with, .inl (cI, 70, .inl c_5.2.2.2.2.2.2.2))]) (fun j_7 => []) 65 (fun j_7 => [.int j_7]) (fun j_7 h => ?_) (fun j_7 h hjj_7 => ?_)
        · skip
          cases h
          exact hQ _ _ dX12_better_65
        · skip
          refine ii_lcmp_le (tgt := 64) h dX12_better_56 dX12_better_57 (by decide) (fun h => ?_) (fun h => ?_)
          · skip
            refine ii_iconst dX12_better_64 kc0 ?_
            refine ii_lv [] rfl ?_
            cases h
            exact hjj_7
          · skip
            refine ii_iconst dX12_better_60 kc1 ?_
            refine ii_goto (tgt := 65) dX12_better_61 (by decide) ?_
            refine ii_lv [] rfl ?_
            cases h
            exact hjj_7
      · skip
        refine ii_bipush dX12_better_23 kbm2 ?_
        cases h
        exact hQ _ _ dX12_better_25
set_option maxHeartbeats 4000000 in
set_option maxRecDepth 100000 in
theorem c_X12_stone (l : Launch) (D : va_G) (cI cJ cZ cH : ClassId) (a_this a_this_before a_this_bestLead a_this_can a_this_given a_this_images a_this_isKept a_this_lead a_this_load a_this_most a_this_net a_this_on a_this_owes a_this_row a_this_silver a_this_st a_this_step a_this_to a_this_together a_this_value a_this_waits a_this_with : Nat) (v_this_above : Int64) (v_this_below : Int64) (v_this_st : Nat → Int32) (v_this_steps : Int32) (v_this_waiting : Int32) (p0 : Int32) (p1 : Int32) (p2 : Int32) {res : Int32 × (Nat → Int32)} (h : F_X12_stone v_this_st p0 p1 p2 = some res) : CTi l yX12_stone wzX12_stone { frames := 1, cells := 0, slots := 0, locals := 25 } D [(cI, .int), (cJ, .long), (cZ, .boolean), (cH, .object "TinHouse$House")] [.ref a_this, .int p0, .int p1, .int p2] [(a_this, .inr (12, [.ref a_this_st, .ref a_this_images, .ref a_this_isKept, .long v_this_above, .long v_this_below, .int v_this_steps, .ref a_this_step, .ref a_this_with, .int v_this_waiting, .ref a_this_waits, .ref a_this_value, .ref a_this_given, .ref a_this_net, .ref a_this_together, .ref a_this_most, .ref a_this_owes, .ref a_this_can, .ref a_this_row, .ref a_this_before, .ref a_this_to, .ref a_this_on, .ref a_this_load, .ref a_this_lead, .ref a_this_bestLead, .ref a_this_silver])), (a_this_st, .inl (cI, 1951, .inl v_this_st))] res.1 [(a_this, .inr (12, [.ref a_this_st, .ref a_this_images, .ref a_this_isKept, .long v_this_above, .long v_this_below, .int v_this_steps, .ref a_this_step, .ref a_this_with, .int v_this_waiting, .ref a_this_waits, .ref a_this_value, .ref a_this_given, .ref a_this_net, .ref a_this_together, .ref a_this_most, .ref a_this_owes, .ref a_this_can, .ref a_this_row, .ref a_this_before, .ref a_this_to, .ref a_this_on, .ref a_this_load, .ref a_this_lead, .ref a_this_bestLead, .ref a_this_silver])), (a_this_st, .inl (cI, 1951, .inl res.2))] := by
  unfold F_X12_stone at h
  refine ii_metI (own := RX12) (lv0 := [(0, .ref a_this), (1, .int p0), (2, .int p1), (3, .int p2)]) (by decide) rfl rfl rfl (Nat.le_of_ble_eq_true rfl) (fun {p e s m args below meth c A Q} hQ => ?_)
  refine ii_iload_n 1 dX12_stone_0 rfl ?_
  refine ii_i2l dX12_stone_1 ?_
  refine ii_lconst dX12_stone_2 kl1 ?_
  refine ii_ldc2 (v := 10000) dX12_stone_3 kX12_202 ?_
  obtain ⟨c_1, hc_1, h⟩ := bnd h
  refine ii_callSi (As := [.long p0.toInt64, .long (1 : Int64), .long (10000 : Int64)]) (ws' := [(a_this, .inr (12, [.ref a_this_st, .ref a_this_images, .ref a_this_isKept, .long v_this_above, .long v_this_below, .int v_this_steps, .ref a_this_step, .ref a_this_with, .int v_this_waiting, .ref a_this_waits, .ref a_this_value, .ref a_this_given, .ref a_this_net, .ref a_this_together, .ref a_this_most, .ref a_this_owes, .ref a_this_can, .ref a_this_row, .ref a_this_before, .ref a_this_to, .ref a_this_on, .ref a_this_load, .ref a_this_lead, .ref a_this_bestLead, .ref a_this_silver])), (a_this_st, .inl (cI, 1951, .inl v_this_st))]) (st := []) (c_X12_in l D cI cJ cZ cH p0.toInt64 (1 : Int64) (10000 : Int64) hc_1) gzX12_79 rfl rfl rfl eS_X12_in ⟨Nat.le_of_ble_eq_true rfl, Nat.le_of_ble_eq_true rfl⟩ rfl [] rfl rfl rfl rfl rfl (Nat.le_of_ble_eq_true rfl) (Nat.le_refl _) (Nat.le_refl _) rfl dX12_stone_6 ?_
  refine ii_if_eq (tgt := 37) h dX12_stone_9 (by decide) (fun h => ?_) (fun h => ?_)
  · skip
    refine ii_bipush dX12_stone_37 kbm2 ?_
    cases h
    exact hQ _ _ dX12_stone_39
  · skip
    refine ii_iload_n 2 dX12_stone_12 rfl ?_
    refine ii_i2l dX12_stone_13 ?_
    refine ii_lconst dX12_stone_14 kl1 ?_
    refine ii_ldc2 (v := 10000) dX12_stone_15 kX12_202 ?_
    obtain ⟨c_2, hc_2, h⟩ := bnd h
    refine ii_callSi (As := [.long p1.toInt64, .long (1 : Int64), .long (10000 : Int64)]) (ws' := [(a_this, .inr (12, [.ref a_this_st, .ref a_this_images, .ref a_this_isKept, .long v_this_above, .long v_this_below, .int v_this_steps, .ref a_this_step, .ref a_this_with, .int v_this_waiting, .ref a_this_waits, .ref a_this_value, .ref a_this_given, .ref a_this_net, .ref a_this_together, .ref a_this_most, .ref a_this_owes, .ref a_this_can, .ref a_this_row, .ref a_this_before, .ref a_this_to, .ref a_this_on, .ref a_this_load, .ref a_this_lead, .ref a_this_bestLead, .ref a_this_silver])), (a_this_st, .inl (cI, 1951, .inl v_this_st))]) (st := []) (c_X12_in l D cI cJ cZ cH p1.toInt64 (1 : Int64) (10000 : Int64) hc_2) gzX12_79 rfl rfl rfl eS_X12_in ⟨Nat.le_of_ble_eq_true rfl, Nat.le_of_ble_eq_true rfl⟩ rfl [] rfl rfl rfl rfl rfl (Nat.le_of_ble_eq_true rfl) (Nat.le_refl _) (Nat.le_refl _) rfl dX12_stone_18 ?_
    refine ii_if_eq (tgt := 37) h dX12_stone_21 (by decide) (fun h => ?_) (fun h => ?_)
    · skip
      refine ii_bipush dX12_stone_37 kbm2 ?_
      cases h
      exact hQ _ _ dX12_stone_39
    · skip
      refine ii_iload_n 3 dX12_stone_24 rfl ?_
      refine ii_i2l dX12_stone_25 ?_
      refine ii_lconst dX12_stone_26 kl0 ?_
      refine ii_iload_n 2 dX12_stone_27 rfl ?_
      refine ii_iconst dX12_stone_28 kc1 ?_
      refine ii_isub dX12_stone_29 ?_
      refine ii_i2l dX12_stone_30 ?_
      obtain ⟨c_3, hc_3, h⟩ := bnd h
      refine ii_callSi (As := [.long p2.toInt64, .long (0 : Int64), .long ((p1 - (1 : Int32)).toInt64)]) (ws' := [(a_this, .inr (12, [.ref a_this_st, .ref a_this_images, .ref a_this_isKept, .long v_this_above, .long v_this_below, .int v_this_steps, .ref a_this_step, .ref a_this_with, .int v_this_waiting, .ref a_this_waits, .ref a_this_value, .ref a_this_given, .ref a_this_net, .ref a_this_together, .ref a_this_most, .ref a_this_owes, .ref a_this_can, .ref a_this_row, .ref a_this_before, .ref a_this_to, .ref a_this_on, .ref a_this_load, .ref a_this_lead, .ref a_this_bestLead, .ref a_this_silver])), (a_this_st, .inl (cI, 1951, .inl v_this_st))]) (st := []) (c_X12_in l D cI cJ cZ cH p2.toInt64 (0 : Int64) ((p1 - (1 : Int32)).toInt64) hc_3) gzX12_79 rfl rfl rfl eS_X12_in ⟨Nat.le_of_ble_eq_true rfl, Nat.le_of_ble_eq_true rfl⟩ rfl [] rfl rfl rfl rfl rfl (Nat.le_of_ble_eq_true rfl) (Nat.le_refl _) (Nat.le_refl _) rfl dX12_stone_31 ?_
      refine ii_if_ne (tgt := 40) h dX12_stone_34 (by decide) (fun h => ?_) (fun h => ?_)
      · skip
        refine ii_aload_n 0 dX12_stone_40 rfl ?_
        refine ii_get (C := RX12) (T := TX12) (N := 25) (ci := 12) izX12 0 rfl rfl 0 (by decide) kX12_7 rfl dX12_stone_41 ?_
        refine ii_bipush dX12_stone_44 kb6 ?_
        refine ii_iald h 1 0 rfl rfl dX12_stone_46 (fun t_4 h => ?_)
        refine ii_bipush dX12_stone_47 kb12 ?_
        refine ii_icmp_ne (tgt := 55) h dX12_stone_49 (by decide) (fun h => ?_) (fun h => ?_)
        · skip
          refine ii_sipush dX12_stone_55 ks1597 ?_
          refine ii_iconst dX12_stone_58 kc3 ?_
          refine ii_aload_n 0 dX12_stone_59 rfl ?_
          refine ii_get (C := RX12) (T := TX12) (N := 25) (ci := 12) izX12 0 rfl rfl 0 (by decide) kX12_7 rfl dX12_stone_60 ?_
          refine ii_bipush dX12_stone_63 kb6 ?_
          refine ii_iald h 1 0 rfl rfl dX12_stone_65 (fun t_5 h => ?_)
          refine ii_imul dX12_stone_66 ?_
          refine ii_iadd dX12_stone_67 ?_
          refine ii_topI h (fun x_6 h => ?_)
          refine ii_istore (lv' := [(4, .int x_6), (0, .ref a_this), (1, .int p0), (2, .int p1), (3, .int p2)]) dX12_stone_68 (by decide) rfl ?_
          refine ii_aload_n 1 dX12_stone_70 rfl ?_
          refine ii_get (C := RX12) (T := TX12) (N := 25) (ci := 12) izX12 0 rfl rfl 0 (by decide) kX12_7 rfl dX12_stone_71 ?_
          refine ii_iload 0 dX12_stone_74 rfl ?_
          refine ii_iload_n 2 dX12_stone_76 rfl ?_
          refine ii_iast (fun g_7 => [(a_this, .inr (12, [.ref a_this_st, .ref a_this_images, .ref a_this_isKept, .long v_this_above, .long v_this_below, .int v_this_steps, .ref a_this_step, .ref a_this_with, .int v_this_waiting, .ref a_this_waits, .ref a_this_value, .ref a_this_given, .ref a_this_net, .ref a_this_together, .ref a_this_most, .ref a_this_owes, .ref a_this_can, .ref a_this_row, .ref a_this_before, .ref a_this_to, .ref a_this_on, .ref a_this_load, .ref a_this_lead, .ref a_this_bestLead, .ref a_this_silver])), (a_this_st, .inl (cI, 1951, .inl g_7))]) h 1 0 rfl rfl dX12_stone_77 (fun _ => rfl) (fun g_7 h => ?_)
          refine ii_aload_n 1 dX12_stone_78 rfl ?_
          refine ii_get (C := RX12) (T := TX12) (N := 25) (ci := 12) izX12 0 rfl rfl 0 (by decide) kX12_7 rfl dX12_stone_79 ?_
          refine ii_iload 0 dX12_stone_82 rfl ?_
          refine ii_iconst dX12_stone_84 kc1 ?_
          refine ii_iadd dX12_stone_85 ?_
          refine ii_iload_n 3 dX12_stone_86 rfl ?_
          refine ii_iast (fun g_8 => [(a_this, .inr (12, [.ref a_this_st, .ref a_this_images, .ref a_this_isKept, .long v_this_above, .long v_this_below, .int v_this_steps, .ref a_this_step, .ref a_this_with, .int v_this_waiting, .ref a_this_waits, .ref a_this_value, .ref a_this_given, .ref a_this_net, .ref a_this_together, .ref a_this_most, .ref a_this_owes, .ref a_this_can, .ref a_this_row, .ref a_this_before, .ref a_this_to, .ref a_this_on, .ref a_this_load, .ref a_this_lead, .ref a_this_bestLead, .ref a_this_silver])), (a_this_st, .inl (cI, 1951, .inl g_8))]) h 1 0 rfl rfl dX12_stone_87 (fun _ => rfl) (fun g_8 h => ?_)
          refine ii_aload_n 1 dX12_stone_88 rfl ?_
          refine ii_get (C := RX12) (T := TX12) (N := 25) (ci := 12) izX12 0 rfl rfl 0 (by decide) kX12_7 rfl dX12_stone_89 ?_
          refine ii_iload 0 dX12_stone_92 rfl ?_
          refine ii_iconst dX12_stone_94 kc2 ?_
          refine ii_iadd dX12_stone_95 ?_
          refine ii_iload_n 4 dX12_stone_96 rfl ?_
          refine ii_iast (fun g_9 => [(a_this, .inr (12, [.ref a_this_st, .ref a_this_images, .ref a_this_isKept, .long v_this_above, .long v_this_below, .int v_this_steps, .ref a_this_step, .ref a_this_with, .int v_this_waiting, .ref a_this_waits, .ref a_this_value, .ref a_this_given, .ref a_this_net, .ref a_this_together, .ref a_this_most, .ref a_this_owes, .ref a_this_can, .ref a_this_row, .ref a_this_before, .ref a_this_to, .ref a_this_on, .ref a_this_load, .ref a_this_lead, .ref a_this_bestLead, .ref a_this_silver])), (a_this_st, .inl (cI, 1951, .inl g_9))]) h 1 0 rfl rfl dX12_stone_97 (fun _ => rfl) (fun g_9 h => ?_)
          refine ii_aload_n 1 dX12_stone_98 rfl ?_
          refine ii_bipush dX12_stone_99 kb6 ?_
          obtain ⟨c_10, hc_10, h⟩ := bnd h
          refine ii_callVi (As := [.int (6 : Int32)]) (ws' := [(a_this, .inr (12, [.ref a_this_st, .ref a_this_images, .ref a_this_isKept, .long v_this_above, .long v_this_below, .int v_this_steps, .ref a_this_step, .ref a_this_with, .int v_this_waiting, .ref a_this_waits, .ref a_this_value, .ref a_this_given, .ref a_this_net, .ref a_this_together, .ref a_this_most, .ref a_this_owes, .ref a_this_can, .ref a_this_row, .ref a_this_before, .ref a_this_to, .ref a_this_on, .ref a_this_load, .ref a_this_lead, .ref a_this_bestLead, .ref a_this_silver])), (a_this_st, .inl (cI, 1951, .inl c_10.2))]) (st := []) (c_X12_one l D cI cJ cZ cH a_this a_this_before a_this_bestLead a_this_can a_this_given a_this_images a_this_isKept a_this_lead a_this_load a_this_most a_this_net a_this_on a_this_owes a_this_row a_this_silver a_this_st a_this_step a_this_to a_this_together a_this_value a_this_waits a_this_with v_this_above v_this_below g_9 v_this_steps v_this_waiting (6 : Int32) hc_10) gzX12_91 rfl rfl rfl eV_X12_one ⟨Nat.le_of_ble_eq_true rfl, Nat.le_of_ble_eq_true rfl⟩ rfl 0 rfl rfl [0, 1] rfl rfl rfl rfl rfl (Nat.le_of_ble_eq_true rfl) (Nat.le_refl _) (Nat.le_refl _) rfl dX12_stone_101 ?_
          refine ii_iconst dX12_stone_104 kc1 ?_
          refine ii_iadd dX12_stone_105 ?_
          cases h
          exact hQ _ _ dX12_stone_106
        · skip
          refine ii_bipush dX12_stone_52 kbm4 ?_
          cases h
          exact hQ _ _ dX12_stone_54
      · skip
        refine ii_bipush dX12_stone_37 kbm2 ?_
        cases h
        exact hQ _ _ dX12_stone_39
set_option maxHeartbeats 4000000 in
set_option maxRecDepth 100000 in
theorem c_X12_span (l : Launch) (D : va_G) (cI cJ cZ cH : ClassId) (a_this a_this_before a_this_bestLead a_this_can a_this_given a_this_images a_this_isKept a_this_lead a_this_load a_this_most a_this_net a_this_on a_this_owes a_this_row a_this_silver a_this_st a_this_step a_this_to a_this_together a_this_value a_this_waits a_this_with : Nat) (v_this_above : Int64) (v_this_below : Int64) (v_this_st : Nat → Int32) (v_this_steps : Int32) (v_this_waiting : Int32) (p0 : Int32) (p1 : Int32) {res : Int32 × Int64 × Int64} (h : F_X12_span v_this_above v_this_below v_this_st p0 p1 = some res) : CTi l yX12_span wzX12_span { frames := 2, cells := 0, slots := 0, locals := 55 } D [(cI, .int), (cJ, .long), (cZ, .boolean), (cH, .object "TinHouse$House")] [.ref a_this, .int p0, .int p1] [(a_this, .inr (12, [.ref a_this_st, .ref a_this_images, .ref a_this_isKept, .long v_this_above, .long v_this_below, .int v_this_steps, .ref a_this_step, .ref a_this_with, .int v_this_waiting, .ref a_this_waits, .ref a_this_value, .ref a_this_given, .ref a_this_net, .ref a_this_together, .ref a_this_most, .ref a_this_owes, .ref a_this_can, .ref a_this_row, .ref a_this_before, .ref a_this_to, .ref a_this_on, .ref a_this_load, .ref a_this_lead, .ref a_this_bestLead, .ref a_this_silver])), (a_this_st, .inl (cI, 1951, .inl v_this_st))] res.1 [(a_this, .inr (12, [.ref a_this_st, .ref a_this_images, .ref a_this_isKept, .long res.2.1, .long res.2.2, .int v_this_steps, .ref a_this_step, .ref a_this_with, .int v_this_waiting, .ref a_this_waits, .ref a_this_value, .ref a_this_given, .ref a_this_net, .ref a_this_together, .ref a_this_most, .ref a_this_owes, .ref a_this_can, .ref a_this_row, .ref a_this_before, .ref a_this_to, .ref a_this_on, .ref a_this_load, .ref a_this_lead, .ref a_this_bestLead, .ref a_this_silver])), (a_this_st, .inl (cI, 1951, .inl v_this_st))] := by
  unfold F_X12_span at h
  refine ii_metI (own := RX12) (lv0 := [(0, .ref a_this), (1, .int p0), (2, .int p1)]) (by decide) rfl rfl rfl (Nat.le_of_ble_eq_true rfl) (fun {p e s m args below meth c A Q} hQ => ?_)
  refine ii_iload_n 1 dX12_span_0 rfl ?_
  obtain ⟨c_1, hc_1, h⟩ := bnd h
  refine ii_callSi (As := [.int p0]) (ws' := [(a_this, .inr (12, [.ref a_this_st, .ref a_this_images, .ref a_this_isKept, .long v_this_above, .long v_this_below, .int v_this_steps, .ref a_this_step, .ref a_this_with, .int v_this_waiting, .ref a_this_waits, .ref a_this_value, .ref a_this_given, .ref a_this_net, .ref a_this_together, .ref a_this_most, .ref a_this_owes, .ref a_this_can, .ref a_this_row, .ref a_this_before, .ref a_this_to, .ref a_this_on, .ref a_this_load, .ref a_this_lead, .ref a_this_bestLead, .ref a_this_silver])), (a_this_st, .inl (cI, 1951, .inl v_this_st))]) (st := []) (c_X12_isWeight l D cI cJ cZ cH p0 hc_1) gzX12_216 rfl rfl rfl eS_X12_isWeight ⟨Nat.le_of_ble_eq_true rfl, Nat.le_of_ble_eq_true rfl⟩ rfl [] rfl rfl rfl rfl rfl (Nat.le_of_ble_eq_true rfl) (Nat.le_refl _) (Nat.le_refl _) rfl dX12_span_1 ?_
  refine ii_if_eq (tgt := 17) h dX12_span_4 (by decide) (fun h => ?_) (fun h => ?_)
  · skip
    refine ii_bipush dX12_span_17 kbm2 ?_
    cases h
    exact hQ _ _ dX12_span_19
  · skip
    refine ii_iload_n 2 dX12_span_7 rfl ?_
    refine ii_i2l dX12_span_8 ?_
    refine ii_lconst dX12_span_9 kl0 ?_
    refine ii_lconst dX12_span_10 kl1 ?_
    obtain ⟨c_2, hc_2, h⟩ := bnd h
    refine ii_callSi (As := [.long p1.toInt64, .long (0 : Int64), .long (1 : Int64)]) (ws' := [(a_this, .inr (12, [.ref a_this_st, .ref a_this_images, .ref a_this_isKept, .long v_this_above, .long v_this_below, .int v_this_steps, .ref a_this_step, .ref a_this_with, .int v_this_waiting, .ref a_this_waits, .ref a_this_value, .ref a_this_given, .ref a_this_net, .ref a_this_together, .ref a_this_most, .ref a_this_owes, .ref a_this_can, .ref a_this_row, .ref a_this_before, .ref a_this_to, .ref a_this_on, .ref a_this_load, .ref a_this_lead, .ref a_this_bestLead, .ref a_this_silver])), (a_this_st, .inl (cI, 1951, .inl v_this_st))]) (st := []) (c_X12_in l D cI cJ cZ cH p1.toInt64 (0 : Int64) (1 : Int64) hc_2) gzX12_79 rfl rfl rfl eS_X12_in ⟨Nat.le_of_ble_eq_true rfl, Nat.le_of_ble_eq_true rfl⟩ rfl [] rfl rfl rfl rfl rfl (Nat.le_of_ble_eq_true rfl) (Nat.le_refl _) (Nat.le_refl _) rfl dX12_span_11 ?_
    refine ii_if_ne (tgt := 20) h dX12_span_14 (by decide) (fun h => ?_) (fun h => ?_)
    · skip
      refine ii_lconst dX12_span_20 kl0 ?_
      refine ii_lstore_n (lv' := [(3, .long (0 : Int64)), (0, .ref a_this), (1, .int p0), (2, .int p1)]) dX12_span_21 rfl (by decide) rfl ?_
      refine ii_lconst dX12_span_22 kl1 ?_
      refine ii_lstore (lv' := [(5, .long (1 : Int64)), (3, .long (0 : Int64)), (0, .ref a_this), (1, .int p0), (2, .int p1)]) dX12_span_23 (by decide) rfl ?_
      refine ii_lconst dX12_span_25 kl1 ?_
      refine ii_lstore (lv' := [(7, .long (1 : Int64)), (5, .long (1 : Int64)), (3, .long (0 : Int64)), (0, .ref a_this), (1, .int p0), (2, .int p1)]) dX12_span_26 (by decide) rfl ?_
      refine ii_lconst dX12_span_28 kl0 ?_
      refine ii_lstore (lv' := [(9, .long (0 : Int64)), (7, .long (1 : Int64)), (5, .long (1 : Int64)), (3, .long (0 : Int64)), (0, .ref a_this), (1, .int p0), (2, .int p1)]) dX12_span_29 (by decide) rfl ?_
      refine ii_iconst dX12_span_31 kc0 ?_
      refine ii_istore (lv' := [(11, .int (0 : Int32)), (9, .long (0 : Int64)), (7, .long (1 : Int64)), (5, .long (1 : Int64)), (3, .long (0 : Int64)), (0, .ref a_this), (1, .int p0), (2, .int p1)]) dX12_span_32 (by decide) rfl ?_
      refine ii_lv [5, 6, 7, 4, 3, 2, 1, 0] rfl ?_
      obtain ⟨x_4, hl_3, h⟩ := bnd h
      refine ii_loopX (fun s_3 => [(a_this, .inr (12, [.ref a_this_st, .ref a_this_images, .ref a_this_isKept, .long v_this_above, .long v_this_below, .int v_this_steps, .ref a_this_step, .ref a_this_with, .int v_this_waiting, .ref a_this_waits, .ref a_this_value, .ref a_this_given, .ref a_this_net, .ref a_this_together, .ref a_this_most, .ref a_this_owes, .ref a_this_can, .ref a_this_row, .ref a_this_before, .ref a_this_to, .ref a_this_on, .ref a_this_load, .ref a_this_lead, .ref a_this_bestLead, .ref a_this_silver])), (a_this_st, .inl (cI, 1951, .inl v_this_st))]) (fun s_3 => [(0, .ref a_this), (1, .int p0), (2, .int p1), (3, .long s_3.1), (5, .long s_3.2.1), (7, .long s_3.2.2.1), (9, .long s_3.2.2.2.1), (11, .int s_3.2.2.2.2)]) (fun x_4 => [(a_this, .inr (12, [.ref a_this_st, .ref a_this_images, .ref a_this_isKept, .long v_this_above, .long v_this_below, .int v_this_steps, .ref a_this_step, .ref a_this_with, .int v_this_waiting, .ref a_this_waits, .ref a_this_value, .ref a_this_given, .ref a_this_net, .ref a_this_together, .ref a_this_most, .ref a_this_owes, .ref a_this_can, .ref a_this_row, .ref a_this_before, .ref a_this_to, .ref a_this_on, .ref a_this_load, .ref a_this_lead, .ref a_this_bestLead, .ref a_this_silver])), (a_this_st, .inl (cI, 1951, .inl v_this_st))]) (fun x_4 => [(0, .ref a_this), (2, .int p1), (3, .long x_4.1), (5, .long x_4.2.1), (7, .long x_4.2.2.1), (9, .long x_4.2.2.2.1)]) 164 hl_3 rfl rfl ?_ (fun s_3 o h hb_3 hr_3 hx_3 => ?_)
      · skip
        refine ii_aload_n 0 dX12_span_164 rfl ?_
        refine ii_get (C := RX12) (T := TX12) (N := 25) (ci := 12) izX12 0 rfl rfl 0 (by decide) kX12_7 rfl dX12_span_165 ?_
        refine ii_bipush dX12_span_168 kb6 ?_
        refine ii_iald h 1 0 rfl rfl dX12_span_170 (fun t_17 h => ?_)
        refine ii_if_eq (tgt := 187) h dX12_span_171 (by decide) (fun h => ?_) (fun h => ?_)
        · skip
          refine ii_iconst dX12_span_187 kc0 ?_
          cases h
          exact hQ _ _ dX12_span_188
        · skip
          refine ii_lload_n 2 dX12_span_174 rfl ?_
          refine ii_lload 5 dX12_span_175 rfl ?_
          refine ii_lmul dX12_span_177 ?_
          refine ii_lload 4 dX12_span_178 rfl ?_
          refine ii_lload 3 dX12_span_180 rfl ?_
          refine ii_lmul dX12_span_182 ?_
          refine ii_lcmp_le (tgt := 189) h dX12_span_183 dX12_span_184 (by decide) (fun h => ?_) (fun h => ?_)
          · skip
            refine ii_iload_n 1 dX12_span_189 rfl ?_
            refine ii_jn h (fun j_18 => [(a_this, .inr (12, [.ref a_this_st, .ref a_this_images, .ref a_this_isKept, .long j_18.2.1, .long j_18.2.2, .int v_this_steps, .ref a_this_step, .ref a_this_with, .int v_this_waiting, .ref a_this_waits, .ref a_this_value, .ref a_this_given, .ref a_this_net, .ref a_this_together, .ref a_this_most, .ref a_this_owes, .ref a_this_can, .ref a_this_row, .ref a_this_before, .ref a_this_to, .ref a_this_on, .ref a_this_load, .ref a_this_lead, .ref a_this_bestLead, .ref a_this_silver])), (a_this_st, .inl (cI, 1951, .inl v_this_st))]) (fun j_18 => []) 211 (fun j_18 => [.int j_18.1]) (fun j_18 h => ?_) (fun j_18 h hjj_18 => ?_)
            · skip
              cases h
              exact hQ _ _ dX12_span_211
            · skip
              refine ii_if_ne (tgt := 203) h dX12_span_190 (by decide) (fun h => ?_) (fun h => ?_)
              · skip
                refine ii_aload_n 0 dX12_span_203 rfl ?_
                refine ii_lload 4 dX12_span_204 rfl ?_
                refine ii_lload 5 dX12_span_206 rfl ?_
                obtain ⟨c_19, hc_19, h⟩ := bnd h
                refine ii_callVi (As := [.long x_4.2.2.1, .long x_4.2.2.2.1]) (ws' := [(a_this, .inr (12, [.ref a_this_st, .ref a_this_images, .ref a_this_isKept, .long c_19.2.1, .long c_19.2.2, .int v_this_steps, .ref a_this_step, .ref a_this_with, .int v_this_waiting, .ref a_this_waits, .ref a_this_value, .ref a_this_given, .ref a_this_net, .ref a_this_together, .ref a_this_most, .ref a_this_owes, .ref a_this_can, .ref a_this_row, .ref a_this_before, .ref a_this_to, .ref a_this_on, .ref a_this_load, .ref a_this_lead, .ref a_this_bestLead, .ref a_this_silver])), (a_this_st, .inl (cI, 1951, .inl v_this_st))]) (st := []) (c_X12_tellsFraction l D cI cJ cZ cH a_this a_this_before a_this_bestLead a_this_can a_this_given a_this_images a_this_isKept a_this_lead a_this_load a_this_most a_this_net a_this_on a_this_owes a_this_row a_this_silver a_this_st a_this_step a_this_to a_this_together a_this_value a_this_waits a_this_with v_this_above v_this_below v_this_steps v_this_waiting x_4.2.2.1 x_4.2.2.2.1 hc_19) gzX12_230 rfl rfl rfl eV_X12_tellsFraction ⟨Nat.le_of_ble_eq_true rfl, Nat.le_of_ble_eq_true rfl⟩ rfl 0 rfl rfl [0] rfl rfl rfl rfl rfl (Nat.le_of_ble_eq_true rfl) (Nat.le_refl _) (Nat.le_refl _) rfl dX12_span_208 ?_
                refine ii_lv [] rfl ?_
                cases h
                exact hjj_18
              · skip
                refine ii_aload_n 0 dX12_span_193 rfl ?_
                refine ii_lload_n 2 dX12_span_194 rfl ?_
                refine ii_lload 3 dX12_span_195 rfl ?_
                obtain ⟨c_20, hc_20, h⟩ := bnd h
                refine ii_callVi (As := [.long x_4.1, .long x_4.2.1]) (ws' := [(a_this, .inr (12, [.ref a_this_st, .ref a_this_images, .ref a_this_isKept, .long c_20.2.1, .long c_20.2.2, .int v_this_steps, .ref a_this_step, .ref a_this_with, .int v_this_waiting, .ref a_this_waits, .ref a_this_value, .ref a_this_given, .ref a_this_net, .ref a_this_together, .ref a_this_most, .ref a_this_owes, .ref a_this_can, .ref a_this_row, .ref a_this_before, .ref a_this_to, .ref a_this_on, .ref a_this_load, .ref a_this_lead, .ref a_this_bestLead, .ref a_this_silver])), (a_this_st, .inl (cI, 1951, .inl v_this_st))]) (st := []) (c_X12_tellsFraction l D cI cJ cZ cH a_this a_this_before a_this_bestLead a_this_can a_this_given a_this_images a_this_isKept a_this_lead a_this_load a_this_most a_this_net a_this_on a_this_owes a_this_row a_this_silver a_this_st a_this_step a_this_to a_this_together a_this_value a_this_waits a_this_with v_this_above v_this_below v_this_steps v_this_waiting x_4.1 x_4.2.1 hc_20) gzX12_230 rfl rfl rfl eV_X12_tellsFraction ⟨Nat.le_of_ble_eq_true rfl, Nat.le_of_ble_eq_true rfl⟩ rfl 0 rfl rfl [0] rfl rfl rfl rfl rfl (Nat.le_of_ble_eq_true rfl) (Nat.le_refl _) (Nat.le_refl _) rfl dX12_span_197 ?_
                refine ii_goto (tgt := 211) dX12_span_200 (by decide) ?_
                refine ii_lv [] rfl ?_
                cases h
                exact hjj_18
          · skip
            refine ii_iconst dX12_span_187 kc0 ?_
            cases h
            exact hQ _ _ dX12_span_188
      · skip
        refine ii_iload 7 dX12_span_34 rfl ?_
        refine ii_aload_n 0 dX12_span_36 rfl ?_
        refine ii_get (C := RX12) (T := TX12) (N := 25) (ci := 12) izX12 0 rfl rfl 0 (by decide) kX12_7 rfl dX12_span_37 ?_
        refine ii_bipush dX12_span_40 kb6 ?_
        refine ii_iald h 1 0 rfl rfl dX12_span_42 (fun t_5 h => ?_)
        refine ii_icmp_ge (tgt := 164) h dX12_span_43 (by decide) (fun h => ?_) (fun h => ?_)
        · skip
          refine ii_lv [0, 2, 3, 4, 5, 6] rfl ?_
          cases h
          exact hx_3 (s_3.1, s_3.2.1, s_3.2.2.1, s_3.2.2.2.1, s_3.2.2.2.2) (hr_3 _ rfl)
        · skip
          refine ii_sipush dX12_span_46 ks1597 ?_
          refine ii_iconst dX12_span_49 kc3 ?_
          refine ii_iload 7 dX12_span_50 rfl ?_
          refine ii_imul dX12_span_52 ?_
          refine ii_iadd dX12_span_53 ?_
          refine ii_topI h (fun x_6 h => ?_)
          refine ii_istore (lv' := [(12, .int x_6), (0, .ref a_this), (1, .int p0), (2, .int p1), (3, .long s_3.1), (5, .long s_3.2.1), (7, .long s_3.2.2.1), (9, .long s_3.2.2.2.1), (11, .int s_3.2.2.2.2)]) dX12_span_54 (by decide) rfl ?_
          refine ii_aload_n 1 dX12_span_56 rfl ?_
          refine ii_get (C := RX12) (T := TX12) (N := 25) (ci := 12) izX12 0 rfl rfl 0 (by decide) kX12_7 rfl dX12_span_57 ?_
          refine ii_iload 0 dX12_span_60 rfl ?_
          refine ii_iald h 1 0 rfl rfl dX12_span_62 (fun t_7 h => ?_)
          refine ii_i2l dX12_span_63 ?_
          refine ii_lstore (lv' := [(13, .long t_7.toInt64), (12, .int x_6), (0, .ref a_this), (1, .int p0), (2, .int p1), (3, .long s_3.1), (5, .long s_3.2.1), (7, .long s_3.2.2.1), (9, .long s_3.2.2.2.1), (11, .int s_3.2.2.2.2)]) dX12_span_64 (by decide) rfl ?_
          refine ii_iload_n 3 dX12_span_66 rfl ?_
          refine ii_i2l dX12_span_67 ?_
          refine ii_aload_n 2 dX12_span_68 rfl ?_
          refine ii_get (C := RX12) (T := TX12) (N := 25) (ci := 12) izX12 0 rfl rfl 0 (by decide) kX12_7 rfl dX12_span_69 ?_
          refine ii_iload 1 dX12_span_72 rfl ?_
          refine ii_iconst dX12_span_74 kc1 ?_
          refine ii_iadd dX12_span_75 ?_
          refine ii_iald h 1 0 rfl rfl dX12_span_76 (fun t_8 h => ?_)
          refine ii_aload_n 2 dX12_span_77 rfl ?_
          refine ii_get (C := RX12) (T := TX12) (N := 25) (ci := 12) izX12 0 rfl rfl 0 (by decide) kX12_7 rfl dX12_span_78 ?_
          refine ii_iload 1 dX12_span_81 rfl ?_
          refine ii_iconst dX12_span_83 kc2 ?_
          refine ii_iadd dX12_span_84 ?_
          refine ii_iald h 1 0 rfl rfl dX12_span_85 (fun t_9 h => ?_)
          refine ii_isub dX12_span_86 ?_
          refine ii_i2l dX12_span_87 ?_
          refine ii_lmul dX12_span_88 ?_
          refine ii_topL h (fun x_10 h => ?_)
          refine ii_lstore (lv' := [(15, .long x_10), (13, .long t_7.toInt64), (12, .int x_6), (0, .ref a_this), (1, .int p0), (2, .int p1), (3, .long s_3.1), (5, .long s_3.2.1), (7, .long s_3.2.2.1), (9, .long s_3.2.2.2.1), (11, .int s_3.2.2.2.2)]) dX12_span_89 (by decide) rfl ?_
          refine ii_iload_n 4 dX12_span_91 rfl ?_
          refine ii_i2l dX12_span_92 ?_
          refine ii_aload_n 3 dX12_span_93 rfl ?_
          refine ii_get (C := RX12) (T := TX12) (N := 25) (ci := 12) izX12 0 rfl rfl 0 (by decide) kX12_7 rfl dX12_span_94 ?_
          refine ii_iload 2 dX12_span_97 rfl ?_
          refine ii_iconst dX12_span_99 kc1 ?_
          refine ii_iadd dX12_span_100 ?_
          refine ii_iald h 1 0 rfl rfl dX12_span_101 (fun t_11 h => ?_)
          refine ii_aload_n 3 dX12_span_102 rfl ?_
          refine ii_get (C := RX12) (T := TX12) (N := 25) (ci := 12) izX12 0 rfl rfl 0 (by decide) kX12_7 rfl dX12_span_103 ?_
          refine ii_iload 2 dX12_span_106 rfl ?_
          refine ii_iconst dX12_span_108 kc2 ?_
          refine ii_iadd dX12_span_109 ?_
          refine ii_iald h 1 0 rfl rfl dX12_span_110 (fun t_12 h => ?_)
          refine ii_iadd dX12_span_111 ?_
          refine ii_i2l dX12_span_112 ?_
          refine ii_lmul dX12_span_113 ?_
          refine ii_topL h (fun x_13 h => ?_)
          refine ii_lstore (lv' := [(17, .long x_13), (15, .long x_10), (13, .long t_7.toInt64), (12, .int x_6), (0, .ref a_this), (1, .int p0), (2, .int p1), (3, .long s_3.1), (5, .long s_3.2.1), (7, .long s_3.2.2.1), (9, .long s_3.2.2.2.1), (11, .int s_3.2.2.2.2)]) dX12_span_114 (by decide) rfl ?_
          refine ii_lload 1 dX12_span_116 rfl ?_
          refine ii_lload 8 dX12_span_118 rfl ?_
          refine ii_lmul dX12_span_120 ?_
          refine ii_lload_n 7 dX12_span_121 rfl ?_
          refine ii_lload 2 dX12_span_122 rfl ?_
          refine ii_lmul dX12_span_124 ?_
          refine ii_jn h (fun j_14 => [(a_this, .inr (12, [.ref a_this_st, .ref a_this_images, .ref a_this_isKept, .long v_this_above, .long v_this_below, .int v_this_steps, .ref a_this_step, .ref a_this_with, .int v_this_waiting, .ref a_this_waits, .ref a_this_value, .ref a_this_given, .ref a_this_net, .ref a_this_together, .ref a_this_most, .ref a_this_owes, .ref a_this_can, .ref a_this_row, .ref a_this_before, .ref a_this_to, .ref a_this_on, .ref a_this_load, .ref a_this_lead, .ref a_this_bestLead, .ref a_this_silver])), (a_this_st, .inl (cI, 1951, .inl v_this_st))]) (fun j_14 => [(0, .ref a_this), (1, .int p0), (2, .int p1), (3, .long j_14.1), (5, .long j_14.2), (7, .long s_3.2.2.1), (9, .long s_3.2.2.2.1), (11, .int s_3.2.2.2.2), (13, .long t_7.toInt64), (17, .long x_13)]) 136 (fun j_14 => []) (fun j_14 h => ?_) (fun j_14 h hjj_14 => ?_)
          · skip
            refine ii_lload 9 dX12_span_136 rfl ?_
            refine ii_lload 6 dX12_span_138 rfl ?_
            refine ii_lmul dX12_span_140 ?_
            refine ii_lload 5 dX12_span_141 rfl ?_
            refine ii_lload 8 dX12_span_143 rfl ?_
            refine ii_lmul dX12_span_145 ?_
            refine ii_jn h (fun j_15 => [(a_this, .inr (12, [.ref a_this_st, .ref a_this_images, .ref a_this_isKept, .long v_this_above, .long v_this_below, .int v_this_steps, .ref a_this_step, .ref a_this_with, .int v_this_waiting, .ref a_this_waits, .ref a_this_value, .ref a_this_given, .ref a_this_net, .ref a_this_together, .ref a_this_most, .ref a_this_owes, .ref a_this_can, .ref a_this_row, .ref a_this_before, .ref a_this_to, .ref a_this_on, .ref a_this_load, .ref a_this_lead, .ref a_this_bestLead, .ref a_this_silver])), (a_this_st, .inl (cI, 1951, .inl v_this_st))]) (fun j_15 => [(0, .ref a_this), (1, .int p0), (2, .int p1), (3, .long j_14.1), (5, .long j_14.2), (7, .long j_15.1), (9, .long j_15.2), (11, .int s_3.2.2.2.2)]) 158 (fun j_15 => []) (fun j_15 h => ?_) (fun j_15 h hjj_15 => ?_)
            · skip
              refine ii_iinc (fun x_16 => [(11, .int x_16), (0, .ref a_this), (1, .int p0), (2, .int p1), (3, .long j_14.1), (5, .long j_14.2), (7, .long j_15.1), (9, .long j_15.2)]) h 7 dX12_span_158 rfl kc1 (by decide) (fun _ => rfl) (fun x_16 h => ?_)
              refine ii_goto (tgt := 34) dX12_span_161 (by decide) ?_
              refine ii_lv [1, 2, 3, 4, 5, 6, 7, 0] rfl ?_
              cases h
              exact hb_3 (j_14.1, j_14.2, j_15.1, j_15.2, x_16) rfl
            · skip
              refine ii_lcmp_ge (tgt := 158) h dX12_span_146 dX12_span_147 (by decide) (fun h => ?_) (fun h => ?_)
              · skip
                refine ii_lv [0, 1, 2, 3, 4, 5, 6, 7] rfl ?_
                cases h
                exact hjj_15
              · skip
                refine ii_lload 9 dX12_span_150 rfl ?_
                refine ii_lstore (lv' := [(7, .long x_13), (0, .ref a_this), (1, .int p0), (2, .int p1), (3, .long j_14.1), (5, .long j_14.2), (9, .long s_3.2.2.2.1), (11, .int s_3.2.2.2.2), (13, .long t_7.toInt64), (17, .long x_13)]) dX12_span_152 (by decide) rfl ?_
                refine ii_lload 8 dX12_span_154 rfl ?_
                refine ii_lstore (lv' := [(9, .long t_7.toInt64), (7, .long x_13), (0, .ref a_this), (1, .int p0), (2, .int p1), (3, .long j_14.1), (5, .long j_14.2), (11, .int s_3.2.2.2.2), (13, .long t_7.toInt64), (17, .long x_13)]) dX12_span_156 (by decide) rfl ?_
                refine ii_lv [2, 3, 4, 5, 6, 1, 0, 7] rfl ?_
                cases h
                exact hjj_15
          · skip
            refine ii_lcmp_le (tgt := 136) h dX12_span_125 dX12_span_126 (by decide) (fun h => ?_) (fun h => ?_)
            · skip
              refine ii_lv [4, 5, 6, 7, 8, 9, 10, 11, 2, 0] rfl ?_
              cases h
              exact hjj_14
            · skip
              refine ii_lload 1 dX12_span_129 rfl ?_
              refine ii_lstore_n (lv' := [(3, .long x_10), (17, .long x_13), (15, .long x_10), (13, .long t_7.toInt64), (12, .int x_6), (0, .ref a_this), (1, .int p0), (2, .int p1), (5, .long s_3.2.1), (7, .long s_3.2.2.1), (9, .long s_3.2.2.2.1), (11, .int s_3.2.2.2.2)]) dX12_span_131 rfl (by decide) rfl ?_
              refine ii_lload 3 dX12_span_132 rfl ?_
              refine ii_lstore (lv' := [(5, .long t_7.toInt64), (3, .long x_10), (17, .long x_13), (15, .long x_10), (13, .long t_7.toInt64), (12, .int x_6), (0, .ref a_this), (1, .int p0), (2, .int p1), (7, .long s_3.2.2.1), (9, .long s_3.2.2.2.1), (11, .int s_3.2.2.2.2)]) dX12_span_134 (by decide) rfl ?_
              refine ii_lv [6, 7, 8, 1, 0, 9, 10, 11, 4, 2] rfl ?_
              cases h
              exact hjj_14
    · skip
      refine ii_bipush dX12_span_17 kbm2 ?_
      cases h
      exact hQ _ _ dX12_span_19
set_option maxHeartbeats 4000000 in
set_option maxRecDepth 100000 in
theorem c_X12_balanceOf (l : Launch) (D : va_G) (cI cJ cZ cH : ClassId) (a_this a_this_before a_this_bestLead a_this_can a_this_given a_this_images a_this_isKept a_this_lead a_this_load a_this_most a_this_net a_this_on a_this_owes a_this_row a_this_silver a_this_st a_this_step a_this_to a_this_together a_this_value a_this_waits a_this_with : Nat) (v_this_above : Int64) (v_this_below : Int64) (v_this_given : Nat → Int64) (v_this_st : Nat → Int32) (v_this_step : Nat → Int32) (v_this_steps : Int32) (v_this_value : Nat → Int64) (v_this_waiting : Int32) (v_this_waits : Nat → Int32) (v_this_with : Nat → Int32) (p0 : Int32) (p1 : Int32) {res : Int64 × (Nat → Int64) × (Nat → Int32) × Int32 × (Nat → Int64) × Int32 × (Nat → Int32) × (Nat → Int32)} (h : F_X12_balanceOf v_this_given v_this_st v_this_step v_this_steps v_this_value v_this_waiting v_this_waits v_this_with p0 p1 = some res) : CTl l yX12_balanceOf wzX12_balanceOf { frames := 6, cells := 0, slots := 0, locals := 153 } D [(cI, .int), (cJ, .long), (cZ, .boolean), (cH, .object "TinHouse$House")] [.ref a_this, .int p0, .int p1] [(a_this, .inr (12, [.ref a_this_st, .ref a_this_images, .ref a_this_isKept, .long v_this_above, .long v_this_below, .int v_this_steps, .ref a_this_step, .ref a_this_with, .int v_this_waiting, .ref a_this_waits, .ref a_this_value, .ref a_this_given, .ref a_this_net, .ref a_this_together, .ref a_this_most, .ref a_this_owes, .ref a_this_can, .ref a_this_row, .ref a_this_before, .ref a_this_to, .ref a_this_on, .ref a_this_load, .ref a_this_lead, .ref a_this_bestLead, .ref a_this_silver])), (a_this_given, .inl (cJ, 5, .inr (.inl v_this_given))), (a_this_st, .inl (cI, 1951, .inl v_this_st)), (a_this_step, .inl (cI, 70, .inl v_this_step)), (a_this_value, .inl (cJ, 70, .inr (.inl v_this_value))), (a_this_waits, .inl (cI, 70, .inl v_this_waits)), (a_this_with, .inl (cI, 70, .inl v_this_with))] res.1 [(a_this, .inr (12, [.ref a_this_st, .ref a_this_images, .ref a_this_isKept, .long v_this_above, .long v_this_below, .int res.2.2.2.1, .ref a_this_step, .ref a_this_with, .int res.2.2.2.2.2.1, .ref a_this_waits, .ref a_this_value, .ref a_this_given, .ref a_this_net, .ref a_this_together, .ref a_this_most, .ref a_this_owes, .ref a_this_can, .ref a_this_row, .ref a_this_before, .ref a_this_to, .ref a_this_on, .ref a_this_load, .ref a_this_lead, .ref a_this_bestLead, .ref a_this_silver])), (a_this_given, .inl (cJ, 5, .inr (.inl res.2.1))), (a_this_st, .inl (cI, 1951, .inl v_this_st)), (a_this_step, .inl (cI, 70, .inl res.2.2.1)), (a_this_value, .inl (cJ, 70, .inr (.inl res.2.2.2.2.1))), (a_this_waits, .inl (cI, 70, .inl res.2.2.2.2.2.2.1)), (a_this_with, .inl (cI, 70, .inl res.2.2.2.2.2.2.2))] := by
  unfold F_X12_balanceOf at h
  refine ii_metL (own := RX12) (lv0 := [(0, .ref a_this), (1, .int p0), (2, .int p1)]) (by decide) rfl rfl rfl (Nat.le_of_ble_eq_true rfl) (fun {p e s m args below meth c A Q} hQ => ?_)
  refine ii_lconst dX12_balanceOf_0 kl0 ?_
  refine ii_lstore_n (lv' := [(3, .long (0 : Int64)), (0, .ref a_this), (1, .int p0), (2, .int p1)]) dX12_balanceOf_1 rfl (by decide) rfl ?_
  refine ii_iconst dX12_balanceOf_2 kc0 ?_
  refine ii_istore (lv' := [(5, .int (0 : Int32)), (3, .long (0 : Int64)), (0, .ref a_this), (1, .int p0), (2, .int p1)]) dX12_balanceOf_3 (by decide) rfl ?_
  refine ii_lv [2, 3, 4, 1, 0] rfl ?_
  obtain ⟨x_2, hl_1, h⟩ := bnd h
  refine ii_loopX (fun s_1 => [(a_this, .inr (12, [.ref a_this_st, .ref a_this_images, .ref a_this_isKept, .long v_this_above, .long v_this_below, .int s_1.2.2.2.2.1, .ref a_this_step, .ref a_this_with, .int s_1.2.2.2.2.2.2.1, .ref a_this_waits, .ref a_this_value, .ref a_this_given, .ref a_this_net, .ref a_this_together, .ref a_this_most, .ref a_this_owes, .ref a_this_can, .ref a_this_row, .ref a_this_before, .ref a_this_to, .ref a_this_on, .ref a_this_load, .ref a_this_lead, .ref a_this_bestLead, .ref a_this_silver])), (a_this_given, .inl (cJ, 5, .inr (.inl s_1.2.2.1))), (a_this_st, .inl (cI, 1951, .inl v_this_st)), (a_this_step, .inl (cI, 70, .inl s_1.2.2.2.1)), (a_this_value, .inl (cJ, 70, .inr (.inl s_1.2.2.2.2.2.1))), (a_this_waits, .inl (cI, 70, .inl s_1.2.2.2.2.2.2.2.1)), (a_this_with, .inl (cI, 70, .inl s_1.2.2.2.2.2.2.2.2))]) (fun s_1 => [(0, .ref a_this), (1, .int p0), (2, .int p1), (3, .long s_1.1), (5, .int s_1.2.1)]) (fun x_2 => [(a_this, .inr (12, [.ref a_this_st, .ref a_this_images, .ref a_this_isKept, .long v_this_above, .long v_this_below, .int x_2.2.2.2.2.1, .ref a_this_step, .ref a_this_with, .int x_2.2.2.2.2.2.2.1, .ref a_this_waits, .ref a_this_value, .ref a_this_given, .ref a_this_net, .ref a_this_together, .ref a_this_most, .ref a_this_owes, .ref a_this_can, .ref a_this_row, .ref a_this_before, .ref a_this_to, .ref a_this_on, .ref a_this_load, .ref a_this_lead, .ref a_this_bestLead, .ref a_this_silver])), (a_this_given, .inl (cJ, 5, .inr (.inl x_2.2.2.1))), (a_this_st, .inl (cI, 1951, .inl v_this_st)), (a_this_step, .inl (cI, 70, .inl x_2.2.2.2.1)), (a_this_value, .inl (cJ, 70, .inr (.inl x_2.2.2.2.2.2.1))), (a_this_waits, .inl (cI, 70, .inl x_2.2.2.2.2.2.2.2.1)), (a_this_with, .inl (cI, 70, .inl x_2.2.2.2.2.2.2.2.2))]) (fun x_2 => [(3, .long x_2.1)]) 69 hl_1 rfl rfl ?_ (fun s_1 o h hb_1 hr_1 hx_1 => ?_)
  · skip
    refine ii_lload_n 0 dX12_balanceOf_69 rfl ?_
    cases h
    exact hQ _ _ dX12_balanceOf_70
  · skip
    refine ii_iload 4 dX12_balanceOf_5 rfl ?_
    refine ii_aload_n 0 dX12_balanceOf_7 rfl ?_
    refine ii_get (C := RX12) (T := TX12) (N := 25) (ci := 12) izX12 0 rfl rfl 0 (by decide) kX12_7 rfl dX12_balanceOf_8 ?_
    refine ii_iconst dX12_balanceOf_11 kc2 ?_
    refine ii_iald h 2 0 rfl rfl dX12_balanceOf_12 (fun t_3 h => ?_)
    refine ii_icmp_ge (tgt := 69) h dX12_balanceOf_13 (by decide) (fun h => ?_) (fun h => ?_)
    · skip
      refine ii_lv [3] rfl ?_
      cases h
      exact hx_1 (s_1.1, s_1.2.1, s_1.2.2.1, s_1.2.2.2.1, s_1.2.2.2.2.1, s_1.2.2.2.2.2.1, s_1.2.2.2.2.2.2.1, s_1.2.2.2.2.2.2.2.1, s_1.2.2.2.2.2.2.2.2) (hr_1 _ rfl)
    · skip
      refine ii_lload_n 3 dX12_balanceOf_16 rfl ?_
      refine ii_aload_n 0 dX12_balanceOf_17 rfl ?_
      refine ii_iload 4 dX12_balanceOf_18 rfl ?_
      refine ii_iconst dX12_balanceOf_20 kc0 ?_
      obtain ⟨c_4, hc_4, h⟩ := bnd h
      refine ii_callVi (As := [.int s_1.2.1, .int (0 : Int32)]) (ws' := [(a_this, .inr (12, [.ref a_this_st, .ref a_this_images, .ref a_this_isKept, .long v_this_above, .long v_this_below, .int s_1.2.2.2.2.1, .ref a_this_step, .ref a_this_with, .int s_1.2.2.2.2.2.2.1, .ref a_this_waits, .ref a_this_value, .ref a_this_given, .ref a_this_net, .ref a_this_together, .ref a_this_most, .ref a_this_owes, .ref a_this_can, .ref a_this_row, .ref a_this_before, .ref a_this_to, .ref a_this_on, .ref a_this_load, .ref a_this_lead, .ref a_this_bestLead, .ref a_this_silver])), (a_this_given, .inl (cJ, 5, .inr (.inl s_1.2.2.1))), (a_this_st, .inl (cI, 1951, .inl v_this_st)), (a_this_step, .inl (cI, 70, .inl s_1.2.2.2.1)), (a_this_value, .inl (cJ, 70, .inr (.inl s_1.2.2.2.2.2.1))), (a_this_waits, .inl (cI, 70, .inl s_1.2.2.2.2.2.2.2.1)), (a_this_with, .inl (cI, 70, .inl s_1.2.2.2.2.2.2.2.2))]) (st := [.long s_1.1]) (c_X12_debtOf l D cI cJ cZ cH a_this a_this_before a_this_bestLead a_this_can a_this_given a_this_images a_this_isKept a_this_lead a_this_load a_this_most a_this_net a_this_on a_this_owes a_this_row a_this_silver a_this_st a_this_step a_this_to a_this_together a_this_value a_this_waits a_this_with v_this_above v_this_below v_this_st s_1.2.2.2.2.1 s_1.2.2.2.2.2.2.1 s_1.2.1 (0 : Int32) hc_4) gzX12_179 rfl rfl rfl eV_X12_debtOf ⟨Nat.le_of_ble_eq_true rfl, Nat.le_of_ble_eq_true rfl⟩ rfl 0 rfl rfl [0, 2] rfl rfl rfl rfl rfl (Nat.le_of_ble_eq_true rfl) (Nat.le_refl _) (Nat.le_refl _) rfl dX12_balanceOf_21 ?_
      refine ii_iload_n 1 dX12_balanceOf_24 rfl ?_
      refine ii_jn h (fun j_5 => [(a_this, .inr (12, [.ref a_this_st, .ref a_this_images, .ref a_this_isKept, .long v_this_above, .long v_this_below, .int j_5.2.2.2.1, .ref a_this_step, .ref a_this_with, .int j_5.2.2.2.2.2.1, .ref a_this_waits, .ref a_this_value, .ref a_this_given, .ref a_this_net, .ref a_this_together, .ref a_this_most, .ref a_this_owes, .ref a_this_can, .ref a_this_row, .ref a_this_before, .ref a_this_to, .ref a_this_on, .ref a_this_load, .ref a_this_lead, .ref a_this_bestLead, .ref a_this_silver])), (a_this_given, .inl (cJ, 5, .inr (.inl j_5.2.1))), (a_this_st, .inl (cI, 1951, .inl v_this_st)), (a_this_step, .inl (cI, 70, .inl j_5.2.2.1)), (a_this_value, .inl (cJ, 70, .inr (.inl j_5.2.2.2.2.1))), (a_this_waits, .inl (cI, 70, .inl j_5.2.2.2.2.2.2.1)), (a_this_with, .inl (cI, 70, .inl j_5.2.2.2.2.2.2.2))]) (fun j_5 => [(0, .ref a_this), (1, .int p0), (2, .int p1), (5, .int s_1.2.1)]) 61 (fun j_5 => [.long j_5.1, .long s_1.1]) (fun j_5 h => ?_) (fun j_5 h hjj_5 => ?_)
      · skip
        refine ii_ladd dX12_balanceOf_61 ?_
        refine ii_topL h (fun x_9 h => ?_)
        refine ii_lstore_n (lv' := [(3, .long x_9), (0, .ref a_this), (1, .int p0), (2, .int p1), (5, .int s_1.2.1)]) dX12_balanceOf_62 rfl (by decide) rfl ?_
        refine ii_iinc (fun x_10 => [(5, .int x_10), (3, .long x_9), (0, .ref a_this), (1, .int p0), (2, .int p1)]) h 4 dX12_balanceOf_63 rfl kc1 (by decide) (fun _ => rfl) (fun x_10 h => ?_)
        refine ii_goto (tgt := 5) dX12_balanceOf_66 (by decide) ?_
        refine ii_lv [2, 3, 4, 1, 0] rfl ?_
        cases h
        exact hb_1 (x_9, x_10, j_5.2.1, j_5.2.2.1, j_5.2.2.2.1, j_5.2.2.2.2.1, j_5.2.2.2.2.2.1, j_5.2.2.2.2.2.2.1, j_5.2.2.2.2.2.2.2) rfl
      · skip
        refine ii_icmp_ne (tgt := 38) h dX12_balanceOf_25 (by decide) (fun h => ?_) (fun h => ?_)
        · skip
          refine ii_aload_n 0 dX12_balanceOf_38 rfl ?_
          refine ii_iload 4 dX12_balanceOf_39 rfl ?_
          refine ii_iconst dX12_balanceOf_41 kc1 ?_
          obtain ⟨c_6, hc_6, h⟩ := bnd h
          refine ii_callVi (As := [.int s_1.2.1, .int (1 : Int32)]) (ws' := [(a_this, .inr (12, [.ref a_this_st, .ref a_this_images, .ref a_this_isKept, .long v_this_above, .long v_this_below, .int s_1.2.2.2.2.1, .ref a_this_step, .ref a_this_with, .int s_1.2.2.2.2.2.2.1, .ref a_this_waits, .ref a_this_value, .ref a_this_given, .ref a_this_net, .ref a_this_together, .ref a_this_most, .ref a_this_owes, .ref a_this_can, .ref a_this_row, .ref a_this_before, .ref a_this_to, .ref a_this_on, .ref a_this_load, .ref a_this_lead, .ref a_this_bestLead, .ref a_this_silver])), (a_this_given, .inl (cJ, 5, .inr (.inl s_1.2.2.1))), (a_this_st, .inl (cI, 1951, .inl v_this_st)), (a_this_step, .inl (cI, 70, .inl s_1.2.2.2.1)), (a_this_value, .inl (cJ, 70, .inr (.inl s_1.2.2.2.2.2.1))), (a_this_waits, .inl (cI, 70, .inl s_1.2.2.2.2.2.2.2.1)), (a_this_with, .inl (cI, 70, .inl s_1.2.2.2.2.2.2.2.2))]) (st := [.long s_1.1]) (c_X12_debtOf l D cI cJ cZ cH a_this a_this_before a_this_bestLead a_this_can a_this_given a_this_images a_this_isKept a_this_lead a_this_load a_this_most a_this_net a_this_on a_this_owes a_this_row a_this_silver a_this_st a_this_step a_this_to a_this_together a_this_value a_this_waits a_this_with v_this_above v_this_below v_this_st s_1.2.2.2.2.1 s_1.2.2.2.2.2.2.1 s_1.2.1 (1 : Int32) hc_6) gzX12_179 rfl rfl rfl eV_X12_debtOf ⟨Nat.le_of_ble_eq_true rfl, Nat.le_of_ble_eq_true rfl⟩ rfl 0 rfl rfl [0, 2] rfl rfl rfl rfl rfl (Nat.le_of_ble_eq_true rfl) (Nat.le_refl _) (Nat.le_refl _) rfl dX12_balanceOf_42 ?_
          refine ii_iload_n 1 dX12_balanceOf_45 rfl ?_
          refine ii_icmp_ne (tgt := 60) h dX12_balanceOf_46 (by decide) (fun h => ?_) (fun h => ?_)
          · skip
            refine ii_lconst dX12_balanceOf_60 kl0 ?_
            refine ii_lv [0, 1, 2, 4] rfl ?_
            cases h
            exact hjj_5
          · skip
            refine ii_aload_n 0 dX12_balanceOf_49 rfl ?_
            refine ii_iload 4 dX12_balanceOf_50 rfl ?_
            refine ii_iload_n 2 dX12_balanceOf_52 rfl ?_
            obtain ⟨c_7, hc_7, h⟩ := bnd h
            refine ii_callVl (As := [.int s_1.2.1, .int p1]) (ws' := [(a_this, .inr (12, [.ref a_this_st, .ref a_this_images, .ref a_this_isKept, .long v_this_above, .long v_this_below, .int c_7.2.2.2.1, .ref a_this_step, .ref a_this_with, .int c_7.2.2.2.2.2.1, .ref a_this_waits, .ref a_this_value, .ref a_this_given, .ref a_this_net, .ref a_this_together, .ref a_this_most, .ref a_this_owes, .ref a_this_can, .ref a_this_row, .ref a_this_before, .ref a_this_to, .ref a_this_on, .ref a_this_load, .ref a_this_lead, .ref a_this_bestLead, .ref a_this_silver])), (a_this_given, .inl (cJ, 5, .inr (.inl c_7.2.1))), (a_this_st, .inl (cI, 1951, .inl v_this_st)), (a_this_step, .inl (cI, 70, .inl c_7.2.2.1)), (a_this_value, .inl (cJ, 70, .inr (.inl c_7.2.2.2.2.1))), (a_this_waits, .inl (cI, 70, .inl c_7.2.2.2.2.2.2.1)), (a_this_with, .inl (cI, 70, .inl c_7.2.2.2.2.2.2.2))]) (st := [.long s_1.1]) (c_X12_owedOf l D cI cJ cZ cH a_this a_this_before a_this_bestLead a_this_can a_this_given a_this_images a_this_isKept a_this_lead a_this_load a_this_most a_this_net a_this_on a_this_owes a_this_row a_this_silver a_this_st a_this_step a_this_to a_this_together a_this_value a_this_waits a_this_with v_this_above v_this_below s_1.2.2.1 v_this_st s_1.2.2.2.1 s_1.2.2.2.2.1 s_1.2.2.2.2.2.1 s_1.2.2.2.2.2.2.1 s_1.2.2.2.2.2.2.2.1 s_1.2.2.2.2.2.2.2.2 s_1.2.1 p1 hc_7) gzX12_196 rfl rfl rfl eV_X12_owedOf ⟨Nat.le_of_ble_eq_true rfl, Nat.le_of_ble_eq_true rfl⟩ rfl 0 rfl rfl [0, 1, 2, 3, 4, 5, 6] rfl rfl rfl rfl rfl (Nat.le_of_ble_eq_true rfl) (Nat.le_refl _) (Nat.le_refl _) rfl dX12_balanceOf_53 ?_
            refine ii_lneg dX12_balanceOf_56 ?_
            refine ii_goto (tgt := 61) dX12_balanceOf_57 (by decide) ?_
            refine ii_lv [0, 1, 2, 4] rfl ?_
            cases h
            exact hjj_5
        · skip
          refine ii_aload_n 0 dX12_balanceOf_28 rfl ?_
          refine ii_iload 4 dX12_balanceOf_29 rfl ?_
          refine ii_iload_n 2 dX12_balanceOf_31 rfl ?_
          obtain ⟨c_8, hc_8, h⟩ := bnd h
          refine ii_callVl (As := [.int s_1.2.1, .int p1]) (ws' := [(a_this, .inr (12, [.ref a_this_st, .ref a_this_images, .ref a_this_isKept, .long v_this_above, .long v_this_below, .int c_8.2.2.2.1, .ref a_this_step, .ref a_this_with, .int c_8.2.2.2.2.2.1, .ref a_this_waits, .ref a_this_value, .ref a_this_given, .ref a_this_net, .ref a_this_together, .ref a_this_most, .ref a_this_owes, .ref a_this_can, .ref a_this_row, .ref a_this_before, .ref a_this_to, .ref a_this_on, .ref a_this_load, .ref a_this_lead, .ref a_this_bestLead, .ref a_this_silver])), (a_this_given, .inl (cJ, 5, .inr (.inl c_8.2.1))), (a_this_st, .inl (cI, 1951, .inl v_this_st)), (a_this_step, .inl (cI, 70, .inl c_8.2.2.1)), (a_this_value, .inl (cJ, 70, .inr (.inl c_8.2.2.2.2.1))), (a_this_waits, .inl (cI, 70, .inl c_8.2.2.2.2.2.2.1)), (a_this_with, .inl (cI, 70, .inl c_8.2.2.2.2.2.2.2))]) (st := [.long s_1.1]) (c_X12_owedOf l D cI cJ cZ cH a_this a_this_before a_this_bestLead a_this_can a_this_given a_this_images a_this_isKept a_this_lead a_this_load a_this_most a_this_net a_this_on a_this_owes a_this_row a_this_silver a_this_st a_this_step a_this_to a_this_together a_this_value a_this_waits a_this_with v_this_above v_this_below s_1.2.2.1 v_this_st s_1.2.2.2.1 s_1.2.2.2.2.1 s_1.2.2.2.2.2.1 s_1.2.2.2.2.2.2.1 s_1.2.2.2.2.2.2.2.1 s_1.2.2.2.2.2.2.2.2 s_1.2.1 p1 hc_8) gzX12_196 rfl rfl rfl eV_X12_owedOf ⟨Nat.le_of_ble_eq_true rfl, Nat.le_of_ble_eq_true rfl⟩ rfl 0 rfl rfl [0, 1, 2, 3, 4, 5, 6] rfl rfl rfl rfl rfl (Nat.le_of_ble_eq_true rfl) (Nat.le_refl _) (Nat.le_refl _) rfl dX12_balanceOf_32 ?_
          refine ii_goto (tgt := 61) dX12_balanceOf_35 (by decide) ?_
          refine ii_lv [0, 1, 2, 4] rfl ?_
          cases h
          exact hjj_5
set_option maxHeartbeats 4000000 in
set_option maxRecDepth 100000 in
theorem c_X12_balance (l : Launch) (D : va_G) (cI cJ cZ cH : ClassId) (a_this a_this_before a_this_bestLead a_this_can a_this_given a_this_images a_this_isKept a_this_lead a_this_load a_this_most a_this_net a_this_on a_this_owes a_this_row a_this_silver a_this_st a_this_step a_this_to a_this_together a_this_value a_this_waits a_this_with : Nat) (v_this_above : Int64) (v_this_below : Int64) (v_this_given : Nat → Int64) (v_this_st : Nat → Int32) (v_this_step : Nat → Int32) (v_this_steps : Int32) (v_this_value : Nat → Int64) (v_this_waiting : Int32) (v_this_waits : Nat → Int32) (v_this_with : Nat → Int32) (p0 : Int32) (p1 : Int32) {res : Int64 × (Nat → Int64) × (Nat → Int32) × Int32 × (Nat → Int64) × Int32 × (Nat → Int32) × (Nat → Int32)} (h : F_X12_balance v_this_given v_this_st v_this_step v_this_steps v_this_value v_this_waiting v_this_waits v_this_with p0 p1 = some res) : CTl l yX12_balance wzX12_balance { frames := 7, cells := 0, slots := 0, locals := 178 } D [(cI, .int), (cJ, .long), (cZ, .boolean), (cH, .object "TinHouse$House")] [.ref a_this, .int p0, .int p1] [(a_this, .inr (12, [.ref a_this_st, .ref a_this_images, .ref a_this_isKept, .long v_this_above, .long v_this_below, .int v_this_steps, .ref a_this_step, .ref a_this_with, .int v_this_waiting, .ref a_this_waits, .ref a_this_value, .ref a_this_given, .ref a_this_net, .ref a_this_together, .ref a_this_most, .ref a_this_owes, .ref a_this_can, .ref a_this_row, .ref a_this_before, .ref a_this_to, .ref a_this_on, .ref a_this_load, .ref a_this_lead, .ref a_this_bestLead, .ref a_this_silver])), (a_this_given, .inl (cJ, 5, .inr (.inl v_this_given))), (a_this_st, .inl (cI, 1951, .inl v_this_st)), (a_this_step, .inl (cI, 70, .inl v_this_step)), (a_this_value, .inl (cJ, 70, .inr (.inl v_this_value))), (a_this_waits, .inl (cI, 70, .inl v_this_waits)), (a_this_with, .inl (cI, 70, .inl v_this_with))] res.1 [(a_this, .inr (12, [.ref a_this_st, .ref a_this_images, .ref a_this_isKept, .long v_this_above, .long v_this_below, .int res.2.2.2.1, .ref a_this_step, .ref a_this_with, .int res.2.2.2.2.2.1, .ref a_this_waits, .ref a_this_value, .ref a_this_given, .ref a_this_net, .ref a_this_together, .ref a_this_most, .ref a_this_owes, .ref a_this_can, .ref a_this_row, .ref a_this_before, .ref a_this_to, .ref a_this_on, .ref a_this_load, .ref a_this_lead, .ref a_this_bestLead, .ref a_this_silver])), (a_this_given, .inl (cJ, 5, .inr (.inl res.2.1))), (a_this_st, .inl (cI, 1951, .inl v_this_st)), (a_this_step, .inl (cI, 70, .inl res.2.2.1)), (a_this_value, .inl (cJ, 70, .inr (.inl res.2.2.2.2.1))), (a_this_waits, .inl (cI, 70, .inl res.2.2.2.2.2.2.1)), (a_this_with, .inl (cI, 70, .inl res.2.2.2.2.2.2.2))] := by
  unfold F_X12_balance at h
  refine ii_metL (own := RX12) (lv0 := [(0, .ref a_this), (1, .int p0), (2, .int p1)]) (by decide) rfl rfl rfl (Nat.le_of_ble_eq_true rfl) (fun {p e s m args below meth c A Q} hQ => ?_)
  refine ii_aload_n 0 dX12_balance_0 rfl ?_
  refine ii_iconst dX12_balance_1 kc0 ?_
  refine ii_iload_n 1 dX12_balance_2 rfl ?_
  obtain ⟨c_1, hc_1, h⟩ := bnd h
  refine ii_callVi (As := [.int (0 : Int32), .int p0]) (ws' := [(a_this, .inr (12, [.ref a_this_st, .ref a_this_images, .ref a_this_isKept, .long v_this_above, .long v_this_below, .int v_this_steps, .ref a_this_step, .ref a_this_with, .int v_this_waiting, .ref a_this_waits, .ref a_this_value, .ref a_this_given, .ref a_this_net, .ref a_this_together, .ref a_this_most, .ref a_this_owes, .ref a_this_can, .ref a_this_row, .ref a_this_before, .ref a_this_to, .ref a_this_on, .ref a_this_load, .ref a_this_lead, .ref a_this_bestLead, .ref a_this_silver])), (a_this_given, .inl (cJ, 5, .inr (.inl v_this_given))), (a_this_st, .inl (cI, 1951, .inl v_this_st)), (a_this_step, .inl (cI, 70, .inl v_this_step)), (a_this_value, .inl (cJ, 70, .inr (.inl v_this_value))), (a_this_waits, .inl (cI, 70, .inl v_this_waits)), (a_this_with, .inl (cI, 70, .inl v_this_with))]) (st := []) (c_X12_is l D cI cJ cZ cH a_this a_this_before a_this_bestLead a_this_can a_this_given a_this_images a_this_isKept a_this_lead a_this_load a_this_most a_this_net a_this_on a_this_owes a_this_row a_this_silver a_this_st a_this_step a_this_to a_this_together a_this_value a_this_waits a_this_with v_this_above v_this_below v_this_st v_this_steps v_this_waiting (0 : Int32) p0 hc_1) gzX12_173 rfl rfl rfl eV_X12_is ⟨Nat.le_of_ble_eq_true rfl, Nat.le_of_ble_eq_true rfl⟩ rfl 0 rfl rfl [0, 2] rfl rfl rfl rfl rfl (Nat.le_of_ble_eq_true rfl) (Nat.le_refl _) (Nat.le_refl _) rfl dX12_balance_3 ?_
  refine ii_jn h (fun j_2 => [(a_this, .inr (12, [.ref a_this_st, .ref a_this_images, .ref a_this_isKept, .long v_this_above, .long v_this_below, .int j_2.2.2.2.1, .ref a_this_step, .ref a_this_with, .int j_2.2.2.2.2.2.1, .ref a_this_waits, .ref a_this_value, .ref a_this_given, .ref a_this_net, .ref a_this_together, .ref a_this_most, .ref a_this_owes, .ref a_this_can, .ref a_this_row, .ref a_this_before, .ref a_this_to, .ref a_this_on, .ref a_this_load, .ref a_this_lead, .ref a_this_bestLead, .ref a_this_silver])), (a_this_given, .inl (cJ, 5, .inr (.inl j_2.2.1))), (a_this_st, .inl (cI, 1951, .inl v_this_st)), (a_this_step, .inl (cI, 70, .inl j_2.2.2.1)), (a_this_value, .inl (cJ, 70, .inr (.inl j_2.2.2.2.2.1))), (a_this_waits, .inl (cI, 70, .inl j_2.2.2.2.2.2.2.1)), (a_this_with, .inl (cI, 70, .inl j_2.2.2.2.2.2.2.2))]) (fun j_2 => []) 28 (fun j_2 => [.long j_2.1]) (fun j_2 h => ?_) (fun j_2 h hjj_2 => ?_)
  · skip
    cases h
    exact hQ _ _ dX12_balance_28
  · skip
    refine ii_if_eq (tgt := 25) h dX12_balance_6 (by decide) (fun h => ?_) (fun h => ?_)
    · skip
      refine ii_ldc2 (v := -9000000000000000000) dX12_balance_25 kX12_237 ?_
      refine ii_lv [] rfl ?_
      cases h
      exact hjj_2
    · skip
      refine ii_iload_n 2 dX12_balance_9 rfl ?_
      obtain ⟨c_3, hc_3, h⟩ := bnd h
      refine ii_callSi (As := [.int p1]) (ws' := [(a_this, .inr (12, [.ref a_this_st, .ref a_this_images, .ref a_this_isKept, .long v_this_above, .long v_this_below, .int v_this_steps, .ref a_this_step, .ref a_this_with, .int v_this_waiting, .ref a_this_waits, .ref a_this_value, .ref a_this_given, .ref a_this_net, .ref a_this_together, .ref a_this_most, .ref a_this_owes, .ref a_this_can, .ref a_this_row, .ref a_this_before, .ref a_this_to, .ref a_this_on, .ref a_this_load, .ref a_this_lead, .ref a_this_bestLead, .ref a_this_silver])), (a_this_given, .inl (cJ, 5, .inr (.inl v_this_given))), (a_this_st, .inl (cI, 1951, .inl v_this_st)), (a_this_step, .inl (cI, 70, .inl v_this_step)), (a_this_value, .inl (cJ, 70, .inr (.inl v_this_value))), (a_this_waits, .inl (cI, 70, .inl v_this_waits)), (a_this_with, .inl (cI, 70, .inl v_this_with))]) (st := []) (c_X12_isSeason l D cI cJ cZ cH p1 hc_3) gzX12_153 rfl rfl rfl eS_X12_isSeason ⟨Nat.le_of_ble_eq_true rfl, Nat.le_of_ble_eq_true rfl⟩ rfl [] rfl rfl rfl rfl rfl (Nat.le_of_ble_eq_true rfl) (Nat.le_refl _) (Nat.le_refl _) rfl dX12_balance_10 ?_
      refine ii_if_eq (tgt := 25) h dX12_balance_13 (by decide) (fun h => ?_) (fun h => ?_)
      · skip
        refine ii_ldc2 (v := -9000000000000000000) dX12_balance_25 kX12_237 ?_
        refine ii_lv [] rfl ?_
        cases h
        exact hjj_2
      · skip
        refine ii_aload_n 0 dX12_balance_16 rfl ?_
        refine ii_iload_n 1 dX12_balance_17 rfl ?_
        refine ii_iload_n 2 dX12_balance_18 rfl ?_
        obtain ⟨c_4, hc_4, h⟩ := bnd h
        refine ii_callVl (As := [.int p0, .int p1]) (ws' := [(a_this, .inr (12, [.ref a_this_st, .ref a_this_images, .ref a_this_isKept, .long v_this_above, .long v_this_below, .int c_4.2.2.2.1, .ref a_this_step, .ref a_this_with, .int c_4.2.2.2.2.2.1, .ref a_this_waits, .ref a_this_value, .ref a_this_given, .ref a_this_net, .ref a_this_together, .ref a_this_most, .ref a_this_owes, .ref a_this_can, .ref a_this_row, .ref a_this_before, .ref a_this_to, .ref a_this_on, .ref a_this_load, .ref a_this_lead, .ref a_this_bestLead, .ref a_this_silver])), (a_this_given, .inl (cJ, 5, .inr (.inl c_4.2.1))), (a_this_st, .inl (cI, 1951, .inl v_this_st)), (a_this_step, .inl (cI, 70, .inl c_4.2.2.1)), (a_this_value, .inl (cJ, 70, .inr (.inl c_4.2.2.2.2.1))), (a_this_waits, .inl (cI, 70, .inl c_4.2.2.2.2.2.2.1)), (a_this_with, .inl (cI, 70, .inl c_4.2.2.2.2.2.2.2))]) (st := []) (c_X12_balanceOf l D cI cJ cZ cH a_this a_this_before a_this_bestLead a_this_can a_this_given a_this_images a_this_isKept a_this_lead a_this_load a_this_most a_this_net a_this_on a_this_owes a_this_row a_this_silver a_this_st a_this_step a_this_to a_this_together a_this_value a_this_waits a_this_with v_this_above v_this_below v_this_given v_this_st v_this_step v_this_steps v_this_value v_this_waiting v_this_waits v_this_with p0 p1 hc_4) gzX12_234 rfl rfl rfl eV_X12_balanceOf ⟨Nat.le_of_ble_eq_true rfl, Nat.le_of_ble_eq_true rfl⟩ rfl 0 rfl rfl [0, 1, 2, 3, 4, 5, 6] rfl rfl rfl rfl rfl (Nat.le_of_ble_eq_true rfl) (Nat.le_refl _) (Nat.le_refl _) rfl dX12_balance_19 ?_
        refine ii_goto (tgt := 28) dX12_balance_22 (by decide) ?_
        refine ii_lv [] rfl ?_
        cases h
        exact hjj_2
set_option maxHeartbeats 4000000 in
set_option maxRecDepth 100000 in
theorem c_X12_fewest (l : Launch) (D : va_G) (cI cJ cZ cH : ClassId) (a_this a_this_before a_this_bestLead a_this_can a_this_given a_this_images a_this_isKept a_this_lead a_this_load a_this_most a_this_net a_this_on a_this_owes a_this_row a_this_silver a_this_st a_this_step a_this_to a_this_together a_this_value a_this_waits a_this_with : Nat) (v_this_above : Int64) (v_this_below : Int64) (v_this_given : Nat → Int64) (v_this_most : Nat → Int32) (v_this_net : Nat → Int64) (v_this_st : Nat → Int32) (v_this_step : Nat → Int32) (v_this_steps : Int32) (v_this_together : Nat → Int64) (v_this_value : Nat → Int64) (v_this_waiting : Int32) (v_this_waits : Nat → Int32) (v_this_with : Nat → Int32) (p0 : Int32) {res : Int32 × (Nat → Int64) × (Nat → Int32) × (Nat → Int64) × (Nat → Int32) × Int32 × (Nat → Int64) × (Nat → Int64) × Int32 × (Nat → Int32) × (Nat → Int32)} (h : F_X12_fewest v_this_given v_this_most v_this_net v_this_st v_this_step v_this_steps v_this_together v_this_value v_this_waiting v_this_waits v_this_with p0 = some res) : CTi l yX12_fewest wzX12_fewest { frames := 7, cells := 0, slots := 0, locals := 178 } D [(cI, .int), (cJ, .long), (cZ, .boolean), (cH, .object "TinHouse$House")] [.ref a_this, .int p0] [(a_this, .inr (12, [.ref a_this_st, .ref a_this_images, .ref a_this_isKept, .long v_this_above, .long v_this_below, .int v_this_steps, .ref a_this_step, .ref a_this_with, .int v_this_waiting, .ref a_this_waits, .ref a_this_value, .ref a_this_given, .ref a_this_net, .ref a_this_together, .ref a_this_most, .ref a_this_owes, .ref a_this_can, .ref a_this_row, .ref a_this_before, .ref a_this_to, .ref a_this_on, .ref a_this_load, .ref a_this_lead, .ref a_this_bestLead, .ref a_this_silver])), (a_this_given, .inl (cJ, 5, .inr (.inl v_this_given))), (a_this_most, .inl (cI, 1024, .inl v_this_most)), (a_this_net, .inl (cJ, 10, .inr (.inl v_this_net))), (a_this_st, .inl (cI, 1951, .inl v_this_st)), (a_this_step, .inl (cI, 70, .inl v_this_step)), (a_this_together, .inl (cJ, 1024, .inr (.inl v_this_together))), (a_this_value, .inl (cJ, 70, .inr (.inl v_this_value))), (a_this_waits, .inl (cI, 70, .inl v_this_waits)), (a_this_with, .inl (cI, 70, .inl v_this_with))] res.1 [(a_this, .inr (12, [.ref a_this_st, .ref a_this_images, .ref a_this_isKept, .long v_this_above, .long v_this_below, .int res.2.2.2.2.2.1, .ref a_this_step, .ref a_this_with, .int res.2.2.2.2.2.2.2.2.1, .ref a_this_waits, .ref a_this_value, .ref a_this_given, .ref a_this_net, .ref a_this_together, .ref a_this_most, .ref a_this_owes, .ref a_this_can, .ref a_this_row, .ref a_this_before, .ref a_this_to, .ref a_this_on, .ref a_this_load, .ref a_this_lead, .ref a_this_bestLead, .ref a_this_silver])), (a_this_given, .inl (cJ, 5, .inr (.inl res.2.1))), (a_this_most, .inl (cI, 1024, .inl res.2.2.1)), (a_this_net, .inl (cJ, 10, .inr (.inl res.2.2.2.1))), (a_this_st, .inl (cI, 1951, .inl v_this_st)), (a_this_step, .inl (cI, 70, .inl res.2.2.2.2.1)), (a_this_together, .inl (cJ, 1024, .inr (.inl res.2.2.2.2.2.2.1))), (a_this_value, .inl (cJ, 70, .inr (.inl res.2.2.2.2.2.2.2.1))), (a_this_waits, .inl (cI, 70, .inl res.2.2.2.2.2.2.2.2.2.1)), (a_this_with, .inl (cI, 70, .inl res.2.2.2.2.2.2.2.2.2.2))] := by
  unfold F_X12_fewest at h
  refine ii_metI (own := RX12) (lv0 := [(0, .ref a_this), (1, .int p0)]) (by decide) rfl rfl rfl (Nat.le_of_ble_eq_true rfl) (fun {p e s m args below meth c A Q} hQ => ?_)
  refine ii_iload_n 1 dX12_fewest_0 rfl ?_
  obtain ⟨c_1, hc_1, h⟩ := bnd h
  refine ii_callSi (As := [.int p0]) (ws' := [(a_this, .inr (12, [.ref a_this_st, .ref a_this_images, .ref a_this_isKept, .long v_this_above, .long v_this_below, .int v_this_steps, .ref a_this_step, .ref a_this_with, .int v_this_waiting, .ref a_this_waits, .ref a_this_value, .ref a_this_given, .ref a_this_net, .ref a_this_together, .ref a_this_most, .ref a_this_owes, .ref a_this_can, .ref a_this_row, .ref a_this_before, .ref a_this_to, .ref a_this_on, .ref a_this_load, .ref a_this_lead, .ref a_this_bestLead, .ref a_this_silver])), (a_this_given, .inl (cJ, 5, .inr (.inl v_this_given))), (a_this_most, .inl (cI, 1024, .inl v_this_most)), (a_this_net, .inl (cJ, 10, .inr (.inl v_this_net))), (a_this_st, .inl (cI, 1951, .inl v_this_st)), (a_this_step, .inl (cI, 70, .inl v_this_step)), (a_this_together, .inl (cJ, 1024, .inr (.inl v_this_together))), (a_this_value, .inl (cJ, 70, .inr (.inl v_this_value))), (a_this_waits, .inl (cI, 70, .inl v_this_waits)), (a_this_with, .inl (cI, 70, .inl v_this_with))]) (st := []) (c_X12_isSeason l D cI cJ cZ cH p0 hc_1) gzX12_153 rfl rfl rfl eS_X12_isSeason ⟨Nat.le_of_ble_eq_true rfl, Nat.le_of_ble_eq_true rfl⟩ rfl [] rfl rfl rfl rfl rfl (Nat.le_of_ble_eq_true rfl) (Nat.le_refl _) (Nat.le_refl _) rfl dX12_fewest_1 ?_
  refine ii_if_ne (tgt := 10) h dX12_fewest_4 (by decide) (fun h => ?_) (fun h => ?_)
  · skip
    refine ii_iconst dX12_fewest_10 kc0 ?_
    refine ii_istore_n (lv' := [(2, .int (0 : Int32)), (0, .ref a_this), (1, .int p0)]) dX12_fewest_11 rfl (by decide) rfl ?_
    refine ii_iconst dX12_fewest_12 kc0 ?_
    refine ii_istore_n (lv' := [(3, .int (0 : Int32)), (2, .int (0 : Int32)), (0, .ref a_this), (1, .int p0)]) dX12_fewest_13 rfl (by decide) rfl ?_
    refine ii_lv [2, 3, 1, 0] rfl ?_
    obtain ⟨x_3, hl_2, h⟩ := bnd h
    refine ii_loopX (fun s_2 => [(a_this, .inr (12, [.ref a_this_st, .ref a_this_images, .ref a_this_isKept, .long v_this_above, .long v_this_below, .int s_2.2.2.2.2.2.1, .ref a_this_step, .ref a_this_with, .int s_2.2.2.2.2.2.2.2.1, .ref a_this_waits, .ref a_this_value, .ref a_this_given, .ref a_this_net, .ref a_this_together, .ref a_this_most, .ref a_this_owes, .ref a_this_can, .ref a_this_row, .ref a_this_before, .ref a_this_to, .ref a_this_on, .ref a_this_load, .ref a_this_lead, .ref a_this_bestLead, .ref a_this_silver])), (a_this_given, .inl (cJ, 5, .inr (.inl s_2.2.2.1))), (a_this_most, .inl (cI, 1024, .inl v_this_most)), (a_this_net, .inl (cJ, 10, .inr (.inl s_2.2.2.2.1))), (a_this_st, .inl (cI, 1951, .inl v_this_st)), (a_this_step, .inl (cI, 70, .inl s_2.2.2.2.2.1)), (a_this_together, .inl (cJ, 1024, .inr (.inl v_this_together))), (a_this_value, .inl (cJ, 70, .inr (.inl s_2.2.2.2.2.2.2.1))), (a_this_waits, .inl (cI, 70, .inl s_2.2.2.2.2.2.2.2.2.1)), (a_this_with, .inl (cI, 70, .inl s_2.2.2.2.2.2.2.2.2.2))]) (fun s_2 => [(0, .ref a_this), (1, .int p0), (2, .int s_2.1), (3, .int s_2.2.1)]) (fun x_3 => [(a_this, .inr (12, [.ref a_this_st, .ref a_this_images, .ref a_this_isKept, .long v_this_above, .long v_this_below, .int x_3.2.2.2.2.2.1, .ref a_this_step, .ref a_this_with, .int x_3.2.2.2.2.2.2.2.1, .ref a_this_waits, .ref a_this_value, .ref a_this_given, .ref a_this_net, .ref a_this_together, .ref a_this_most, .ref a_this_owes, .ref a_this_can, .ref a_this_row, .ref a_this_before, .ref a_this_to, .ref a_this_on, .ref a_this_load, .ref a_this_lead, .ref a_this_bestLead, .ref a_this_silver])), (a_this_given, .inl (cJ, 5, .inr (.inl x_3.2.2.1))), (a_this_most, .inl (cI, 1024, .inl v_this_most)), (a_this_net, .inl (cJ, 10, .inr (.inl x_3.2.2.2.1))), (a_this_st, .inl (cI, 1951, .inl v_this_st)), (a_this_step, .inl (cI, 70, .inl x_3.2.2.2.2.1)), (a_this_together, .inl (cJ, 1024, .inr (.inl v_this_together))), (a_this_value, .inl (cJ, 70, .inr (.inl x_3.2.2.2.2.2.2.1))), (a_this_waits, .inl (cI, 70, .inl x_3.2.2.2.2.2.2.2.2.1)), (a_this_with, .inl (cI, 70, .inl x_3.2.2.2.2.2.2.2.2.2))]) (fun x_3 => [(0, .ref a_this), (2, .int x_3.1)]) 61 hl_2 rfl rfl ?_ (fun s_2 o h hb_2 hr_2 hx_2 => ?_)
    · skip
      refine ii_iconst dX12_fewest_61 kc1 ?_
      refine ii_istore_n (lv' := [(3, .int (1 : Int32)), (0, .ref a_this), (2, .int x_3.1)]) dX12_fewest_62 rfl (by decide) rfl ?_
      refine ii_lv [1, 2, 0] rfl ?_
      obtain ⟨x_11, hl_10, h⟩ := bnd h
      refine ii_loopX (fun s_10 => [(a_this, .inr (12, [.ref a_this_st, .ref a_this_images, .ref a_this_isKept, .long v_this_above, .long v_this_below, .int x_3.2.2.2.2.2.1, .ref a_this_step, .ref a_this_with, .int x_3.2.2.2.2.2.2.2.1, .ref a_this_waits, .ref a_this_value, .ref a_this_given, .ref a_this_net, .ref a_this_together, .ref a_this_most, .ref a_this_owes, .ref a_this_can, .ref a_this_row, .ref a_this_before, .ref a_this_to, .ref a_this_on, .ref a_this_load, .ref a_this_lead, .ref a_this_bestLead, .ref a_this_silver])), (a_this_given, .inl (cJ, 5, .inr (.inl x_3.2.2.1))), (a_this_most, .inl (cI, 1024, .inl s_10.2.1)), (a_this_net, .inl (cJ, 10, .inr (.inl x_3.2.2.2.1))), (a_this_st, .inl (cI, 1951, .inl v_this_st)), (a_this_step, .inl (cI, 70, .inl x_3.2.2.2.2.1)), (a_this_together, .inl (cJ, 1024, .inr (.inl s_10.2.2))), (a_this_value, .inl (cJ, 70, .inr (.inl x_3.2.2.2.2.2.2.1))), (a_this_waits, .inl (cI, 70, .inl x_3.2.2.2.2.2.2.2.2.1)), (a_this_with, .inl (cI, 70, .inl x_3.2.2.2.2.2.2.2.2.2))]) (fun s_10 => [(0, .ref a_this), (2, .int x_3.1), (3, .int s_10.1)]) (fun x_11 => [(a_this, .inr (12, [.ref a_this_st, .ref a_this_images, .ref a_this_isKept, .long v_this_above, .long v_this_below, .int x_3.2.2.2.2.2.1, .ref a_this_step, .ref a_this_with, .int x_3.2.2.2.2.2.2.2.1, .ref a_this_waits, .ref a_this_value, .ref a_this_given, .ref a_this_net, .ref a_this_together, .ref a_this_most, .ref a_this_owes, .ref a_this_can, .ref a_this_row, .ref a_this_before, .ref a_this_to, .ref a_this_on, .ref a_this_load, .ref a_this_lead, .ref a_this_bestLead, .ref a_this_silver])), (a_this_given, .inl (cJ, 5, .inr (.inl x_3.2.2.1))), (a_this_most, .inl (cI, 1024, .inl x_11.2.1)), (a_this_net, .inl (cJ, 10, .inr (.inl x_3.2.2.2.1))), (a_this_st, .inl (cI, 1951, .inl v_this_st)), (a_this_step, .inl (cI, 70, .inl x_3.2.2.2.2.1)), (a_this_together, .inl (cJ, 1024, .inr (.inl x_11.2.2))), (a_this_value, .inl (cJ, 70, .inr (.inl x_3.2.2.2.2.2.2.1))), (a_this_waits, .inl (cI, 70, .inl x_3.2.2.2.2.2.2.2.2.1)), (a_this_with, .inl (cI, 70, .inl x_3.2.2.2.2.2.2.2.2.2))]) (fun x_11 => [(0, .ref a_this), (2, .int x_3.1)]) 197 hl_10 rfl rfl ?_ (fun s_10 o h hb_10 hr_10 hx_10 => ?_)
      · skip
        refine ii_iload_n 1 dX12_fewest_197 rfl ?_
        refine ii_aload_n 0 dX12_fewest_198 rfl ?_
        refine ii_get (C := RX12) (T := TX12) (N := 25) (ci := 12) izX12 0 rfl rfl 14 (by decide) kX12_42 rfl dX12_fewest_199 ?_
        refine ii_iconst dX12_fewest_202 kc1 ?_
        refine ii_iload_n 1 dX12_fewest_203 rfl ?_
        refine ii_ishl dX12_fewest_204 ?_
        refine ii_iconst dX12_fewest_205 kc1 ?_
        refine ii_isub dX12_fewest_206 ?_
        refine ii_iald h 2 0 rfl rfl dX12_fewest_207 (fun t_31 h => ?_)
        refine ii_isub dX12_fewest_208 ?_
        cases h
        exact hQ _ _ dX12_fewest_209
      · skip
        refine ii_iload_n 2 dX12_fewest_63 rfl ?_
        refine ii_iconst dX12_fewest_64 kc1 ?_
        refine ii_iload_n 1 dX12_fewest_65 rfl ?_
        refine ii_ishl dX12_fewest_66 ?_
        refine ii_icmp_ge (tgt := 197) h dX12_fewest_67 (by decide) (fun h => ?_) (fun h => ?_)
        · skip
          refine ii_lv [0, 1] rfl ?_
          cases h
          exact hx_10 (s_10.1, s_10.2.1, s_10.2.2) (hr_10 _ rfl)
        · skip
          refine ii_aload_n 0 dX12_fewest_70 rfl ?_
          refine ii_get (C := RX12) (T := TX12) (N := 25) (ci := 12) izX12 0 rfl rfl 13 (by decide) kX12_39 rfl dX12_fewest_71 ?_
          refine ii_iload_n 2 dX12_fewest_74 rfl ?_
          refine ii_lconst dX12_fewest_75 kl0 ?_
          refine ii_last (fun g_12 => [(a_this, .inr (12, [.ref a_this_st, .ref a_this_images, .ref a_this_isKept, .long v_this_above, .long v_this_below, .int x_3.2.2.2.2.2.1, .ref a_this_step, .ref a_this_with, .int x_3.2.2.2.2.2.2.2.1, .ref a_this_waits, .ref a_this_value, .ref a_this_given, .ref a_this_net, .ref a_this_together, .ref a_this_most, .ref a_this_owes, .ref a_this_can, .ref a_this_row, .ref a_this_before, .ref a_this_to, .ref a_this_on, .ref a_this_load, .ref a_this_lead, .ref a_this_bestLead, .ref a_this_silver])), (a_this_given, .inl (cJ, 5, .inr (.inl x_3.2.2.1))), (a_this_most, .inl (cI, 1024, .inl s_10.2.1)), (a_this_net, .inl (cJ, 10, .inr (.inl x_3.2.2.2.1))), (a_this_st, .inl (cI, 1951, .inl v_this_st)), (a_this_step, .inl (cI, 70, .inl x_3.2.2.2.2.1)), (a_this_together, .inl (cJ, 1024, .inr (.inl g_12))), (a_this_value, .inl (cJ, 70, .inr (.inl x_3.2.2.2.2.2.2.1))), (a_this_waits, .inl (cI, 70, .inl x_3.2.2.2.2.2.2.2.2.1)), (a_this_with, .inl (cI, 70, .inl x_3.2.2.2.2.2.2.2.2.2))]) h 6 1 rfl rfl dX12_fewest_76 (fun _ => rfl) (fun g_12 h => ?_)
          refine ii_aload_n 0 dX12_fewest_77 rfl ?_
          refine ii_get (C := RX12) (T := TX12) (N := 25) (ci := 12) izX12 0 rfl rfl 14 (by decide) kX12_42 rfl dX12_fewest_78 ?_
          refine ii_iload_n 2 dX12_fewest_81 rfl ?_
          refine ii_iconst dX12_fewest_82 kc0 ?_
          refine ii_iast (fun g_13 => [(a_this, .inr (12, [.ref a_this_st, .ref a_this_images, .ref a_this_isKept, .long v_this_above, .long v_this_below, .int x_3.2.2.2.2.2.1, .ref a_this_step, .ref a_this_with, .int x_3.2.2.2.2.2.2.2.1, .ref a_this_waits, .ref a_this_value, .ref a_this_given, .ref a_this_net, .ref a_this_together, .ref a_this_most, .ref a_this_owes, .ref a_this_can, .ref a_this_row, .ref a_this_before, .ref a_this_to, .ref a_this_on, .ref a_this_load, .ref a_this_lead, .ref a_this_bestLead, .ref a_this_silver])), (a_this_given, .inl (cJ, 5, .inr (.inl x_3.2.2.1))), (a_this_most, .inl (cI, 1024, .inl g_13)), (a_this_net, .inl (cJ, 10, .inr (.inl x_3.2.2.2.1))), (a_this_st, .inl (cI, 1951, .inl v_this_st)), (a_this_step, .inl (cI, 70, .inl x_3.2.2.2.2.1)), (a_this_together, .inl (cJ, 1024, .inr (.inl g_12))), (a_this_value, .inl (cJ, 70, .inr (.inl x_3.2.2.2.2.2.2.1))), (a_this_waits, .inl (cI, 70, .inl x_3.2.2.2.2.2.2.2.2.1)), (a_this_with, .inl (cI, 70, .inl x_3.2.2.2.2.2.2.2.2.2))]) h 2 0 rfl rfl dX12_fewest_83 (fun _ => rfl) (fun g_13 h => ?_)
          refine ii_iconst dX12_fewest_84 kc0 ?_
          refine ii_istore (lv' := [(4, .int (0 : Int32)), (0, .ref a_this), (2, .int x_3.1), (3, .int s_10.1)]) dX12_fewest_85 (by decide) rfl ?_
          refine ii_lv [1, 2, 3, 0] rfl ?_
          obtain ⟨x_15, hl_14, h⟩ := bnd h
          refine ii_loopX (fun s_14 => [(a_this, .inr (12, [.ref a_this_st, .ref a_this_images, .ref a_this_isKept, .long v_this_above, .long v_this_below, .int x_3.2.2.2.2.2.1, .ref a_this_step, .ref a_this_with, .int x_3.2.2.2.2.2.2.2.1, .ref a_this_waits, .ref a_this_value, .ref a_this_given, .ref a_this_net, .ref a_this_together, .ref a_this_most, .ref a_this_owes, .ref a_this_can, .ref a_this_row, .ref a_this_before, .ref a_this_to, .ref a_this_on, .ref a_this_load, .ref a_this_lead, .ref a_this_bestLead, .ref a_this_silver])), (a_this_given, .inl (cJ, 5, .inr (.inl x_3.2.2.1))), (a_this_most, .inl (cI, 1024, .inl s_14.2.1)), (a_this_net, .inl (cJ, 10, .inr (.inl x_3.2.2.2.1))), (a_this_st, .inl (cI, 1951, .inl v_this_st)), (a_this_step, .inl (cI, 70, .inl x_3.2.2.2.2.1)), (a_this_together, .inl (cJ, 1024, .inr (.inl s_14.2.2))), (a_this_value, .inl (cJ, 70, .inr (.inl x_3.2.2.2.2.2.2.1))), (a_this_waits, .inl (cI, 70, .inl x_3.2.2.2.2.2.2.2.2.1)), (a_this_with, .inl (cI, 70, .inl x_3.2.2.2.2.2.2.2.2.2))]) (fun s_14 => [(0, .ref a_this), (2, .int x_3.1), (3, .int s_10.1), (4, .int s_14.1)]) (fun x_15 => [(a_this, .inr (12, [.ref a_this_st, .ref a_this_images, .ref a_this_isKept, .long v_this_above, .long v_this_below, .int x_3.2.2.2.2.2.1, .ref a_this_step, .ref a_this_with, .int x_3.2.2.2.2.2.2.2.1, .ref a_this_waits, .ref a_this_value, .ref a_this_given, .ref a_this_net, .ref a_this_together, .ref a_this_most, .ref a_this_owes, .ref a_this_can, .ref a_this_row, .ref a_this_before, .ref a_this_to, .ref a_this_on, .ref a_this_load, .ref a_this_lead, .ref a_this_bestLead, .ref a_this_silver])), (a_this_given, .inl (cJ, 5, .inr (.inl x_3.2.2.1))), (a_this_most, .inl (cI, 1024, .inl x_15.2.1)), (a_this_net, .inl (cJ, 10, .inr (.inl x_3.2.2.2.1))), (a_this_st, .inl (cI, 1951, .inl v_this_st)), (a_this_step, .inl (cI, 70, .inl x_3.2.2.2.2.1)), (a_this_together, .inl (cJ, 1024, .inr (.inl x_15.2.2))), (a_this_value, .inl (cJ, 70, .inr (.inl x_3.2.2.2.2.2.2.1))), (a_this_waits, .inl (cI, 70, .inl x_3.2.2.2.2.2.2.2.2.1)), (a_this_with, .inl (cI, 70, .inl x_3.2.2.2.2.2.2.2.2.2))]) (fun x_15 => [(0, .ref a_this), (2, .int x_3.1), (3, .int s_10.1)]) 166 hl_14 rfl rfl ?_ (fun s_14 o h hb_14 hr_14 hx_14 => ?_)
          · skip
            refine ii_aload_n 0 dX12_fewest_166 rfl ?_
            refine ii_get (C := RX12) (T := TX12) (N := 25) (ci := 12) izX12 0 rfl rfl 14 (by decide) kX12_42 rfl dX12_fewest_167 ?_
            refine ii_iload_n 2 dX12_fewest_170 rfl ?_
            refine ii_dup2 dX12_fewest_171 rfl rfl ?_
            refine ii_iald h 2 0 rfl rfl dX12_fewest_172 (fun t_26 h => ?_)
            refine ii_aload_n 0 dX12_fewest_173 rfl ?_
            refine ii_get (C := RX12) (T := TX12) (N := 25) (ci := 12) izX12 0 rfl rfl 13 (by decide) kX12_39 rfl dX12_fewest_174 ?_
            refine ii_iload_n 2 dX12_fewest_177 rfl ?_
            refine ii_lald h 6 1 rfl rfl dX12_fewest_178 (fun t_27 h => ?_)
            refine ii_lconst dX12_fewest_179 kl0 ?_
            refine ii_jn h (fun j_28 => [(a_this, .inr (12, [.ref a_this_st, .ref a_this_images, .ref a_this_isKept, .long v_this_above, .long v_this_below, .int x_3.2.2.2.2.2.1, .ref a_this_step, .ref a_this_with, .int x_3.2.2.2.2.2.2.2.1, .ref a_this_waits, .ref a_this_value, .ref a_this_given, .ref a_this_net, .ref a_this_together, .ref a_this_most, .ref a_this_owes, .ref a_this_can, .ref a_this_row, .ref a_this_before, .ref a_this_to, .ref a_this_on, .ref a_this_load, .ref a_this_lead, .ref a_this_bestLead, .ref a_this_silver])), (a_this_given, .inl (cJ, 5, .inr (.inl x_3.2.2.1))), (a_this_most, .inl (cI, 1024, .inl x_15.2.1)), (a_this_net, .inl (cJ, 10, .inr (.inl x_3.2.2.2.1))), (a_this_st, .inl (cI, 1951, .inl v_this_st)), (a_this_step, .inl (cI, 70, .inl x_3.2.2.2.2.1)), (a_this_together, .inl (cJ, 1024, .inr (.inl x_15.2.2))), (a_this_value, .inl (cJ, 70, .inr (.inl x_3.2.2.2.2.2.2.1))), (a_this_waits, .inl (cI, 70, .inl x_3.2.2.2.2.2.2.2.2.1)), (a_this_with, .inl (cI, 70, .inl x_3.2.2.2.2.2.2.2.2.2))]) (fun j_28 => [(0, .ref a_this), (2, .int x_3.1), (3, .int s_10.1)]) 189 (fun j_28 => [.int j_28, .int t_26, .int s_10.1, .ref a_this_most]) (fun j_28 h => ?_) (fun j_28 h hjj_28 => ?_)
            · skip
              refine ii_iadd dX12_fewest_189 ?_
              refine ii_iast (fun g_29 => [(a_this, .inr (12, [.ref a_this_st, .ref a_this_images, .ref a_this_isKept, .long v_this_above, .long v_this_below, .int x_3.2.2.2.2.2.1, .ref a_this_step, .ref a_this_with, .int x_3.2.2.2.2.2.2.2.1, .ref a_this_waits, .ref a_this_value, .ref a_this_given, .ref a_this_net, .ref a_this_together, .ref a_this_most, .ref a_this_owes, .ref a_this_can, .ref a_this_row, .ref a_this_before, .ref a_this_to, .ref a_this_on, .ref a_this_load, .ref a_this_lead, .ref a_this_bestLead, .ref a_this_silver])), (a_this_given, .inl (cJ, 5, .inr (.inl x_3.2.2.1))), (a_this_most, .inl (cI, 1024, .inl g_29)), (a_this_net, .inl (cJ, 10, .inr (.inl x_3.2.2.2.1))), (a_this_st, .inl (cI, 1951, .inl v_this_st)), (a_this_step, .inl (cI, 70, .inl x_3.2.2.2.2.1)), (a_this_together, .inl (cJ, 1024, .inr (.inl x_15.2.2))), (a_this_value, .inl (cJ, 70, .inr (.inl x_3.2.2.2.2.2.2.1))), (a_this_waits, .inl (cI, 70, .inl x_3.2.2.2.2.2.2.2.2.1)), (a_this_with, .inl (cI, 70, .inl x_3.2.2.2.2.2.2.2.2.2))]) h 2 0 rfl rfl dX12_fewest_190 (fun _ => rfl) (fun g_29 h => ?_)
              refine ii_iinc (fun x_30 => [(3, .int x_30), (0, .ref a_this), (2, .int x_3.1)]) h 2 dX12_fewest_191 rfl kc1 (by decide) (fun _ => rfl) (fun x_30 h => ?_)
              refine ii_goto (tgt := 63) dX12_fewest_194 (by decide) ?_
              refine ii_lv [1, 2, 0] rfl ?_
              cases h
              exact hb_10 (x_30, g_29, x_15.2.2) rfl
            · skip
              refine ii_lcmp_ne (tgt := 188) h dX12_fewest_180 dX12_fewest_181 (by decide) (fun h => ?_) (fun h => ?_)
              · skip
                refine ii_iconst dX12_fewest_188 kc0 ?_
                cases h
                exact hjj_28
              · skip
                refine ii_iconst dX12_fewest_184 kc1 ?_
                refine ii_goto (tgt := 189) dX12_fewest_185 (by decide) ?_
                cases h
                exact hjj_28
          · skip
            refine ii_iload 3 dX12_fewest_87 rfl ?_
            refine ii_iload_n 1 dX12_fewest_89 rfl ?_
            refine ii_icmp_ge (tgt := 166) h dX12_fewest_90 (by decide) (fun h => ?_) (fun h => ?_)
            · skip
              refine ii_lv [0, 1, 2] rfl ?_
              cases h
              exact hx_14 (s_14.1, s_14.2.1, s_14.2.2) (hr_14 _ rfl)
            · skip
              refine ii_iload_n 2 dX12_fewest_93 rfl ?_
              refine ii_iload 3 dX12_fewest_94 rfl ?_
              refine ii_ishr dX12_fewest_96 ?_
              refine ii_iconst dX12_fewest_97 kc1 ?_
              refine ii_iand dX12_fewest_98 ?_
              refine ii_iconst dX12_fewest_99 kc1 ?_
              refine ii_jn h (fun j_16 => [(a_this, .inr (12, [.ref a_this_st, .ref a_this_images, .ref a_this_isKept, .long v_this_above, .long v_this_below, .int x_3.2.2.2.2.2.1, .ref a_this_step, .ref a_this_with, .int x_3.2.2.2.2.2.2.2.1, .ref a_this_waits, .ref a_this_value, .ref a_this_given, .ref a_this_net, .ref a_this_together, .ref a_this_most, .ref a_this_owes, .ref a_this_can, .ref a_this_row, .ref a_this_before, .ref a_this_to, .ref a_this_on, .ref a_this_load, .ref a_this_lead, .ref a_this_bestLead, .ref a_this_silver])), (a_this_given, .inl (cJ, 5, .inr (.inl x_3.2.2.1))), (a_this_most, .inl (cI, 1024, .inl j_16.1)), (a_this_net, .inl (cJ, 10, .inr (.inl x_3.2.2.2.1))), (a_this_st, .inl (cI, 1951, .inl v_this_st)), (a_this_step, .inl (cI, 70, .inl x_3.2.2.2.2.1)), (a_this_together, .inl (cJ, 1024, .inr (.inl j_16.2))), (a_this_value, .inl (cJ, 70, .inr (.inl x_3.2.2.2.2.2.2.1))), (a_this_waits, .inl (cI, 70, .inl x_3.2.2.2.2.2.2.2.2.1)), (a_this_with, .inl (cI, 70, .inl x_3.2.2.2.2.2.2.2.2.2))]) (fun j_16 => [(0, .ref a_this), (2, .int x_3.1), (3, .int s_10.1), (4, .int s_14.1)]) 160 (fun j_16 => []) (fun j_16 h => ?_) (fun j_16 h hjj_16 => ?_)
              · skip
                refine ii_iinc (fun x_25 => [(4, .int x_25), (0, .ref a_this), (2, .int x_3.1), (3, .int s_10.1)]) h 3 dX12_fewest_160 rfl kc1 (by decide) (fun _ => rfl) (fun x_25 h => ?_)
                refine ii_goto (tgt := 87) dX12_fewest_163 (by decide) ?_
                refine ii_lv [1, 2, 3, 0] rfl ?_
                cases h
                exact hb_14 (x_25, j_16.1, j_16.2) rfl
              · skip
                refine ii_icmp_ne (tgt := 160) h dX12_fewest_100 (by decide) (fun h => ?_) (fun h => ?_)
                · skip
                  cases h
                  exact hjj_16
                · skip
                  refine ii_aload_n 0 dX12_fewest_103 rfl ?_
                  refine ii_get (C := RX12) (T := TX12) (N := 25) (ci := 12) izX12 0 rfl rfl 13 (by decide) kX12_39 rfl dX12_fewest_104 ?_
                  refine ii_iload_n 2 dX12_fewest_107 rfl ?_
                  refine ii_dup2 dX12_fewest_108 rfl rfl ?_
                  refine ii_lald h 6 1 rfl rfl dX12_fewest_109 (fun t_17 h => ?_)
                  refine ii_aload_n 0 dX12_fewest_110 rfl ?_
                  refine ii_get (C := RX12) (T := TX12) (N := 25) (ci := 12) izX12 0 rfl rfl 12 (by decide) kX12_36 rfl dX12_fewest_111 ?_
                  refine ii_iload 3 dX12_fewest_114 rfl ?_
                  refine ii_lald h 3 1 rfl rfl dX12_fewest_116 (fun t_18 h => ?_)
                  refine ii_ladd dX12_fewest_117 ?_
                  refine ii_last (fun g_19 => [(a_this, .inr (12, [.ref a_this_st, .ref a_this_images, .ref a_this_isKept, .long v_this_above, .long v_this_below, .int x_3.2.2.2.2.2.1, .ref a_this_step, .ref a_this_with, .int x_3.2.2.2.2.2.2.2.1, .ref a_this_waits, .ref a_this_value, .ref a_this_given, .ref a_this_net, .ref a_this_together, .ref a_this_most, .ref a_this_owes, .ref a_this_can, .ref a_this_row, .ref a_this_before, .ref a_this_to, .ref a_this_on, .ref a_this_load, .ref a_this_lead, .ref a_this_bestLead, .ref a_this_silver])), (a_this_given, .inl (cJ, 5, .inr (.inl x_3.2.2.1))), (a_this_most, .inl (cI, 1024, .inl s_14.2.1)), (a_this_net, .inl (cJ, 10, .inr (.inl x_3.2.2.2.1))), (a_this_st, .inl (cI, 1951, .inl v_this_st)), (a_this_step, .inl (cI, 70, .inl x_3.2.2.2.2.1)), (a_this_together, .inl (cJ, 1024, .inr (.inl g_19))), (a_this_value, .inl (cJ, 70, .inr (.inl x_3.2.2.2.2.2.2.1))), (a_this_waits, .inl (cI, 70, .inl x_3.2.2.2.2.2.2.2.2.1)), (a_this_with, .inl (cI, 70, .inl x_3.2.2.2.2.2.2.2.2.2))]) h 6 1 rfl rfl dX12_fewest_118 (fun _ => rfl) (fun g_19 h => ?_)
                  refine ii_aload_n 0 dX12_fewest_119 rfl ?_
                  refine ii_get (C := RX12) (T := TX12) (N := 25) (ci := 12) izX12 0 rfl rfl 14 (by decide) kX12_42 rfl dX12_fewest_120 ?_
                  refine ii_iload_n 2 dX12_fewest_123 rfl ?_
                  refine ii_iconst dX12_fewest_124 kc1 ?_
                  refine ii_iload 3 dX12_fewest_125 rfl ?_
                  refine ii_ishl dX12_fewest_127 ?_
                  refine ii_ixor dX12_fewest_128 ?_
                  refine ii_iald h 2 0 rfl rfl dX12_fewest_129 (fun t_20 h => ?_)
                  refine ii_istore (lv' := [(5, .int t_20), (0, .ref a_this), (2, .int x_3.1), (3, .int s_10.1), (4, .int s_14.1)]) dX12_fewest_130 (by decide) rfl ?_
                  refine ii_aload_n 1 dX12_fewest_132 rfl ?_
                  refine ii_get (C := RX12) (T := TX12) (N := 25) (ci := 12) izX12 0 rfl rfl 14 (by decide) kX12_42 rfl dX12_fewest_133 ?_
                  refine ii_iload_n 3 dX12_fewest_136 rfl ?_
                  refine ii_iload 0 dX12_fewest_137 rfl ?_
                  refine ii_aload_n 1 dX12_fewest_139 rfl ?_
                  refine ii_get (C := RX12) (T := TX12) (N := 25) (ci := 12) izX12 0 rfl rfl 14 (by decide) kX12_42 rfl dX12_fewest_140 ?_
                  refine ii_iload_n 3 dX12_fewest_143 rfl ?_
                  refine ii_iald h 2 0 rfl rfl dX12_fewest_144 (fun t_21 h => ?_)
                  refine ii_jn h (fun j_22 => [(a_this, .inr (12, [.ref a_this_st, .ref a_this_images, .ref a_this_isKept, .long v_this_above, .long v_this_below, .int x_3.2.2.2.2.2.1, .ref a_this_step, .ref a_this_with, .int x_3.2.2.2.2.2.2.2.1, .ref a_this_waits, .ref a_this_value, .ref a_this_given, .ref a_this_net, .ref a_this_together, .ref a_this_most, .ref a_this_owes, .ref a_this_can, .ref a_this_row, .ref a_this_before, .ref a_this_to, .ref a_this_on, .ref a_this_load, .ref a_this_lead, .ref a_this_bestLead, .ref a_this_silver])), (a_this_given, .inl (cJ, 5, .inr (.inl x_3.2.2.1))), (a_this_most, .inl (cI, 1024, .inl s_14.2.1)), (a_this_net, .inl (cJ, 10, .inr (.inl x_3.2.2.2.1))), (a_this_st, .inl (cI, 1951, .inl v_this_st)), (a_this_step, .inl (cI, 70, .inl x_3.2.2.2.2.1)), (a_this_together, .inl (cJ, 1024, .inr (.inl g_19))), (a_this_value, .inl (cJ, 70, .inr (.inl x_3.2.2.2.2.2.2.1))), (a_this_waits, .inl (cI, 70, .inl x_3.2.2.2.2.2.2.2.2.1)), (a_this_with, .inl (cI, 70, .inl x_3.2.2.2.2.2.2.2.2.2))]) (fun j_22 => [(0, .ref a_this), (2, .int x_3.1), (3, .int s_10.1), (4, .int s_14.1)]) 159 (fun j_22 => [.int j_22, .int s_10.1, .ref a_this_most]) (fun j_22 h => ?_) (fun j_22 h hjj_22 => ?_)
                  · skip
                    refine ii_iast (fun g_24 => [(a_this, .inr (12, [.ref a_this_st, .ref a_this_images, .ref a_this_isKept, .long v_this_above, .long v_this_below, .int x_3.2.2.2.2.2.1, .ref a_this_step, .ref a_this_with, .int x_3.2.2.2.2.2.2.2.1, .ref a_this_waits, .ref a_this_value, .ref a_this_given, .ref a_this_net, .ref a_this_together, .ref a_this_most, .ref a_this_owes, .ref a_this_can, .ref a_this_row, .ref a_this_before, .ref a_this_to, .ref a_this_on, .ref a_this_load, .ref a_this_lead, .ref a_this_bestLead, .ref a_this_silver])), (a_this_given, .inl (cJ, 5, .inr (.inl x_3.2.2.1))), (a_this_most, .inl (cI, 1024, .inl g_24)), (a_this_net, .inl (cJ, 10, .inr (.inl x_3.2.2.2.1))), (a_this_st, .inl (cI, 1951, .inl v_this_st)), (a_this_step, .inl (cI, 70, .inl x_3.2.2.2.2.1)), (a_this_together, .inl (cJ, 1024, .inr (.inl g_19))), (a_this_value, .inl (cJ, 70, .inr (.inl x_3.2.2.2.2.2.2.1))), (a_this_waits, .inl (cI, 70, .inl x_3.2.2.2.2.2.2.2.2.1)), (a_this_with, .inl (cI, 70, .inl x_3.2.2.2.2.2.2.2.2.2))]) h 2 0 rfl rfl dX12_fewest_159 (fun _ => rfl) (fun g_24 h => ?_)
                    cases h
                    exact hjj_16
                  · skip
                    refine ii_icmp_le (tgt := 153) h dX12_fewest_145 (by decide) (fun h => ?_) (fun h => ?_)
                    · skip
                      refine ii_aload_n 1 dX12_fewest_153 rfl ?_
                      refine ii_get (C := RX12) (T := TX12) (N := 25) (ci := 12) izX12 0 rfl rfl 14 (by decide) kX12_42 rfl dX12_fewest_154 ?_
                      refine ii_iload_n 3 dX12_fewest_157 rfl ?_
                      refine ii_iald h 2 0 rfl rfl dX12_fewest_158 (fun t_23 h => ?_)
                      refine ii_lv [1, 2, 3, 4] rfl ?_
                      cases h
                      exact hjj_22
                    · skip
                      refine ii_iload 0 dX12_fewest_148 rfl ?_
                      refine ii_goto (tgt := 159) dX12_fewest_150 (by decide) ?_
                      refine ii_lv [1, 2, 3, 4] rfl ?_
                      cases h
                      exact hjj_22
    · skip
      refine ii_iload_n 3 dX12_fewest_14 rfl ?_
      refine ii_aload_n 0 dX12_fewest_15 rfl ?_
      refine ii_get (C := RX12) (T := TX12) (N := 25) (ci := 12) izX12 0 rfl rfl 0 (by decide) kX12_7 rfl dX12_fewest_16 ?_
      refine ii_iconst dX12_fewest_19 kc0 ?_
      refine ii_iald h 4 0 rfl rfl dX12_fewest_20 (fun t_4 h => ?_)
      refine ii_icmp_ge (tgt := 61) h dX12_fewest_21 (by decide) (fun h => ?_) (fun h => ?_)
      · skip
        refine ii_lv [0, 2] rfl ?_
        cases h
        exact hx_2 (s_2.1, s_2.2.1, s_2.2.2.1, s_2.2.2.2.1, s_2.2.2.2.2.1, s_2.2.2.2.2.2.1, s_2.2.2.2.2.2.2.1, s_2.2.2.2.2.2.2.2.1, s_2.2.2.2.2.2.2.2.2.1, s_2.2.2.2.2.2.2.2.2.2) (hr_2 _ rfl)
      · skip
        refine ii_aload_n 0 dX12_fewest_24 rfl ?_
        refine ii_iload_n 3 dX12_fewest_25 rfl ?_
        refine ii_iload_n 1 dX12_fewest_26 rfl ?_
        obtain ⟨c_5, hc_5, h⟩ := bnd h
        refine ii_callVl (As := [.int s_2.2.1, .int p0]) (ws' := [(a_this, .inr (12, [.ref a_this_st, .ref a_this_images, .ref a_this_isKept, .long v_this_above, .long v_this_below, .int c_5.2.2.2.1, .ref a_this_step, .ref a_this_with, .int c_5.2.2.2.2.2.1, .ref a_this_waits, .ref a_this_value, .ref a_this_given, .ref a_this_net, .ref a_this_together, .ref a_this_most, .ref a_this_owes, .ref a_this_can, .ref a_this_row, .ref a_this_before, .ref a_this_to, .ref a_this_on, .ref a_this_load, .ref a_this_lead, .ref a_this_bestLead, .ref a_this_silver])), (a_this_given, .inl (cJ, 5, .inr (.inl c_5.2.1))), (a_this_most, .inl (cI, 1024, .inl v_this_most)), (a_this_net, .inl (cJ, 10, .inr (.inl s_2.2.2.2.1))), (a_this_st, .inl (cI, 1951, .inl v_this_st)), (a_this_step, .inl (cI, 70, .inl c_5.2.2.1)), (a_this_together, .inl (cJ, 1024, .inr (.inl v_this_together))), (a_this_value, .inl (cJ, 70, .inr (.inl c_5.2.2.2.2.1))), (a_this_waits, .inl (cI, 70, .inl c_5.2.2.2.2.2.2.1)), (a_this_with, .inl (cI, 70, .inl c_5.2.2.2.2.2.2.2))]) (st := []) (c_X12_balanceOf l D cI cJ cZ cH a_this a_this_before a_this_bestLead a_this_can a_this_given a_this_images a_this_isKept a_this_lead a_this_load a_this_most a_this_net a_this_on a_this_owes a_this_row a_this_silver a_this_st a_this_step a_this_to a_this_together a_this_value a_this_waits a_this_with v_this_above v_this_below s_2.2.2.1 v_this_st s_2.2.2.2.2.1 s_2.2.2.2.2.2.1 s_2.2.2.2.2.2.2.1 s_2.2.2.2.2.2.2.2.1 s_2.2.2.2.2.2.2.2.2.1 s_2.2.2.2.2.2.2.2.2.2 s_2.2.1 p0 hc_5) gzX12_234 rfl rfl rfl eV_X12_balanceOf ⟨Nat.le_of_ble_eq_true rfl, Nat.le_of_ble_eq_true rfl⟩ rfl 0 rfl rfl [0, 1, 4, 5, 7, 8, 9] rfl rfl rfl rfl rfl (Nat.le_of_ble_eq_true rfl) (Nat.le_refl _) (Nat.le_refl _) rfl dX12_fewest_27 ?_
        refine ii_lstore (lv' := [(4, .long c_5.1), (0, .ref a_this), (1, .int p0), (2, .int s_2.1), (3, .int s_2.2.1)]) dX12_fewest_30 (by decide) rfl ?_
        refine ii_aload_n 1 dX12_fewest_32 rfl ?_
        refine ii_get (C := RX12) (T := TX12) (N := 25) (ci := 12) izX12 0 rfl rfl 12 (by decide) kX12_36 rfl dX12_fewest_33 ?_
        refine ii_iload_n 3 dX12_fewest_36 rfl ?_
        refine ii_lload 0 dX12_fewest_37 rfl ?_
        refine ii_last (fun g_6 => [(a_this, .inr (12, [.ref a_this_st, .ref a_this_images, .ref a_this_isKept, .long v_this_above, .long v_this_below, .int c_5.2.2.2.1, .ref a_this_step, .ref a_this_with, .int c_5.2.2.2.2.2.1, .ref a_this_waits, .ref a_this_value, .ref a_this_given, .ref a_this_net, .ref a_this_together, .ref a_this_most, .ref a_this_owes, .ref a_this_can, .ref a_this_row, .ref a_this_before, .ref a_this_to, .ref a_this_on, .ref a_this_load, .ref a_this_lead, .ref a_this_bestLead, .ref a_this_silver])), (a_this_given, .inl (cJ, 5, .inr (.inl c_5.2.1))), (a_this_most, .inl (cI, 1024, .inl v_this_most)), (a_this_net, .inl (cJ, 10, .inr (.inl g_6))), (a_this_st, .inl (cI, 1951, .inl v_this_st)), (a_this_step, .inl (cI, 70, .inl c_5.2.2.1)), (a_this_together, .inl (cJ, 1024, .inr (.inl v_this_together))), (a_this_value, .inl (cJ, 70, .inr (.inl c_5.2.2.2.2.1))), (a_this_waits, .inl (cI, 70, .inl c_5.2.2.2.2.2.2.1)), (a_this_with, .inl (cI, 70, .inl c_5.2.2.2.2.2.2.2))]) h 3 1 rfl rfl dX12_fewest_39 (fun _ => rfl) (fun g_6 h => ?_)
        refine ii_iload_n 3 dX12_fewest_40 rfl ?_
        refine ii_lload 0 dX12_fewest_41 rfl ?_
        refine ii_lconst dX12_fewest_43 kl0 ?_
        refine ii_jn h (fun j_7 => [(a_this, .inr (12, [.ref a_this_st, .ref a_this_images, .ref a_this_isKept, .long v_this_above, .long v_this_below, .int c_5.2.2.2.1, .ref a_this_step, .ref a_this_with, .int c_5.2.2.2.2.2.1, .ref a_this_waits, .ref a_this_value, .ref a_this_given, .ref a_this_net, .ref a_this_together, .ref a_this_most, .ref a_this_owes, .ref a_this_can, .ref a_this_row, .ref a_this_before, .ref a_this_to, .ref a_this_on, .ref a_this_load, .ref a_this_lead, .ref a_this_bestLead, .ref a_this_silver])), (a_this_given, .inl (cJ, 5, .inr (.inl c_5.2.1))), (a_this_most, .inl (cI, 1024, .inl v_this_most)), (a_this_net, .inl (cJ, 10, .inr (.inl g_6))), (a_this_st, .inl (cI, 1951, .inl v_this_st)), (a_this_step, .inl (cI, 70, .inl c_5.2.2.1)), (a_this_together, .inl (cJ, 1024, .inr (.inl v_this_together))), (a_this_value, .inl (cJ, 70, .inr (.inl c_5.2.2.2.2.1))), (a_this_waits, .inl (cI, 70, .inl c_5.2.2.2.2.2.2.1)), (a_this_with, .inl (cI, 70, .inl c_5.2.2.2.2.2.2.2))]) (fun j_7 => [(0, .ref a_this), (1, .int p0), (3, .int s_2.2.1)]) 53 (fun j_7 => [.int j_7, .int s_2.1]) (fun j_7 h => ?_) (fun j_7 h hjj_7 => ?_)
        · skip
          refine ii_iadd dX12_fewest_53 ?_
          refine ii_topI h (fun x_8 h => ?_)
          refine ii_istore_n (lv' := [(2, .int x_8), (0, .ref a_this), (1, .int p0), (3, .int s_2.2.1)]) dX12_fewest_54 rfl (by decide) rfl ?_
          refine ii_iinc (fun x_9 => [(3, .int x_9), (2, .int x_8), (0, .ref a_this), (1, .int p0)]) h 3 dX12_fewest_55 rfl kc1 (by decide) (fun _ => rfl) (fun x_9 h => ?_)
          refine ii_goto (tgt := 14) dX12_fewest_58 (by decide) ?_
          refine ii_lv [2, 3, 1, 0] rfl ?_
          cases h
          exact hb_2 (x_8, x_9, c_5.2.1, g_6, c_5.2.2.1, c_5.2.2.2.1, c_5.2.2.2.2.1, c_5.2.2.2.2.2.1, c_5.2.2.2.2.2.2.1, c_5.2.2.2.2.2.2.2) rfl
        · skip
          refine ii_lcmp_eq (tgt := 52) h dX12_fewest_44 dX12_fewest_45 (by decide) (fun h => ?_) (fun h => ?_)
          · skip
            refine ii_iconst dX12_fewest_52 kc0 ?_
            refine ii_lv [1, 2, 4] rfl ?_
            cases h
            exact hjj_7
          · skip
            refine ii_iconst dX12_fewest_48 kc1 ?_
            refine ii_goto (tgt := 53) dX12_fewest_49 (by decide) ?_
            refine ii_lv [1, 2, 4] rfl ?_
            cases h
            exact hjj_7
  · skip
    refine ii_bipush dX12_fewest_7 kbm2 ?_
    cases h
    exact hQ _ _ dX12_fewest_9
set_option maxHeartbeats 4000000 in
set_option maxRecDepth 100000 in
theorem c_X12_findOwes (l : Launch) (D : va_G) (cI cJ cZ cH : ClassId) (a_this a_this_before a_this_bestLead a_this_can a_this_given a_this_images a_this_isKept a_this_lead a_this_load a_this_most a_this_net a_this_on a_this_owes a_this_row a_this_silver a_this_st a_this_step a_this_to a_this_together a_this_value a_this_waits a_this_with : Nat) (v_this_above : Int64) (v_this_below : Int64) (v_this_given : Nat → Int64) (v_this_owes : Nat → Int32) (v_this_st : Nat → Int32) (v_this_step : Nat → Int32) (v_this_steps : Int32) (v_this_value : Nat → Int64) (v_this_waiting : Int32) (v_this_waits : Nat → Int32) (v_this_with : Nat → Int32) (p0 : Int32) {res : (Nat → Int64) × (Nat → Int32) × (Nat → Int32) × Int32 × (Nat → Int64) × Int32 × (Nat → Int32) × (Nat → Int32)} (h : F_X12_findOwes v_this_given v_this_owes v_this_st v_this_step v_this_steps v_this_value v_this_waiting v_this_waits v_this_with p0 = some res) : CTv l yX12_findOwes wzX12_findOwes { frames := 6, cells := 0, slots := 0, locals := 153 } D [(cI, .int), (cJ, .long), (cZ, .boolean), (cH, .object "TinHouse$House")] [.ref a_this, .int p0] [(a_this, .inr (12, [.ref a_this_st, .ref a_this_images, .ref a_this_isKept, .long v_this_above, .long v_this_below, .int v_this_steps, .ref a_this_step, .ref a_this_with, .int v_this_waiting, .ref a_this_waits, .ref a_this_value, .ref a_this_given, .ref a_this_net, .ref a_this_together, .ref a_this_most, .ref a_this_owes, .ref a_this_can, .ref a_this_row, .ref a_this_before, .ref a_this_to, .ref a_this_on, .ref a_this_load, .ref a_this_lead, .ref a_this_bestLead, .ref a_this_silver])), (a_this_given, .inl (cJ, 5, .inr (.inl v_this_given))), (a_this_owes, .inl (cZ, 100, .inl v_this_owes)), (a_this_st, .inl (cI, 1951, .inl v_this_st)), (a_this_step, .inl (cI, 70, .inl v_this_step)), (a_this_value, .inl (cJ, 70, .inr (.inl v_this_value))), (a_this_waits, .inl (cI, 70, .inl v_this_waits)), (a_this_with, .inl (cI, 70, .inl v_this_with))] [(a_this, .inr (12, [.ref a_this_st, .ref a_this_images, .ref a_this_isKept, .long v_this_above, .long v_this_below, .int res.2.2.2.1, .ref a_this_step, .ref a_this_with, .int res.2.2.2.2.2.1, .ref a_this_waits, .ref a_this_value, .ref a_this_given, .ref a_this_net, .ref a_this_together, .ref a_this_most, .ref a_this_owes, .ref a_this_can, .ref a_this_row, .ref a_this_before, .ref a_this_to, .ref a_this_on, .ref a_this_load, .ref a_this_lead, .ref a_this_bestLead, .ref a_this_silver])), (a_this_given, .inl (cJ, 5, .inr (.inl res.1))), (a_this_owes, .inl (cZ, 100, .inl res.2.1)), (a_this_st, .inl (cI, 1951, .inl v_this_st)), (a_this_step, .inl (cI, 70, .inl res.2.2.1)), (a_this_value, .inl (cJ, 70, .inr (.inl res.2.2.2.2.1))), (a_this_waits, .inl (cI, 70, .inl res.2.2.2.2.2.2.1)), (a_this_with, .inl (cI, 70, .inl res.2.2.2.2.2.2.2))] := by
  unfold F_X12_findOwes at h
  refine ii_metV (own := RX12) (lv0 := [(0, .ref a_this), (1, .int p0)]) (by decide) rfl rfl rfl (Nat.le_of_ble_eq_true rfl) (fun {p e s m args below meth c A Q} hQ => ?_)
  refine ii_iconst dX12_findOwes_0 kc0 ?_
  refine ii_istore_n (lv' := [(2, .int (0 : Int32)), (0, .ref a_this), (1, .int p0)]) dX12_findOwes_1 rfl (by decide) rfl ?_
  refine ii_lv [1, 2, 0] rfl ?_
  obtain ⟨x_2, hl_1, h⟩ := bnd h
  refine ii_loopX (fun s_1 => [(a_this, .inr (12, [.ref a_this_st, .ref a_this_images, .ref a_this_isKept, .long v_this_above, .long v_this_below, .int v_this_steps, .ref a_this_step, .ref a_this_with, .int v_this_waiting, .ref a_this_waits, .ref a_this_value, .ref a_this_given, .ref a_this_net, .ref a_this_together, .ref a_this_most, .ref a_this_owes, .ref a_this_can, .ref a_this_row, .ref a_this_before, .ref a_this_to, .ref a_this_on, .ref a_this_load, .ref a_this_lead, .ref a_this_bestLead, .ref a_this_silver])), (a_this_given, .inl (cJ, 5, .inr (.inl v_this_given))), (a_this_owes, .inl (cZ, 100, .inl s_1.2)), (a_this_st, .inl (cI, 1951, .inl v_this_st)), (a_this_step, .inl (cI, 70, .inl v_this_step)), (a_this_value, .inl (cJ, 70, .inr (.inl v_this_value))), (a_this_waits, .inl (cI, 70, .inl v_this_waits)), (a_this_with, .inl (cI, 70, .inl v_this_with))]) (fun s_1 => [(0, .ref a_this), (1, .int p0), (2, .int s_1.1)]) (fun x_2 => [(a_this, .inr (12, [.ref a_this_st, .ref a_this_images, .ref a_this_isKept, .long v_this_above, .long v_this_below, .int v_this_steps, .ref a_this_step, .ref a_this_with, .int v_this_waiting, .ref a_this_waits, .ref a_this_value, .ref a_this_given, .ref a_this_net, .ref a_this_together, .ref a_this_most, .ref a_this_owes, .ref a_this_can, .ref a_this_row, .ref a_this_before, .ref a_this_to, .ref a_this_on, .ref a_this_load, .ref a_this_lead, .ref a_this_bestLead, .ref a_this_silver])), (a_this_given, .inl (cJ, 5, .inr (.inl v_this_given))), (a_this_owes, .inl (cZ, 100, .inl x_2.2)), (a_this_st, .inl (cI, 1951, .inl v_this_st)), (a_this_step, .inl (cI, 70, .inl v_this_step)), (a_this_value, .inl (cJ, 70, .inr (.inl v_this_value))), (a_this_waits, .inl (cI, 70, .inl v_this_waits)), (a_this_with, .inl (cI, 70, .inl v_this_with))]) (fun x_2 => [(0, .ref a_this), (1, .int p0)]) 21 hl_1 rfl rfl ?_ (fun s_1 o h hb_1 hr_1 hx_1 => ?_)
  · skip
    refine ii_iconst dX12_findOwes_21 kc0 ?_
    refine ii_istore_n (lv' := [(2, .int (0 : Int32)), (0, .ref a_this), (1, .int p0)]) dX12_findOwes_22 rfl (by decide) rfl ?_
    refine ii_lv [1, 2, 0] rfl ?_
    obtain ⟨x_6, hl_5, h⟩ := bnd h
    refine ii_loopX (fun s_5 => [(a_this, .inr (12, [.ref a_this_st, .ref a_this_images, .ref a_this_isKept, .long v_this_above, .long v_this_below, .int s_5.2.2.2.2.1, .ref a_this_step, .ref a_this_with, .int s_5.2.2.2.2.2.2.1, .ref a_this_waits, .ref a_this_value, .ref a_this_given, .ref a_this_net, .ref a_this_together, .ref a_this_most, .ref a_this_owes, .ref a_this_can, .ref a_this_row, .ref a_this_before, .ref a_this_to, .ref a_this_on, .ref a_this_load, .ref a_this_lead, .ref a_this_bestLead, .ref a_this_silver])), (a_this_given, .inl (cJ, 5, .inr (.inl s_5.2.1))), (a_this_owes, .inl (cZ, 100, .inl s_5.2.2.1)), (a_this_st, .inl (cI, 1951, .inl v_this_st)), (a_this_step, .inl (cI, 70, .inl s_5.2.2.2.1)), (a_this_value, .inl (cJ, 70, .inr (.inl s_5.2.2.2.2.2.1))), (a_this_waits, .inl (cI, 70, .inl s_5.2.2.2.2.2.2.2.1)), (a_this_with, .inl (cI, 70, .inl s_5.2.2.2.2.2.2.2.2))]) (fun s_5 => [(0, .ref a_this), (1, .int p0), (2, .int s_5.1)]) (fun x_6 => [(a_this, .inr (12, [.ref a_this_st, .ref a_this_images, .ref a_this_isKept, .long v_this_above, .long v_this_below, .int x_6.2.2.2.2.1, .ref a_this_step, .ref a_this_with, .int x_6.2.2.2.2.2.2.1, .ref a_this_waits, .ref a_this_value, .ref a_this_given, .ref a_this_net, .ref a_this_together, .ref a_this_most, .ref a_this_owes, .ref a_this_can, .ref a_this_row, .ref a_this_before, .ref a_this_to, .ref a_this_on, .ref a_this_load, .ref a_this_lead, .ref a_this_bestLead, .ref a_this_silver])), (a_this_given, .inl (cJ, 5, .inr (.inl x_6.2.1))), (a_this_owes, .inl (cZ, 100, .inl x_6.2.2.1)), (a_this_st, .inl (cI, 1951, .inl v_this_st)), (a_this_step, .inl (cI, 70, .inl x_6.2.2.2.1)), (a_this_value, .inl (cJ, 70, .inr (.inl x_6.2.2.2.2.2.1))), (a_this_waits, .inl (cI, 70, .inl x_6.2.2.2.2.2.2.2.1)), (a_this_with, .inl (cI, 70, .inl x_6.2.2.2.2.2.2.2.2))]) (fun x_6 => []) 87 hl_5 rfl rfl ?_ (fun s_5 o h hb_5 hr_5 hx_5 => ?_)
    · skip
      cases h
      exact hQ _ _ dX12_findOwes_87
    · skip
      refine ii_iload_n 2 dX12_findOwes_23 rfl ?_
      refine ii_aload_n 0 dX12_findOwes_24 rfl ?_
      refine ii_get (C := RX12) (T := TX12) (N := 25) (ci := 12) izX12 0 rfl rfl 0 (by decide) kX12_7 rfl dX12_findOwes_25 ?_
      refine ii_iconst dX12_findOwes_28 kc2 ?_
      refine ii_iald h 3 0 rfl rfl dX12_findOwes_29 (fun t_7 h => ?_)
      refine ii_icmp_ge (tgt := 87) h dX12_findOwes_30 (by decide) (fun h => ?_) (fun h => ?_)
      · skip
        refine ii_lv [] rfl ?_
        cases h
        exact hx_5 (s_5.1, s_5.2.1, s_5.2.2.1, s_5.2.2.2.1, s_5.2.2.2.2.1, s_5.2.2.2.2.2.1, s_5.2.2.2.2.2.2.1, s_5.2.2.2.2.2.2.2.1, s_5.2.2.2.2.2.2.2.2) (hr_5 _ rfl)
      · skip
        refine ii_bipush dX12_findOwes_33 kb10 ?_
        refine ii_aload_n 0 dX12_findOwes_35 rfl ?_
        refine ii_iload_n 2 dX12_findOwes_36 rfl ?_
        refine ii_iconst dX12_findOwes_37 kc1 ?_
        obtain ⟨c_8, hc_8, h⟩ := bnd h
        refine ii_callVi (As := [.int s_5.1, .int (1 : Int32)]) (ws' := [(a_this, .inr (12, [.ref a_this_st, .ref a_this_images, .ref a_this_isKept, .long v_this_above, .long v_this_below, .int s_5.2.2.2.2.1, .ref a_this_step, .ref a_this_with, .int s_5.2.2.2.2.2.2.1, .ref a_this_waits, .ref a_this_value, .ref a_this_given, .ref a_this_net, .ref a_this_together, .ref a_this_most, .ref a_this_owes, .ref a_this_can, .ref a_this_row, .ref a_this_before, .ref a_this_to, .ref a_this_on, .ref a_this_load, .ref a_this_lead, .ref a_this_bestLead, .ref a_this_silver])), (a_this_given, .inl (cJ, 5, .inr (.inl s_5.2.1))), (a_this_owes, .inl (cZ, 100, .inl s_5.2.2.1)), (a_this_st, .inl (cI, 1951, .inl v_this_st)), (a_this_step, .inl (cI, 70, .inl s_5.2.2.2.1)), (a_this_value, .inl (cJ, 70, .inr (.inl s_5.2.2.2.2.2.1))), (a_this_waits, .inl (cI, 70, .inl s_5.2.2.2.2.2.2.2.1)), (a_this_with, .inl (cI, 70, .inl s_5.2.2.2.2.2.2.2.2))]) (st := [.int (10 : Int32)]) (c_X12_debtOf l D cI cJ cZ cH a_this a_this_before a_this_bestLead a_this_can a_this_given a_this_images a_this_isKept a_this_lead a_this_load a_this_most a_this_net a_this_on a_this_owes a_this_row a_this_silver a_this_st a_this_step a_this_to a_this_together a_this_value a_this_waits a_this_with v_this_above v_this_below v_this_st s_5.2.2.2.2.1 s_5.2.2.2.2.2.2.1 s_5.1 (1 : Int32) hc_8) gzX12_179 rfl rfl rfl eV_X12_debtOf ⟨Nat.le_of_ble_eq_true rfl, Nat.le_of_ble_eq_true rfl⟩ rfl 0 rfl rfl [0, 3] rfl rfl rfl rfl rfl (Nat.le_of_ble_eq_true rfl) (Nat.le_refl _) (Nat.le_refl _) rfl dX12_findOwes_38 ?_
        refine ii_imul dX12_findOwes_41 ?_
        refine ii_aload_n 0 dX12_findOwes_42 rfl ?_
        refine ii_iload_n 2 dX12_findOwes_43 rfl ?_
        refine ii_iconst dX12_findOwes_44 kc0 ?_
        obtain ⟨c_9, hc_9, h⟩ := bnd h
        refine ii_callVi (As := [.int s_5.1, .int (0 : Int32)]) (ws' := [(a_this, .inr (12, [.ref a_this_st, .ref a_this_images, .ref a_this_isKept, .long v_this_above, .long v_this_below, .int s_5.2.2.2.2.1, .ref a_this_step, .ref a_this_with, .int s_5.2.2.2.2.2.2.1, .ref a_this_waits, .ref a_this_value, .ref a_this_given, .ref a_this_net, .ref a_this_together, .ref a_this_most, .ref a_this_owes, .ref a_this_can, .ref a_this_row, .ref a_this_before, .ref a_this_to, .ref a_this_on, .ref a_this_load, .ref a_this_lead, .ref a_this_bestLead, .ref a_this_silver])), (a_this_given, .inl (cJ, 5, .inr (.inl s_5.2.1))), (a_this_owes, .inl (cZ, 100, .inl s_5.2.2.1)), (a_this_st, .inl (cI, 1951, .inl v_this_st)), (a_this_step, .inl (cI, 70, .inl s_5.2.2.2.1)), (a_this_value, .inl (cJ, 70, .inr (.inl s_5.2.2.2.2.2.1))), (a_this_waits, .inl (cI, 70, .inl s_5.2.2.2.2.2.2.2.1)), (a_this_with, .inl (cI, 70, .inl s_5.2.2.2.2.2.2.2.2))]) (st := [.int ((10 : Int32) * c_8)]) (c_X12_debtOf l D cI cJ cZ cH a_this a_this_before a_this_bestLead a_this_can a_this_given a_this_images a_this_isKept a_this_lead a_this_load a_this_most a_this_net a_this_on a_this_owes a_this_row a_this_silver a_this_st a_this_step a_this_to a_this_together a_this_value a_this_waits a_this_with v_this_above v_this_below v_this_st s_5.2.2.2.2.1 s_5.2.2.2.2.2.2.1 s_5.1 (0 : Int32) hc_9) gzX12_179 rfl rfl rfl eV_X12_debtOf ⟨Nat.le_of_ble_eq_true rfl, Nat.le_of_ble_eq_true rfl⟩ rfl 0 rfl rfl [0, 3] rfl rfl rfl rfl rfl (Nat.le_of_ble_eq_true rfl) (Nat.le_refl _) (Nat.le_refl _) rfl dX12_findOwes_45 ?_
        refine ii_iadd dX12_findOwes_48 ?_
        refine ii_topI h (fun x_10 h => ?_)
        refine ii_istore_n (lv' := [(3, .int x_10), (0, .ref a_this), (1, .int p0), (2, .int s_5.1)]) dX12_findOwes_49 rfl (by decide) rfl ?_
        refine ii_aload_n 1 dX12_findOwes_50 rfl ?_
        refine ii_get (C := RX12) (T := TX12) (N := 25) (ci := 12) izX12 0 rfl rfl 15 (by decide) kX12_45 rfl dX12_findOwes_51 ?_
        refine ii_iload_n 0 dX12_findOwes_54 rfl ?_
        refine ii_aload_n 1 dX12_findOwes_55 rfl ?_
        refine ii_get (C := RX12) (T := TX12) (N := 25) (ci := 12) izX12 0 rfl rfl 15 (by decide) kX12_45 rfl dX12_findOwes_56 ?_
        refine ii_iload_n 0 dX12_findOwes_59 rfl ?_
        refine ii_zald h 2 2 rfl rfl dX12_findOwes_60 (fun t_11 h => ?_)
        refine ii_jn h (fun j_12 => [(a_this, .inr (12, [.ref a_this_st, .ref a_this_images, .ref a_this_isKept, .long v_this_above, .long v_this_below, .int j_12.2.2.2.1, .ref a_this_step, .ref a_this_with, .int j_12.2.2.2.2.2.1, .ref a_this_waits, .ref a_this_value, .ref a_this_given, .ref a_this_net, .ref a_this_together, .ref a_this_most, .ref a_this_owes, .ref a_this_can, .ref a_this_row, .ref a_this_before, .ref a_this_to, .ref a_this_on, .ref a_this_load, .ref a_this_lead, .ref a_this_bestLead, .ref a_this_silver])), (a_this_given, .inl (cJ, 5, .inr (.inl j_12.2.1))), (a_this_owes, .inl (cZ, 100, .inl s_5.2.2.1)), (a_this_st, .inl (cI, 1951, .inl v_this_st)), (a_this_step, .inl (cI, 70, .inl j_12.2.2.1)), (a_this_value, .inl (cJ, 70, .inr (.inl j_12.2.2.2.2.1))), (a_this_waits, .inl (cI, 70, .inl j_12.2.2.2.2.2.2.1)), (a_this_with, .inl (cI, 70, .inl j_12.2.2.2.2.2.2.2))]) (fun j_12 => [(0, .ref a_this), (1, .int p0), (2, .int s_5.1)]) 80 (fun j_12 => [.int j_12.1, .int x_10, .ref a_this_owes]) (fun j_12 h => ?_) (fun j_12 h hjj_12 => ?_)
        · skip
          refine ii_zast (fun g_14 => [(a_this, .inr (12, [.ref a_this_st, .ref a_this_images, .ref a_this_isKept, .long v_this_above, .long v_this_below, .int j_12.2.2.2.1, .ref a_this_step, .ref a_this_with, .int j_12.2.2.2.2.2.1, .ref a_this_waits, .ref a_this_value, .ref a_this_given, .ref a_this_net, .ref a_this_together, .ref a_this_most, .ref a_this_owes, .ref a_this_can, .ref a_this_row, .ref a_this_before, .ref a_this_to, .ref a_this_on, .ref a_this_load, .ref a_this_lead, .ref a_this_bestLead, .ref a_this_silver])), (a_this_given, .inl (cJ, 5, .inr (.inl j_12.2.1))), (a_this_owes, .inl (cZ, 100, .inl g_14)), (a_this_st, .inl (cI, 1951, .inl v_this_st)), (a_this_step, .inl (cI, 70, .inl j_12.2.2.1)), (a_this_value, .inl (cJ, 70, .inr (.inl j_12.2.2.2.2.1))), (a_this_waits, .inl (cI, 70, .inl j_12.2.2.2.2.2.2.1)), (a_this_with, .inl (cI, 70, .inl j_12.2.2.2.2.2.2.2))]) h 2 2 rfl rfl dX12_findOwes_80 (fun _ => rfl) (fun g_14 h => ?_)
          refine ii_iinc (fun x_15 => [(2, .int x_15), (0, .ref a_this), (1, .int p0)]) h 2 dX12_findOwes_81 rfl kc1 (by decide) (fun _ => rfl) (fun x_15 h => ?_)
          refine ii_goto (tgt := 23) dX12_findOwes_84 (by decide) ?_
          refine ii_lv [1, 2, 0] rfl ?_
          cases h
          exact hb_5 (x_15, j_12.2.1, g_14, j_12.2.2.1, j_12.2.2.2.1, j_12.2.2.2.2.1, j_12.2.2.2.2.2.1, j_12.2.2.2.2.2.2.1, j_12.2.2.2.2.2.2.2) rfl
        · skip
          refine ii_if_ne (tgt := 75) h dX12_findOwes_61 (by decide) (fun h => ?_) (fun h => ?_)
          · skip
            refine ii_iconst dX12_findOwes_75 kc1 ?_
            refine ii_goto (tgt := 80) dX12_findOwes_76 (by decide) ?_
            refine ii_lv [1, 2, 3] rfl ?_
            cases h
            exact hjj_12
          · skip
            refine ii_aload_n 1 dX12_findOwes_64 rfl ?_
            refine ii_iload_n 3 dX12_findOwes_65 rfl ?_
            refine ii_iload_n 2 dX12_findOwes_66 rfl ?_
            obtain ⟨c_13, hc_13, h⟩ := bnd h
            refine ii_callVl (As := [.int s_5.1, .int p0]) (ws' := [(a_this, .inr (12, [.ref a_this_st, .ref a_this_images, .ref a_this_isKept, .long v_this_above, .long v_this_below, .int c_13.2.2.2.1, .ref a_this_step, .ref a_this_with, .int c_13.2.2.2.2.2.1, .ref a_this_waits, .ref a_this_value, .ref a_this_given, .ref a_this_net, .ref a_this_together, .ref a_this_most, .ref a_this_owes, .ref a_this_can, .ref a_this_row, .ref a_this_before, .ref a_this_to, .ref a_this_on, .ref a_this_load, .ref a_this_lead, .ref a_this_bestLead, .ref a_this_silver])), (a_this_given, .inl (cJ, 5, .inr (.inl c_13.2.1))), (a_this_owes, .inl (cZ, 100, .inl s_5.2.2.1)), (a_this_st, .inl (cI, 1951, .inl v_this_st)), (a_this_step, .inl (cI, 70, .inl c_13.2.2.1)), (a_this_value, .inl (cJ, 70, .inr (.inl c_13.2.2.2.2.1))), (a_this_waits, .inl (cI, 70, .inl c_13.2.2.2.2.2.2.1)), (a_this_with, .inl (cI, 70, .inl c_13.2.2.2.2.2.2.2))]) (st := [.int x_10, .ref a_this_owes]) (c_X12_owedOf l D cI cJ cZ cH a_this a_this_before a_this_bestLead a_this_can a_this_given a_this_images a_this_isKept a_this_lead a_this_load a_this_most a_this_net a_this_on a_this_owes a_this_row a_this_silver a_this_st a_this_step a_this_to a_this_together a_this_value a_this_waits a_this_with v_this_above v_this_below s_5.2.1 v_this_st s_5.2.2.2.1 s_5.2.2.2.2.1 s_5.2.2.2.2.2.1 s_5.2.2.2.2.2.2.1 s_5.2.2.2.2.2.2.2.1 s_5.2.2.2.2.2.2.2.2 s_5.1 p0 hc_13) gzX12_196 rfl rfl rfl eV_X12_owedOf ⟨Nat.le_of_ble_eq_true rfl, Nat.le_of_ble_eq_true rfl⟩ rfl 0 rfl rfl [0, 1, 3, 4, 5, 6, 7] rfl rfl rfl rfl rfl (Nat.le_of_ble_eq_true rfl) (Nat.le_refl _) (Nat.le_refl _) rfl dX12_findOwes_67 ?_
            refine ii_lconst dX12_findOwes_70 kl0 ?_
            refine ii_lcmp_le (tgt := 79) h dX12_findOwes_71 dX12_findOwes_72 (by decide) (fun h => ?_) (fun h => ?_)
            · skip
              refine ii_iconst dX12_findOwes_79 kc0 ?_
              refine ii_lv [1, 2, 3] rfl ?_
              cases h
              exact hjj_12
            · skip
              refine ii_iconst dX12_findOwes_75 kc1 ?_
              refine ii_goto (tgt := 80) dX12_findOwes_76 (by decide) ?_
              refine ii_lv [1, 2, 3] rfl ?_
              cases h
              exact hjj_12
  · skip
    refine ii_iload_n 2 dX12_findOwes_2 rfl ?_
    refine ii_bipush dX12_findOwes_3 kb100 ?_
    refine ii_icmp_ge (tgt := 21) h dX12_findOwes_5 (by decide) (fun h => ?_) (fun h => ?_)
    · skip
      refine ii_lv [0, 1] rfl ?_
      cases h
      exact hx_1 (s_1.1, s_1.2) (hr_1 _ rfl)
    · skip
      refine ii_aload_n 0 dX12_findOwes_8 rfl ?_
      refine ii_get (C := RX12) (T := TX12) (N := 25) (ci := 12) izX12 0 rfl rfl 15 (by decide) kX12_45 rfl dX12_findOwes_9 ?_
      refine ii_iload_n 2 dX12_findOwes_12 rfl ?_
      refine ii_iconst dX12_findOwes_13 kc0 ?_
      refine ii_zast (fun g_3 => [(a_this, .inr (12, [.ref a_this_st, .ref a_this_images, .ref a_this_isKept, .long v_this_above, .long v_this_below, .int v_this_steps, .ref a_this_step, .ref a_this_with, .int v_this_waiting, .ref a_this_waits, .ref a_this_value, .ref a_this_given, .ref a_this_net, .ref a_this_together, .ref a_this_most, .ref a_this_owes, .ref a_this_can, .ref a_this_row, .ref a_this_before, .ref a_this_to, .ref a_this_on, .ref a_this_load, .ref a_this_lead, .ref a_this_bestLead, .ref a_this_silver])), (a_this_given, .inl (cJ, 5, .inr (.inl v_this_given))), (a_this_owes, .inl (cZ, 100, .inl g_3)), (a_this_st, .inl (cI, 1951, .inl v_this_st)), (a_this_step, .inl (cI, 70, .inl v_this_step)), (a_this_value, .inl (cJ, 70, .inr (.inl v_this_value))), (a_this_waits, .inl (cI, 70, .inl v_this_waits)), (a_this_with, .inl (cI, 70, .inl v_this_with))]) h 2 2 rfl rfl dX12_findOwes_14 (fun _ => rfl) (fun g_3 h => ?_)
      refine ii_iinc (fun x_4 => [(2, .int x_4), (0, .ref a_this), (1, .int p0)]) h 2 dX12_findOwes_15 rfl kc1 (by decide) (fun _ => rfl) (fun x_4 h => ?_)
      refine ii_goto (tgt := 2) dX12_findOwes_18 (by decide) ?_
      refine ii_lv [1, 2, 0] rfl ?_
      cases h
      exact hb_1 (x_4, g_3) rfl
set_option maxHeartbeats 4000000 in
set_option maxRecDepth 100000 in
theorem c_X12_findCan (l : Launch) (D : va_G) (cI cJ cZ cH : ClassId) (a_this a_this_before a_this_bestLead a_this_can a_this_given a_this_images a_this_isKept a_this_lead a_this_load a_this_most a_this_net a_this_on a_this_owes a_this_row a_this_silver a_this_st a_this_step a_this_to a_this_together a_this_value a_this_waits a_this_with : Nat) (v_this_above : Int64) (v_this_below : Int64) (v_this_can : Nat → Int32) (v_this_owes : Nat → Int32) (v_this_steps : Int32) (v_this_waiting : Int32) (p0 : Int32) (p1 : Int32) {res : Int32 × (Nat → Int32)} (h : F_X12_findCan v_this_can v_this_owes p0 p1 = some res) : CTi l yX12_findCan wzX12_findCan { frames := 0, cells := 0, slots := 0, locals := 0 } D [(cI, .int), (cJ, .long), (cZ, .boolean), (cH, .object "TinHouse$House")] [.ref a_this, .int p0, .int p1] [(a_this, .inr (12, [.ref a_this_st, .ref a_this_images, .ref a_this_isKept, .long v_this_above, .long v_this_below, .int v_this_steps, .ref a_this_step, .ref a_this_with, .int v_this_waiting, .ref a_this_waits, .ref a_this_value, .ref a_this_given, .ref a_this_net, .ref a_this_together, .ref a_this_most, .ref a_this_owes, .ref a_this_can, .ref a_this_row, .ref a_this_before, .ref a_this_to, .ref a_this_on, .ref a_this_load, .ref a_this_lead, .ref a_this_bestLead, .ref a_this_silver])), (a_this_can, .inl (cZ, 110, .inl v_this_can)), (a_this_owes, .inl (cZ, 100, .inl v_this_owes))] res.1 [(a_this, .inr (12, [.ref a_this_st, .ref a_this_images, .ref a_this_isKept, .long v_this_above, .long v_this_below, .int v_this_steps, .ref a_this_step, .ref a_this_with, .int v_this_waiting, .ref a_this_waits, .ref a_this_value, .ref a_this_given, .ref a_this_net, .ref a_this_together, .ref a_this_most, .ref a_this_owes, .ref a_this_can, .ref a_this_row, .ref a_this_before, .ref a_this_to, .ref a_this_on, .ref a_this_load, .ref a_this_lead, .ref a_this_bestLead, .ref a_this_silver])), (a_this_can, .inl (cZ, 110, .inl res.2)), (a_this_owes, .inl (cZ, 100, .inl v_this_owes))] := by
  unfold F_X12_findCan at h
  refine ii_metZ (own := RX12) (lv0 := [(0, .ref a_this), (1, .int p0), (2, .int p1)]) (by decide) rfl rfl rfl (Nat.le_of_ble_eq_true rfl) (fun {p e s m args below meth c A Q} hQ => ?_)
  refine ii_iconst dX12_findCan_0 kc1 ?_
  refine ii_istore_n (lv' := [(3, .int (1 : Int32)), (0, .ref a_this), (1, .int p0), (2, .int p1)]) dX12_findCan_1 rfl (by decide) rfl ?_
  refine ii_lv [1, 2, 3, 0] rfl ?_
  obtain ⟨x_2, hl_1, h⟩ := bnd h
  refine ii_loopX (fun s_1 => [(a_this, .inr (12, [.ref a_this_st, .ref a_this_images, .ref a_this_isKept, .long v_this_above, .long v_this_below, .int v_this_steps, .ref a_this_step, .ref a_this_with, .int v_this_waiting, .ref a_this_waits, .ref a_this_value, .ref a_this_given, .ref a_this_net, .ref a_this_together, .ref a_this_most, .ref a_this_owes, .ref a_this_can, .ref a_this_row, .ref a_this_before, .ref a_this_to, .ref a_this_on, .ref a_this_load, .ref a_this_lead, .ref a_this_bestLead, .ref a_this_silver])), (a_this_can, .inl (cZ, 110, .inl s_1.2)), (a_this_owes, .inl (cZ, 100, .inl v_this_owes))]) (fun s_1 => [(0, .ref a_this), (1, .int p0), (2, .int p1), (3, .int s_1.1)]) (fun x_2 => [(a_this, .inr (12, [.ref a_this_st, .ref a_this_images, .ref a_this_isKept, .long v_this_above, .long v_this_below, .int v_this_steps, .ref a_this_step, .ref a_this_with, .int v_this_waiting, .ref a_this_waits, .ref a_this_value, .ref a_this_given, .ref a_this_net, .ref a_this_together, .ref a_this_most, .ref a_this_owes, .ref a_this_can, .ref a_this_row, .ref a_this_before, .ref a_this_to, .ref a_this_on, .ref a_this_load, .ref a_this_lead, .ref a_this_bestLead, .ref a_this_silver])), (a_this_can, .inl (cZ, 110, .inl x_2.2)), (a_this_owes, .inl (cZ, 100, .inl v_this_owes))]) (fun x_2 => [(0, .ref a_this), (1, .int p0), (2, .int p1)]) 144 hl_1 rfl rfl ?_ (fun s_1 o h hb_1 hr_1 hx_1 => ?_)
  · skip
    refine ii_aload_n 0 dX12_findCan_144 rfl ?_
    refine ii_get (C := RX12) (T := TX12) (N := 25) (ci := 12) izX12 0 rfl rfl 16 (by decide) kX12_48 rfl dX12_findCan_145 ?_
    refine ii_bipush dX12_findCan_148 kb10 ?_
    refine ii_iload_n 2 dX12_findCan_150 rfl ?_
    refine ii_imul dX12_findCan_151 ?_
    refine ii_iload_n 1 dX12_findCan_152 rfl ?_
    refine ii_iadd dX12_findCan_153 ?_
    refine ii_zald h 1 2 rfl rfl dX12_findCan_154 (fun t_15 h => ?_)
    refine ii_topB h (fun t_16 hz_17 h => ?_)
    cases h
    exact hQ _ _ dX12_findCan_155 hz_17
  · skip
    refine ii_iload_n 3 dX12_findCan_2 rfl ?_
    refine ii_iload_n 2 dX12_findCan_3 rfl ?_
    refine ii_icmp_gt (tgt := 144) h dX12_findCan_4 (by decide) (fun h => ?_) (fun h => ?_)
    · skip
      refine ii_lv [0, 1, 2] rfl ?_
      cases h
      exact hx_1 (s_1.1, s_1.2) (hr_1 _ rfl)
    · skip
      refine ii_iload_n 1 dX12_findCan_7 rfl ?_
      refine ii_istore (lv' := [(4, .int p0), (0, .ref a_this), (1, .int p0), (2, .int p1), (3, .int s_1.1)]) dX12_findCan_8 (by decide) rfl ?_
      refine ii_lv [1, 2, 3, 4, 0] rfl ?_
      obtain ⟨x_4, hl_3, h⟩ := bnd h
      refine ii_loopX (fun s_3 => [(a_this, .inr (12, [.ref a_this_st, .ref a_this_images, .ref a_this_isKept, .long v_this_above, .long v_this_below, .int v_this_steps, .ref a_this_step, .ref a_this_with, .int v_this_waiting, .ref a_this_waits, .ref a_this_value, .ref a_this_given, .ref a_this_net, .ref a_this_together, .ref a_this_most, .ref a_this_owes, .ref a_this_can, .ref a_this_row, .ref a_this_before, .ref a_this_to, .ref a_this_on, .ref a_this_load, .ref a_this_lead, .ref a_this_bestLead, .ref a_this_silver])), (a_this_can, .inl (cZ, 110, .inl s_3.2)), (a_this_owes, .inl (cZ, 100, .inl v_this_owes))]) (fun s_3 => [(0, .ref a_this), (1, .int p0), (2, .int p1), (3, .int s_1.1), (4, .int s_3.1)]) (fun x_4 => [(a_this, .inr (12, [.ref a_this_st, .ref a_this_images, .ref a_this_isKept, .long v_this_above, .long v_this_below, .int v_this_steps, .ref a_this_step, .ref a_this_with, .int v_this_waiting, .ref a_this_waits, .ref a_this_value, .ref a_this_given, .ref a_this_net, .ref a_this_together, .ref a_this_most, .ref a_this_owes, .ref a_this_can, .ref a_this_row, .ref a_this_before, .ref a_this_to, .ref a_this_on, .ref a_this_load, .ref a_this_lead, .ref a_this_bestLead, .ref a_this_silver])), (a_this_can, .inl (cZ, 110, .inl x_4.2)), (a_this_owes, .inl (cZ, 100, .inl v_this_owes))]) (fun x_4 => [(0, .ref a_this), (1, .int p0), (2, .int p1), (3, .int s_1.1)]) 138 hl_3 rfl rfl ?_ (fun s_3 o h hb_3 hr_3 hx_3 => ?_)
      · skip
        refine ii_iinc (fun x_14 => [(3, .int x_14), (0, .ref a_this), (1, .int p0), (2, .int p1)]) h 3 dX12_findCan_138 rfl kc1 (by decide) (fun _ => rfl) (fun x_14 h => ?_)
        refine ii_goto (tgt := 2) dX12_findCan_141 (by decide) ?_
        refine ii_lv [1, 2, 3, 0] rfl ?_
        cases h
        exact hb_1 (x_14, x_4.2) rfl
      · skip
        refine ii_iload 4 dX12_findCan_10 rfl ?_
        refine ii_bipush dX12_findCan_12 kb10 ?_
        refine ii_icmp_ge (tgt := 138) h dX12_findCan_14 (by decide) (fun h => ?_) (fun h => ?_)
        · skip
          refine ii_lv [0, 1, 2, 3] rfl ?_
          cases h
          exact hx_3 (s_3.1, s_3.2) (hr_3 _ rfl)
        · skip
          refine ii_iconst dX12_findCan_17 kc0 ?_
          refine ii_istore (lv' := [(5, .int (0 : Int32)), (0, .ref a_this), (1, .int p0), (2, .int p1), (3, .int s_1.1), (4, .int s_3.1)]) dX12_findCan_18 (by decide) rfl ?_
          refine ii_iload_n 2 dX12_findCan_20 rfl ?_
          refine ii_istore (lv' := [(6, .int p0), (5, .int (0 : Int32)), (0, .ref a_this), (1, .int p0), (2, .int p1), (3, .int s_1.1), (4, .int s_3.1)]) dX12_findCan_21 (by decide) rfl ?_
          refine ii_lv [2, 3, 4, 5, 6, 1, 0] rfl ?_
          obtain ⟨x_6, hl_5, h⟩ := bnd h
          refine ii_loopX (fun s_5 => [(a_this, .inr (12, [.ref a_this_st, .ref a_this_images, .ref a_this_isKept, .long v_this_above, .long v_this_below, .int v_this_steps, .ref a_this_step, .ref a_this_with, .int v_this_waiting, .ref a_this_waits, .ref a_this_value, .ref a_this_given, .ref a_this_net, .ref a_this_together, .ref a_this_most, .ref a_this_owes, .ref a_this_can, .ref a_this_row, .ref a_this_before, .ref a_this_to, .ref a_this_on, .ref a_this_load, .ref a_this_lead, .ref a_this_bestLead, .ref a_this_silver])), (a_this_can, .inl (cZ, 110, .inl s_3.2)), (a_this_owes, .inl (cZ, 100, .inl v_this_owes))]) (fun s_5 => [(0, .ref a_this), (1, .int p0), (2, .int p1), (3, .int s_1.1), (4, .int s_3.1), (5, .int s_5.1), (6, .int s_5.2)]) (fun x_6 => [(a_this, .inr (12, [.ref a_this_st, .ref a_this_images, .ref a_this_isKept, .long v_this_above, .long v_this_below, .int v_this_steps, .ref a_this_step, .ref a_this_with, .int v_this_waiting, .ref a_this_waits, .ref a_this_value, .ref a_this_given, .ref a_this_net, .ref a_this_together, .ref a_this_most, .ref a_this_owes, .ref a_this_can, .ref a_this_row, .ref a_this_before, .ref a_this_to, .ref a_this_on, .ref a_this_load, .ref a_this_lead, .ref a_this_bestLead, .ref a_this_silver])), (a_this_can, .inl (cZ, 110, .inl s_3.2)), (a_this_owes, .inl (cZ, 100, .inl v_this_owes))]) (fun x_6 => [(0, .ref a_this), (1, .int p0), (2, .int p1), (3, .int s_1.1), (4, .int s_3.1), (5, .int x_6.1)]) 118 hl_5 rfl rfl ?_ (fun s_5 o h hb_5 hr_5 hx_5 => ?_)
          · skip
            refine ii_aload_n 0 dX12_findCan_118 rfl ?_
            refine ii_get (C := RX12) (T := TX12) (N := 25) (ci := 12) izX12 0 rfl rfl 16 (by decide) kX12_48 rfl dX12_findCan_119 ?_
            refine ii_bipush dX12_findCan_122 kb10 ?_
            refine ii_iload_n 3 dX12_findCan_124 rfl ?_
            refine ii_imul dX12_findCan_125 ?_
            refine ii_iload 4 dX12_findCan_126 rfl ?_
            refine ii_iadd dX12_findCan_128 ?_
            refine ii_iload 5 dX12_findCan_129 rfl ?_
            refine ii_zast (fun g_12 => [(a_this, .inr (12, [.ref a_this_st, .ref a_this_images, .ref a_this_isKept, .long v_this_above, .long v_this_below, .int v_this_steps, .ref a_this_step, .ref a_this_with, .int v_this_waiting, .ref a_this_waits, .ref a_this_value, .ref a_this_given, .ref a_this_net, .ref a_this_together, .ref a_this_most, .ref a_this_owes, .ref a_this_can, .ref a_this_row, .ref a_this_before, .ref a_this_to, .ref a_this_on, .ref a_this_load, .ref a_this_lead, .ref a_this_bestLead, .ref a_this_silver])), (a_this_can, .inl (cZ, 110, .inl g_12)), (a_this_owes, .inl (cZ, 100, .inl v_this_owes))]) h 1 2 rfl rfl dX12_findCan_131 (fun _ => rfl) (fun g_12 h => ?_)
            refine ii_iinc (fun x_13 => [(4, .int x_13), (0, .ref a_this), (1, .int p0), (2, .int p1), (3, .int s_1.1), (5, .int x_6.1)]) h 4 dX12_findCan_132 rfl kc1 (by decide) (fun _ => rfl) (fun x_13 h => ?_)
            refine ii_goto (tgt := 10) dX12_findCan_135 (by decide) ?_
            refine ii_lv [1, 2, 3, 4, 0] rfl ?_
            cases h
            exact hb_3 (x_13, g_12) rfl
          · skip
            refine ii_iload 6 dX12_findCan_23 rfl ?_
            refine ii_bipush dX12_findCan_25 kb10 ?_
            refine ii_icmp_ge (tgt := 118) h dX12_findCan_27 (by decide) (fun h => ?_) (fun h => ?_)
            · skip
              refine ii_lv [0, 1, 2, 3, 4, 5] rfl ?_
              cases h
              exact hx_5 (s_5.1, s_5.2) (hr_5 _ rfl)
            · skip
              refine ii_iload_n 3 dX12_findCan_30 rfl ?_
              refine ii_iconst dX12_findCan_31 kc1 ?_
              refine ii_jn h (fun j_7 => [(a_this, .inr (12, [.ref a_this_st, .ref a_this_images, .ref a_this_isKept, .long v_this_above, .long v_this_below, .int v_this_steps, .ref a_this_step, .ref a_this_with, .int v_this_waiting, .ref a_this_waits, .ref a_this_value, .ref a_this_given, .ref a_this_net, .ref a_this_together, .ref a_this_most, .ref a_this_owes, .ref a_this_can, .ref a_this_row, .ref a_this_before, .ref a_this_to, .ref a_this_on, .ref a_this_load, .ref a_this_lead, .ref a_this_bestLead, .ref a_this_silver])), (a_this_can, .inl (cZ, 110, .inl s_3.2)), (a_this_owes, .inl (cZ, 100, .inl v_this_owes))]) (fun j_7 => [(0, .ref a_this), (1, .int p0), (2, .int p1), (3, .int s_1.1), (4, .int s_3.1), (5, .int s_5.1), (6, .int s_5.2)]) 77 (fun j_7 => [.int j_7]) (fun j_7 h => ?_) (fun j_7 h hjj_7 => ?_)
              · skip
                refine ii_istore (lv' := [(7, .int j_7), (0, .ref a_this), (1, .int p0), (2, .int p1), (3, .int s_1.1), (4, .int s_3.1), (5, .int s_5.1), (6, .int s_5.2)]) dX12_findCan_77 (by decide) rfl ?_
                refine ii_iload 6 dX12_findCan_79 rfl ?_
                refine ii_jn h (fun j_9 => [(a_this, .inr (12, [.ref a_this_st, .ref a_this_images, .ref a_this_isKept, .long v_this_above, .long v_this_below, .int v_this_steps, .ref a_this_step, .ref a_this_with, .int v_this_waiting, .ref a_this_waits, .ref a_this_value, .ref a_this_given, .ref a_this_net, .ref a_this_together, .ref a_this_most, .ref a_this_owes, .ref a_this_can, .ref a_this_row, .ref a_this_before, .ref a_this_to, .ref a_this_on, .ref a_this_load, .ref a_this_lead, .ref a_this_bestLead, .ref a_this_silver])), (a_this_can, .inl (cZ, 110, .inl s_3.2)), (a_this_owes, .inl (cZ, 100, .inl v_this_owes))]) (fun j_9 => [(0, .ref a_this), (1, .int p0), (2, .int p1), (3, .int s_1.1), (4, .int s_3.1), (6, .int s_5.2)]) 110 (fun j_9 => [.int j_9]) (fun j_9 h => ?_) (fun j_9 h hjj_9 => ?_)
                · skip
                  refine ii_istore (lv' := [(5, .int j_9), (0, .ref a_this), (1, .int p0), (2, .int p1), (3, .int s_1.1), (4, .int s_3.1), (6, .int s_5.2)]) dX12_findCan_110 (by decide) rfl ?_
                  refine ii_iinc (fun x_11 => [(6, .int x_11), (5, .int j_9), (0, .ref a_this), (1, .int p0), (2, .int p1), (3, .int s_1.1), (4, .int s_3.1)]) h 6 dX12_findCan_112 rfl kc1 (by decide) (fun _ => rfl) (fun x_11 h => ?_)
                  refine ii_goto (tgt := 23) dX12_findCan_115 (by decide) ?_
                  refine ii_lv [2, 3, 4, 5, 6, 1, 0] rfl ?_
                  cases h
                  exact hb_5 (j_9, x_11) rfl
                · skip
                  refine ii_if_ne (tgt := 105) h dX12_findCan_81 (by decide) (fun h => ?_) (fun h => ?_)
                  · skip
                    refine ii_iconst dX12_findCan_105 kc1 ?_
                    refine ii_goto (tgt := 110) dX12_findCan_106 (by decide) ?_
                    refine ii_lv [1, 2, 3, 4, 5, 7] rfl ?_
                    cases h
                    exact hjj_9
                  · skip
                    refine ii_iload 0 dX12_findCan_84 rfl ?_
                    refine ii_if_eq (tgt := 109) h dX12_findCan_86 (by decide) (fun h => ?_) (fun h => ?_)
                    · skip
                      refine ii_iconst dX12_findCan_109 kc0 ?_
                      refine ii_lv [1, 2, 3, 4, 5, 7] rfl ?_
                      cases h
                      exact hjj_9
                    · skip
                      refine ii_aload_n 1 dX12_findCan_89 rfl ?_
                      refine ii_get (C := RX12) (T := TX12) (N := 25) (ci := 12) izX12 0 rfl rfl 15 (by decide) kX12_45 rfl dX12_findCan_90 ?_
                      refine ii_bipush dX12_findCan_93 kb10 ?_
                      refine ii_iload 5 dX12_findCan_95 rfl ?_
                      refine ii_imul dX12_findCan_97 ?_
                      refine ii_iload 7 dX12_findCan_98 rfl ?_
                      refine ii_iadd dX12_findCan_100 ?_
                      refine ii_zald h 2 2 rfl rfl dX12_findCan_101 (fun t_10 h => ?_)
                      refine ii_if_eq (tgt := 109) h dX12_findCan_102 (by decide) (fun h => ?_) (fun h => ?_)
                      · skip
                        refine ii_iconst dX12_findCan_109 kc0 ?_
                        refine ii_lv [1, 2, 3, 4, 5, 7] rfl ?_
                        cases h
                        exact hjj_9
                      · skip
                        refine ii_iconst dX12_findCan_105 kc1 ?_
                        refine ii_goto (tgt := 110) dX12_findCan_106 (by decide) ?_
                        refine ii_lv [1, 2, 3, 4, 5, 7] rfl ?_
                        cases h
                        exact hjj_9
              · skip
                refine ii_icmp_ne (tgt := 49) h dX12_findCan_32 (by decide) (fun h => ?_) (fun h => ?_)
                · skip
                  refine ii_iload 6 dX12_findCan_49 rfl ?_
                  refine ii_iload_n 1 dX12_findCan_51 rfl ?_
                  refine ii_icmp_le (tgt := 76) h dX12_findCan_52 (by decide) (fun h => ?_) (fun h => ?_)
                  · skip
                    refine ii_iconst dX12_findCan_76 kc0 ?_
                    cases h
                    exact hjj_7
                  · skip
                    refine ii_aload_n 0 dX12_findCan_55 rfl ?_
                    refine ii_get (C := RX12) (T := TX12) (N := 25) (ci := 12) izX12 0 rfl rfl 16 (by decide) kX12_48 rfl dX12_findCan_56 ?_
                    refine ii_bipush dX12_findCan_59 kb10 ?_
                    refine ii_iload_n 3 dX12_findCan_61 rfl ?_
                    refine ii_iconst dX12_findCan_62 kc1 ?_
                    refine ii_isub dX12_findCan_63 ?_
                    refine ii_imul dX12_findCan_64 ?_
                    refine ii_iload 6 dX12_findCan_65 rfl ?_
                    refine ii_iadd dX12_findCan_67 ?_
                    refine ii_zald h 1 2 rfl rfl dX12_findCan_68 (fun t_8 h => ?_)
                    refine ii_if_eq (tgt := 76) h dX12_findCan_69 (by decide) (fun h => ?_) (fun h => ?_)
                    · skip
                      refine ii_iconst dX12_findCan_76 kc0 ?_
                      cases h
                      exact hjj_7
                    · skip
                      refine ii_iconst dX12_findCan_72 kc1 ?_
                      refine ii_goto (tgt := 77) dX12_findCan_73 (by decide) ?_
                      cases h
                      exact hjj_7
                · skip
                  refine ii_iload 6 dX12_findCan_35 rfl ?_
                  refine ii_iload_n 1 dX12_findCan_37 rfl ?_
                  refine ii_icmp_ne (tgt := 45) h dX12_findCan_38 (by decide) (fun h => ?_) (fun h => ?_)
                  · skip
                    refine ii_iconst dX12_findCan_45 kc0 ?_
                    refine ii_goto (tgt := 77) dX12_findCan_46 (by decide) ?_
                    cases h
                    exact hjj_7
                  · skip
                    refine ii_iconst dX12_findCan_41 kc1 ?_
                    refine ii_goto (tgt := 77) dX12_findCan_42 (by decide) ?_
                    cases h
                    exact hjj_7
set_option maxHeartbeats 4000000 in
set_option maxRecDepth 100000 in
theorem c_X12_findRing (l : Launch) (D : va_G) (cI cJ cZ cH : ClassId) (a_this a_this_before a_this_bestLead a_this_can a_this_given a_this_images a_this_isKept a_this_lead a_this_load a_this_most a_this_net a_this_on a_this_owes a_this_row a_this_silver a_this_st a_this_step a_this_to a_this_together a_this_value a_this_waits a_this_with : Nat) (v_this_above : Int64) (v_this_below : Int64) (v_this_can : Nat → Int32) (v_this_owes : Nat → Int32) (v_this_row : Nat → Int32) (v_this_steps : Int32) (v_this_waiting : Int32) {res : Int32 × (Nat → Int32) × (Nat → Int32)} (h : F_X12_findRing v_this_can v_this_owes v_this_row = some res) : CTi l yX12_findRing wzX12_findRing { frames := 1, cells := 0, slots := 0, locals := 27 } D [(cI, .int), (cJ, .long), (cZ, .boolean), (cH, .object "TinHouse$House")] [.ref a_this] [(a_this, .inr (12, [.ref a_this_st, .ref a_this_images, .ref a_this_isKept, .long v_this_above, .long v_this_below, .int v_this_steps, .ref a_this_step, .ref a_this_with, .int v_this_waiting, .ref a_this_waits, .ref a_this_value, .ref a_this_given, .ref a_this_net, .ref a_this_together, .ref a_this_most, .ref a_this_owes, .ref a_this_can, .ref a_this_row, .ref a_this_before, .ref a_this_to, .ref a_this_on, .ref a_this_load, .ref a_this_lead, .ref a_this_bestLead, .ref a_this_silver])), (a_this_can, .inl (cZ, 110, .inl v_this_can)), (a_this_owes, .inl (cZ, 100, .inl v_this_owes)), (a_this_row, .inl (cI, 10, .inl v_this_row))] res.1 [(a_this, .inr (12, [.ref a_this_st, .ref a_this_images, .ref a_this_isKept, .long v_this_above, .long v_this_below, .int v_this_steps, .ref a_this_step, .ref a_this_with, .int v_this_waiting, .ref a_this_waits, .ref a_this_value, .ref a_this_given, .ref a_this_net, .ref a_this_together, .ref a_this_most, .ref a_this_owes, .ref a_this_can, .ref a_this_row, .ref a_this_before, .ref a_this_to, .ref a_this_on, .ref a_this_load, .ref a_this_lead, .ref a_this_bestLead, .ref a_this_silver])), (a_this_can, .inl (cZ, 110, .inl res.2.1)), (a_this_owes, .inl (cZ, 100, .inl v_this_owes)), (a_this_row, .inl (cI, 10, .inl res.2.2))] := by
  unfold F_X12_findRing at h
  refine ii_metI (own := RX12) (lv0 := [(0, .ref a_this)]) (by decide) rfl rfl rfl (Nat.le_of_ble_eq_true rfl) (fun {p e s m args below meth c A Q} hQ => ?_)
  refine ii_iconst dX12_findRing_0 kc2 ?_
  refine ii_istore_n (lv' := [(1, .int (2 : Int32)), (0, .ref a_this)]) dX12_findRing_1 rfl (by decide) rfl ?_
  refine ii_lv [1, 0] rfl ?_
  obtain ⟨x_2, hl_1, ha_1⟩ := bnd h
  refine ii_loopR (fun s_1 => [(a_this, .inr (12, [.ref a_this_st, .ref a_this_images, .ref a_this_isKept, .long v_this_above, .long v_this_below, .int v_this_steps, .ref a_this_step, .ref a_this_with, .int v_this_waiting, .ref a_this_waits, .ref a_this_value, .ref a_this_given, .ref a_this_net, .ref a_this_together, .ref a_this_most, .ref a_this_owes, .ref a_this_can, .ref a_this_row, .ref a_this_before, .ref a_this_to, .ref a_this_on, .ref a_this_load, .ref a_this_lead, .ref a_this_bestLead, .ref a_this_silver])), (a_this_can, .inl (cZ, 110, .inl s_1.2)), (a_this_owes, .inl (cZ, 100, .inl v_this_owes)), (a_this_row, .inl (cI, 10, .inl v_this_row))]) (fun s_1 => [(0, .ref a_this), (1, .int s_1.1)]) (fun y_3 => [(a_this, .inr (12, [.ref a_this_st, .ref a_this_images, .ref a_this_isKept, .long v_this_above, .long v_this_below, .int v_this_steps, .ref a_this_step, .ref a_this_with, .int v_this_waiting, .ref a_this_waits, .ref a_this_value, .ref a_this_given, .ref a_this_net, .ref a_this_together, .ref a_this_most, .ref a_this_owes, .ref a_this_can, .ref a_this_row, .ref a_this_before, .ref a_this_to, .ref a_this_on, .ref a_this_load, .ref a_this_lead, .ref a_this_bestLead, .ref a_this_silver])), (a_this_can, .inl (cZ, 110, .inl y_3.2)), (a_this_owes, .inl (cZ, 100, .inl v_this_owes)), (a_this_row, .inl (cI, 10, .inl v_this_row))]) (fun y_3 => []) 117 hl_1 rfl rfl (fun y_3 hy => ?_) (fun s_1 o h hb_1 hr_1 hx_1 => ?_)
  · skip
    subst hy
    have h := sm_l ha_1
    refine ii_iconst dX12_findRing_117 kc0 ?_
    cases h
    exact hQ _ _ dX12_findRing_118
  · skip
    refine ii_iload_n 1 dX12_findRing_2 rfl ?_
    refine ii_bipush dX12_findRing_3 kb10 ?_
    refine ii_icmp_gt (tgt := 117) h dX12_findRing_5 (by decide) (fun h => ?_) (fun h => ?_)
    · skip
      refine ii_lv [] rfl ?_
      cases h
      exact hx_1 (s_1.1, s_1.2) (hr_1 _ rfl)
    · skip
      refine ii_iconst dX12_findRing_8 kc0 ?_
      refine ii_istore_n (lv' := [(2, .int (0 : Int32)), (0, .ref a_this), (1, .int s_1.1)]) dX12_findRing_9 rfl (by decide) rfl ?_
      refine ii_lv [1, 2, 0] rfl ?_
      obtain ⟨x_5, hl_4, ha_4⟩ := bnd h
      refine ii_loopR (fun s_4 => [(a_this, .inr (12, [.ref a_this_st, .ref a_this_images, .ref a_this_isKept, .long v_this_above, .long v_this_below, .int v_this_steps, .ref a_this_step, .ref a_this_with, .int v_this_waiting, .ref a_this_waits, .ref a_this_value, .ref a_this_given, .ref a_this_net, .ref a_this_together, .ref a_this_most, .ref a_this_owes, .ref a_this_can, .ref a_this_row, .ref a_this_before, .ref a_this_to, .ref a_this_on, .ref a_this_load, .ref a_this_lead, .ref a_this_bestLead, .ref a_this_silver])), (a_this_can, .inl (cZ, 110, .inl s_4.2)), (a_this_owes, .inl (cZ, 100, .inl v_this_owes)), (a_this_row, .inl (cI, 10, .inl v_this_row))]) (fun s_4 => [(0, .ref a_this), (1, .int s_1.1), (2, .int s_4.1)]) (fun y_6 => [(a_this, .inr (12, [.ref a_this_st, .ref a_this_images, .ref a_this_isKept, .long v_this_above, .long v_this_below, .int v_this_steps, .ref a_this_step, .ref a_this_with, .int v_this_waiting, .ref a_this_waits, .ref a_this_value, .ref a_this_given, .ref a_this_net, .ref a_this_together, .ref a_this_most, .ref a_this_owes, .ref a_this_can, .ref a_this_row, .ref a_this_before, .ref a_this_to, .ref a_this_on, .ref a_this_load, .ref a_this_lead, .ref a_this_bestLead, .ref a_this_silver])), (a_this_can, .inl (cZ, 110, .inl y_6.2)), (a_this_owes, .inl (cZ, 100, .inl v_this_owes)), (a_this_row, .inl (cI, 10, .inl v_this_row))]) (fun y_6 => [(0, .ref a_this), (1, .int s_1.1)]) 111 hl_4 rfl rfl (fun y_6 hy => ?_) (fun s_4 o h hb_4 hr_4 hx_4 => ?_)
      · skip
        subst hy
        have h := sm_l ha_4
        refine ii_iinc (fun x_22 => [(1, .int x_22), (0, .ref a_this)]) h 1 dX12_findRing_111 rfl kc1 (by decide) (fun _ => rfl) (fun x_22 h => ?_)
        refine ii_goto (tgt := 2) dX12_findRing_114 (by decide) ?_
        refine ii_lv [1, 0] rfl ?_
        cases h
        exact hb_1 (x_22, y_6.2) rfl
      · skip
        refine ii_iload_n 2 dX12_findRing_10 rfl ?_
        refine ii_bipush dX12_findRing_11 kb10 ?_
        refine ii_icmp_ge (tgt := 111) h dX12_findRing_13 (by decide) (fun h => ?_) (fun h => ?_)
        · skip
          refine ii_lv [0, 1] rfl ?_
          cases h
          exact hx_4 (s_4.1, s_4.2) (hr_4 _ rfl)
        · skip
          refine ii_aload_n 0 dX12_findRing_16 rfl ?_
          refine ii_iload_n 2 dX12_findRing_17 rfl ?_
          refine ii_iload_n 1 dX12_findRing_18 rfl ?_
          obtain ⟨c_7, hc_7, h⟩ := bnd h
          refine ii_callVi (As := [.int s_4.1, .int s_1.1]) (ws' := [(a_this, .inr (12, [.ref a_this_st, .ref a_this_images, .ref a_this_isKept, .long v_this_above, .long v_this_below, .int v_this_steps, .ref a_this_step, .ref a_this_with, .int v_this_waiting, .ref a_this_waits, .ref a_this_value, .ref a_this_given, .ref a_this_net, .ref a_this_together, .ref a_this_most, .ref a_this_owes, .ref a_this_can, .ref a_this_row, .ref a_this_before, .ref a_this_to, .ref a_this_on, .ref a_this_load, .ref a_this_lead, .ref a_this_bestLead, .ref a_this_silver])), (a_this_can, .inl (cZ, 110, .inl c_7.2)), (a_this_owes, .inl (cZ, 100, .inl v_this_owes)), (a_this_row, .inl (cI, 10, .inl v_this_row))]) (st := []) (c_X12_findCan l D cI cJ cZ cH a_this a_this_before a_this_bestLead a_this_can a_this_given a_this_images a_this_isKept a_this_lead a_this_load a_this_most a_this_net a_this_on a_this_owes a_this_row a_this_silver a_this_st a_this_step a_this_to a_this_together a_this_value a_this_waits a_this_with v_this_above v_this_below s_4.2 v_this_owes v_this_steps v_this_waiting s_4.1 s_1.1 hc_7) gzX12_239 rfl rfl rfl eV_X12_findCan ⟨Nat.le_of_ble_eq_true rfl, Nat.le_of_ble_eq_true rfl⟩ rfl 0 rfl rfl [0, 1, 2] rfl rfl rfl rfl rfl (Nat.le_of_ble_eq_true rfl) (Nat.le_refl _) (Nat.le_refl _) rfl dX12_findRing_19 ?_
          refine ii_if_eq (tgt := 105) h dX12_findRing_22 (by decide) (fun h => ?_) (fun h => ?_)
          · skip
            refine ii_iinc (fun x_8 => [(2, .int x_8), (0, .ref a_this), (1, .int s_1.1)]) h 2 dX12_findRing_105 rfl kc1 (by decide) (fun _ => rfl) (fun x_8 h => ?_)
            refine ii_goto (tgt := 10) dX12_findRing_108 (by decide) ?_
            refine ii_lv [1, 2, 0] rfl ?_
            cases h
            exact hb_4 (x_8, c_7.2) rfl
          · skip
            refine ii_aload_n 0 dX12_findRing_25 rfl ?_
            refine ii_get (C := RX12) (T := TX12) (N := 25) (ci := 12) izX12 0 rfl rfl 17 (by decide) kX12_51 rfl dX12_findRing_26 ?_
            refine ii_iconst dX12_findRing_29 kc0 ?_
            refine ii_iload_n 2 dX12_findRing_30 rfl ?_
            refine ii_iast (fun g_9 => [(a_this, .inr (12, [.ref a_this_st, .ref a_this_images, .ref a_this_isKept, .long v_this_above, .long v_this_below, .int v_this_steps, .ref a_this_step, .ref a_this_with, .int v_this_waiting, .ref a_this_waits, .ref a_this_value, .ref a_this_given, .ref a_this_net, .ref a_this_together, .ref a_this_most, .ref a_this_owes, .ref a_this_can, .ref a_this_row, .ref a_this_before, .ref a_this_to, .ref a_this_on, .ref a_this_load, .ref a_this_lead, .ref a_this_bestLead, .ref a_this_silver])), (a_this_can, .inl (cZ, 110, .inl c_7.2)), (a_this_owes, .inl (cZ, 100, .inl v_this_owes)), (a_this_row, .inl (cI, 10, .inl g_9))]) h 3 0 rfl rfl dX12_findRing_31 (fun _ => rfl) (fun g_9 h => ?_)
            refine ii_iconst dX12_findRing_32 kc1 ?_
            refine ii_istore_n (lv' := [(3, .int (1 : Int32)), (0, .ref a_this), (1, .int s_1.1), (2, .int s_4.1)]) dX12_findRing_33 rfl (by decide) rfl ?_
            refine ii_lv [1, 2, 3, 0] rfl ?_
            obtain ⟨x_11, hl_10, h⟩ := bnd h
            refine ii_loopX (fun s_10 => [(a_this, .inr (12, [.ref a_this_st, .ref a_this_images, .ref a_this_isKept, .long v_this_above, .long v_this_below, .int v_this_steps, .ref a_this_step, .ref a_this_with, .int v_this_waiting, .ref a_this_waits, .ref a_this_value, .ref a_this_given, .ref a_this_net, .ref a_this_together, .ref a_this_most, .ref a_this_owes, .ref a_this_can, .ref a_this_row, .ref a_this_before, .ref a_this_to, .ref a_this_on, .ref a_this_load, .ref a_this_lead, .ref a_this_bestLead, .ref a_this_silver])), (a_this_can, .inl (cZ, 110, .inl c_7.2)), (a_this_owes, .inl (cZ, 100, .inl v_this_owes)), (a_this_row, .inl (cI, 10, .inl s_10.2))]) (fun s_10 => [(0, .ref a_this), (1, .int s_1.1), (2, .int s_4.1), (3, .int s_10.1)]) (fun x_11 => [(a_this, .inr (12, [.ref a_this_st, .ref a_this_images, .ref a_this_isKept, .long v_this_above, .long v_this_below, .int v_this_steps, .ref a_this_step, .ref a_this_with, .int v_this_waiting, .ref a_this_waits, .ref a_this_value, .ref a_this_given, .ref a_this_net, .ref a_this_together, .ref a_this_most, .ref a_this_owes, .ref a_this_can, .ref a_this_row, .ref a_this_before, .ref a_this_to, .ref a_this_on, .ref a_this_load, .ref a_this_lead, .ref a_this_bestLead, .ref a_this_silver])), (a_this_can, .inl (cZ, 110, .inl c_7.2)), (a_this_owes, .inl (cZ, 100, .inl v_this_owes)), (a_this_row, .inl (cI, 10, .inl x_11.2))]) (fun x_11 => [(1, .int s_1.1)]) 103 hl_10 rfl rfl ?_ (fun s_10 o h hb_10 hr_10 hx_10 => ?_)
            · skip
              refine ii_iload_n 0 dX12_findRing_103 rfl ?_
              cases h
              cases hr_4 _ rfl
              have h := sm_r ha_4
              cases h
              cases hr_1 _ rfl
              have h := sm_r ha_1
              cases h
              exact hQ _ _ dX12_findRing_104
            · skip
              refine ii_iload_n 3 dX12_findRing_34 rfl ?_
              refine ii_iload_n 1 dX12_findRing_35 rfl ?_
              refine ii_icmp_ge (tgt := 103) h dX12_findRing_36 (by decide) (fun h => ?_) (fun h => ?_)
              · skip
                refine ii_lv [1] rfl ?_
                cases h
                exact hx_10 (s_10.1, s_10.2) (hr_10 _ rfl)
              · skip
                refine ii_iload_n 2 dX12_findRing_39 rfl ?_
                refine ii_iconst dX12_findRing_40 kc1 ?_
                refine ii_iadd dX12_findRing_41 ?_
                refine ii_topI h (fun x_12 h => ?_)
                refine ii_istore (lv' := [(4, .int x_12), (0, .ref a_this), (1, .int s_1.1), (2, .int s_4.1), (3, .int s_10.1)]) dX12_findRing_42 (by decide) rfl ?_
                refine ii_lv [1, 2, 3, 4, 0] rfl ?_
                obtain ⟨x_14, hl_13, h⟩ := bnd h
                refine ii_loopX (fun s_13 => [(a_this, .inr (12, [.ref a_this_st, .ref a_this_images, .ref a_this_isKept, .long v_this_above, .long v_this_below, .int v_this_steps, .ref a_this_step, .ref a_this_with, .int v_this_waiting, .ref a_this_waits, .ref a_this_value, .ref a_this_given, .ref a_this_net, .ref a_this_together, .ref a_this_most, .ref a_this_owes, .ref a_this_can, .ref a_this_row, .ref a_this_before, .ref a_this_to, .ref a_this_on, .ref a_this_load, .ref a_this_lead, .ref a_this_bestLead, .ref a_this_silver])), (a_this_can, .inl (cZ, 110, .inl c_7.2)), (a_this_owes, .inl (cZ, 100, .inl v_this_owes)), (a_this_row, .inl (cI, 10, .inl s_10.2))]) (fun s_13 => [(0, .ref a_this), (1, .int s_1.1), (2, .int s_4.1), (3, .int s_10.1), (4, .int s_13)]) (fun x_14 => [(a_this, .inr (12, [.ref a_this_st, .ref a_this_images, .ref a_this_isKept, .long v_this_above, .long v_this_below, .int v_this_steps, .ref a_this_step, .ref a_this_with, .int v_this_waiting, .ref a_this_waits, .ref a_this_value, .ref a_this_given, .ref a_this_net, .ref a_this_together, .ref a_this_most, .ref a_this_owes, .ref a_this_can, .ref a_this_row, .ref a_this_before, .ref a_this_to, .ref a_this_on, .ref a_this_load, .ref a_this_lead, .ref a_this_bestLead, .ref a_this_silver])), (a_this_can, .inl (cZ, 110, .inl c_7.2)), (a_this_owes, .inl (cZ, 100, .inl v_this_owes)), (a_this_row, .inl (cI, 10, .inl s_10.2))]) (fun x_14 => [(0, .ref a_this), (1, .int s_1.1), (2, .int s_4.1), (3, .int s_10.1), (4, .int x_14)]) 89 hl_13 rfl rfl ?_ (fun s_13 o h hb_13 hr_13 hx_13 => ?_)
                · skip
                  refine ii_aload_n 0 dX12_findRing_89 rfl ?_
                  refine ii_get (C := RX12) (T := TX12) (N := 25) (ci := 12) izX12 0 rfl rfl 17 (by decide) kX12_51 rfl dX12_findRing_90 ?_
                  refine ii_iload_n 3 dX12_findRing_93 rfl ?_
                  refine ii_iload 4 dX12_findRing_94 rfl ?_
                  refine ii_iast (fun g_20 => [(a_this, .inr (12, [.ref a_this_st, .ref a_this_images, .ref a_this_isKept, .long v_this_above, .long v_this_below, .int v_this_steps, .ref a_this_step, .ref a_this_with, .int v_this_waiting, .ref a_this_waits, .ref a_this_value, .ref a_this_given, .ref a_this_net, .ref a_this_together, .ref a_this_most, .ref a_this_owes, .ref a_this_can, .ref a_this_row, .ref a_this_before, .ref a_this_to, .ref a_this_on, .ref a_this_load, .ref a_this_lead, .ref a_this_bestLead, .ref a_this_silver])), (a_this_can, .inl (cZ, 110, .inl c_7.2)), (a_this_owes, .inl (cZ, 100, .inl v_this_owes)), (a_this_row, .inl (cI, 10, .inl g_20))]) h 3 0 rfl rfl dX12_findRing_96 (fun _ => rfl) (fun g_20 h => ?_)
                  refine ii_iinc (fun x_21 => [(3, .int x_21), (0, .ref a_this), (1, .int s_1.1), (2, .int s_4.1), (4, .int x_14)]) h 3 dX12_findRing_97 rfl kc1 (by decide) (fun _ => rfl) (fun x_21 h => ?_)
                  refine ii_goto (tgt := 34) dX12_findRing_100 (by decide) ?_
                  refine ii_lv [1, 2, 3, 0] rfl ?_
                  cases h
                  exact hb_10 (x_21, g_20) rfl
                · skip
                  refine ii_aload_n 0 dX12_findRing_44 rfl ?_
                  refine ii_get (C := RX12) (T := TX12) (N := 25) (ci := 12) izX12 0 rfl rfl 16 (by decide) kX12_48 rfl dX12_findRing_45 ?_
                  refine ii_bipush dX12_findRing_48 kb10 ?_
                  refine ii_iload_n 1 dX12_findRing_50 rfl ?_
                  refine ii_iload_n 3 dX12_findRing_51 rfl ?_
                  refine ii_isub dX12_findRing_52 ?_
                  refine ii_imul dX12_findRing_53 ?_
                  refine ii_iload 4 dX12_findRing_54 rfl ?_
                  refine ii_iadd dX12_findRing_56 ?_
                  refine ii_zald h 1 2 rfl rfl dX12_findRing_57 (fun t_15 h => ?_)
                  refine ii_if_eq (tgt := 83) h dX12_findRing_58 (by decide) (fun h => ?_) (fun h => ?_)
                  · skip
                    refine ii_iinc (fun x_16 => [(4, .int x_16), (0, .ref a_this), (1, .int s_1.1), (2, .int s_4.1), (3, .int s_10.1)]) h 4 dX12_findRing_83 rfl kc1 (by decide) (fun _ => rfl) (fun x_16 h => ?_)
                    refine ii_goto (tgt := 44) dX12_findRing_86 (by decide) ?_
                    refine ii_lv [1, 2, 3, 4, 0] rfl ?_
                    cases h
                    exact hb_13 x_16 rfl
                  · skip
                    refine ii_aload_n 0 dX12_findRing_61 rfl ?_
                    refine ii_get (C := RX12) (T := TX12) (N := 25) (ci := 12) izX12 0 rfl rfl 15 (by decide) kX12_45 rfl dX12_findRing_62 ?_
                    refine ii_bipush dX12_findRing_65 kb10 ?_
                    refine ii_aload_n 0 dX12_findRing_67 rfl ?_
                    refine ii_get (C := RX12) (T := TX12) (N := 25) (ci := 12) izX12 0 rfl rfl 17 (by decide) kX12_51 rfl dX12_findRing_68 ?_
                    refine ii_iload_n 3 dX12_findRing_71 rfl ?_
                    refine ii_iconst dX12_findRing_72 kc1 ?_
                    refine ii_isub dX12_findRing_73 ?_
                    refine ii_iald h 3 0 rfl rfl dX12_findRing_74 (fun t_17 h => ?_)
                    refine ii_imul dX12_findRing_75 ?_
                    refine ii_iload 4 dX12_findRing_76 rfl ?_
                    refine ii_iadd dX12_findRing_78 ?_
                    refine ii_zald h 2 2 rfl rfl dX12_findRing_79 (fun t_18 h => ?_)
                    refine ii_if_ne (tgt := 89) h dX12_findRing_80 (by decide) (fun h => ?_) (fun h => ?_)
                    · skip
                      cases h
                      exact hx_13 s_13 (hr_13 _ rfl)
                    · skip
                      refine ii_iinc (fun x_19 => [(4, .int x_19), (0, .ref a_this), (1, .int s_1.1), (2, .int s_4.1), (3, .int s_10.1)]) h 4 dX12_findRing_83 rfl kc1 (by decide) (fun _ => rfl) (fun x_19 h => ?_)
                      refine ii_goto (tgt := 44) dX12_findRing_86 (by decide) ?_
                      refine ii_lv [1, 2, 3, 4, 0] rfl ?_
                      cases h
                      exact hb_13 x_19 rfl
set_option maxHeartbeats 4000000 in
set_option maxRecDepth 100000 in
theorem c_X12_ring (l : Launch) (D : va_G) (cI cJ cZ cH : ClassId) (a_this a_this_before a_this_bestLead a_this_can a_this_given a_this_images a_this_isKept a_this_lead a_this_load a_this_most a_this_net a_this_on a_this_owes a_this_row a_this_silver a_this_st a_this_step a_this_to a_this_together a_this_value a_this_waits a_this_with : Nat) (v_this_above : Int64) (v_this_below : Int64) (v_this_can : Nat → Int32) (v_this_given : Nat → Int64) (v_this_owes : Nat → Int32) (v_this_row : Nat → Int32) (v_this_st : Nat → Int32) (v_this_step : Nat → Int32) (v_this_steps : Int32) (v_this_value : Nat → Int64) (v_this_waiting : Int32) (v_this_waits : Nat → Int32) (v_this_with : Nat → Int32) (p0 : Int32) (p1 : Int32) {res : Int32 × (Nat → Int32) × (Nat → Int64) × (Nat → Int32) × (Nat → Int32) × (Nat → Int32) × Int32 × (Nat → Int64) × Int32 × (Nat → Int32) × (Nat → Int32)} (h : F_X12_ring v_this_can v_this_given v_this_owes v_this_row v_this_st v_this_step v_this_steps v_this_value v_this_waiting v_this_waits v_this_with p0 p1 = some res) : CTi l yX12_ring wzX12_ring { frames := 7, cells := 0, slots := 0, locals := 176 } D [(cI, .int), (cJ, .long), (cZ, .boolean), (cH, .object "TinHouse$House")] [.ref a_this, .int p0, .int p1] [(a_this, .inr (12, [.ref a_this_st, .ref a_this_images, .ref a_this_isKept, .long v_this_above, .long v_this_below, .int v_this_steps, .ref a_this_step, .ref a_this_with, .int v_this_waiting, .ref a_this_waits, .ref a_this_value, .ref a_this_given, .ref a_this_net, .ref a_this_together, .ref a_this_most, .ref a_this_owes, .ref a_this_can, .ref a_this_row, .ref a_this_before, .ref a_this_to, .ref a_this_on, .ref a_this_load, .ref a_this_lead, .ref a_this_bestLead, .ref a_this_silver])), (a_this_can, .inl (cZ, 110, .inl v_this_can)), (a_this_given, .inl (cJ, 5, .inr (.inl v_this_given))), (a_this_owes, .inl (cZ, 100, .inl v_this_owes)), (a_this_row, .inl (cI, 10, .inl v_this_row)), (a_this_st, .inl (cI, 1951, .inl v_this_st)), (a_this_step, .inl (cI, 70, .inl v_this_step)), (a_this_value, .inl (cJ, 70, .inr (.inl v_this_value))), (a_this_waits, .inl (cI, 70, .inl v_this_waits)), (a_this_with, .inl (cI, 70, .inl v_this_with))] res.1 [(a_this, .inr (12, [.ref a_this_st, .ref a_this_images, .ref a_this_isKept, .long v_this_above, .long v_this_below, .int res.2.2.2.2.2.2.1, .ref a_this_step, .ref a_this_with, .int res.2.2.2.2.2.2.2.2.1, .ref a_this_waits, .ref a_this_value, .ref a_this_given, .ref a_this_net, .ref a_this_together, .ref a_this_most, .ref a_this_owes, .ref a_this_can, .ref a_this_row, .ref a_this_before, .ref a_this_to, .ref a_this_on, .ref a_this_load, .ref a_this_lead, .ref a_this_bestLead, .ref a_this_silver])), (a_this_can, .inl (cZ, 110, .inl res.2.1)), (a_this_given, .inl (cJ, 5, .inr (.inl res.2.2.1))), (a_this_owes, .inl (cZ, 100, .inl res.2.2.2.1)), (a_this_row, .inl (cI, 10, .inl res.2.2.2.2.1)), (a_this_st, .inl (cI, 1951, .inl v_this_st)), (a_this_step, .inl (cI, 70, .inl res.2.2.2.2.2.1)), (a_this_value, .inl (cJ, 70, .inr (.inl res.2.2.2.2.2.2.2.1))), (a_this_waits, .inl (cI, 70, .inl res.2.2.2.2.2.2.2.2.2.1)), (a_this_with, .inl (cI, 70, .inl res.2.2.2.2.2.2.2.2.2.2))] := by
  unfold F_X12_ring at h
  refine ii_metI (own := RX12) (lv0 := [(0, .ref a_this), (1, .int p0), (2, .int p1)]) (by decide) rfl rfl rfl (Nat.le_of_ble_eq_true rfl) (fun {p e s m args below meth c A Q} hQ => ?_)
  refine ii_iload_n 1 dX12_ring_0 rfl ?_
  obtain ⟨c_1, hc_1, h⟩ := bnd h
  refine ii_callSi (As := [.int p0]) (ws' := [(a_this, .inr (12, [.ref a_this_st, .ref a_this_images, .ref a_this_isKept, .long v_this_above, .long v_this_below, .int v_this_steps, .ref a_this_step, .ref a_this_with, .int v_this_waiting, .ref a_this_waits, .ref a_this_value, .ref a_this_given, .ref a_this_net, .ref a_this_together, .ref a_this_most, .ref a_this_owes, .ref a_this_can, .ref a_this_row, .ref a_this_before, .ref a_this_to, .ref a_this_on, .ref a_this_load, .ref a_this_lead, .ref a_this_bestLead, .ref a_this_silver])), (a_this_can, .inl (cZ, 110, .inl v_this_can)), (a_this_given, .inl (cJ, 5, .inr (.inl v_this_given))), (a_this_owes, .inl (cZ, 100, .inl v_this_owes)), (a_this_row, .inl (cI, 10, .inl v_this_row)), (a_this_st, .inl (cI, 1951, .inl v_this_st)), (a_this_step, .inl (cI, 70, .inl v_this_step)), (a_this_value, .inl (cJ, 70, .inr (.inl v_this_value))), (a_this_waits, .inl (cI, 70, .inl v_this_waits)), (a_this_with, .inl (cI, 70, .inl v_this_with))]) (st := []) (c_X12_isSeason l D cI cJ cZ cH p0 hc_1) gzX12_153 rfl rfl rfl eS_X12_isSeason ⟨Nat.le_of_ble_eq_true rfl, Nat.le_of_ble_eq_true rfl⟩ rfl [] rfl rfl rfl rfl rfl (Nat.le_of_ble_eq_true rfl) (Nat.le_refl _) (Nat.le_refl _) rfl dX12_ring_1 ?_
  refine ii_if_eq (tgt := 12) h dX12_ring_4 (by decide) (fun h => ?_) (fun h => ?_)
  · skip
    refine ii_bipush dX12_ring_12 kbm2 ?_
    cases h
    exact hQ _ _ dX12_ring_14
  · skip
    refine ii_iload_n 2 dX12_ring_7 rfl ?_
    refine ii_iconst dX12_ring_8 kcm1 ?_
    refine ii_icmp_ge (tgt := 15) h dX12_ring_9 (by decide) (fun h => ?_) (fun h => ?_)
    · skip
      refine ii_aload_n 0 dX12_ring_15 rfl ?_
      refine ii_iload_n 1 dX12_ring_16 rfl ?_
      obtain ⟨c_2, hc_2, h⟩ := bnd h
      refine ii_callVv (As := [.int p0]) (ws' := [(a_this, .inr (12, [.ref a_this_st, .ref a_this_images, .ref a_this_isKept, .long v_this_above, .long v_this_below, .int c_2.2.2.2.1, .ref a_this_step, .ref a_this_with, .int c_2.2.2.2.2.2.1, .ref a_this_waits, .ref a_this_value, .ref a_this_given, .ref a_this_net, .ref a_this_together, .ref a_this_most, .ref a_this_owes, .ref a_this_can, .ref a_this_row, .ref a_this_before, .ref a_this_to, .ref a_this_on, .ref a_this_load, .ref a_this_lead, .ref a_this_bestLead, .ref a_this_silver])), (a_this_can, .inl (cZ, 110, .inl v_this_can)), (a_this_given, .inl (cJ, 5, .inr (.inl c_2.1))), (a_this_owes, .inl (cZ, 100, .inl c_2.2.1)), (a_this_row, .inl (cI, 10, .inl v_this_row)), (a_this_st, .inl (cI, 1951, .inl v_this_st)), (a_this_step, .inl (cI, 70, .inl c_2.2.2.1)), (a_this_value, .inl (cJ, 70, .inr (.inl c_2.2.2.2.2.1))), (a_this_waits, .inl (cI, 70, .inl c_2.2.2.2.2.2.2.1)), (a_this_with, .inl (cI, 70, .inl c_2.2.2.2.2.2.2.2))]) (st := []) (c_X12_findOwes l D cI cJ cZ cH a_this a_this_before a_this_bestLead a_this_can a_this_given a_this_images a_this_isKept a_this_lead a_this_load a_this_most a_this_net a_this_on a_this_owes a_this_row a_this_silver a_this_st a_this_step a_this_to a_this_together a_this_value a_this_waits a_this_with v_this_above v_this_below v_this_given v_this_owes v_this_st v_this_step v_this_steps v_this_value v_this_waiting v_this_waits v_this_with p0 hc_2) gzX12_242 rfl rfl rfl eV_X12_findOwes ⟨Nat.le_of_ble_eq_true rfl, Nat.le_of_ble_eq_true rfl⟩ rfl 0 rfl rfl [0, 2, 3, 5, 6, 7, 8, 9] rfl rfl rfl rfl rfl (Nat.le_of_ble_eq_true rfl) (Nat.le_refl _) (Nat.le_refl _) rfl dX12_ring_17 ?_
      refine ii_aload_n 0 dX12_ring_20 rfl ?_
      obtain ⟨c_3, hc_3, h⟩ := bnd h
      refine ii_callVi (As := []) (ws' := [(a_this, .inr (12, [.ref a_this_st, .ref a_this_images, .ref a_this_isKept, .long v_this_above, .long v_this_below, .int c_2.2.2.2.1, .ref a_this_step, .ref a_this_with, .int c_2.2.2.2.2.2.1, .ref a_this_waits, .ref a_this_value, .ref a_this_given, .ref a_this_net, .ref a_this_together, .ref a_this_most, .ref a_this_owes, .ref a_this_can, .ref a_this_row, .ref a_this_before, .ref a_this_to, .ref a_this_on, .ref a_this_load, .ref a_this_lead, .ref a_this_bestLead, .ref a_this_silver])), (a_this_can, .inl (cZ, 110, .inl c_3.2.1)), (a_this_given, .inl (cJ, 5, .inr (.inl c_2.1))), (a_this_owes, .inl (cZ, 100, .inl c_2.2.1)), (a_this_row, .inl (cI, 10, .inl c_3.2.2)), (a_this_st, .inl (cI, 1951, .inl v_this_st)), (a_this_step, .inl (cI, 70, .inl c_2.2.2.1)), (a_this_value, .inl (cJ, 70, .inr (.inl c_2.2.2.2.2.1))), (a_this_waits, .inl (cI, 70, .inl c_2.2.2.2.2.2.2.1)), (a_this_with, .inl (cI, 70, .inl c_2.2.2.2.2.2.2.2))]) (st := []) (c_X12_findRing l D cI cJ cZ cH a_this a_this_before a_this_bestLead a_this_can a_this_given a_this_images a_this_isKept a_this_lead a_this_load a_this_most a_this_net a_this_on a_this_owes a_this_row a_this_silver a_this_st a_this_step a_this_to a_this_together a_this_value a_this_waits a_this_with v_this_above v_this_below v_this_can c_2.2.1 v_this_row c_2.2.2.2.1 c_2.2.2.2.2.2.1 hc_3) gzX12_245 rfl rfl rfl eV_X12_findRing ⟨Nat.le_of_ble_eq_true rfl, Nat.le_of_ble_eq_true rfl⟩ rfl 0 rfl rfl [0, 1, 3, 4] rfl rfl rfl rfl rfl (Nat.le_of_ble_eq_true rfl) (Nat.le_refl _) (Nat.le_refl _) rfl dX12_ring_21 ?_
      refine ii_istore_n (lv' := [(3, .int c_3.1), (0, .ref a_this), (1, .int p0), (2, .int p1)]) dX12_ring_24 rfl (by decide) rfl ?_
      refine ii_iload_n 3 dX12_ring_25 rfl ?_
      refine ii_iconst dX12_ring_26 kcm1 ?_
      refine ii_jn h (fun j_4 => [(a_this, .inr (12, [.ref a_this_st, .ref a_this_images, .ref a_this_isKept, .long v_this_above, .long v_this_below, .int c_2.2.2.2.1, .ref a_this_step, .ref a_this_with, .int c_2.2.2.2.2.2.1, .ref a_this_waits, .ref a_this_value, .ref a_this_given, .ref a_this_net, .ref a_this_together, .ref a_this_most, .ref a_this_owes, .ref a_this_can, .ref a_this_row, .ref a_this_before, .ref a_this_to, .ref a_this_on, .ref a_this_load, .ref a_this_lead, .ref a_this_bestLead, .ref a_this_silver])), (a_this_can, .inl (cZ, 110, .inl c_3.2.1)), (a_this_given, .inl (cJ, 5, .inr (.inl c_2.1))), (a_this_owes, .inl (cZ, 100, .inl c_2.2.1)), (a_this_row, .inl (cI, 10, .inl c_3.2.2)), (a_this_st, .inl (cI, 1951, .inl v_this_st)), (a_this_step, .inl (cI, 70, .inl c_2.2.2.1)), (a_this_value, .inl (cJ, 70, .inr (.inl c_2.2.2.2.2.1))), (a_this_waits, .inl (cI, 70, .inl c_2.2.2.2.2.2.2.1)), (a_this_with, .inl (cI, 70, .inl c_2.2.2.2.2.2.2.2))]) (fun j_4 => []) 49 (fun j_4 => [.int j_4]) (fun j_4 h => ?_) (fun j_4 h hjj_4 => ?_)
      · skip
        cases h
        exact hQ _ _ dX12_ring_49
      · skip
        refine ii_icmp_ne (tgt := 34) h dX12_ring_27 (by decide) (fun h => ?_) (fun h => ?_)
        · skip
          refine ii_iload_n 3 dX12_ring_34 rfl ?_
          refine ii_iload_n 0 dX12_ring_35 rfl ?_
          refine ii_icmp_ge (tgt := 48) h dX12_ring_36 (by decide) (fun h => ?_) (fun h => ?_)
          · skip
            refine ii_iconst dX12_ring_48 kcm1 ?_
            refine ii_lv [] rfl ?_
            cases h
            exact hjj_4
          · skip
            refine ii_aload_n 1 dX12_ring_39 rfl ?_
            refine ii_get (C := RX12) (T := TX12) (N := 25) (ci := 12) izX12 0 rfl rfl 17 (by decide) kX12_51 rfl dX12_ring_40 ?_
            refine ii_iload_n 3 dX12_ring_43 rfl ?_
            refine ii_iald h 4 0 rfl rfl dX12_ring_44 (fun t_5 h => ?_)
            refine ii_goto (tgt := 49) dX12_ring_45 (by decide) ?_
            refine ii_lv [] rfl ?_
            cases h
            exact hjj_4
        · skip
          refine ii_iload_n 0 dX12_ring_30 rfl ?_
          refine ii_goto (tgt := 49) dX12_ring_31 (by decide) ?_
          refine ii_lv [] rfl ?_
          cases h
          exact hjj_4
    · skip
      refine ii_bipush dX12_ring_12 kbm2 ?_
      cases h
      exact hQ _ _ dX12_ring_14
